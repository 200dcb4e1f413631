abbrev WX9_askOn (cI cJ cZ cB : ClassId) (a_o : Nat) (a_o_text : Nat) (a_o_many : Nat) (a_o_views : Nat) (a_o_aisles : Nat) (a_o_readMany : Nat) (a_o_readViews : Nat) (a_o_readAisles : Nat) (a_o_readPage : Nat) (a_o_page : Nat) (a_o_trial : Nat) (a_o_book : Nat) (a_o_kept : Nat) (a_o_isKept : Nat) (a_o_seenSeat : Nat) (a_o_seenWas : Nat) (a_p1 : Nat) (v_o_thrown : Int32) (v_o_textSize : Int32) (v_o_place : Int32) (v_o_rows : Int32) (v_o_readRows : Int32) (v_o_doings : Int32) (v_o_seen : Int32) (v_o_seed : Int64) (v_o_found : Int32) (v_o_foundViews : Int32) (v_o_foundMany : Int32) (d_o_many : (Nat → Int32)) (d_o_views : (Nat → Int32)) (d_o_aisles : (Nat → Int32)) (d_p1 : (Nat → Int32)) : va_W := [(a_o, .inr (9, [.int v_o_thrown, .ref a_o_text, .int v_o_textSize, .int v_o_place, .int v_o_rows, .ref a_o_many, .ref a_o_views, .ref a_o_aisles, .int v_o_readRows, .ref a_o_readMany, .ref a_o_readViews, .ref a_o_readAisles, .ref a_o_readPage, .ref a_o_page, .ref a_o_trial, .ref a_o_book, .int v_o_doings, .ref a_o_kept, .ref a_o_isKept, .int v_o_seen, .ref a_o_seenSeat, .ref a_o_seenWas, .long v_o_seed, .int v_o_found, .int v_o_foundViews, .int v_o_foundMany])), (a_o_many, .inl (cI, (4, .inl d_o_many))), (a_o_views, .inl (cI, (36, .inl d_o_views))), (a_o_aisles, .inl (cZ, (36, .inl d_o_aisles))), (a_p1, .inl (cI, (229, .inl d_p1)))]
set_option maxRecDepth 20000 in
theorem iX9_askOn_X9 : ∀ w ∈ wsX90, w ∈ wsX9_askOn := by decide +kernel
def fX9_askOn (v_o_rows : Int32) (v_o_found : Int32) (v_o_foundViews : Int32) (v_o_foundMany : Int32) (d_o_many : (Nat → Int32)) (d_o_views : (Nat → Int32)) (d_o_aisles : (Nat → Int32)) (d_p1 : (Nat → Int32)) (x2 : Int32) (x3 : Int32) : Option (Int32 × Int32 × Int32 × (Nat → Int32)) := ((fX9_findBest v_o_rows v_o_found v_o_foundViews v_o_foundMany d_o_many d_o_views d_o_aisles d_p1 x2 x3).bind fun q1 => ((fX9_at ((upd q1.2.2.2 (((6 : Int32)).toNatClampNeg) ((q1.2.2.2 ((6 : Int32)).toNatClampNeg) + (1 : Int32))) ((6 : Int32)).toNatClampNeg)).bind fun q3 => (if (q3 + (0 : Int32)) < 0 ∨ 229 ≤ ((q3 + (0 : Int32))).toNatClampNeg then none else ((fX9_at ((upd q1.2.2.2 (((6 : Int32)).toNatClampNeg) ((q1.2.2.2 ((6 : Int32)).toNatClampNeg) + (1 : Int32))) ((6 : Int32)).toNatClampNeg)).bind fun q6 => (if (q6 + (1 : Int32)) < 0 ∨ 229 ≤ ((q6 + (1 : Int32))).toNatClampNeg then none else ((fX9_at ((upd q1.2.2.2 (((6 : Int32)).toNatClampNeg) ((q1.2.2.2 ((6 : Int32)).toNatClampNeg) + (1 : Int32))) ((6 : Int32)).toNatClampNeg)).bind fun q9 => (if (q9 + (5 : Int32)) < 0 ∨ 229 ≤ ((q9 + (5 : Int32))).toNatClampNeg then none else (if q1.2.2.1 ≤ 0 then ((fX9_at ((upd q1.2.2.2 (((6 : Int32)).toNatClampNeg) ((q1.2.2.2 ((6 : Int32)).toNatClampNeg) + (1 : Int32))) ((6 : Int32)).toNatClampNeg)).bind fun q12 => (if (q12 + (2 : Int32)) < 0 ∨ 229 ≤ ((q12 + (2 : Int32))).toNatClampNeg then none else (if ((8 : Int32) + ((upd (upd (upd (upd (upd q1.2.2.2 (((6 : Int32)).toNatClampNeg) ((q1.2.2.2 ((6 : Int32)).toNatClampNeg) + (1 : Int32))) (((q3 + (0 : Int32))).toNatClampNeg) x2) (((q6 + (1 : Int32))).toNatClampNeg) x3) (((q9 + (5 : Int32))).toNatClampNeg) (0 : Int32)) (((q12 + (2 : Int32))).toNatClampNeg) (2 : Int32)) ((7 : Int32)).toNatClampNeg)) < 0 ∨ 229 ≤ (((8 : Int32) + ((upd (upd (upd (upd (upd q1.2.2.2 (((6 : Int32)).toNatClampNeg) ((q1.2.2.2 ((6 : Int32)).toNatClampNeg) + (1 : Int32))) (((q3 + (0 : Int32))).toNatClampNeg) x2) (((q6 + (1 : Int32))).toNatClampNeg) x3) (((q9 + (5 : Int32))).toNatClampNeg) (0 : Int32)) (((q12 + (2 : Int32))).toNatClampNeg) (2 : Int32)) ((7 : Int32)).toNatClampNeg))).toNatClampNeg then none else some (q1.1, q1.2.1, q1.2.2.1, (upd (upd (upd (upd (upd (upd (upd q1.2.2.2 (((6 : Int32)).toNatClampNeg) ((q1.2.2.2 ((6 : Int32)).toNatClampNeg) + (1 : Int32))) (((q3 + (0 : Int32))).toNatClampNeg) x2) (((q6 + (1 : Int32))).toNatClampNeg) x3) (((q9 + (5 : Int32))).toNatClampNeg) (0 : Int32)) (((q12 + (2 : Int32))).toNatClampNeg) (2 : Int32)) ((((8 : Int32) + ((upd (upd (upd (upd (upd q1.2.2.2 (((6 : Int32)).toNatClampNeg) ((q1.2.2.2 ((6 : Int32)).toNatClampNeg) + (1 : Int32))) (((q3 + (0 : Int32))).toNatClampNeg) x2) (((q6 + (1 : Int32))).toNatClampNeg) x3) (((q9 + (5 : Int32))).toNatClampNeg) (0 : Int32)) (((q12 + (2 : Int32))).toNatClampNeg) (2 : Int32)) ((7 : Int32)).toNatClampNeg))).toNatClampNeg) ((upd q1.2.2.2 (((6 : Int32)).toNatClampNeg) ((q1.2.2.2 ((6 : Int32)).toNatClampNeg) + (1 : Int32))) ((6 : Int32)).toNatClampNeg)) (((7 : Int32)).toNatClampNeg) (((upd (upd (upd (upd (upd (upd q1.2.2.2 (((6 : Int32)).toNatClampNeg) ((q1.2.2.2 ((6 : Int32)).toNatClampNeg) + (1 : Int32))) (((q3 + (0 : Int32))).toNatClampNeg) x2) (((q6 + (1 : Int32))).toNatClampNeg) x3) (((q9 + (5 : Int32))).toNatClampNeg) (0 : Int32)) (((q12 + (2 : Int32))).toNatClampNeg) (2 : Int32)) ((((8 : Int32) + ((upd (upd (upd (upd (upd q1.2.2.2 (((6 : Int32)).toNatClampNeg) ((q1.2.2.2 ((6 : Int32)).toNatClampNeg) + (1 : Int32))) (((q3 + (0 : Int32))).toNatClampNeg) x2) (((q6 + (1 : Int32))).toNatClampNeg) x3) (((q9 + (5 : Int32))).toNatClampNeg) (0 : Int32)) (((q12 + (2 : Int32))).toNatClampNeg) (2 : Int32)) ((7 : Int32)).toNatClampNeg))).toNatClampNeg) ((upd q1.2.2.2 (((6 : Int32)).toNatClampNeg) ((q1.2.2.2 ((6 : Int32)).toNatClampNeg) + (1 : Int32))) ((6 : Int32)).toNatClampNeg)) ((7 : Int32)).toNatClampNeg) + (1 : Int32))))))) else ((fX9_payOn q1.1 (upd (upd (upd (upd q1.2.2.2 (((6 : Int32)).toNatClampNeg) ((q1.2.2.2 ((6 : Int32)).toNatClampNeg) + (1 : Int32))) (((q3 + (0 : Int32))).toNatClampNeg) x2) (((q6 + (1 : Int32))).toNatClampNeg) x3) (((q9 + (5 : Int32))).toNatClampNeg) (0 : Int32)) ((upd q1.2.2.2 (((6 : Int32)).toNatClampNeg) ((q1.2.2.2 ((6 : Int32)).toNatClampNeg) + (1 : Int32))) ((6 : Int32)).toNatClampNeg)).bind fun q16 => some (q1.1, q1.2.1, q1.2.2.1, q16))))))))))
set_option maxRecDepth 100000 in
set_option maxHeartbeats 4000000 in
theorem kX9_askOn (l : Launch) (D : va_G) (cI cJ cZ cB : ClassId) (a_o : Nat) (a_o_text : Nat) (a_o_many : Nat) (a_o_views : Nat) (a_o_aisles : Nat) (a_o_readMany : Nat) (a_o_readViews : Nat) (a_o_readAisles : Nat) (a_o_readPage : Nat) (a_o_page : Nat) (a_o_trial : Nat) (a_o_book : Nat) (a_o_kept : Nat) (a_o_isKept : Nat) (a_o_seenSeat : Nat) (a_o_seenWas : Nat) (a_p1 : Nat) (v_o_thrown : Int32) (v_o_textSize : Int32) (v_o_place : Int32) (v_o_rows : Int32) (v_o_readRows : Int32) (v_o_doings : Int32) (v_o_seen : Int32) (v_o_seed : Int64) (v_o_found : Int32) (v_o_foundViews : Int32) (v_o_foundMany : Int32) (d_o_many : (Nat → Int32)) (d_o_views : (Nat → Int32)) (d_o_aisles : (Nat → Int32)) (d_p1 : (Nat → Int32)) (x2 : Int32) (x3 : Int32) (res : Int32 × Int32 × Int32 × (Nat → Int32)) (hf : fX9_askOn v_o_rows v_o_found v_o_foundViews v_o_foundMany d_o_many d_o_views d_o_aisles d_p1 x2 x3 = some res) : Rw l yX9_askOn wsX9_askOn ({ frames := 7, cells := 0, slots := 0, locals := 174 } : Room) D (tyL cI cJ cZ cB) [.ref a_o, .ref a_p1, .int x2, .int x3] (WX9_askOn cI cJ cZ cB a_o a_o_text a_o_many a_o_views a_o_aisles a_o_readMany a_o_readViews a_o_readAisles a_o_readPage a_o_page a_o_trial a_o_book a_o_kept a_o_isKept a_o_seenSeat a_o_seenWas a_p1 v_o_thrown v_o_textSize v_o_place v_o_rows v_o_readRows v_o_doings v_o_seen v_o_seed v_o_found v_o_foundViews v_o_foundMany d_o_many d_o_views d_o_aisles d_p1) none (WX9_askOn cI cJ cZ cB a_o a_o_text a_o_many a_o_views a_o_aisles a_o_readMany a_o_readViews a_o_readAisles a_o_readPage a_o_page a_o_trial a_o_book a_o_kept a_o_isKept a_o_seenSeat a_o_seenWas a_p1 v_o_thrown v_o_textSize v_o_place v_o_rows v_o_readRows v_o_doings v_o_seen v_o_seed res.1 res.2.1 res.2.2.1 d_o_many d_o_views d_o_aisles res.2.2.2) := by
  refine Rw.of (cc := cX9_askOn) (maxL := 5) (ret := none) (own := RX9) (by decide) rfl rfl (Nat.le_of_ble_eq_true rfl) ?_
  intro p e s m below meth c A ls C hK hA hP hD hS hl
  obtain ⟨hx, hb, hr, hml, hts, hown, hlk⟩ := id C
  have hl : lv_has ls 5 [(0, .ref a_o), (1, .ref a_p1), (2, .int x2), (3, .int x3)] := hl
  unfold fX9_askOn at hf
  refine lv_aload_n hx hb dX9_askOn_0 rfl (lv_at hl 0 rfl) ?_
  refine lv_aload_n hx hb dX9_askOn_1 rfl (lv_at hl 1 rfl) ?_
  refine lv_iload_n hx hb dX9_askOn_2 rfl (lv_at hl 2 rfl) ?_
  refine lv_iload_n hx hb dX9_askOn_3 rfl (lv_at hl 3 rfl) ?_
  obtain ⟨q1, hq2, hf⟩ := pf_b hf
  have hPc := hP.sub (ws' := (WX9_findBest cI cJ cZ cB a_o a_o_text a_o_many a_o_views a_o_aisles a_o_readMany a_o_readViews a_o_readAisles a_o_readPage a_o_page a_o_trial a_o_book a_o_kept a_o_isKept a_o_seenSeat a_o_seenWas a_p1 v_o_thrown v_o_textSize v_o_place v_o_rows v_o_readRows v_o_doings v_o_seen v_o_seed v_o_found v_o_foundViews v_o_foundMany d_o_many d_o_views d_o_aisles d_p1)) [0, 1, 2, 3, 4] rfl
  have hDc := hD.sub (ws' := (WX9_findBest cI cJ cZ cB a_o a_o_text a_o_many a_o_views a_o_aisles a_o_readMany a_o_readViews a_o_readAisles a_o_readPage a_o_page a_o_trial a_o_book a_o_kept a_o_isKept a_o_seenSeat a_o_seenWas a_p1 v_o_thrown v_o_textSize v_o_place v_o_rows v_o_readRows v_o_doings v_o_seen v_o_seed v_o_found v_o_foundViews v_o_foundMany d_o_many d_o_views d_o_aisles d_p1)) [0, 1, 2, 3, 4] (by decide) rfl
  refine cl_rwv (wr := []) (wsN := (WX9_askOn cI cJ cZ cB a_o a_o_text a_o_many a_o_views a_o_aisles a_o_readMany a_o_readViews a_o_readAisles a_o_readPage a_o_page a_o_trial a_o_book a_o_kept a_o_isKept a_o_seenSeat a_o_seenWas a_p1 v_o_thrown v_o_textSize v_o_place v_o_rows v_o_readRows v_o_doings v_o_seen v_o_seed q1.1 q1.2.1 q1.2.2.1 d_o_many d_o_views d_o_aisles q1.2.2.2)) (va_runV (As := [.ref a_p1, .int x2, .int x3]) (rest := []) ⟨hx, hb, hml, hown, hts⟩ ((kX9_findBest l D cI cJ cZ cB a_o a_o_text a_o_many a_o_views a_o_aisles a_o_readMany a_o_readViews a_o_readAisles a_o_readPage a_o_page a_o_trial a_o_book a_o_kept a_o_isKept a_o_seenSeat a_o_seenWas a_p1 v_o_thrown v_o_textSize v_o_place v_o_rows v_o_readRows v_o_doings v_o_seen v_o_seed v_o_found v_o_foundViews v_o_foundMany d_o_many d_o_views d_o_aisles d_p1 x2 x3 q1 hq2) _) (cwV 3 hts gX9_askOn_X9_findBest rfl rfl rfl (by decide +kernel) ⟨Nat.le_of_ble_eq_true rfl, Nat.le_of_ble_eq_true rfl⟩) ⟨PRw.blind, va_recv hK.1 hPc (ci := 9) (q0 := 0) rfl rfl, PRw.at hK hPc hDc⟩ rfl rfl hl.1 rfl (lv_room (Nat.le_of_ble_eq_true rfl)) dX9_askOn_4 ⟨Nat.zero_le _, Nat.zero_le _⟩) hP hD hS hA [0, 1, 2, 3, 4] [] [0, 1, 2, 3, 4] rfl rfl (by decide) (by decide) rfl (by decide) (fun H locs hP hD hS => ?_)
  refine lv_aload_n hx hb dX9_askOn_7 rfl (lv_at hl 1 rfl) ?_
  refine lv_bipush (v := (6 : Int32)) hx hb dX9_askOn_8 (by decide) ?_
  refine lv_dup2_11 hx hb dX9_askOn_10 rfl rfl ?_
  refine va_iald hx hb hK.1 hP 4 0 rfl rfl (show ¬ ((6 : Int32) < 0 ∨ 229 ≤ ((6 : Int32)).toNatClampNeg) by decide) dX9_askOn_11 ?_
  refine lv_iconst (v := (1 : Int32)) hx hb dX9_askOn_12 (by decide) ?_
  refine lv_iadd hx hb dX9_askOn_13 ?_
  refine va_iast hx hb hK.1 hP hD hS 4 0 rfl rfl (show ¬ ((6 : Int32) < 0 ∨ 229 ≤ ((6 : Int32)).toNatClampNeg) by decide) dX9_askOn_14 (fun H locs hP hD hS => ?_)
  have hP : va_P D vwCl (WX9_askOn cI cJ cZ cB a_o a_o_text a_o_many a_o_views a_o_aisles a_o_readMany a_o_readViews a_o_readAisles a_o_readPage a_o_page a_o_trial a_o_book a_o_kept a_o_isKept a_o_seenSeat a_o_seenWas a_p1 v_o_thrown v_o_textSize v_o_place v_o_rows v_o_readRows v_o_doings v_o_seen v_o_seed q1.1 q1.2.1 q1.2.2.1 d_o_many d_o_views d_o_aisles (upd q1.2.2.2 (((6 : Int32)).toNatClampNeg) ((q1.2.2.2 ((6 : Int32)).toNatClampNeg) + (1 : Int32)))) H := hP
  have hD : va_D A (WX9_askOn cI cJ cZ cB a_o a_o_text a_o_many a_o_views a_o_aisles a_o_readMany a_o_readViews a_o_readAisles a_o_readPage a_o_page a_o_trial a_o_book a_o_kept a_o_isKept a_o_seenSeat a_o_seenWas a_p1 v_o_thrown v_o_textSize v_o_place v_o_rows v_o_readRows v_o_doings v_o_seen v_o_seed q1.1 q1.2.1 q1.2.2.1 d_o_many d_o_views d_o_aisles (upd q1.2.2.2 (((6 : Int32)).toNatClampNeg) ((q1.2.2.2 ((6 : Int32)).toNatClampNeg) + (1 : Int32)))) := hD
  refine lv_aload_n hx hb dX9_askOn_15 rfl (lv_at hl 1 rfl) ?_
  refine lv_bipush (v := (6 : Int32)) hx hb dX9_askOn_16 (by decide) ?_
  refine va_iald hx hb hK.1 hP 4 0 rfl rfl (show ¬ ((6 : Int32) < 0 ∨ 229 ≤ ((6 : Int32)).toNatClampNeg) by decide) dX9_askOn_18 ?_
  refine lv_istore (lv' := [(4, .int ((upd q1.2.2.2 (((6 : Int32)).toNatClampNeg) ((q1.2.2.2 ((6 : Int32)).toNatClampNeg) + (1 : Int32))) ((6 : Int32)).toNatClampNeg)), (0, .ref a_o), (1, .ref a_p1), (2, .int x2), (3, .int x3)]) hx hb dX9_askOn_19 hl (by decide) rfl (fun ls hl => ?_)
  refine lv_aload_n hx hb dX9_askOn_21 rfl (lv_at hl 2 rfl) ?_
  refine lv_iload hx hb dX9_askOn_22 (lv_at hl 0 rfl) ?_
  obtain ⟨q3, hq4, hf⟩ := pf_b hf
  have hPc := hP.sub (ws' := ([] : va_W)) [] rfl
  refine cl_roi (va_runS (As := [.int ((upd q1.2.2.2 (((6 : Int32)).toNatClampNeg) ((q1.2.2.2 ((6 : Int32)).toNatClampNeg) + (1 : Int32))) ((6 : Int32)).toNatClampNeg)]) (rest := [.ref a_p1]) ⟨hx, hb, hml, hown, hts⟩ (kX9_at l D cI cJ cZ cB ((upd q1.2.2.2 (((6 : Int32)).toNatClampNeg) ((q1.2.2.2 ((6 : Int32)).toNatClampNeg) + (1 : Int32))) ((6 : Int32)).toNatClampNeg) q3 hq4) (va_cwS 1 hts gX9_askOn_X9_at rfl rfl rfl (by decide +kernel) ⟨Nat.le_of_ble_eq_true rfl, Nat.le_of_ble_eq_true rfl⟩) ⟨PRo.blind, PRo.at hK hPc⟩ rfl rfl hl.1 rfl (lv_room (Nat.le_of_ble_eq_true rfl)) dX9_askOn_24 ⟨Nat.zero_le _, Nat.zero_le _⟩) ?_
  refine lv_iconst (v := (0 : Int32)) hx hb dX9_askOn_27 (by decide) ?_
  refine lv_iadd hx hb dX9_askOn_28 ?_
  refine lv_iload_n hx hb dX9_askOn_29 rfl (lv_at hl 3 rfl) ?_
  obtain ⟨hg5, hf⟩ := pf_x hf
  refine va_iast hx hb hK.1 hP hD hS 4 0 rfl rfl hg5 dX9_askOn_30 (fun H locs hP hD hS => ?_)
  have hP : va_P D vwCl (WX9_askOn cI cJ cZ cB a_o a_o_text a_o_many a_o_views a_o_aisles a_o_readMany a_o_readViews a_o_readAisles a_o_readPage a_o_page a_o_trial a_o_book a_o_kept a_o_isKept a_o_seenSeat a_o_seenWas a_p1 v_o_thrown v_o_textSize v_o_place v_o_rows v_o_readRows v_o_doings v_o_seen v_o_seed q1.1 q1.2.1 q1.2.2.1 d_o_many d_o_views d_o_aisles (upd (upd q1.2.2.2 (((6 : Int32)).toNatClampNeg) ((q1.2.2.2 ((6 : Int32)).toNatClampNeg) + (1 : Int32))) (((q3 + (0 : Int32))).toNatClampNeg) x2)) H := hP
  have hD : va_D A (WX9_askOn cI cJ cZ cB a_o a_o_text a_o_many a_o_views a_o_aisles a_o_readMany a_o_readViews a_o_readAisles a_o_readPage a_o_page a_o_trial a_o_book a_o_kept a_o_isKept a_o_seenSeat a_o_seenWas a_p1 v_o_thrown v_o_textSize v_o_place v_o_rows v_o_readRows v_o_doings v_o_seen v_o_seed q1.1 q1.2.1 q1.2.2.1 d_o_many d_o_views d_o_aisles (upd (upd q1.2.2.2 (((6 : Int32)).toNatClampNeg) ((q1.2.2.2 ((6 : Int32)).toNatClampNeg) + (1 : Int32))) (((q3 + (0 : Int32))).toNatClampNeg) x2)) := hD
  refine lv_aload_n hx hb dX9_askOn_31 rfl (lv_at hl 2 rfl) ?_
  refine lv_iload hx hb dX9_askOn_32 (lv_at hl 0 rfl) ?_
  obtain ⟨q6, hq7, hf⟩ := pf_b hf
  have hPc := hP.sub (ws' := ([] : va_W)) [] rfl
  refine cl_roi (va_runS (As := [.int ((upd q1.2.2.2 (((6 : Int32)).toNatClampNeg) ((q1.2.2.2 ((6 : Int32)).toNatClampNeg) + (1 : Int32))) ((6 : Int32)).toNatClampNeg)]) (rest := [.ref a_p1]) ⟨hx, hb, hml, hown, hts⟩ (kX9_at l D cI cJ cZ cB ((upd q1.2.2.2 (((6 : Int32)).toNatClampNeg) ((q1.2.2.2 ((6 : Int32)).toNatClampNeg) + (1 : Int32))) ((6 : Int32)).toNatClampNeg) q6 hq7) (va_cwS 1 hts gX9_askOn_X9_at rfl rfl rfl (by decide +kernel) ⟨Nat.le_of_ble_eq_true rfl, Nat.le_of_ble_eq_true rfl⟩) ⟨PRo.blind, PRo.at hK hPc⟩ rfl rfl hl.1 rfl (lv_room (Nat.le_of_ble_eq_true rfl)) dX9_askOn_34 ⟨Nat.zero_le _, Nat.zero_le _⟩) ?_
  refine lv_iconst (v := (1 : Int32)) hx hb dX9_askOn_37 (by decide) ?_
  refine lv_iadd hx hb dX9_askOn_38 ?_
  refine lv_iload_n hx hb dX9_askOn_39 rfl (lv_at hl 4 rfl) ?_
  obtain ⟨hg8, hf⟩ := pf_x hf
  refine va_iast hx hb hK.1 hP hD hS 4 0 rfl rfl hg8 dX9_askOn_40 (fun H locs hP hD hS => ?_)
  have hP : va_P D vwCl (WX9_askOn cI cJ cZ cB a_o a_o_text a_o_many a_o_views a_o_aisles a_o_readMany a_o_readViews a_o_readAisles a_o_readPage a_o_page a_o_trial a_o_book a_o_kept a_o_isKept a_o_seenSeat a_o_seenWas a_p1 v_o_thrown v_o_textSize v_o_place v_o_rows v_o_readRows v_o_doings v_o_seen v_o_seed q1.1 q1.2.1 q1.2.2.1 d_o_many d_o_views d_o_aisles (upd (upd (upd q1.2.2.2 (((6 : Int32)).toNatClampNeg) ((q1.2.2.2 ((6 : Int32)).toNatClampNeg) + (1 : Int32))) (((q3 + (0 : Int32))).toNatClampNeg) x2) (((q6 + (1 : Int32))).toNatClampNeg) x3)) H := hP
  have hD : va_D A (WX9_askOn cI cJ cZ cB a_o a_o_text a_o_many a_o_views a_o_aisles a_o_readMany a_o_readViews a_o_readAisles a_o_readPage a_o_page a_o_trial a_o_book a_o_kept a_o_isKept a_o_seenSeat a_o_seenWas a_p1 v_o_thrown v_o_textSize v_o_place v_o_rows v_o_readRows v_o_doings v_o_seen v_o_seed q1.1 q1.2.1 q1.2.2.1 d_o_many d_o_views d_o_aisles (upd (upd (upd q1.2.2.2 (((6 : Int32)).toNatClampNeg) ((q1.2.2.2 ((6 : Int32)).toNatClampNeg) + (1 : Int32))) (((q3 + (0 : Int32))).toNatClampNeg) x2) (((q6 + (1 : Int32))).toNatClampNeg) x3)) := hD
  refine lv_aload_n hx hb dX9_askOn_41 rfl (lv_at hl 2 rfl) ?_
  refine lv_iload hx hb dX9_askOn_42 (lv_at hl 0 rfl) ?_
  obtain ⟨q9, hq10, hf⟩ := pf_b hf
  have hPc := hP.sub (ws' := ([] : va_W)) [] rfl
  refine cl_roi (va_runS (As := [.int ((upd q1.2.2.2 (((6 : Int32)).toNatClampNeg) ((q1.2.2.2 ((6 : Int32)).toNatClampNeg) + (1 : Int32))) ((6 : Int32)).toNatClampNeg)]) (rest := [.ref a_p1]) ⟨hx, hb, hml, hown, hts⟩ (kX9_at l D cI cJ cZ cB ((upd q1.2.2.2 (((6 : Int32)).toNatClampNeg) ((q1.2.2.2 ((6 : Int32)).toNatClampNeg) + (1 : Int32))) ((6 : Int32)).toNatClampNeg) q9 hq10) (va_cwS 1 hts gX9_askOn_X9_at rfl rfl rfl (by decide +kernel) ⟨Nat.le_of_ble_eq_true rfl, Nat.le_of_ble_eq_true rfl⟩) ⟨PRo.blind, PRo.at hK hPc⟩ rfl rfl hl.1 rfl (lv_room (Nat.le_of_ble_eq_true rfl)) dX9_askOn_44 ⟨Nat.zero_le _, Nat.zero_le _⟩) ?_
  refine lv_iconst (v := (5 : Int32)) hx hb dX9_askOn_47 (by decide) ?_
  refine lv_iadd hx hb dX9_askOn_48 ?_
  refine lv_iconst (v := (0 : Int32)) hx hb dX9_askOn_49 (by decide) ?_
  obtain ⟨hg11, hf⟩ := pf_x hf
  refine va_iast hx hb hK.1 hP hD hS 4 0 rfl rfl hg11 dX9_askOn_50 (fun H locs hP hD hS => ?_)
  have hP : va_P D vwCl (WX9_askOn cI cJ cZ cB a_o a_o_text a_o_many a_o_views a_o_aisles a_o_readMany a_o_readViews a_o_readAisles a_o_readPage a_o_page a_o_trial a_o_book a_o_kept a_o_isKept a_o_seenSeat a_o_seenWas a_p1 v_o_thrown v_o_textSize v_o_place v_o_rows v_o_readRows v_o_doings v_o_seen v_o_seed q1.1 q1.2.1 q1.2.2.1 d_o_many d_o_views d_o_aisles (upd (upd (upd (upd q1.2.2.2 (((6 : Int32)).toNatClampNeg) ((q1.2.2.2 ((6 : Int32)).toNatClampNeg) + (1 : Int32))) (((q3 + (0 : Int32))).toNatClampNeg) x2) (((q6 + (1 : Int32))).toNatClampNeg) x3) (((q9 + (5 : Int32))).toNatClampNeg) (0 : Int32))) H := hP
  have hD : va_D A (WX9_askOn cI cJ cZ cB a_o a_o_text a_o_many a_o_views a_o_aisles a_o_readMany a_o_readViews a_o_readAisles a_o_readPage a_o_page a_o_trial a_o_book a_o_kept a_o_isKept a_o_seenSeat a_o_seenWas a_p1 v_o_thrown v_o_textSize v_o_place v_o_rows v_o_readRows v_o_doings v_o_seen v_o_seed q1.1 q1.2.1 q1.2.2.1 d_o_many d_o_views d_o_aisles (upd (upd (upd (upd q1.2.2.2 (((6 : Int32)).toNatClampNeg) ((q1.2.2.2 ((6 : Int32)).toNatClampNeg) + (1 : Int32))) (((q3 + (0 : Int32))).toNatClampNeg) x2) (((q6 + (1 : Int32))).toNatClampNeg) x3) (((q9 + (5 : Int32))).toNatClampNeg) (0 : Int32))) := hD
  refine lv_aload_n hx hb dX9_askOn_51 rfl (lv_at hl 1 rfl) ?_
  refine va_get (D := D) (ci := 9) (v := .int q1.2.2.1) (C := RX9) (T := TX9) (N := 26) hx hb hts iX9_askOn_X9 hown hK.1 hP 0 rfl rfl 25 (by decide) (hts (.fieldLink RX9 137 "LoneSeatsModel" "foundMany" "I") (by decide +kernel)) (fun _ h9 => h9) rfl dX9_askOn_52 ?_
  refine lv_if_le (tgt := 68) hx hb dX9_askOn_55 (by decide) (fun hc => ?_) (fun hc => ?_)
  · have hf := pf_t hc hf
    refine lv_aload_n hx hb dX9_askOn_68 rfl (lv_at hl 2 rfl) ?_
    refine lv_iload hx hb dX9_askOn_69 (lv_at hl 0 rfl) ?_
    obtain ⟨q12, hq13, hf⟩ := pf_b hf
    have hPc := hP.sub (ws' := ([] : va_W)) [] rfl
    refine cl_roi (va_runS (As := [.int ((upd q1.2.2.2 (((6 : Int32)).toNatClampNeg) ((q1.2.2.2 ((6 : Int32)).toNatClampNeg) + (1 : Int32))) ((6 : Int32)).toNatClampNeg)]) (rest := [.ref a_p1]) ⟨hx, hb, hml, hown, hts⟩ (kX9_at l D cI cJ cZ cB ((upd q1.2.2.2 (((6 : Int32)).toNatClampNeg) ((q1.2.2.2 ((6 : Int32)).toNatClampNeg) + (1 : Int32))) ((6 : Int32)).toNatClampNeg) q12 hq13) (va_cwS 1 hts gX9_askOn_X9_at rfl rfl rfl (by decide +kernel) ⟨Nat.le_of_ble_eq_true rfl, Nat.le_of_ble_eq_true rfl⟩) ⟨PRo.blind, PRo.at hK hPc⟩ rfl rfl hl.1 rfl (lv_room (Nat.le_of_ble_eq_true rfl)) dX9_askOn_71 ⟨Nat.zero_le _, Nat.zero_le _⟩) ?_
    refine lv_iconst (v := (2 : Int32)) hx hb dX9_askOn_74 (by decide) ?_
    refine lv_iadd hx hb dX9_askOn_75 ?_
    refine lv_iconst (v := (2 : Int32)) hx hb dX9_askOn_76 (by decide) ?_
    obtain ⟨hg14, hf⟩ := pf_x hf
    refine va_iast hx hb hK.1 hP hD hS 4 0 rfl rfl hg14 dX9_askOn_77 (fun H locs hP hD hS => ?_)
    have hP : va_P D vwCl (WX9_askOn cI cJ cZ cB a_o a_o_text a_o_many a_o_views a_o_aisles a_o_readMany a_o_readViews a_o_readAisles a_o_readPage a_o_page a_o_trial a_o_book a_o_kept a_o_isKept a_o_seenSeat a_o_seenWas a_p1 v_o_thrown v_o_textSize v_o_place v_o_rows v_o_readRows v_o_doings v_o_seen v_o_seed q1.1 q1.2.1 q1.2.2.1 d_o_many d_o_views d_o_aisles (upd (upd (upd (upd (upd q1.2.2.2 (((6 : Int32)).toNatClampNeg) ((q1.2.2.2 ((6 : Int32)).toNatClampNeg) + (1 : Int32))) (((q3 + (0 : Int32))).toNatClampNeg) x2) (((q6 + (1 : Int32))).toNatClampNeg) x3) (((q9 + (5 : Int32))).toNatClampNeg) (0 : Int32)) (((q12 + (2 : Int32))).toNatClampNeg) (2 : Int32))) H := hP
    have hD : va_D A (WX9_askOn cI cJ cZ cB a_o a_o_text a_o_many a_o_views a_o_aisles a_o_readMany a_o_readViews a_o_readAisles a_o_readPage a_o_page a_o_trial a_o_book a_o_kept a_o_isKept a_o_seenSeat a_o_seenWas a_p1 v_o_thrown v_o_textSize v_o_place v_o_rows v_o_readRows v_o_doings v_o_seen v_o_seed q1.1 q1.2.1 q1.2.2.1 d_o_many d_o_views d_o_aisles (upd (upd (upd (upd (upd q1.2.2.2 (((6 : Int32)).toNatClampNeg) ((q1.2.2.2 ((6 : Int32)).toNatClampNeg) + (1 : Int32))) (((q3 + (0 : Int32))).toNatClampNeg) x2) (((q6 + (1 : Int32))).toNatClampNeg) x3) (((q9 + (5 : Int32))).toNatClampNeg) (0 : Int32)) (((q12 + (2 : Int32))).toNatClampNeg) (2 : Int32))) := hD
    refine lv_aload_n hx hb dX9_askOn_78 rfl (lv_at hl 2 rfl) ?_
    refine lv_bipush (v := (8 : Int32)) hx hb dX9_askOn_79 (by decide) ?_
    refine lv_aload_n hx hb dX9_askOn_81 rfl (lv_at hl 2 rfl) ?_
    refine lv_bipush (v := (7 : Int32)) hx hb dX9_askOn_82 (by decide) ?_
    refine va_iald hx hb hK.1 hP 4 0 rfl rfl (show ¬ ((7 : Int32) < 0 ∨ 229 ≤ ((7 : Int32)).toNatClampNeg) by decide) dX9_askOn_84 ?_
    refine lv_iadd hx hb dX9_askOn_85 ?_
    refine lv_iload hx hb dX9_askOn_86 (lv_at hl 0 rfl) ?_
    obtain ⟨hg15, hf⟩ := pf_x hf
    refine va_iast hx hb hK.1 hP hD hS 4 0 rfl rfl hg15 dX9_askOn_88 (fun H locs hP hD hS => ?_)
    have hP : va_P D vwCl (WX9_askOn cI cJ cZ cB a_o a_o_text a_o_many a_o_views a_o_aisles a_o_readMany a_o_readViews a_o_readAisles a_o_readPage a_o_page a_o_trial a_o_book a_o_kept a_o_isKept a_o_seenSeat a_o_seenWas a_p1 v_o_thrown v_o_textSize v_o_place v_o_rows v_o_readRows v_o_doings v_o_seen v_o_seed q1.1 q1.2.1 q1.2.2.1 d_o_many d_o_views d_o_aisles (upd (upd (upd (upd (upd (upd q1.2.2.2 (((6 : Int32)).toNatClampNeg) ((q1.2.2.2 ((6 : Int32)).toNatClampNeg) + (1 : Int32))) (((q3 + (0 : Int32))).toNatClampNeg) x2) (((q6 + (1 : Int32))).toNatClampNeg) x3) (((q9 + (5 : Int32))).toNatClampNeg) (0 : Int32)) (((q12 + (2 : Int32))).toNatClampNeg) (2 : Int32)) ((((8 : Int32) + ((upd (upd (upd (upd (upd q1.2.2.2 (((6 : Int32)).toNatClampNeg) ((q1.2.2.2 ((6 : Int32)).toNatClampNeg) + (1 : Int32))) (((q3 + (0 : Int32))).toNatClampNeg) x2) (((q6 + (1 : Int32))).toNatClampNeg) x3) (((q9 + (5 : Int32))).toNatClampNeg) (0 : Int32)) (((q12 + (2 : Int32))).toNatClampNeg) (2 : Int32)) ((7 : Int32)).toNatClampNeg))).toNatClampNeg) ((upd q1.2.2.2 (((6 : Int32)).toNatClampNeg) ((q1.2.2.2 ((6 : Int32)).toNatClampNeg) + (1 : Int32))) ((6 : Int32)).toNatClampNeg))) H := hP
    have hD : va_D A (WX9_askOn cI cJ cZ cB a_o a_o_text a_o_many a_o_views a_o_aisles a_o_readMany a_o_readViews a_o_readAisles a_o_readPage a_o_page a_o_trial a_o_book a_o_kept a_o_isKept a_o_seenSeat a_o_seenWas a_p1 v_o_thrown v_o_textSize v_o_place v_o_rows v_o_readRows v_o_doings v_o_seen v_o_seed q1.1 q1.2.1 q1.2.2.1 d_o_many d_o_views d_o_aisles (upd (upd (upd (upd (upd (upd q1.2.2.2 (((6 : Int32)).toNatClampNeg) ((q1.2.2.2 ((6 : Int32)).toNatClampNeg) + (1 : Int32))) (((q3 + (0 : Int32))).toNatClampNeg) x2) (((q6 + (1 : Int32))).toNatClampNeg) x3) (((q9 + (5 : Int32))).toNatClampNeg) (0 : Int32)) (((q12 + (2 : Int32))).toNatClampNeg) (2 : Int32)) ((((8 : Int32) + ((upd (upd (upd (upd (upd q1.2.2.2 (((6 : Int32)).toNatClampNeg) ((q1.2.2.2 ((6 : Int32)).toNatClampNeg) + (1 : Int32))) (((q3 + (0 : Int32))).toNatClampNeg) x2) (((q6 + (1 : Int32))).toNatClampNeg) x3) (((q9 + (5 : Int32))).toNatClampNeg) (0 : Int32)) (((q12 + (2 : Int32))).toNatClampNeg) (2 : Int32)) ((7 : Int32)).toNatClampNeg))).toNatClampNeg) ((upd q1.2.2.2 (((6 : Int32)).toNatClampNeg) ((q1.2.2.2 ((6 : Int32)).toNatClampNeg) + (1 : Int32))) ((6 : Int32)).toNatClampNeg))) := hD
    refine lv_aload_n hx hb dX9_askOn_89 rfl (lv_at hl 2 rfl) ?_
    refine lv_bipush (v := (7 : Int32)) hx hb dX9_askOn_90 (by decide) ?_
    refine lv_dup2_11 hx hb dX9_askOn_92 rfl rfl ?_
    refine va_iald hx hb hK.1 hP 4 0 rfl rfl (show ¬ ((7 : Int32) < 0 ∨ 229 ≤ ((7 : Int32)).toNatClampNeg) by decide) dX9_askOn_93 ?_
    refine lv_iconst (v := (1 : Int32)) hx hb dX9_askOn_94 (by decide) ?_
    refine lv_iadd hx hb dX9_askOn_95 ?_
    refine va_iast hx hb hK.1 hP hD hS 4 0 rfl rfl (show ¬ ((7 : Int32) < 0 ∨ 229 ≤ ((7 : Int32)).toNatClampNeg) by decide) dX9_askOn_96 (fun H locs hP hD hS => ?_)
    have hP : va_P D vwCl (WX9_askOn cI cJ cZ cB a_o a_o_text a_o_many a_o_views a_o_aisles a_o_readMany a_o_readViews a_o_readAisles a_o_readPage a_o_page a_o_trial a_o_book a_o_kept a_o_isKept a_o_seenSeat a_o_seenWas a_p1 v_o_thrown v_o_textSize v_o_place v_o_rows v_o_readRows v_o_doings v_o_seen v_o_seed q1.1 q1.2.1 q1.2.2.1 d_o_many d_o_views d_o_aisles (upd (upd (upd (upd (upd (upd (upd q1.2.2.2 (((6 : Int32)).toNatClampNeg) ((q1.2.2.2 ((6 : Int32)).toNatClampNeg) + (1 : Int32))) (((q3 + (0 : Int32))).toNatClampNeg) x2) (((q6 + (1 : Int32))).toNatClampNeg) x3) (((q9 + (5 : Int32))).toNatClampNeg) (0 : Int32)) (((q12 + (2 : Int32))).toNatClampNeg) (2 : Int32)) ((((8 : Int32) + ((upd (upd (upd (upd (upd q1.2.2.2 (((6 : Int32)).toNatClampNeg) ((q1.2.2.2 ((6 : Int32)).toNatClampNeg) + (1 : Int32))) (((q3 + (0 : Int32))).toNatClampNeg) x2) (((q6 + (1 : Int32))).toNatClampNeg) x3) (((q9 + (5 : Int32))).toNatClampNeg) (0 : Int32)) (((q12 + (2 : Int32))).toNatClampNeg) (2 : Int32)) ((7 : Int32)).toNatClampNeg))).toNatClampNeg) ((upd q1.2.2.2 (((6 : Int32)).toNatClampNeg) ((q1.2.2.2 ((6 : Int32)).toNatClampNeg) + (1 : Int32))) ((6 : Int32)).toNatClampNeg)) (((7 : Int32)).toNatClampNeg) (((upd (upd (upd (upd (upd (upd q1.2.2.2 (((6 : Int32)).toNatClampNeg) ((q1.2.2.2 ((6 : Int32)).toNatClampNeg) + (1 : Int32))) (((q3 + (0 : Int32))).toNatClampNeg) x2) (((q6 + (1 : Int32))).toNatClampNeg) x3) (((q9 + (5 : Int32))).toNatClampNeg) (0 : Int32)) (((q12 + (2 : Int32))).toNatClampNeg) (2 : Int32)) ((((8 : Int32) + ((upd (upd (upd (upd (upd q1.2.2.2 (((6 : Int32)).toNatClampNeg) ((q1.2.2.2 ((6 : Int32)).toNatClampNeg) + (1 : Int32))) (((q3 + (0 : Int32))).toNatClampNeg) x2) (((q6 + (1 : Int32))).toNatClampNeg) x3) (((q9 + (5 : Int32))).toNatClampNeg) (0 : Int32)) (((q12 + (2 : Int32))).toNatClampNeg) (2 : Int32)) ((7 : Int32)).toNatClampNeg))).toNatClampNeg) ((upd q1.2.2.2 (((6 : Int32)).toNatClampNeg) ((q1.2.2.2 ((6 : Int32)).toNatClampNeg) + (1 : Int32))) ((6 : Int32)).toNatClampNeg)) ((7 : Int32)).toNatClampNeg) + (1 : Int32)))) H := hP
    have hD : va_D A (WX9_askOn cI cJ cZ cB a_o a_o_text a_o_many a_o_views a_o_aisles a_o_readMany a_o_readViews a_o_readAisles a_o_readPage a_o_page a_o_trial a_o_book a_o_kept a_o_isKept a_o_seenSeat a_o_seenWas a_p1 v_o_thrown v_o_textSize v_o_place v_o_rows v_o_readRows v_o_doings v_o_seen v_o_seed q1.1 q1.2.1 q1.2.2.1 d_o_many d_o_views d_o_aisles (upd (upd (upd (upd (upd (upd (upd q1.2.2.2 (((6 : Int32)).toNatClampNeg) ((q1.2.2.2 ((6 : Int32)).toNatClampNeg) + (1 : Int32))) (((q3 + (0 : Int32))).toNatClampNeg) x2) (((q6 + (1 : Int32))).toNatClampNeg) x3) (((q9 + (5 : Int32))).toNatClampNeg) (0 : Int32)) (((q12 + (2 : Int32))).toNatClampNeg) (2 : Int32)) ((((8 : Int32) + ((upd (upd (upd (upd (upd q1.2.2.2 (((6 : Int32)).toNatClampNeg) ((q1.2.2.2 ((6 : Int32)).toNatClampNeg) + (1 : Int32))) (((q3 + (0 : Int32))).toNatClampNeg) x2) (((q6 + (1 : Int32))).toNatClampNeg) x3) (((q9 + (5 : Int32))).toNatClampNeg) (0 : Int32)) (((q12 + (2 : Int32))).toNatClampNeg) (2 : Int32)) ((7 : Int32)).toNatClampNeg))).toNatClampNeg) ((upd q1.2.2.2 (((6 : Int32)).toNatClampNeg) ((q1.2.2.2 ((6 : Int32)).toNatClampNeg) + (1 : Int32))) ((6 : Int32)).toNatClampNeg)) (((7 : Int32)).toNatClampNeg) (((upd (upd (upd (upd (upd (upd q1.2.2.2 (((6 : Int32)).toNatClampNeg) ((q1.2.2.2 ((6 : Int32)).toNatClampNeg) + (1 : Int32))) (((q3 + (0 : Int32))).toNatClampNeg) x2) (((q6 + (1 : Int32))).toNatClampNeg) x3) (((q9 + (5 : Int32))).toNatClampNeg) (0 : Int32)) (((q12 + (2 : Int32))).toNatClampNeg) (2 : Int32)) ((((8 : Int32) + ((upd (upd (upd (upd (upd q1.2.2.2 (((6 : Int32)).toNatClampNeg) ((q1.2.2.2 ((6 : Int32)).toNatClampNeg) + (1 : Int32))) (((q3 + (0 : Int32))).toNatClampNeg) x2) (((q6 + (1 : Int32))).toNatClampNeg) x3) (((q9 + (5 : Int32))).toNatClampNeg) (0 : Int32)) (((q12 + (2 : Int32))).toNatClampNeg) (2 : Int32)) ((7 : Int32)).toNatClampNeg))).toNatClampNeg) ((upd q1.2.2.2 (((6 : Int32)).toNatClampNeg) ((q1.2.2.2 ((6 : Int32)).toNatClampNeg) + (1 : Int32))) ((6 : Int32)).toNatClampNeg)) ((7 : Int32)).toNatClampNeg) + (1 : Int32)))) := hD
    cases hf
    exact W.vret hx hb hr (fun t ht hW => ⟨⟨rfl, by rw [ht]; exact hP, hD⟩, hS.F ht⟩) hS.2.2 dX9_askOn_97
  · have hf := pf_f hc hf
    refine lv_aload_n hx hb dX9_askOn_58 rfl (lv_at hl 1 rfl) ?_
    refine lv_aload_n hx hb dX9_askOn_59 rfl (lv_at hl 2 rfl) ?_
    refine lv_iload hx hb dX9_askOn_60 (lv_at hl 0 rfl) ?_
    obtain ⟨q16, hq17, hf⟩ := pf_b hf
    have hPc := hP.sub (ws' := (WX9_payOn cI cJ cZ cB a_o a_o_text a_o_many a_o_views a_o_aisles a_o_readMany a_o_readViews a_o_readAisles a_o_readPage a_o_page a_o_trial a_o_book a_o_kept a_o_isKept a_o_seenSeat a_o_seenWas a_p1 v_o_thrown v_o_textSize v_o_place v_o_rows v_o_readRows v_o_doings v_o_seen v_o_seed q1.1 q1.2.1 q1.2.2.1 (upd (upd (upd (upd q1.2.2.2 (((6 : Int32)).toNatClampNeg) ((q1.2.2.2 ((6 : Int32)).toNatClampNeg) + (1 : Int32))) (((q3 + (0 : Int32))).toNatClampNeg) x2) (((q6 + (1 : Int32))).toNatClampNeg) x3) (((q9 + (5 : Int32))).toNatClampNeg) (0 : Int32)))) [0, 4] rfl
    have hDc := hD.sub (ws' := (WX9_payOn cI cJ cZ cB a_o a_o_text a_o_many a_o_views a_o_aisles a_o_readMany a_o_readViews a_o_readAisles a_o_readPage a_o_page a_o_trial a_o_book a_o_kept a_o_isKept a_o_seenSeat a_o_seenWas a_p1 v_o_thrown v_o_textSize v_o_place v_o_rows v_o_readRows v_o_doings v_o_seen v_o_seed q1.1 q1.2.1 q1.2.2.1 (upd (upd (upd (upd q1.2.2.2 (((6 : Int32)).toNatClampNeg) ((q1.2.2.2 ((6 : Int32)).toNatClampNeg) + (1 : Int32))) (((q3 + (0 : Int32))).toNatClampNeg) x2) (((q6 + (1 : Int32))).toNatClampNeg) x3) (((q9 + (5 : Int32))).toNatClampNeg) (0 : Int32)))) [0, 4] (by decide) rfl
    refine cl_rwv (wr := [(a_o_many, .inl (cI, (4, .inl d_o_many))), (a_o_views, .inl (cI, (36, .inl d_o_views))), (a_o_aisles, .inl (cZ, (36, .inl d_o_aisles)))]) (wsN := (WX9_askOn cI cJ cZ cB a_o a_o_text a_o_many a_o_views a_o_aisles a_o_readMany a_o_readViews a_o_readAisles a_o_readPage a_o_page a_o_trial a_o_book a_o_kept a_o_isKept a_o_seenSeat a_o_seenWas a_p1 v_o_thrown v_o_textSize v_o_place v_o_rows v_o_readRows v_o_doings v_o_seen v_o_seed q1.1 q1.2.1 q1.2.2.1 d_o_many d_o_views d_o_aisles q16)) (va_runV (As := [.ref a_p1, .int ((upd q1.2.2.2 (((6 : Int32)).toNatClampNeg) ((q1.2.2.2 ((6 : Int32)).toNatClampNeg) + (1 : Int32))) ((6 : Int32)).toNatClampNeg)]) (rest := []) ⟨hx, hb, hml, hown, hts⟩ ((kX9_payOn l D cI cJ cZ cB a_o a_o_text a_o_many a_o_views a_o_aisles a_o_readMany a_o_readViews a_o_readAisles a_o_readPage a_o_page a_o_trial a_o_book a_o_kept a_o_isKept a_o_seenSeat a_o_seenWas a_p1 v_o_thrown v_o_textSize v_o_place v_o_rows v_o_readRows v_o_doings v_o_seen v_o_seed q1.1 q1.2.1 q1.2.2.1 (upd (upd (upd (upd q1.2.2.2 (((6 : Int32)).toNatClampNeg) ((q1.2.2.2 ((6 : Int32)).toNatClampNeg) + (1 : Int32))) (((q3 + (0 : Int32))).toNatClampNeg) x2) (((q6 + (1 : Int32))).toNatClampNeg) x3) (((q9 + (5 : Int32))).toNatClampNeg) (0 : Int32)) ((upd q1.2.2.2 (((6 : Int32)).toNatClampNeg) ((q1.2.2.2 ((6 : Int32)).toNatClampNeg) + (1 : Int32))) ((6 : Int32)).toNatClampNeg) q16 hq17) _) (cwV 2 hts gX9_askOn_X9_payOn rfl rfl rfl (by decide +kernel) ⟨Nat.le_of_ble_eq_true rfl, Nat.le_of_ble_eq_true rfl⟩) ⟨PRw.blind, va_recv hK.1 hPc (ci := 9) (q0 := 0) rfl rfl, PRw.at hK hPc hDc⟩ rfl rfl hl.1 rfl (lv_room (Nat.le_of_ble_eq_true rfl)) dX9_askOn_62 ⟨Nat.zero_le _, Nat.zero_le _⟩) hP hD hS hA [0, 4] [1, 2, 3] [3, 0, 1, 2, 4] rfl rfl (by decide) (by decide) rfl (by decide) (fun H locs hP hD hS => ?_)
    refine lv_goto (tgt := 97) hx hb dX9_askOn_65 (by decide) ?_
    cases hf
    exact W.vret hx hb hr (fun t ht hW => ⟨⟨rfl, by rw [ht]; exact hP, hD⟩, hS.F ht⟩) hS.2.2 dX9_askOn_97
abbrev WX9_returnOn (cI cJ cZ cB : ClassId) (a_o : Nat) (a_o_text : Nat) (a_o_many : Nat) (a_o_views : Nat) (a_o_aisles : Nat) (a_o_readMany : Nat) (a_o_readViews : Nat) (a_o_readAisles : Nat) (a_o_readPage : Nat) (a_o_page : Nat) (a_o_trial : Nat) (a_o_book : Nat) (a_o_kept : Nat) (a_o_isKept : Nat) (a_o_seenSeat : Nat) (a_o_seenWas : Nat) (a_p1 : Nat) (v_o_thrown : Int32) (v_o_textSize : Int32) (v_o_place : Int32) (v_o_rows : Int32) (v_o_readRows : Int32) (v_o_doings : Int32) (v_o_seen : Int32) (v_o_seed : Int64) (v_o_found : Int32) (v_o_foundViews : Int32) (v_o_foundMany : Int32) (d_o_many : (Nat → Int32)) (d_o_views : (Nat → Int32)) (d_o_aisles : (Nat → Int32)) (d_p1 : (Nat → Int32)) : va_W := [(a_o, .inr (9, [.int v_o_thrown, .ref a_o_text, .int v_o_textSize, .int v_o_place, .int v_o_rows, .ref a_o_many, .ref a_o_views, .ref a_o_aisles, .int v_o_readRows, .ref a_o_readMany, .ref a_o_readViews, .ref a_o_readAisles, .ref a_o_readPage, .ref a_o_page, .ref a_o_trial, .ref a_o_book, .int v_o_doings, .ref a_o_kept, .ref a_o_isKept, .int v_o_seen, .ref a_o_seenSeat, .ref a_o_seenWas, .long v_o_seed, .int v_o_found, .int v_o_foundViews, .int v_o_foundMany])), (a_o_many, .inl (cI, (4, .inl d_o_many))), (a_o_views, .inl (cI, (36, .inl d_o_views))), (a_o_aisles, .inl (cZ, (36, .inl d_o_aisles))), (a_p1, .inl (cI, (229, .inl d_p1)))]
def fX9_returnOn_33 (v_o_rows : Int32) (v_o_found : Int32) (v_o_foundViews : Int32) (v_o_foundMany : Int32) (d_o_many : (Nat → Int32)) (d_o_views : (Nat → Int32)) (d_o_aisles : (Nat → Int32)) (d_p1 : (Nat → Int32)) (x3 : Int32) (k0 : Int32) : Option (Int32 × Int32 × Int32 × Int32 × (Nat → Int32)) := (if (x3 + (3 : Int32)) < 0 ∨ 229 ≤ ((x3 + (3 : Int32))).toNatClampNeg then none else (if (x3 + (4 : Int32)) < 0 ∨ 229 ≤ ((x3 + (4 : Int32))).toNatClampNeg then none else (if (x3 + (0 : Int32)) < 0 ∨ 229 ≤ ((x3 + (0 : Int32))).toNatClampNeg then none else ((fX9_lay (upd d_p1 (((5 : Int32)).toNatClampNeg) ((d_p1 ((5 : Int32)).toNatClampNeg) - k0)) ((upd d_p1 (((5 : Int32)).toNatClampNeg) ((d_p1 ((5 : Int32)).toNatClampNeg) - k0)) ((x3 + (3 : Int32))).toNatClampNeg) ((upd d_p1 (((5 : Int32)).toNatClampNeg) ((d_p1 ((5 : Int32)).toNatClampNeg) - k0)) ((x3 + (4 : Int32))).toNatClampNeg) ((upd d_p1 (((5 : Int32)).toNatClampNeg) ((d_p1 ((5 : Int32)).toNatClampNeg) - k0)) ((x3 + (0 : Int32))).toNatClampNeg) (0 : Int32)).bind fun q4 => (if (x3 + (2 : Int32)) < 0 ∨ 229 ≤ ((x3 + (2 : Int32))).toNatClampNeg then none else (if (x3 + (5 : Int32)) < 0 ∨ 229 ≤ ((x3 + (5 : Int32))).toNatClampNeg then none else ((fX9_letInOn v_o_rows v_o_found v_o_foundViews v_o_foundMany d_o_many d_o_views d_o_aisles (upd (upd q4 (((x3 + (2 : Int32))).toNatClampNeg) (0 : Int32)) (((x3 + (5 : Int32))).toNatClampNeg) (0 : Int32))).bind fun q8 => some (k0, q8.1, q8.2.1, q8.2.2.1, q8.2.2.2))))))))
set_option maxRecDepth 100000 in
set_option maxHeartbeats 4000000 in
theorem tX9_returnOn_33 {p : Program} {l : Launch} {e : Env} {s : State} {m : MethodId} {args : Array Value} {below : List Frame} {meth : Method} {c : Code} {D : va_G} {cI cJ cZ cB : ClassId} {a_o : Nat} {a_o_text : Nat} {a_o_many : Nat} {a_o_views : Nat} {a_o_aisles : Nat} {a_o_readMany : Nat} {a_o_readViews : Nat} {a_o_readAisles : Nat} {a_o_readPage : Nat} {a_o_page : Nat} {a_o_trial : Nat} {a_o_book : Nat} {a_o_kept : Nat} {a_o_isKept : Nat} {a_o_seenSeat : Nat} {a_o_seenWas : Nat} {a_p1 : Nat} {A : Nat → Prop} (C : Cx p s m args meth c cX9_returnOn 5 (some .int) wsX9_returnOn RX9) (hK : Kw D (tyL cI cJ cZ cB) s) (hA : ∀ q : Nat, s.heap.size ≤ q → A q) : ∀ (v_o_thrown : Int32) (v_o_textSize : Int32) (v_o_place : Int32) (v_o_rows : Int32) (v_o_readRows : Int32) (v_o_doings : Int32) (v_o_seen : Int32) (v_o_seed : Int64) (v_o_found : Int32) (v_o_foundViews : Int32) (v_o_foundMany : Int32) (d_o_many : (Nat → Int32)) (d_o_views : (Nat → Int32)) (d_o_aisles : (Nat → Int32)) (d_p1 : (Nat → Int32)) (x3 : Int32) (k0 : Int32) (H : Heap) (locs : List Loc) (ls : Array Slot) (res : Int32 × Int32 × Int32 × Int32 × (Nat → Int32)), va_P D vwCl (WX9_returnOn cI cJ cZ cB a_o a_o_text a_o_many a_o_views a_o_aisles a_o_readMany a_o_readViews a_o_readAisles a_o_readPage a_o_page a_o_trial a_o_book a_o_kept a_o_isKept a_o_seenSeat a_o_seenWas a_p1 v_o_thrown v_o_textSize v_o_place v_o_rows v_o_readRows v_o_doings v_o_seen v_o_seed v_o_found v_o_foundViews v_o_foundMany d_o_many d_o_views d_o_aisles d_p1) H → va_D A (WX9_returnOn cI cJ cZ cB a_o a_o_text a_o_many a_o_views a_o_aisles a_o_readMany a_o_readViews a_o_readAisles a_o_readPage a_o_page a_o_trial a_o_book a_o_kept a_o_isKept a_o_seenSeat a_o_seenWas a_p1 v_o_thrown v_o_textSize v_o_place v_o_rows v_o_readRows v_o_doings v_o_seen v_o_seed v_o_found v_o_foundViews v_o_foundMany d_o_many d_o_views d_o_aisles d_p1) → va_S A s.heap H locs → lv_has ls 5 [(0, .ref a_o), (1, .ref a_p1), (3, .int x3)] → fX9_returnOn_33 v_o_rows v_o_found v_o_foundViews v_o_foundMany d_o_many d_o_views d_o_aisles d_p1 x3 k0 = some res → W p l e ({ frames := 8, cells := 0, slots := 0, locals := 198 } : Room) s m args below meth c H locs 0 0 (MQ below (QRw D A (WX9_returnOn cI cJ cZ cB a_o a_o_text a_o_many a_o_views a_o_aisles a_o_readMany a_o_readViews a_o_readAisles a_o_readPage a_o_page a_o_trial a_o_book a_o_kept a_o_isKept a_o_seenSeat a_o_seenWas a_p1 v_o_thrown v_o_textSize v_o_place v_o_rows v_o_readRows v_o_doings v_o_seen v_o_seed res.2.1 res.2.2.1 res.2.2.2.1 d_o_many d_o_views d_o_aisles res.2.2.2.2) (some (.int res.1))) args s 0 0 A) (F0 m 33 ls [.int k0]) := by
  obtain ⟨hx, hb, hr, hml, hts, hown, hlk⟩ := id C
  intro v_o_thrown v_o_textSize v_o_place v_o_rows v_o_readRows v_o_doings v_o_seen v_o_seed v_o_found v_o_foundViews v_o_foundMany d_o_many d_o_views d_o_aisles d_p1 x3 k0 H locs ls res hP hD hS hl hf
  unfold fX9_returnOn_33 at hf
  refine lv_istore (lv' := [(4, .int k0), (0, .ref a_o), (1, .ref a_p1), (3, .int x3)]) hx hb dX9_returnOn_33 hl (by decide) rfl (fun ls hl => ?_)
  refine lv_aload_n hx hb dX9_returnOn_35 rfl (lv_at hl 2 rfl) ?_
  refine lv_iconst (v := (5 : Int32)) hx hb dX9_returnOn_36 (by decide) ?_
  refine lv_dup2_11 hx hb dX9_returnOn_37 rfl rfl ?_
  refine va_iald hx hb hK.1 hP 4 0 rfl rfl (show ¬ ((5 : Int32) < 0 ∨ 229 ≤ ((5 : Int32)).toNatClampNeg) by decide) dX9_returnOn_38 ?_
  refine lv_iload hx hb dX9_returnOn_39 (lv_at hl 0 rfl) ?_
  refine lv_isub hx hb dX9_returnOn_41 ?_
  refine va_iast hx hb hK.1 hP hD hS 4 0 rfl rfl (show ¬ ((5 : Int32) < 0 ∨ 229 ≤ ((5 : Int32)).toNatClampNeg) by decide) dX9_returnOn_42 (fun H locs hP hD hS => ?_)
  have hP : va_P D vwCl (WX9_returnOn cI cJ cZ cB a_o a_o_text a_o_many a_o_views a_o_aisles a_o_readMany a_o_readViews a_o_readAisles a_o_readPage a_o_page a_o_trial a_o_book a_o_kept a_o_isKept a_o_seenSeat a_o_seenWas a_p1 v_o_thrown v_o_textSize v_o_place v_o_rows v_o_readRows v_o_doings v_o_seen v_o_seed v_o_found v_o_foundViews v_o_foundMany d_o_many d_o_views d_o_aisles (upd d_p1 (((5 : Int32)).toNatClampNeg) ((d_p1 ((5 : Int32)).toNatClampNeg) - k0))) H := hP
  have hD : va_D A (WX9_returnOn cI cJ cZ cB a_o a_o_text a_o_many a_o_views a_o_aisles a_o_readMany a_o_readViews a_o_readAisles a_o_readPage a_o_page a_o_trial a_o_book a_o_kept a_o_isKept a_o_seenSeat a_o_seenWas a_p1 v_o_thrown v_o_textSize v_o_place v_o_rows v_o_readRows v_o_doings v_o_seen v_o_seed v_o_found v_o_foundViews v_o_foundMany d_o_many d_o_views d_o_aisles (upd d_p1 (((5 : Int32)).toNatClampNeg) ((d_p1 ((5 : Int32)).toNatClampNeg) - k0))) := hD
  refine lv_aload_n hx hb dX9_returnOn_43 rfl (lv_at hl 2 rfl) ?_
  refine lv_aload_n hx hb dX9_returnOn_44 rfl (lv_at hl 2 rfl) ?_
  refine lv_iload_n hx hb dX9_returnOn_45 rfl (lv_at hl 3 rfl) ?_
  refine lv_iconst (v := (3 : Int32)) hx hb dX9_returnOn_46 (by decide) ?_
  refine lv_iadd hx hb dX9_returnOn_47 ?_
  obtain ⟨hg1, hf⟩ := pf_x hf
  refine va_iald hx hb hK.1 hP 4 0 rfl rfl hg1 dX9_returnOn_48 ?_
  refine lv_aload_n hx hb dX9_returnOn_49 rfl (lv_at hl 2 rfl) ?_
  refine lv_iload_n hx hb dX9_returnOn_50 rfl (lv_at hl 3 rfl) ?_
  refine lv_iconst (v := (4 : Int32)) hx hb dX9_returnOn_51 (by decide) ?_
  refine lv_iadd hx hb dX9_returnOn_52 ?_
  obtain ⟨hg2, hf⟩ := pf_x hf
  refine va_iald hx hb hK.1 hP 4 0 rfl rfl hg2 dX9_returnOn_53 ?_
  refine lv_aload_n hx hb dX9_returnOn_54 rfl (lv_at hl 2 rfl) ?_
  refine lv_iload_n hx hb dX9_returnOn_55 rfl (lv_at hl 3 rfl) ?_
  refine lv_iconst (v := (0 : Int32)) hx hb dX9_returnOn_56 (by decide) ?_
  refine lv_iadd hx hb dX9_returnOn_57 ?_
  obtain ⟨hg3, hf⟩ := pf_x hf
  refine va_iald hx hb hK.1 hP 4 0 rfl rfl hg3 dX9_returnOn_58 ?_
  refine lv_iconst (v := (0 : Int32)) hx hb dX9_returnOn_59 (by decide) ?_
  obtain ⟨q4, hq5, hf⟩ := pf_b hf
  have hPc := hP.sub (ws' := (WX9_lay cI cJ cZ cB a_p1 (upd d_p1 (((5 : Int32)).toNatClampNeg) ((d_p1 ((5 : Int32)).toNatClampNeg) - k0)))) [4] rfl
  have hDc := hD.sub (ws' := (WX9_lay cI cJ cZ cB a_p1 (upd d_p1 (((5 : Int32)).toNatClampNeg) ((d_p1 ((5 : Int32)).toNatClampNeg) - k0)))) [4] (by decide) rfl
  refine cl_rwv (wr := [(a_o, .inr (9, [.int v_o_thrown, .ref a_o_text, .int v_o_textSize, .int v_o_place, .int v_o_rows, .ref a_o_many, .ref a_o_views, .ref a_o_aisles, .int v_o_readRows, .ref a_o_readMany, .ref a_o_readViews, .ref a_o_readAisles, .ref a_o_readPage, .ref a_o_page, .ref a_o_trial, .ref a_o_book, .int v_o_doings, .ref a_o_kept, .ref a_o_isKept, .int v_o_seen, .ref a_o_seenSeat, .ref a_o_seenWas, .long v_o_seed, .int v_o_found, .int v_o_foundViews, .int v_o_foundMany])), (a_o_many, .inl (cI, (4, .inl d_o_many))), (a_o_views, .inl (cI, (36, .inl d_o_views))), (a_o_aisles, .inl (cZ, (36, .inl d_o_aisles)))]) (wsN := (WX9_returnOn cI cJ cZ cB a_o a_o_text a_o_many a_o_views a_o_aisles a_o_readMany a_o_readViews a_o_readAisles a_o_readPage a_o_page a_o_trial a_o_book a_o_kept a_o_isKept a_o_seenSeat a_o_seenWas a_p1 v_o_thrown v_o_textSize v_o_place v_o_rows v_o_readRows v_o_doings v_o_seen v_o_seed v_o_found v_o_foundViews v_o_foundMany d_o_many d_o_views d_o_aisles q4)) (va_runS (As := [.ref a_p1, .int ((upd d_p1 (((5 : Int32)).toNatClampNeg) ((d_p1 ((5 : Int32)).toNatClampNeg) - k0)) ((x3 + (3 : Int32))).toNatClampNeg), .int ((upd d_p1 (((5 : Int32)).toNatClampNeg) ((d_p1 ((5 : Int32)).toNatClampNeg) - k0)) ((x3 + (4 : Int32))).toNatClampNeg), .int ((upd d_p1 (((5 : Int32)).toNatClampNeg) ((d_p1 ((5 : Int32)).toNatClampNeg) - k0)) ((x3 + (0 : Int32))).toNatClampNeg), .int (0 : Int32)]) (rest := []) ⟨hx, hb, hml, hown, hts⟩ ((kX9_lay l D cI cJ cZ cB a_p1 (upd d_p1 (((5 : Int32)).toNatClampNeg) ((d_p1 ((5 : Int32)).toNatClampNeg) - k0)) ((upd d_p1 (((5 : Int32)).toNatClampNeg) ((d_p1 ((5 : Int32)).toNatClampNeg) - k0)) ((x3 + (3 : Int32))).toNatClampNeg) ((upd d_p1 (((5 : Int32)).toNatClampNeg) ((d_p1 ((5 : Int32)).toNatClampNeg) - k0)) ((x3 + (4 : Int32))).toNatClampNeg) ((upd d_p1 (((5 : Int32)).toNatClampNeg) ((d_p1 ((5 : Int32)).toNatClampNeg) - k0)) ((x3 + (0 : Int32))).toNatClampNeg) (0 : Int32) q4 hq5) _) (va_cwS 5 hts gX9_returnOn_X9_lay rfl rfl rfl (by decide +kernel) ⟨Nat.le_of_ble_eq_true rfl, Nat.le_of_ble_eq_true rfl⟩) ⟨PRw.blind, PRw.at hK hPc hDc⟩ rfl rfl hl.1 rfl (lv_room (Nat.le_of_ble_eq_true rfl)) dX9_returnOn_60 ⟨Nat.zero_le _, Nat.zero_le _⟩) hP hD hS hA [4] [0, 1, 2, 3] [0, 1, 2, 3, 4] rfl rfl (by decide) (by decide) rfl (by decide) (fun H locs hP hD hS => ?_)
  refine lv_aload_n hx hb dX9_returnOn_63 rfl (lv_at hl 2 rfl) ?_
  refine lv_iload_n hx hb dX9_returnOn_64 rfl (lv_at hl 3 rfl) ?_
  refine lv_iconst (v := (2 : Int32)) hx hb dX9_returnOn_65 (by decide) ?_
  refine lv_iadd hx hb dX9_returnOn_66 ?_
  refine lv_iconst (v := (0 : Int32)) hx hb dX9_returnOn_67 (by decide) ?_
  obtain ⟨hg6, hf⟩ := pf_x hf
  refine va_iast hx hb hK.1 hP hD hS 4 0 rfl rfl hg6 dX9_returnOn_68 (fun H locs hP hD hS => ?_)
  have hP : va_P D vwCl (WX9_returnOn cI cJ cZ cB a_o a_o_text a_o_many a_o_views a_o_aisles a_o_readMany a_o_readViews a_o_readAisles a_o_readPage a_o_page a_o_trial a_o_book a_o_kept a_o_isKept a_o_seenSeat a_o_seenWas a_p1 v_o_thrown v_o_textSize v_o_place v_o_rows v_o_readRows v_o_doings v_o_seen v_o_seed v_o_found v_o_foundViews v_o_foundMany d_o_many d_o_views d_o_aisles (upd q4 (((x3 + (2 : Int32))).toNatClampNeg) (0 : Int32))) H := hP
  have hD : va_D A (WX9_returnOn cI cJ cZ cB a_o a_o_text a_o_many a_o_views a_o_aisles a_o_readMany a_o_readViews a_o_readAisles a_o_readPage a_o_page a_o_trial a_o_book a_o_kept a_o_isKept a_o_seenSeat a_o_seenWas a_p1 v_o_thrown v_o_textSize v_o_place v_o_rows v_o_readRows v_o_doings v_o_seen v_o_seed v_o_found v_o_foundViews v_o_foundMany d_o_many d_o_views d_o_aisles (upd q4 (((x3 + (2 : Int32))).toNatClampNeg) (0 : Int32))) := hD
  refine lv_aload_n hx hb dX9_returnOn_69 rfl (lv_at hl 2 rfl) ?_
  refine lv_iload_n hx hb dX9_returnOn_70 rfl (lv_at hl 3 rfl) ?_
  refine lv_iconst (v := (5 : Int32)) hx hb dX9_returnOn_71 (by decide) ?_
  refine lv_iadd hx hb dX9_returnOn_72 ?_
  refine lv_iconst (v := (0 : Int32)) hx hb dX9_returnOn_73 (by decide) ?_
  obtain ⟨hg7, hf⟩ := pf_x hf
  refine va_iast hx hb hK.1 hP hD hS 4 0 rfl rfl hg7 dX9_returnOn_74 (fun H locs hP hD hS => ?_)
  have hP : va_P D vwCl (WX9_returnOn cI cJ cZ cB a_o a_o_text a_o_many a_o_views a_o_aisles a_o_readMany a_o_readViews a_o_readAisles a_o_readPage a_o_page a_o_trial a_o_book a_o_kept a_o_isKept a_o_seenSeat a_o_seenWas a_p1 v_o_thrown v_o_textSize v_o_place v_o_rows v_o_readRows v_o_doings v_o_seen v_o_seed v_o_found v_o_foundViews v_o_foundMany d_o_many d_o_views d_o_aisles (upd (upd q4 (((x3 + (2 : Int32))).toNatClampNeg) (0 : Int32)) (((x3 + (5 : Int32))).toNatClampNeg) (0 : Int32))) H := hP
  have hD : va_D A (WX9_returnOn cI cJ cZ cB a_o a_o_text a_o_many a_o_views a_o_aisles a_o_readMany a_o_readViews a_o_readAisles a_o_readPage a_o_page a_o_trial a_o_book a_o_kept a_o_isKept a_o_seenSeat a_o_seenWas a_p1 v_o_thrown v_o_textSize v_o_place v_o_rows v_o_readRows v_o_doings v_o_seen v_o_seed v_o_found v_o_foundViews v_o_foundMany d_o_many d_o_views d_o_aisles (upd (upd q4 (((x3 + (2 : Int32))).toNatClampNeg) (0 : Int32)) (((x3 + (5 : Int32))).toNatClampNeg) (0 : Int32))) := hD
  refine lv_aload_n hx hb dX9_returnOn_75 rfl (lv_at hl 1 rfl) ?_
  refine lv_aload_n hx hb dX9_returnOn_76 rfl (lv_at hl 2 rfl) ?_
  obtain ⟨q8, hq9, hf⟩ := pf_b hf
  have hPc := hP.sub (ws' := (WX9_letInOn cI cJ cZ cB a_o a_o_text a_o_many a_o_views a_o_aisles a_o_readMany a_o_readViews a_o_readAisles a_o_readPage a_o_page a_o_trial a_o_book a_o_kept a_o_isKept a_o_seenSeat a_o_seenWas a_p1 v_o_thrown v_o_textSize v_o_place v_o_rows v_o_readRows v_o_doings v_o_seen v_o_seed v_o_found v_o_foundViews v_o_foundMany d_o_many d_o_views d_o_aisles (upd (upd q4 (((x3 + (2 : Int32))).toNatClampNeg) (0 : Int32)) (((x3 + (5 : Int32))).toNatClampNeg) (0 : Int32)))) [0, 1, 2, 3, 4] rfl
  have hDc := hD.sub (ws' := (WX9_letInOn cI cJ cZ cB a_o a_o_text a_o_many a_o_views a_o_aisles a_o_readMany a_o_readViews a_o_readAisles a_o_readPage a_o_page a_o_trial a_o_book a_o_kept a_o_isKept a_o_seenSeat a_o_seenWas a_p1 v_o_thrown v_o_textSize v_o_place v_o_rows v_o_readRows v_o_doings v_o_seen v_o_seed v_o_found v_o_foundViews v_o_foundMany d_o_many d_o_views d_o_aisles (upd (upd q4 (((x3 + (2 : Int32))).toNatClampNeg) (0 : Int32)) (((x3 + (5 : Int32))).toNatClampNeg) (0 : Int32)))) [0, 1, 2, 3, 4] (by decide) rfl
  refine cl_rwv (wr := []) (wsN := (WX9_returnOn cI cJ cZ cB a_o a_o_text a_o_many a_o_views a_o_aisles a_o_readMany a_o_readViews a_o_readAisles a_o_readPage a_o_page a_o_trial a_o_book a_o_kept a_o_isKept a_o_seenSeat a_o_seenWas a_p1 v_o_thrown v_o_textSize v_o_place v_o_rows v_o_readRows v_o_doings v_o_seen v_o_seed q8.1 q8.2.1 q8.2.2.1 d_o_many d_o_views d_o_aisles q8.2.2.2)) (va_runV (As := [.ref a_p1]) (rest := []) ⟨hx, hb, hml, hown, hts⟩ ((kX9_letInOn l D cI cJ cZ cB a_o a_o_text a_o_many a_o_views a_o_aisles a_o_readMany a_o_readViews a_o_readAisles a_o_readPage a_o_page a_o_trial a_o_book a_o_kept a_o_isKept a_o_seenSeat a_o_seenWas a_p1 v_o_thrown v_o_textSize v_o_place v_o_rows v_o_readRows v_o_doings v_o_seen v_o_seed v_o_found v_o_foundViews v_o_foundMany d_o_many d_o_views d_o_aisles (upd (upd q4 (((x3 + (2 : Int32))).toNatClampNeg) (0 : Int32)) (((x3 + (5 : Int32))).toNatClampNeg) (0 : Int32)) q8 hq9) _) (cwV 1 hts gX9_returnOn_X9_letInOn rfl rfl rfl (by decide +kernel) ⟨Nat.le_of_ble_eq_true rfl, Nat.le_of_ble_eq_true rfl⟩) ⟨PRw.blind, va_recv hK.1 hPc (ci := 9) (q0 := 0) rfl rfl, PRw.at hK hPc hDc⟩ rfl rfl hl.1 rfl (lv_room (Nat.le_of_ble_eq_true rfl)) dX9_returnOn_77 ⟨Nat.zero_le _, Nat.zero_le _⟩) hP hD hS hA [0, 1, 2, 3, 4] [] [0, 1, 2, 3, 4] rfl rfl (by decide) (by decide) rfl (by decide) (fun H locs hP hD hS => ?_)
  refine lv_iload hx hb dX9_returnOn_80 (lv_at hl 0 rfl) ?_
  cases hf
  exact W.iret hx hb hr (fun t ht hW => ⟨⟨rfl, by rw [ht]; exact hP, hD⟩, hS.F ht⟩) hS.2.2 dX9_returnOn_82
def fX9_returnOn (v_o_rows : Int32) (v_o_found : Int32) (v_o_foundViews : Int32) (v_o_foundMany : Int32) (d_o_many : (Nat → Int32)) (d_o_views : (Nat → Int32)) (d_o_aisles : (Nat → Int32)) (d_p1 : (Nat → Int32)) (x2 : Int32) : Option (Int32 × Int32 × Int32 × Int32 × (Nat → Int32)) := ((fX9_at x2).bind fun q1 => (if (q1 + (5 : Int32)) < 0 ∨ 229 ≤ ((q1 + (5 : Int32))).toNatClampNeg then none else (if (q1 + (0 : Int32)) < 0 ∨ 229 ≤ ((q1 + (0 : Int32))).toNatClampNeg then none else (if 0 ≤ ((d_p1 ((q1 + (5 : Int32))).toNatClampNeg) - ((d_p1 ((q1 + (0 : Int32))).toNatClampNeg) * (d_p1 ((4 : Int32)).toNatClampNeg))) then fX9_returnOn_33 v_o_rows v_o_found v_o_foundViews v_o_foundMany d_o_many d_o_views d_o_aisles d_p1 q1 ((d_p1 ((q1 + (5 : Int32))).toNatClampNeg) - ((d_p1 ((q1 + (0 : Int32))).toNatClampNeg) * (d_p1 ((4 : Int32)).toNatClampNeg))) else fX9_returnOn_33 v_o_rows v_o_found v_o_foundViews v_o_foundMany d_o_many d_o_views d_o_aisles d_p1 q1 (0 : Int32)))))
set_option maxRecDepth 100000 in
set_option maxHeartbeats 4000000 in
theorem kX9_returnOn (l : Launch) (D : va_G) (cI cJ cZ cB : ClassId) (a_o : Nat) (a_o_text : Nat) (a_o_many : Nat) (a_o_views : Nat) (a_o_aisles : Nat) (a_o_readMany : Nat) (a_o_readViews : Nat) (a_o_readAisles : Nat) (a_o_readPage : Nat) (a_o_page : Nat) (a_o_trial : Nat) (a_o_book : Nat) (a_o_kept : Nat) (a_o_isKept : Nat) (a_o_seenSeat : Nat) (a_o_seenWas : Nat) (a_p1 : Nat) (v_o_thrown : Int32) (v_o_textSize : Int32) (v_o_place : Int32) (v_o_rows : Int32) (v_o_readRows : Int32) (v_o_doings : Int32) (v_o_seen : Int32) (v_o_seed : Int64) (v_o_found : Int32) (v_o_foundViews : Int32) (v_o_foundMany : Int32) (d_o_many : (Nat → Int32)) (d_o_views : (Nat → Int32)) (d_o_aisles : (Nat → Int32)) (d_p1 : (Nat → Int32)) (x2 : Int32) (res : Int32 × Int32 × Int32 × Int32 × (Nat → Int32)) (hf : fX9_returnOn v_o_rows v_o_found v_o_foundViews v_o_foundMany d_o_many d_o_views d_o_aisles d_p1 x2 = some res) : Rw l yX9_returnOn wsX9_returnOn ({ frames := 8, cells := 0, slots := 0, locals := 198 } : Room) D (tyL cI cJ cZ cB) [.ref a_o, .ref a_p1, .int x2] (WX9_returnOn cI cJ cZ cB a_o a_o_text a_o_many a_o_views a_o_aisles a_o_readMany a_o_readViews a_o_readAisles a_o_readPage a_o_page a_o_trial a_o_book a_o_kept a_o_isKept a_o_seenSeat a_o_seenWas a_p1 v_o_thrown v_o_textSize v_o_place v_o_rows v_o_readRows v_o_doings v_o_seen v_o_seed v_o_found v_o_foundViews v_o_foundMany d_o_many d_o_views d_o_aisles d_p1) (some (.int res.1)) (WX9_returnOn cI cJ cZ cB a_o a_o_text a_o_many a_o_views a_o_aisles a_o_readMany a_o_readViews a_o_readAisles a_o_readPage a_o_page a_o_trial a_o_book a_o_kept a_o_isKept a_o_seenSeat a_o_seenWas a_p1 v_o_thrown v_o_textSize v_o_place v_o_rows v_o_readRows v_o_doings v_o_seen v_o_seed res.2.1 res.2.2.1 res.2.2.2.1 d_o_many d_o_views d_o_aisles res.2.2.2.2) := by
  refine Rw.of (cc := cX9_returnOn) (maxL := 5) (ret := (some .int)) (own := RX9) (by decide) rfl rfl (Nat.le_of_ble_eq_true rfl) ?_
  intro p e s m below meth c A ls C hK hA hP hD hS hl
  obtain ⟨hx, hb, hr, hml, hts, hown, hlk⟩ := id C
  have hl : lv_has ls 5 [(0, .ref a_o), (1, .ref a_p1), (2, .int x2)] := hl
  unfold fX9_returnOn at hf
  refine lv_iload_n hx hb dX9_returnOn_0 rfl (lv_at hl 2 rfl) ?_
  obtain ⟨q1, hq2, hf⟩ := pf_b hf
  have hPc := hP.sub (ws' := ([] : va_W)) [] rfl
  refine cl_roi (va_runS (As := [.int x2]) (rest := []) ⟨hx, hb, hml, hown, hts⟩ (kX9_at l D cI cJ cZ cB x2 q1 hq2) (va_cwS 1 hts gX9_returnOn_X9_at rfl rfl rfl (by decide +kernel) ⟨Nat.le_of_ble_eq_true rfl, Nat.le_of_ble_eq_true rfl⟩) ⟨PRo.blind, PRo.at hK hPc⟩ rfl rfl hl.1 rfl (lv_room (Nat.le_of_ble_eq_true rfl)) dX9_returnOn_1 ⟨Nat.zero_le _, Nat.zero_le _⟩) ?_
  refine lv_istore_n (lv' := [(3, .int q1), (0, .ref a_o), (1, .ref a_p1), (2, .int x2)]) hx hb dX9_returnOn_4 rfl hl (by decide) rfl (fun ls hl => ?_)
  refine lv_aload_n hx hb dX9_returnOn_5 rfl (lv_at hl 2 rfl) ?_
  refine lv_iload_n hx hb dX9_returnOn_6 rfl (lv_at hl 0 rfl) ?_
  refine lv_iconst (v := (5 : Int32)) hx hb dX9_returnOn_7 (by decide) ?_
  refine lv_iadd hx hb dX9_returnOn_8 ?_
  obtain ⟨hg3, hf⟩ := pf_x hf
  refine va_iald hx hb hK.1 hP 4 0 rfl rfl hg3 dX9_returnOn_9 ?_
  refine lv_aload_n hx hb dX9_returnOn_10 rfl (lv_at hl 2 rfl) ?_
  refine lv_iload_n hx hb dX9_returnOn_11 rfl (lv_at hl 0 rfl) ?_
  refine lv_iconst (v := (0 : Int32)) hx hb dX9_returnOn_12 (by decide) ?_
  refine lv_iadd hx hb dX9_returnOn_13 ?_
  obtain ⟨hg4, hf⟩ := pf_x hf
  refine va_iald hx hb hK.1 hP 4 0 rfl rfl hg4 dX9_returnOn_14 ?_
  refine lv_aload_n hx hb dX9_returnOn_15 rfl (lv_at hl 2 rfl) ?_
  refine lv_iconst (v := (4 : Int32)) hx hb dX9_returnOn_16 (by decide) ?_
  refine va_iald hx hb hK.1 hP 4 0 rfl rfl (show ¬ ((4 : Int32) < 0 ∨ 229 ≤ ((4 : Int32)).toNatClampNeg) by decide) dX9_returnOn_17 ?_
  refine lv_imul hx hb dX9_returnOn_18 ?_
  refine lv_isub hx hb dX9_returnOn_19 ?_
  refine lv_istore (lv' := [(4, .int ((d_p1 ((q1 + (5 : Int32))).toNatClampNeg) - ((d_p1 ((q1 + (0 : Int32))).toNatClampNeg) * (d_p1 ((4 : Int32)).toNatClampNeg)))), (3, .int q1), (0, .ref a_o), (1, .ref a_p1), (2, .int x2)]) hx hb dX9_returnOn_20 hl (by decide) rfl (fun ls hl => ?_)
  refine lv_iload hx hb dX9_returnOn_22 (lv_at hl 0 rfl) ?_
  refine lv_if_ge (tgt := 31) hx hb dX9_returnOn_24 (by decide) (fun hc => ?_) (fun hc => ?_)
  · have hf := pf_t hc hf
    refine lv_iload hx hb dX9_returnOn_31 (lv_at hl 0 rfl) ?_
    exact tX9_returnOn_33 C hK hA  v_o_thrown v_o_textSize v_o_place v_o_rows v_o_readRows v_o_doings v_o_seen v_o_seed v_o_found v_o_foundViews v_o_foundMany d_o_many d_o_views d_o_aisles d_p1 q1 ((d_p1 ((q1 + (5 : Int32))).toNatClampNeg) - ((d_p1 ((q1 + (0 : Int32))).toNatClampNeg) * (d_p1 ((4 : Int32)).toNatClampNeg))) _ _ ls _ hP hD hS (lv_sub hl [2, 3, 1] rfl) hf
  · have hf := pf_f hc hf
    refine lv_iconst (v := (0 : Int32)) hx hb dX9_returnOn_27 (by decide) ?_
    refine lv_goto (tgt := 33) hx hb dX9_returnOn_28 (by decide) ?_
    exact tX9_returnOn_33 C hK hA  v_o_thrown v_o_textSize v_o_place v_o_rows v_o_readRows v_o_doings v_o_seen v_o_seed v_o_found v_o_foundViews v_o_foundMany d_o_many d_o_views d_o_aisles d_p1 q1 (0 : Int32) _ _ ls _ hP hD hS (lv_sub hl [2, 3, 1] rfl) hf
abbrev WX9_seated (cI cJ cZ cB : ClassId) (a_o : Nat) (d_o : (Nat → Int32)) : va_W := [(a_o, .inl (cI, (229, .inl d_o)))]
def fX9_seated_4 : Nat → (Nat → Int32) → Int32 → Int32 → Option (Int32)
  | 0, _, _, _ => none
  | n + 1, d_o, x1, x2 => (if (d_o ((6 : Int32)).toNatClampNeg) < x2 then some x1 else ((fX9_at x2).bind fun q1 => (if (q1 + (2 : Int32)) < 0 ∨ 229 ≤ ((q1 + (2 : Int32))).toNatClampNeg then none else (if (d_o ((q1 + (2 : Int32))).toNatClampNeg) = (1 : Int32) then fX9_seated_4 n d_o (x1 + (1 : Int32)) (x2 + (1 : Int32)) else fX9_seated_4 n d_o (x1 + (0 : Int32)) (x2 + (1 : Int32))))))
set_option maxRecDepth 100000 in
set_option maxHeartbeats 4000000 in
theorem tX9_seated_4 {p : Program} {l : Launch} {e : Env} {s : State} {m : MethodId} {args : Array Value} {below : List Frame} {meth : Method} {c : Code} {D : va_G} {cI cJ cZ cB : ClassId} {a_o : Nat} (C : Cx p s m args meth c cX9_seated 3 (some .int) wsX9_seated RX9) (hK : Kw D (tyL cI cJ cZ cB) s) : ∀ (n : Nat), ∀ (d_o : (Nat → Int32)) (x1 : Int32) (x2 : Int32) (ls : Array Slot) (res : Int32), va_P D vwCl (WX9_seated cI cJ cZ cB a_o d_o) s.heap → lv_has ls 3 [(0, .ref a_o), (1, .int x1), (2, .int x2)] → fX9_seated_4 n d_o x1 x2 = some res → W p l e ({ frames := 1, cells := 0, slots := 0, locals := 20 } : Room) s m args below meth c s.heap [] 0 0 (MQ below (QRo (some (.int res))) args s 0 0 (fun _ => False)) (F0 m 4 ls []) := by
  obtain ⟨hx, hb, hr, hml, hts, hown, hlk⟩ := id C
  intro n
  induction n with
  | zero =>
    intro d_o x1 x2 ls res hP hl hf
    rw [fX9_seated_4] at hf
    cases hf
  | succ n ih =>
    intro d_o x1 x2 ls res hP hl hf
    rw [fX9_seated_4] at hf
    refine lv_iload_n hx hb dX9_seated_4 rfl (lv_at hl 2 rfl) ?_
    refine lv_aload_n hx hb dX9_seated_5 rfl (lv_at hl 0 rfl) ?_
    refine lv_bipush (v := (6 : Int32)) hx hb dX9_seated_6 (by decide) ?_
    refine va_iald hx hb hK.1 hP 0 0 rfl rfl (show ¬ ((6 : Int32) < 0 ∨ 229 ≤ ((6 : Int32)).toNatClampNeg) by decide) dX9_seated_8 ?_
    refine lv_icmp_gt (tgt := 38) hx hb dX9_seated_9 (by decide) (fun hc => ?_) (fun hc => ?_)
    · have hf := pf_t hc hf
      refine lv_iload_n hx hb dX9_seated_38 rfl (lv_at hl 1 rfl) ?_
      cases hf
      exact W.iret hx hb hr (fun t ht hW => ⟨rfl, ht⟩) (fun _ h => absurd h List.not_mem_nil) dX9_seated_39
    · have hf := pf_f hc hf
      refine lv_iload_n hx hb dX9_seated_12 rfl (lv_at hl 1 rfl) ?_
      refine lv_aload_n hx hb dX9_seated_13 rfl (lv_at hl 0 rfl) ?_
      refine lv_iload_n hx hb dX9_seated_14 rfl (lv_at hl 2 rfl) ?_
      obtain ⟨q1, hq2, hf⟩ := pf_b hf
      have hPc := hP.sub (ws' := ([] : va_W)) [] rfl
      refine cl_roi (va_runS (As := [.int x2]) (rest := [.ref a_o, .int x1]) ⟨hx, hb, hml, hown, hts⟩ (kX9_at l D cI cJ cZ cB x2 q1 hq2) (va_cwS 1 hts gX9_seated_X9_at rfl rfl rfl (by decide +kernel) ⟨Nat.le_of_ble_eq_true rfl, Nat.le_of_ble_eq_true rfl⟩) ⟨PRo.blind, PRo.at hK hPc⟩ rfl rfl hl.1 rfl (lv_room (Nat.le_of_ble_eq_true rfl)) dX9_seated_15 ⟨Nat.zero_le _, Nat.zero_le _⟩) ?_
      refine lv_iconst (v := (2 : Int32)) hx hb dX9_seated_18 (by decide) ?_
      refine lv_iadd hx hb dX9_seated_19 ?_
      obtain ⟨hg3, hf⟩ := pf_x hf
      refine va_iald hx hb hK.1 hP 0 0 rfl rfl hg3 dX9_seated_20 ?_
      refine lv_iconst (v := (1 : Int32)) hx hb dX9_seated_21 (by decide) ?_
      refine lv_icmp_ne (tgt := 29) hx hb dX9_seated_22 (by decide) (fun hc => ?_) (fun hc => ?_)
      · have hf := pf_f hc hf
        refine lv_iconst (v := (0 : Int32)) hx hb dX9_seated_29 (by decide) ?_
        refine lv_iadd hx hb dX9_seated_30 ?_
        refine lv_istore_n (lv' := [(1, .int (x1 + (0 : Int32))), (0, .ref a_o), (2, .int x2)]) hx hb dX9_seated_31 rfl hl (by decide) rfl (fun ls hl => ?_)
        refine lv_iinc (v := (x2 + (1 : Int32))) (lv' := [(2, .int (x2 + (1 : Int32))), (1, .int (x1 + (0 : Int32))), (0, .ref a_o)]) hx hb dX9_seated_32 hl (k := 2) rfl rfl (by decide) rfl (fun ls hl => ?_)
        refine lv_goto (tgt := 4) hx hb dX9_seated_35 (by decide) ?_
        exact ih d_o (x1 + (0 : Int32)) (x2 + (1 : Int32)) ls _ hP (lv_sub hl [2, 1, 0] rfl) hf
      · have hf := pf_t hc hf
        refine lv_iconst (v := (1 : Int32)) hx hb dX9_seated_25 (by decide) ?_
        refine lv_goto (tgt := 30) hx hb dX9_seated_26 (by decide) ?_
        refine lv_iadd hx hb dX9_seated_30 ?_
        refine lv_istore_n (lv' := [(1, .int (x1 + (1 : Int32))), (0, .ref a_o), (2, .int x2)]) hx hb dX9_seated_31 rfl hl (by decide) rfl (fun ls hl => ?_)
        refine lv_iinc (v := (x2 + (1 : Int32))) (lv' := [(2, .int (x2 + (1 : Int32))), (1, .int (x1 + (1 : Int32))), (0, .ref a_o)]) hx hb dX9_seated_32 hl (k := 2) rfl rfl (by decide) rfl (fun ls hl => ?_)
        refine lv_goto (tgt := 4) hx hb dX9_seated_35 (by decide) ?_
        exact ih d_o (x1 + (1 : Int32)) (x2 + (1 : Int32)) ls _ hP (lv_sub hl [2, 1, 0] rfl) hf
def fX9_seated (d_o : (Nat → Int32)) : Option (Int32) := fX9_seated_4 FU d_o (0 : Int32) (1 : Int32)
set_option maxRecDepth 100000 in
set_option maxHeartbeats 4000000 in
theorem kX9_seated (l : Launch) (D : va_G) (cI cJ cZ cB : ClassId) (a_o : Nat) (d_o : (Nat → Int32)) (res : Int32) (hf : fX9_seated d_o = some res) : Ro l yX9_seated wsX9_seated ({ frames := 1, cells := 0, slots := 0, locals := 20 } : Room) D (tyL cI cJ cZ cB) [.ref a_o] (WX9_seated cI cJ cZ cB a_o d_o) (some (.int res)) := by
  refine Ro.of (cc := cX9_seated) (maxL := 3) (ret := (some .int)) (own := RX9) (by decide) rfl rfl (Nat.le_of_ble_eq_true rfl) ?_
  intro p e s m below meth c ls C hK hP hl
  obtain ⟨hx, hb, hr, hml, hts, hown, hlk⟩ := id C
  have hl : lv_has ls 3 [(0, .ref a_o)] := hl
  unfold fX9_seated at hf
  refine lv_iconst (v := (0 : Int32)) hx hb dX9_seated_0 (by decide) ?_
  refine lv_istore_n (lv' := [(1, .int (0 : Int32)), (0, .ref a_o)]) hx hb dX9_seated_1 rfl hl (by decide) rfl (fun ls hl => ?_)
  refine lv_iconst (v := (1 : Int32)) hx hb dX9_seated_2 (by decide) ?_
  refine lv_istore_n (lv' := [(2, .int (1 : Int32)), (1, .int (0 : Int32)), (0, .ref a_o)]) hx hb dX9_seated_3 rfl hl (by decide) rfl (fun ls hl => ?_)
  exact tX9_seated_4 C hK  FU d_o (0 : Int32) (1 : Int32) ls _ hP (lv_sub hl [2, 1, 0] rfl) hf
abbrev WX9_row (cI cJ cZ cB : ClassId) (a_o : Nat) (a_o_text : Nat) (a_o_many : Nat) (a_o_views : Nat) (a_o_aisles : Nat) (a_o_readMany : Nat) (a_o_readViews : Nat) (a_o_readAisles : Nat) (a_o_readPage : Nat) (a_o_page : Nat) (a_o_trial : Nat) (a_o_book : Nat) (a_o_kept : Nat) (a_o_isKept : Nat) (a_o_seenSeat : Nat) (a_o_seenWas : Nat) (v_o_thrown : Int32) (v_o_textSize : Int32) (v_o_place : Int32) (v_o_rows : Int32) (v_o_readRows : Int32) (v_o_doings : Int32) (v_o_seen : Int32) (v_o_seed : Int64) (v_o_found : Int32) (v_o_foundViews : Int32) (v_o_foundMany : Int32) (d_o_many : (Nat → Int32)) (d_o_aisles : (Nat → Int32)) (d_o_page : (Nat → Int32)) : va_W := [(a_o, .inr (9, [.int v_o_thrown, .ref a_o_text, .int v_o_textSize, .int v_o_place, .int v_o_rows, .ref a_o_many, .ref a_o_views, .ref a_o_aisles, .int v_o_readRows, .ref a_o_readMany, .ref a_o_readViews, .ref a_o_readAisles, .ref a_o_readPage, .ref a_o_page, .ref a_o_trial, .ref a_o_book, .int v_o_doings, .ref a_o_kept, .ref a_o_isKept, .int v_o_seen, .ref a_o_seenSeat, .ref a_o_seenWas, .long v_o_seed, .int v_o_found, .int v_o_foundViews, .int v_o_foundMany])), (a_o_many, .inl (cI, (4, .inl d_o_many))), (a_o_aisles, .inl (cZ, (36, .inl d_o_aisles))), (a_o_page, .inl (cI, (229, .inl d_o_page)))]
set_option maxRecDepth 20000 in
theorem iX9_row_X9 : ∀ w ∈ wsX90, w ∈ wsX9_row := by decide +kernel
def fX9_row_73 : Nat → Int32 → Int32 → (Nat → Int32) → (Nat → Int32) → (Nat → Int32) → Int32 → Int32 → Int32 → Option (Int32 × Int32)
  | 0, _, _, _, _, _, _, _, _ => none
  | n + 1, v_o_thrown, v_o_rows, d_o_many, d_o_aisles, d_o_page, x1, x3, x4 => (if x1 < 0 ∨ 4 ≤ (x1).toNatClampNeg then none else (if (d_o_many (x1).toNatClampNeg) ≤ x4 then some (x3, v_o_thrown) else (if (((9 : Int32) * x1) + x4) < 0 ∨ 36 ≤ ((((9 : Int32) * x1) + x4)).toNatClampNeg then none else (if (d_o_aisles ((((9 : Int32) * x1) + x4)).toNatClampNeg) = 0 then fX9_row_73 n v_o_thrown v_o_rows d_o_many d_o_aisles d_o_page x1 (x3 + (0 : Int32)) (x4 + (1 : Int32)) else fX9_row_73 n v_o_thrown v_o_rows d_o_many d_o_aisles d_o_page x1 (x3 + (1 : Int32)) (x4 + (1 : Int32))))))
set_option maxRecDepth 100000 in
set_option maxHeartbeats 4000000 in
theorem tX9_row_73 {p : Program} {l : Launch} {e : Env} {s : State} {m : MethodId} {args : Array Value} {below : List Frame} {meth : Method} {c : Code} {D : va_G} {cI cJ cZ cB : ClassId} {a_o : Nat} {a_o_text : Nat} {a_o_many : Nat} {a_o_views : Nat} {a_o_aisles : Nat} {a_o_readMany : Nat} {a_o_readViews : Nat} {a_o_readAisles : Nat} {a_o_readPage : Nat} {a_o_page : Nat} {a_o_trial : Nat} {a_o_book : Nat} {a_o_kept : Nat} {a_o_isKept : Nat} {a_o_seenSeat : Nat} {a_o_seenWas : Nat} {A : Nat → Prop} (C : Cx p s m args meth c cX9_row 5 (some .int) wsX9_row RX9) (hK : Kw D (tyL cI cJ cZ cB) s) (hA : ∀ q : Nat, s.heap.size ≤ q → A q) : ∀ (n : Nat), ∀ (v_o_thrown : Int32) (v_o_textSize : Int32) (v_o_place : Int32) (v_o_rows : Int32) (v_o_readRows : Int32) (v_o_doings : Int32) (v_o_seen : Int32) (v_o_seed : Int64) (v_o_found : Int32) (v_o_foundViews : Int32) (v_o_foundMany : Int32) (d_o_many : (Nat → Int32)) (d_o_aisles : (Nat → Int32)) (d_o_page : (Nat → Int32)) (x1 : Int32) (x3 : Int32) (x4 : Int32) (H : Heap) (locs : List Loc) (ls : Array Slot) (res : Int32 × Int32), va_P D vwCl (WX9_row cI cJ cZ cB a_o a_o_text a_o_many a_o_views a_o_aisles a_o_readMany a_o_readViews a_o_readAisles a_o_readPage a_o_page a_o_trial a_o_book a_o_kept a_o_isKept a_o_seenSeat a_o_seenWas v_o_thrown v_o_textSize v_o_place v_o_rows v_o_readRows v_o_doings v_o_seen v_o_seed v_o_found v_o_foundViews v_o_foundMany d_o_many d_o_aisles d_o_page) H → va_D A (WX9_row cI cJ cZ cB a_o a_o_text a_o_many a_o_views a_o_aisles a_o_readMany a_o_readViews a_o_readAisles a_o_readPage a_o_page a_o_trial a_o_book a_o_kept a_o_isKept a_o_seenSeat a_o_seenWas v_o_thrown v_o_textSize v_o_place v_o_rows v_o_readRows v_o_doings v_o_seen v_o_seed v_o_found v_o_foundViews v_o_foundMany d_o_many d_o_aisles d_o_page) → va_S A s.heap H locs → lv_has ls 5 [(0, .ref a_o), (1, .int x1), (3, .int x3), (4, .int x4)] → fX9_row_73 n v_o_thrown v_o_rows d_o_many d_o_aisles d_o_page x1 x3 x4 = some res → W p l e ({ frames := 3, cells := 0, slots := 0, locals := 71 } : Room) s m args below meth c H locs 0 0 (MQ below (QRw D A (WX9_row cI cJ cZ cB a_o a_o_text a_o_many a_o_views a_o_aisles a_o_readMany a_o_readViews a_o_readAisles a_o_readPage a_o_page a_o_trial a_o_book a_o_kept a_o_isKept a_o_seenSeat a_o_seenWas res.2 v_o_textSize v_o_place v_o_rows v_o_readRows v_o_doings v_o_seen v_o_seed v_o_found v_o_foundViews v_o_foundMany d_o_many d_o_aisles d_o_page) (some (.int res.1))) args s 0 0 A) (F0 m 73 ls []) := by
  obtain ⟨hx, hb, hr, hml, hts, hown, hlk⟩ := id C
  intro n
  induction n with
  | zero =>
    intro v_o_thrown v_o_textSize v_o_place v_o_rows v_o_readRows v_o_doings v_o_seen v_o_seed v_o_found v_o_foundViews v_o_foundMany d_o_many d_o_aisles d_o_page x1 x3 x4 H locs ls res hP hD hS hl hf
    rw [fX9_row_73] at hf
    cases hf
  | succ n ih =>
    intro v_o_thrown v_o_textSize v_o_place v_o_rows v_o_readRows v_o_doings v_o_seen v_o_seed v_o_found v_o_foundViews v_o_foundMany d_o_many d_o_aisles d_o_page x1 x3 x4 H locs ls res hP hD hS hl hf
    rw [fX9_row_73] at hf
    refine lv_iload hx hb dX9_row_73 (lv_at hl 3 rfl) ?_
    refine lv_aload_n hx hb dX9_row_75 rfl (lv_at hl 0 rfl) ?_
    refine va_get (D := D) (ci := 9) (v := .ref a_o_many) (C := RX9) (T := TX9) (N := 26) hx hb hts iX9_row_X9 hown hK.1 hP 0 rfl rfl 5 (by decide) (hts (.fieldLink RX9 13 "LoneSeatsModel" "many" "[I") (by decide +kernel)) (fun _ h9 => h9) rfl dX9_row_76 ?_
    refine lv_iload_n hx hb dX9_row_79 rfl (lv_at hl 1 rfl) ?_
    obtain ⟨hg1, hf⟩ := pf_x hf
    refine va_iald hx hb hK.1 hP 1 0 rfl rfl hg1 dX9_row_80 ?_
    refine lv_icmp_ge (tgt := 113) hx hb dX9_row_81 (by decide) (fun hc => ?_) (fun hc => ?_)
    · have hf := pf_t hc hf
      refine lv_iload_n hx hb dX9_row_113 rfl (lv_at hl 2 rfl) ?_
      cases hf
      exact W.iret hx hb hr (fun t ht hW => ⟨⟨rfl, by rw [ht]; exact hP, hD⟩, hS.F ht⟩) hS.2.2 dX9_row_114
    · have hf := pf_f hc hf
      refine lv_iload_n hx hb dX9_row_84 rfl (lv_at hl 2 rfl) ?_
      refine lv_aload_n hx hb dX9_row_85 rfl (lv_at hl 0 rfl) ?_
      refine va_get (D := D) (ci := 9) (v := .ref a_o_aisles) (C := RX9) (T := TX9) (N := 26) hx hb hts iX9_row_X9 hown hK.1 hP 0 rfl rfl 7 (by decide) (hts (.fieldLink RX9 19 "LoneSeatsModel" "aisles" "[Z") (by decide +kernel)) (fun _ h9 => h9) rfl dX9_row_86 ?_
      refine lv_bipush (v := (9 : Int32)) hx hb dX9_row_89 (by decide) ?_
      refine lv_iload_n hx hb dX9_row_91 rfl (lv_at hl 1 rfl) ?_
      refine lv_imul hx hb dX9_row_92 ?_
      refine lv_iload hx hb dX9_row_93 (lv_at hl 3 rfl) ?_
      refine lv_iadd hx hb dX9_row_95 ?_
      obtain ⟨hg2, hf⟩ := pf_x hf
      refine va_zald hx hb hK.1 hP 2 2 rfl rfl hg2 dX9_row_96 ?_
      refine lv_if_eq (tgt := 104) hx hb dX9_row_97 (by decide) (fun hc => ?_) (fun hc => ?_)
      · have hf := pf_t hc hf
        refine lv_iconst (v := (0 : Int32)) hx hb dX9_row_104 (by decide) ?_
        refine lv_iadd hx hb dX9_row_105 ?_
        refine lv_istore_n (lv' := [(3, .int (x3 + (0 : Int32))), (0, .ref a_o), (1, .int x1), (4, .int x4)]) hx hb dX9_row_106 rfl hl (by decide) rfl (fun ls hl => ?_)
        refine lv_iinc (v := (x4 + (1 : Int32))) (lv' := [(4, .int (x4 + (1 : Int32))), (3, .int (x3 + (0 : Int32))), (0, .ref a_o), (1, .int x1)]) hx hb dX9_row_107 hl (k := 3) rfl rfl (by decide) rfl (fun ls hl => ?_)
        refine lv_goto (tgt := 73) hx hb dX9_row_110 (by decide) ?_
        exact ih v_o_thrown v_o_textSize v_o_place v_o_rows v_o_readRows v_o_doings v_o_seen v_o_seed v_o_found v_o_foundViews v_o_foundMany d_o_many d_o_aisles d_o_page x1 (x3 + (0 : Int32)) (x4 + (1 : Int32)) _ _ ls _ hP hD hS (lv_sub hl [2, 3, 1, 0] rfl) hf
      · have hf := pf_f hc hf
        refine lv_iconst (v := (1 : Int32)) hx hb dX9_row_100 (by decide) ?_
        refine lv_goto (tgt := 105) hx hb dX9_row_101 (by decide) ?_
        refine lv_iadd hx hb dX9_row_105 ?_
        refine lv_istore_n (lv' := [(3, .int (x3 + (1 : Int32))), (0, .ref a_o), (1, .int x1), (4, .int x4)]) hx hb dX9_row_106 rfl hl (by decide) rfl (fun ls hl => ?_)
        refine lv_iinc (v := (x4 + (1 : Int32))) (lv' := [(4, .int (x4 + (1 : Int32))), (3, .int (x3 + (1 : Int32))), (0, .ref a_o), (1, .int x1)]) hx hb dX9_row_107 hl (k := 3) rfl rfl (by decide) rfl (fun ls hl => ?_)
        refine lv_goto (tgt := 73) hx hb dX9_row_110 (by decide) ?_
        exact ih v_o_thrown v_o_textSize v_o_place v_o_rows v_o_readRows v_o_doings v_o_seen v_o_seed v_o_found v_o_foundViews v_o_foundMany d_o_many d_o_aisles d_o_page x1 (x3 + (1 : Int32)) (x4 + (1 : Int32)) _ _ ls _ hP hD hS (lv_sub hl [2, 3, 1, 0] rfl) hf
def fX9_row (v_o_thrown : Int32) (v_o_rows : Int32) (d_o_many : (Nat → Int32)) (d_o_aisles : (Nat → Int32)) (d_o_page : (Nat → Int32)) (x1 : Int32) (x2 : Int32) : Option (Int32 × Int32) := ((fX9_noRow v_o_rows x1).bind fun q1 => (if q1 = 0 then (if x2 = (0 : Int32) then (if ((0 : Int32) + x1) < 0 ∨ 229 ≤ (((0 : Int32) + x1)).toNatClampNeg then none else some ((d_o_page (((0 : Int32) + x1)).toNatClampNeg), (0 : Int32))) else (if x2 = (1 : Int32) then (if x1 < 0 ∨ 4 ≤ (x1).toNatClampNeg then none else some ((d_o_many (x1).toNatClampNeg), (0 : Int32))) else (if x2 = (2 : Int32) then fX9_row_73 FU (0 : Int32) v_o_rows d_o_many d_o_aisles d_o_page x1 (1 : Int32) (0 : Int32) else (if x2 = (3 : Int32) then ((fX9_freeIn d_o_many d_o_page x1).bind fun q9 => some (q9, (0 : Int32))) else (if x2 = (4 : Int32) then ((fX9_loneIn d_o_many d_o_aisles d_o_page x1).bind fun q12 => some (q12, (0 : Int32))) else some ((-2 : Int32), (0 : Int32))))))) else some ((-1 : Int32), (0 : Int32))))
set_option maxRecDepth 100000 in
set_option maxHeartbeats 4000000 in
theorem kX9_row (l : Launch) (D : va_G) (cI cJ cZ cB : ClassId) (a_o : Nat) (a_o_text : Nat) (a_o_many : Nat) (a_o_views : Nat) (a_o_aisles : Nat) (a_o_readMany : Nat) (a_o_readViews : Nat) (a_o_readAisles : Nat) (a_o_readPage : Nat) (a_o_page : Nat) (a_o_trial : Nat) (a_o_book : Nat) (a_o_kept : Nat) (a_o_isKept : Nat) (a_o_seenSeat : Nat) (a_o_seenWas : Nat) (v_o_thrown : Int32) (v_o_textSize : Int32) (v_o_place : Int32) (v_o_rows : Int32) (v_o_readRows : Int32) (v_o_doings : Int32) (v_o_seen : Int32) (v_o_seed : Int64) (v_o_found : Int32) (v_o_foundViews : Int32) (v_o_foundMany : Int32) (d_o_many : (Nat → Int32)) (d_o_aisles : (Nat → Int32)) (d_o_page : (Nat → Int32)) (x1 : Int32) (x2 : Int32) (res : Int32 × Int32) (hf : fX9_row v_o_thrown v_o_rows d_o_many d_o_aisles d_o_page x1 x2 = some res) : Rw l yX9_row wsX9_row ({ frames := 3, cells := 0, slots := 0, locals := 71 } : Room) D (tyL cI cJ cZ cB) [.ref a_o, .int x1, .int x2] (WX9_row cI cJ cZ cB a_o a_o_text a_o_many a_o_views a_o_aisles a_o_readMany a_o_readViews a_o_readAisles a_o_readPage a_o_page a_o_trial a_o_book a_o_kept a_o_isKept a_o_seenSeat a_o_seenWas v_o_thrown v_o_textSize v_o_place v_o_rows v_o_readRows v_o_doings v_o_seen v_o_seed v_o_found v_o_foundViews v_o_foundMany d_o_many d_o_aisles d_o_page) (some (.int res.1)) (WX9_row cI cJ cZ cB a_o a_o_text a_o_many a_o_views a_o_aisles a_o_readMany a_o_readViews a_o_readAisles a_o_readPage a_o_page a_o_trial a_o_book a_o_kept a_o_isKept a_o_seenSeat a_o_seenWas res.2 v_o_textSize v_o_place v_o_rows v_o_readRows v_o_doings v_o_seen v_o_seed v_o_found v_o_foundViews v_o_foundMany d_o_many d_o_aisles d_o_page) := by
  refine Rw.of (cc := cX9_row) (maxL := 5) (ret := (some .int)) (own := RX9) (by decide) rfl rfl (Nat.le_of_ble_eq_true rfl) ?_
  intro p e s m below meth c A ls C hK hA hP hD hS hl
  obtain ⟨hx, hb, hr, hml, hts, hown, hlk⟩ := id C
  have hl : lv_has ls 5 [(0, .ref a_o), (1, .int x1), (2, .int x2)] := hl
  unfold fX9_row at hf
  refine lv_aload_n hx hb dX9_row_0 rfl (lv_at hl 0 rfl) ?_
  refine lv_iconst (v := (0 : Int32)) hx hb dX9_row_1 (by decide) ?_
  refine va_put (D := D) (ci := 9) (v := .int (0 : Int32)) (ty := .int) (C := RX9) (T := TX9) (N := 26) hx hb hts iX9_row_X9 tyX9 tyX9_ok nmX9 hown hK.1 hP hD hS 0 rfl rfl 0 (by decide) (hts (.fieldLink RX9 60 "LoneSeatsModel" "thrown" "I") (by decide +kernel)) (fun _ h9 => h9) rfl (by decide +kernel) rfl rfl (Nat.le_of_ble_eq_true rfl) dX9_row_2 (fun H locs hP hD hS => ?_)
  have hP : va_P D vwCl (WX9_row cI cJ cZ cB a_o a_o_text a_o_many a_o_views a_o_aisles a_o_readMany a_o_readViews a_o_readAisles a_o_readPage a_o_page a_o_trial a_o_book a_o_kept a_o_isKept a_o_seenSeat a_o_seenWas (0 : Int32) v_o_textSize v_o_place v_o_rows v_o_readRows v_o_doings v_o_seen v_o_seed v_o_found v_o_foundViews v_o_foundMany d_o_many d_o_aisles d_o_page) H := hP
  have hD : va_D A (WX9_row cI cJ cZ cB a_o a_o_text a_o_many a_o_views a_o_aisles a_o_readMany a_o_readViews a_o_readAisles a_o_readPage a_o_page a_o_trial a_o_book a_o_kept a_o_isKept a_o_seenSeat a_o_seenWas (0 : Int32) v_o_textSize v_o_place v_o_rows v_o_readRows v_o_doings v_o_seen v_o_seed v_o_found v_o_foundViews v_o_foundMany d_o_many d_o_aisles d_o_page) := hD
  refine lv_aload_n hx hb dX9_row_5 rfl (lv_at hl 0 rfl) ?_
  refine lv_iload_n hx hb dX9_row_6 rfl (lv_at hl 1 rfl) ?_
  obtain ⟨q1, hq2, hf⟩ := pf_b hf
  have hPc := hP.sub (ws' := (WX9_noRow cI cJ cZ cB a_o a_o_text a_o_many a_o_views a_o_aisles a_o_readMany a_o_readViews a_o_readAisles a_o_readPage a_o_page a_o_trial a_o_book a_o_kept a_o_isKept a_o_seenSeat a_o_seenWas (0 : Int32) v_o_textSize v_o_place v_o_rows v_o_readRows v_o_doings v_o_seen v_o_seed v_o_found v_o_foundViews v_o_foundMany)) [0] rfl
  refine cl_roi (va_runV (As := [.int x1]) (rest := []) ⟨hx, hb, hml, hown, hts⟩ (kX9_noRow l D cI cJ cZ cB a_o a_o_text a_o_many a_o_views a_o_aisles a_o_readMany a_o_readViews a_o_readAisles a_o_readPage a_o_page a_o_trial a_o_book a_o_kept a_o_isKept a_o_seenSeat a_o_seenWas (0 : Int32) v_o_textSize v_o_place v_o_rows v_o_readRows v_o_doings v_o_seen v_o_seed v_o_found v_o_foundViews v_o_foundMany x1 q1 hq2) (cwV 1 hts gX9_row_X9_noRow rfl rfl rfl (by decide +kernel) ⟨Nat.le_of_ble_eq_true rfl, Nat.le_of_ble_eq_true rfl⟩) ⟨PRo.blind, va_recv hK.1 hPc (ci := 9) (q0 := 0) rfl rfl, PRo.at hK hPc⟩ rfl rfl hl.1 rfl (lv_room (Nat.le_of_ble_eq_true rfl)) dX9_row_7 ⟨Nat.zero_le _, Nat.zero_le _⟩) ?_
  refine lv_if_eq (tgt := 15) hx hb dX9_row_10 (by decide) (fun hc => ?_) (fun hc => ?_)
  · have hf := pf_t hc hf
    refine lv_iload_n hx hb dX9_row_15 rfl (lv_at hl 2 rfl) ?_
    by_cases hs3 : x2 = (0 : Int32)
    · have hf := pf_t hs3 hf
      refine lv_tableIn (tgt := 52) (off := 36) hx hb dX9_row_16 (by rw [hs3]; decide) (by rw [hs3]; decide) (by rw [hs3]; rfl) (by decide) ?_
      refine lv_aload_n hx hb dX9_row_52 rfl (lv_at hl 0 rfl) ?_
      refine va_get (D := D) (ci := 9) (v := .ref a_o_page) (C := RX9) (T := TX9) (N := 26) hx hb hts iX9_row_X9 hown hK.1 hP 0 rfl rfl 13 (by decide) (hts (.fieldLink RX9 35 "LoneSeatsModel" "page" "[I") (by decide +kernel)) (fun _ h9 => h9) rfl dX9_row_53 ?_
      refine lv_iconst (v := (0 : Int32)) hx hb dX9_row_56 (by decide) ?_
      refine lv_iload_n hx hb dX9_row_57 rfl (lv_at hl 1 rfl) ?_
      refine lv_iadd hx hb dX9_row_58 ?_
      obtain ⟨hg4, hf⟩ := pf_x hf
      refine va_iald hx hb hK.1 hP 3 0 rfl rfl hg4 dX9_row_59 ?_
      cases hf
      exact W.iret hx hb hr (fun t ht hW => ⟨⟨rfl, by rw [ht]; exact hP, hD⟩, hS.F ht⟩) hS.2.2 dX9_row_60
    · have hf := pf_f hs3 hf
      by_cases hs5 : x2 = (1 : Int32)
      · have hf := pf_t hs5 hf
        refine lv_tableIn (tgt := 61) (off := 45) hx hb dX9_row_16 (by rw [hs5]; decide) (by rw [hs5]; decide) (by rw [hs5]; rfl) (by decide) ?_
        refine lv_aload_n hx hb dX9_row_61 rfl (lv_at hl 0 rfl) ?_
        refine va_get (D := D) (ci := 9) (v := .ref a_o_many) (C := RX9) (T := TX9) (N := 26) hx hb hts iX9_row_X9 hown hK.1 hP 0 rfl rfl 5 (by decide) (hts (.fieldLink RX9 13 "LoneSeatsModel" "many" "[I") (by decide +kernel)) (fun _ h9 => h9) rfl dX9_row_62 ?_
        refine lv_iload_n hx hb dX9_row_65 rfl (lv_at hl 1 rfl) ?_
        obtain ⟨hg6, hf⟩ := pf_x hf
        refine va_iald hx hb hK.1 hP 1 0 rfl rfl hg6 dX9_row_66 ?_
        cases hf
        exact W.iret hx hb hr (fun t ht hW => ⟨⟨rfl, by rw [ht]; exact hP, hD⟩, hS.F ht⟩) hS.2.2 dX9_row_67
      · have hf := pf_f hs5 hf
        by_cases hs7 : x2 = (2 : Int32)
        · have hf := pf_t hs7 hf
          refine lv_tableIn (tgt := 68) (off := 52) hx hb dX9_row_16 (by rw [hs7]; decide) (by rw [hs7]; decide) (by rw [hs7]; rfl) (by decide) ?_
          refine lv_iconst (v := (1 : Int32)) hx hb dX9_row_68 (by decide) ?_
          refine lv_istore_n (lv' := [(3, .int (1 : Int32)), (0, .ref a_o), (1, .int x1), (2, .int x2)]) hx hb dX9_row_69 rfl hl (by decide) rfl (fun ls hl => ?_)
          refine lv_iconst (v := (0 : Int32)) hx hb dX9_row_70 (by decide) ?_
          refine lv_istore (lv' := [(4, .int (0 : Int32)), (3, .int (1 : Int32)), (0, .ref a_o), (1, .int x1), (2, .int x2)]) hx hb dX9_row_71 hl (by decide) rfl (fun ls hl => ?_)
          exact tX9_row_73 C hK hA  FU (0 : Int32) v_o_textSize v_o_place v_o_rows v_o_readRows v_o_doings v_o_seen v_o_seed v_o_found v_o_foundViews v_o_foundMany d_o_many d_o_aisles d_o_page x1 (1 : Int32) (0 : Int32) _ _ ls _ hP hD hS (lv_sub hl [2, 3, 1, 0] rfl) hf
        · have hf := pf_f hs7 hf
          by_cases hs8 : x2 = (3 : Int32)
          · have hf := pf_t hs8 hf
            refine lv_tableIn (tgt := 115) (off := 99) hx hb dX9_row_16 (by rw [hs8]; decide) (by rw [hs8]; decide) (by rw [hs8]; rfl) (by decide) ?_
            refine lv_aload_n hx hb dX9_row_115 rfl (lv_at hl 0 rfl) ?_
            refine lv_aload_n hx hb dX9_row_116 rfl (lv_at hl 0 rfl) ?_
            refine va_get (D := D) (ci := 9) (v := .ref a_o_page) (C := RX9) (T := TX9) (N := 26) hx hb hts iX9_row_X9 hown hK.1 hP 0 rfl rfl 13 (by decide) (hts (.fieldLink RX9 35 "LoneSeatsModel" "page" "[I") (by decide +kernel)) (fun _ h9 => h9) rfl dX9_row_117 ?_
            refine lv_iload_n hx hb dX9_row_120 rfl (lv_at hl 1 rfl) ?_
            obtain ⟨q9, hq10, hf⟩ := pf_b hf
            have hPc := hP.sub (ws' := (WX9_freeIn cI cJ cZ cB a_o a_o_text a_o_many a_o_views a_o_aisles a_o_readMany a_o_readViews a_o_readAisles a_o_readPage a_o_page a_o_trial a_o_book a_o_kept a_o_isKept a_o_seenSeat a_o_seenWas a_o_page (0 : Int32) v_o_textSize v_o_place v_o_rows v_o_readRows v_o_doings v_o_seen v_o_seed v_o_found v_o_foundViews v_o_foundMany d_o_many d_o_page)) [0, 1, 3] rfl
            refine cl_roi (va_runV (As := [.ref a_o_page, .int x1]) (rest := []) ⟨hx, hb, hml, hown, hts⟩ (kX9_freeIn l D cI cJ cZ cB a_o a_o_text a_o_many a_o_views a_o_aisles a_o_readMany a_o_readViews a_o_readAisles a_o_readPage a_o_page a_o_trial a_o_book a_o_kept a_o_isKept a_o_seenSeat a_o_seenWas a_o_page (0 : Int32) v_o_textSize v_o_place v_o_rows v_o_readRows v_o_doings v_o_seen v_o_seed v_o_found v_o_foundViews v_o_foundMany d_o_many d_o_page x1 q9 hq10) (cwV 2 hts gX9_row_X9_freeIn rfl rfl rfl (by decide +kernel) ⟨Nat.le_of_ble_eq_true rfl, Nat.le_of_ble_eq_true rfl⟩) ⟨PRo.blind, va_recv hK.1 hPc (ci := 9) (q0 := 0) rfl rfl, PRo.at hK hPc⟩ rfl rfl hl.1 rfl (lv_room (Nat.le_of_ble_eq_true rfl)) dX9_row_121 ⟨Nat.zero_le _, Nat.zero_le _⟩) ?_
            cases hf
            exact W.iret hx hb hr (fun t ht hW => ⟨⟨rfl, by rw [ht]; exact hP, hD⟩, hS.F ht⟩) hS.2.2 dX9_row_124
          · have hf := pf_f hs8 hf
            by_cases hs11 : x2 = (4 : Int32)
            · have hf := pf_t hs11 hf
              refine lv_tableIn (tgt := 125) (off := 109) hx hb dX9_row_16 (by rw [hs11]; decide) (by rw [hs11]; decide) (by rw [hs11]; rfl) (by decide) ?_
              refine lv_aload_n hx hb dX9_row_125 rfl (lv_at hl 0 rfl) ?_
              refine lv_aload_n hx hb dX9_row_126 rfl (lv_at hl 0 rfl) ?_
              refine va_get (D := D) (ci := 9) (v := .ref a_o_page) (C := RX9) (T := TX9) (N := 26) hx hb hts iX9_row_X9 hown hK.1 hP 0 rfl rfl 13 (by decide) (hts (.fieldLink RX9 35 "LoneSeatsModel" "page" "[I") (by decide +kernel)) (fun _ h9 => h9) rfl dX9_row_127 ?_
              refine lv_iload_n hx hb dX9_row_130 rfl (lv_at hl 1 rfl) ?_
              obtain ⟨q12, hq13, hf⟩ := pf_b hf
              have hPc := hP.sub (ws' := (WX9_loneIn cI cJ cZ cB a_o a_o_text a_o_many a_o_views a_o_aisles a_o_readMany a_o_readViews a_o_readAisles a_o_readPage a_o_page a_o_trial a_o_book a_o_kept a_o_isKept a_o_seenSeat a_o_seenWas a_o_page (0 : Int32) v_o_textSize v_o_place v_o_rows v_o_readRows v_o_doings v_o_seen v_o_seed v_o_found v_o_foundViews v_o_foundMany d_o_many d_o_aisles d_o_page)) [0, 1, 2, 3] rfl
              refine cl_roi (va_runV (As := [.ref a_o_page, .int x1]) (rest := []) ⟨hx, hb, hml, hown, hts⟩ (kX9_loneIn l D cI cJ cZ cB a_o a_o_text a_o_many a_o_views a_o_aisles a_o_readMany a_o_readViews a_o_readAisles a_o_readPage a_o_page a_o_trial a_o_book a_o_kept a_o_isKept a_o_seenSeat a_o_seenWas a_o_page (0 : Int32) v_o_textSize v_o_place v_o_rows v_o_readRows v_o_doings v_o_seen v_o_seed v_o_found v_o_foundViews v_o_foundMany d_o_many d_o_aisles d_o_page x1 q12 hq13) (cwV 2 hts gX9_row_X9_loneIn rfl rfl rfl (by decide +kernel) ⟨Nat.le_of_ble_eq_true rfl, Nat.le_of_ble_eq_true rfl⟩) ⟨PRo.blind, va_recv hK.1 hPc (ci := 9) (q0 := 0) rfl rfl, PRo.at hK hPc⟩ rfl rfl hl.1 rfl (lv_room (Nat.le_of_ble_eq_true rfl)) dX9_row_131 ⟨Nat.zero_le _, Nat.zero_le _⟩) ?_
              cases hf
              exact W.iret hx hb hr (fun t ht hW => ⟨⟨rfl, by rw [ht]; exact hP, hD⟩, hS.F ht⟩) hS.2.2 dX9_row_134
            · have hf := pf_f hs11 hf
              refine lv_tableOut (tgt := 135) hx hb dX9_row_16 (by have := lv_neT hs3 (show (0 : Int32).toInt = 0 by decide); have := lv_neT hs5 (show (1 : Int32).toInt = 1 by decide); have := lv_neT hs7 (show (2 : Int32).toInt = 2 by decide); have := lv_neT hs8 (show (3 : Int32).toInt = 3 by decide); have := lv_neT hs11 (show (4 : Int32).toInt = 4 by decide); omega) (by decide) ?_
              refine lv_bipush (v := (-2 : Int32)) hx hb dX9_row_135 (by decide) ?_
              cases hf
              exact W.iret hx hb hr (fun t ht hW => ⟨⟨rfl, by rw [ht]; exact hP, hD⟩, hS.F ht⟩) hS.2.2 dX9_row_137
  · have hf := pf_f hc hf
    refine lv_iconst (v := (-1 : Int32)) hx hb dX9_row_13 (by decide) ?_
    cases hf
    exact W.iret hx hb hr (fun t ht hW => ⟨⟨rfl, by rw [ht]; exact hP, hD⟩, hS.F ht⟩) hS.2.2 dX9_row_14
abbrev WX9_seat (cI cJ cZ cB : ClassId) (a_o : Nat) (a_o_text : Nat) (a_o_many : Nat) (a_o_views : Nat) (a_o_aisles : Nat) (a_o_readMany : Nat) (a_o_readViews : Nat) (a_o_readAisles : Nat) (a_o_readPage : Nat) (a_o_page : Nat) (a_o_trial : Nat) (a_o_book : Nat) (a_o_kept : Nat) (a_o_isKept : Nat) (a_o_seenSeat : Nat) (a_o_seenWas : Nat) (v_o_thrown : Int32) (v_o_textSize : Int32) (v_o_place : Int32) (v_o_rows : Int32) (v_o_readRows : Int32) (v_o_doings : Int32) (v_o_seen : Int32) (v_o_seed : Int64) (v_o_found : Int32) (v_o_foundViews : Int32) (v_o_foundMany : Int32) (d_o_many : (Nat → Int32)) (d_o_views : (Nat → Int32)) (d_o_aisles : (Nat → Int32)) (d_o_page : (Nat → Int32)) : va_W := [(a_o, .inr (9, [.int v_o_thrown, .ref a_o_text, .int v_o_textSize, .int v_o_place, .int v_o_rows, .ref a_o_many, .ref a_o_views, .ref a_o_aisles, .int v_o_readRows, .ref a_o_readMany, .ref a_o_readViews, .ref a_o_readAisles, .ref a_o_readPage, .ref a_o_page, .ref a_o_trial, .ref a_o_book, .int v_o_doings, .ref a_o_kept, .ref a_o_isKept, .int v_o_seen, .ref a_o_seenSeat, .ref a_o_seenWas, .long v_o_seed, .int v_o_found, .int v_o_foundViews, .int v_o_foundMany])), (a_o_many, .inl (cI, (4, .inl d_o_many))), (a_o_views, .inl (cI, (36, .inl d_o_views))), (a_o_aisles, .inl (cZ, (36, .inl d_o_aisles))), (a_o_page, .inl (cI, (229, .inl d_o_page)))]
set_option maxRecDepth 20000 in
theorem iX9_seat_X9 : ∀ w ∈ wsX90, w ∈ wsX9_seat := by decide +kernel
def fX9_seat (v_o_thrown : Int32) (v_o_rows : Int32) (d_o_many : (Nat → Int32)) (d_o_views : (Nat → Int32)) (d_o_aisles : (Nat → Int32)) (d_o_page : (Nat → Int32)) (x1 : Int32) (x2 : Int32) (x3 : Int32) : Option (Int32 × Int32) := ((fX9_noSeat v_o_rows d_o_many x1 x2).bind fun q1 => (if q1 = 0 then (if x3 = (0 : Int32) then (if (((9 : Int32) * x1) + x2) < 0 ∨ 36 ≤ ((((9 : Int32) * x1) + x2)).toNatClampNeg then none else some ((d_o_views ((((9 : Int32) * x1) + x2)).toNatClampNeg), (0 : Int32))) else (if x3 = (1 : Int32) then (if (((9 : Int32) * x1) + x2) < 0 ∨ 36 ≤ ((((9 : Int32) * x1) + x2)).toNatClampNeg then none else (if (d_o_aisles ((((9 : Int32) * x1) + x2)).toNatClampNeg) = 0 then some ((0 : Int32), (0 : Int32)) else some ((1 : Int32), (0 : Int32)))) else (if x3 = (2 : Int32) then (if (((13 : Int32) + ((9 : Int32) * x1)) + x2) < 0 ∨ 229 ≤ ((((13 : Int32) + ((9 : Int32) * x1)) + x2)).toNatClampNeg then none else some ((d_o_page ((((13 : Int32) + ((9 : Int32) * x1)) + x2)).toNatClampNeg), (0 : Int32))) else some ((-2 : Int32), (0 : Int32))))) else some ((-1 : Int32), (0 : Int32))))
set_option maxRecDepth 100000 in
set_option maxHeartbeats 4000000 in
theorem kX9_seat (l : Launch) (D : va_G) (cI cJ cZ cB : ClassId) (a_o : Nat) (a_o_text : Nat) (a_o_many : Nat) (a_o_views : Nat) (a_o_aisles : Nat) (a_o_readMany : Nat) (a_o_readViews : Nat) (a_o_readAisles : Nat) (a_o_readPage : Nat) (a_o_page : Nat) (a_o_trial : Nat) (a_o_book : Nat) (a_o_kept : Nat) (a_o_isKept : Nat) (a_o_seenSeat : Nat) (a_o_seenWas : Nat) (v_o_thrown : Int32) (v_o_textSize : Int32) (v_o_place : Int32) (v_o_rows : Int32) (v_o_readRows : Int32) (v_o_doings : Int32) (v_o_seen : Int32) (v_o_seed : Int64) (v_o_found : Int32) (v_o_foundViews : Int32) (v_o_foundMany : Int32) (d_o_many : (Nat → Int32)) (d_o_views : (Nat → Int32)) (d_o_aisles : (Nat → Int32)) (d_o_page : (Nat → Int32)) (x1 : Int32) (x2 : Int32) (x3 : Int32) (res : Int32 × Int32) (hf : fX9_seat v_o_thrown v_o_rows d_o_many d_o_views d_o_aisles d_o_page x1 x2 x3 = some res) : Rw l yX9_seat wsX9_seat ({ frames := 3, cells := 0, slots := 0, locals := 68 } : Room) D (tyL cI cJ cZ cB) [.ref a_o, .int x1, .int x2, .int x3] (WX9_seat cI cJ cZ cB a_o a_o_text a_o_many a_o_views a_o_aisles a_o_readMany a_o_readViews a_o_readAisles a_o_readPage a_o_page a_o_trial a_o_book a_o_kept a_o_isKept a_o_seenSeat a_o_seenWas v_o_thrown v_o_textSize v_o_place v_o_rows v_o_readRows v_o_doings v_o_seen v_o_seed v_o_found v_o_foundViews v_o_foundMany d_o_many d_o_views d_o_aisles d_o_page) (some (.int res.1)) (WX9_seat cI cJ cZ cB a_o a_o_text a_o_many a_o_views a_o_aisles a_o_readMany a_o_readViews a_o_readAisles a_o_readPage a_o_page a_o_trial a_o_book a_o_kept a_o_isKept a_o_seenSeat a_o_seenWas res.2 v_o_textSize v_o_place v_o_rows v_o_readRows v_o_doings v_o_seen v_o_seed v_o_found v_o_foundViews v_o_foundMany d_o_many d_o_views d_o_aisles d_o_page) := by
  refine Rw.of (cc := cX9_seat) (maxL := 4) (ret := (some .int)) (own := RX9) (by decide) rfl rfl (Nat.le_of_ble_eq_true rfl) ?_
  intro p e s m below meth c A ls C hK hA hP hD hS hl
  obtain ⟨hx, hb, hr, hml, hts, hown, hlk⟩ := id C
  have hl : lv_has ls 4 [(0, .ref a_o), (1, .int x1), (2, .int x2), (3, .int x3)] := hl
  unfold fX9_seat at hf
  refine lv_aload_n hx hb dX9_seat_0 rfl (lv_at hl 0 rfl) ?_
  refine lv_iconst (v := (0 : Int32)) hx hb dX9_seat_1 (by decide) ?_
  refine va_put (D := D) (ci := 9) (v := .int (0 : Int32)) (ty := .int) (C := RX9) (T := TX9) (N := 26) hx hb hts iX9_seat_X9 tyX9 tyX9_ok nmX9 hown hK.1 hP hD hS 0 rfl rfl 0 (by decide) (hts (.fieldLink RX9 60 "LoneSeatsModel" "thrown" "I") (by decide +kernel)) (fun _ h9 => h9) rfl (by decide +kernel) rfl rfl (Nat.le_of_ble_eq_true rfl) dX9_seat_2 (fun H locs hP hD hS => ?_)
  have hP : va_P D vwCl (WX9_seat cI cJ cZ cB a_o a_o_text a_o_many a_o_views a_o_aisles a_o_readMany a_o_readViews a_o_readAisles a_o_readPage a_o_page a_o_trial a_o_book a_o_kept a_o_isKept a_o_seenSeat a_o_seenWas (0 : Int32) v_o_textSize v_o_place v_o_rows v_o_readRows v_o_doings v_o_seen v_o_seed v_o_found v_o_foundViews v_o_foundMany d_o_many d_o_views d_o_aisles d_o_page) H := hP
  have hD : va_D A (WX9_seat cI cJ cZ cB a_o a_o_text a_o_many a_o_views a_o_aisles a_o_readMany a_o_readViews a_o_readAisles a_o_readPage a_o_page a_o_trial a_o_book a_o_kept a_o_isKept a_o_seenSeat a_o_seenWas (0 : Int32) v_o_textSize v_o_place v_o_rows v_o_readRows v_o_doings v_o_seen v_o_seed v_o_found v_o_foundViews v_o_foundMany d_o_many d_o_views d_o_aisles d_o_page) := hD
  refine lv_aload_n hx hb dX9_seat_5 rfl (lv_at hl 0 rfl) ?_
  refine lv_iload_n hx hb dX9_seat_6 rfl (lv_at hl 1 rfl) ?_
  refine lv_iload_n hx hb dX9_seat_7 rfl (lv_at hl 2 rfl) ?_
  obtain ⟨q1, hq2, hf⟩ := pf_b hf
  have hPc := hP.sub (ws' := (WX9_noSeat cI cJ cZ cB a_o a_o_text a_o_many a_o_views a_o_aisles a_o_readMany a_o_readViews a_o_readAisles a_o_readPage a_o_page a_o_trial a_o_book a_o_kept a_o_isKept a_o_seenSeat a_o_seenWas (0 : Int32) v_o_textSize v_o_place v_o_rows v_o_readRows v_o_doings v_o_seen v_o_seed v_o_found v_o_foundViews v_o_foundMany d_o_many)) [0, 1] rfl
  refine cl_roi (va_runV (As := [.int x1, .int x2]) (rest := []) ⟨hx, hb, hml, hown, hts⟩ (kX9_noSeat l D cI cJ cZ cB a_o a_o_text a_o_many a_o_views a_o_aisles a_o_readMany a_o_readViews a_o_readAisles a_o_readPage a_o_page a_o_trial a_o_book a_o_kept a_o_isKept a_o_seenSeat a_o_seenWas (0 : Int32) v_o_textSize v_o_place v_o_rows v_o_readRows v_o_doings v_o_seen v_o_seed v_o_found v_o_foundViews v_o_foundMany d_o_many x1 x2 q1 hq2) (cwV 2 hts gX9_seat_X9_noSeat rfl rfl rfl (by decide +kernel) ⟨Nat.le_of_ble_eq_true rfl, Nat.le_of_ble_eq_true rfl⟩) ⟨PRo.blind, va_recv hK.1 hPc (ci := 9) (q0 := 0) rfl rfl, PRo.at hK hPc⟩ rfl rfl hl.1 rfl (lv_room (Nat.le_of_ble_eq_true rfl)) dX9_seat_8 ⟨Nat.zero_le _, Nat.zero_le _⟩) ?_
  refine lv_if_eq (tgt := 16) hx hb dX9_seat_11 (by decide) (fun hc => ?_) (fun hc => ?_)
  · have hf := pf_t hc hf
    refine lv_iload_n hx hb dX9_seat_16 rfl (lv_at hl 3 rfl) ?_
    by_cases hs3 : x3 = (0 : Int32)
    · have hf := pf_t hs3 hf
      refine lv_tableIn (tgt := 44) (off := 27) hx hb dX9_seat_17 (by rw [hs3]; decide) (by rw [hs3]; decide) (by rw [hs3]; rfl) (by decide) ?_
      refine lv_aload_n hx hb dX9_seat_44 rfl (lv_at hl 0 rfl) ?_
      refine va_get (D := D) (ci := 9) (v := .ref a_o_views) (C := RX9) (T := TX9) (N := 26) hx hb hts iX9_seat_X9 hown hK.1 hP 0 rfl rfl 6 (by decide) (hts (.fieldLink RX9 16 "LoneSeatsModel" "views" "[I") (by decide +kernel)) (fun _ h9 => h9) rfl dX9_seat_45 ?_
      refine lv_bipush (v := (9 : Int32)) hx hb dX9_seat_48 (by decide) ?_
      refine lv_iload_n hx hb dX9_seat_50 rfl (lv_at hl 1 rfl) ?_
      refine lv_imul hx hb dX9_seat_51 ?_
      refine lv_iload_n hx hb dX9_seat_52 rfl (lv_at hl 2 rfl) ?_
      refine lv_iadd hx hb dX9_seat_53 ?_
      obtain ⟨hg4, hf⟩ := pf_x hf
      refine va_iald hx hb hK.1 hP 2 0 rfl rfl hg4 dX9_seat_54 ?_
      cases hf
      exact W.iret hx hb hr (fun t ht hW => ⟨⟨rfl, by rw [ht]; exact hP, hD⟩, hS.F ht⟩) hS.2.2 dX9_seat_55
    · have hf := pf_f hs3 hf
      by_cases hs5 : x3 = (1 : Int32)
      · have hf := pf_t hs5 hf
        refine lv_tableIn (tgt := 56) (off := 39) hx hb dX9_seat_17 (by rw [hs5]; decide) (by rw [hs5]; decide) (by rw [hs5]; rfl) (by decide) ?_
        refine lv_aload_n hx hb dX9_seat_56 rfl (lv_at hl 0 rfl) ?_
        refine va_get (D := D) (ci := 9) (v := .ref a_o_aisles) (C := RX9) (T := TX9) (N := 26) hx hb hts iX9_seat_X9 hown hK.1 hP 0 rfl rfl 7 (by decide) (hts (.fieldLink RX9 19 "LoneSeatsModel" "aisles" "[Z") (by decide +kernel)) (fun _ h9 => h9) rfl dX9_seat_57 ?_
        refine lv_bipush (v := (9 : Int32)) hx hb dX9_seat_60 (by decide) ?_
        refine lv_iload_n hx hb dX9_seat_62 rfl (lv_at hl 1 rfl) ?_
        refine lv_imul hx hb dX9_seat_63 ?_
        refine lv_iload_n hx hb dX9_seat_64 rfl (lv_at hl 2 rfl) ?_
        refine lv_iadd hx hb dX9_seat_65 ?_
        obtain ⟨hg6, hf⟩ := pf_x hf
        refine va_zald hx hb hK.1 hP 3 2 rfl rfl hg6 dX9_seat_66 ?_
        refine lv_if_eq (tgt := 74) hx hb dX9_seat_67 (by decide) (fun hc => ?_) (fun hc => ?_)
        · have hf := pf_t hc hf
          refine lv_iconst (v := (0 : Int32)) hx hb dX9_seat_74 (by decide) ?_
          cases hf
          exact W.iret hx hb hr (fun t ht hW => ⟨⟨rfl, by rw [ht]; exact hP, hD⟩, hS.F ht⟩) hS.2.2 dX9_seat_75
        · have hf := pf_f hc hf
          refine lv_iconst (v := (1 : Int32)) hx hb dX9_seat_70 (by decide) ?_
          refine lv_goto (tgt := 75) hx hb dX9_seat_71 (by decide) ?_
          cases hf
          exact W.iret hx hb hr (fun t ht hW => ⟨⟨rfl, by rw [ht]; exact hP, hD⟩, hS.F ht⟩) hS.2.2 dX9_seat_75
      · have hf := pf_f hs5 hf
        by_cases hs7 : x3 = (2 : Int32)
        · have hf := pf_t hs7 hf
          refine lv_tableIn (tgt := 76) (off := 59) hx hb dX9_seat_17 (by rw [hs7]; decide) (by rw [hs7]; decide) (by rw [hs7]; rfl) (by decide) ?_
          refine lv_aload_n hx hb dX9_seat_76 rfl (lv_at hl 0 rfl) ?_
          refine va_get (D := D) (ci := 9) (v := .ref a_o_page) (C := RX9) (T := TX9) (N := 26) hx hb hts iX9_seat_X9 hown hK.1 hP 0 rfl rfl 13 (by decide) (hts (.fieldLink RX9 35 "LoneSeatsModel" "page" "[I") (by decide +kernel)) (fun _ h9 => h9) rfl dX9_seat_77 ?_
          refine lv_bipush (v := (13 : Int32)) hx hb dX9_seat_80 (by decide) ?_
          refine lv_bipush (v := (9 : Int32)) hx hb dX9_seat_82 (by decide) ?_
          refine lv_iload_n hx hb dX9_seat_84 rfl (lv_at hl 1 rfl) ?_
          refine lv_imul hx hb dX9_seat_85 ?_
          refine lv_iadd hx hb dX9_seat_86 ?_
          refine lv_iload_n hx hb dX9_seat_87 rfl (lv_at hl 2 rfl) ?_
          refine lv_iadd hx hb dX9_seat_88 ?_
          obtain ⟨hg8, hf⟩ := pf_x hf
          refine va_iald hx hb hK.1 hP 4 0 rfl rfl hg8 dX9_seat_89 ?_
          cases hf
          exact W.iret hx hb hr (fun t ht hW => ⟨⟨rfl, by rw [ht]; exact hP, hD⟩, hS.F ht⟩) hS.2.2 dX9_seat_90
        · have hf := pf_f hs7 hf
          refine lv_tableOut (tgt := 91) hx hb dX9_seat_17 (by have := lv_neT hs3 (show (0 : Int32).toInt = 0 by decide); have := lv_neT hs5 (show (1 : Int32).toInt = 1 by decide); have := lv_neT hs7 (show (2 : Int32).toInt = 2 by decide); omega) (by decide) ?_
          refine lv_bipush (v := (-2 : Int32)) hx hb dX9_seat_91 (by decide) ?_
          cases hf
          exact W.iret hx hb hr (fun t ht hW => ⟨⟨rfl, by rw [ht]; exact hP, hD⟩, hS.F ht⟩) hS.2.2 dX9_seat_93
  · have hf := pf_f hc hf
    refine lv_iconst (v := (-1 : Int32)) hx hb dX9_seat_14 (by decide) ?_
    cases hf
    exact W.iret hx hb hr (fun t ht hW => ⟨⟨rfl, by rw [ht]; exact hP, hD⟩, hS.F ht⟩) hS.2.2 dX9_seat_15
abbrev WX9_party (cI cJ cZ cB : ClassId) (a_o : Nat) (a_o_text : Nat) (a_o_many : Nat) (a_o_views : Nat) (a_o_aisles : Nat) (a_o_readMany : Nat) (a_o_readViews : Nat) (a_o_readAisles : Nat) (a_o_readPage : Nat) (a_o_page : Nat) (a_o_trial : Nat) (a_o_book : Nat) (a_o_kept : Nat) (a_o_isKept : Nat) (a_o_seenSeat : Nat) (a_o_seenWas : Nat) (v_o_thrown : Int32) (v_o_textSize : Int32) (v_o_place : Int32) (v_o_rows : Int32) (v_o_readRows : Int32) (v_o_doings : Int32) (v_o_seen : Int32) (v_o_seed : Int64) (v_o_found : Int32) (v_o_foundViews : Int32) (v_o_foundMany : Int32) (d_o_page : (Nat → Int32)) : va_W := [(a_o, .inr (9, [.int v_o_thrown, .ref a_o_text, .int v_o_textSize, .int v_o_place, .int v_o_rows, .ref a_o_many, .ref a_o_views, .ref a_o_aisles, .int v_o_readRows, .ref a_o_readMany, .ref a_o_readViews, .ref a_o_readAisles, .ref a_o_readPage, .ref a_o_page, .ref a_o_trial, .ref a_o_book, .int v_o_doings, .ref a_o_kept, .ref a_o_isKept, .int v_o_seen, .ref a_o_seenSeat, .ref a_o_seenWas, .long v_o_seed, .int v_o_found, .int v_o_foundViews, .int v_o_foundMany])), (a_o_page, .inl (cI, (229, .inl d_o_page)))]
set_option maxRecDepth 20000 in
theorem iX9_party_X9 : ∀ w ∈ wsX90, w ∈ wsX9_party := by decide +kernel
def fX9_party_70 (v_o_thrown : Int32) (d_o_page : (Nat → Int32)) (x1 : Int32) (x2 : Int32) : Option (Int32 × Int32) := ((fX9_at x1).bind fun q1 => (if (q1 + x2) < 0 ∨ 229 ≤ ((q1 + x2)).toNatClampNeg then none else some ((d_o_page ((q1 + x2)).toNatClampNeg), v_o_thrown)))
set_option maxRecDepth 100000 in
set_option maxHeartbeats 4000000 in
theorem tX9_party_70 {p : Program} {l : Launch} {e : Env} {s : State} {m : MethodId} {args : Array Value} {below : List Frame} {meth : Method} {c : Code} {D : va_G} {cI cJ cZ cB : ClassId} {a_o : Nat} {a_o_text : Nat} {a_o_many : Nat} {a_o_views : Nat} {a_o_aisles : Nat} {a_o_readMany : Nat} {a_o_readViews : Nat} {a_o_readAisles : Nat} {a_o_readPage : Nat} {a_o_page : Nat} {a_o_trial : Nat} {a_o_book : Nat} {a_o_kept : Nat} {a_o_isKept : Nat} {a_o_seenSeat : Nat} {a_o_seenWas : Nat} {A : Nat → Prop} (C : Cx p s m args meth c cX9_party 4 (some .int) wsX9_party RX9) (hK : Kw D (tyL cI cJ cZ cB) s) (hA : ∀ q : Nat, s.heap.size ≤ q → A q) : ∀ (v_o_thrown : Int32) (v_o_textSize : Int32) (v_o_place : Int32) (v_o_rows : Int32) (v_o_readRows : Int32) (v_o_doings : Int32) (v_o_seen : Int32) (v_o_seed : Int64) (v_o_found : Int32) (v_o_foundViews : Int32) (v_o_foundMany : Int32) (d_o_page : (Nat → Int32)) (x1 : Int32) (x2 : Int32) (H : Heap) (locs : List Loc) (ls : Array Slot) (res : Int32 × Int32), va_P D vwCl (WX9_party cI cJ cZ cB a_o a_o_text a_o_many a_o_views a_o_aisles a_o_readMany a_o_readViews a_o_readAisles a_o_readPage a_o_page a_o_trial a_o_book a_o_kept a_o_isKept a_o_seenSeat a_o_seenWas v_o_thrown v_o_textSize v_o_place v_o_rows v_o_readRows v_o_doings v_o_seen v_o_seed v_o_found v_o_foundViews v_o_foundMany d_o_page) H → va_D A (WX9_party cI cJ cZ cB a_o a_o_text a_o_many a_o_views a_o_aisles a_o_readMany a_o_readViews a_o_readAisles a_o_readPage a_o_page a_o_trial a_o_book a_o_kept a_o_isKept a_o_seenSeat a_o_seenWas v_o_thrown v_o_textSize v_o_place v_o_rows v_o_readRows v_o_doings v_o_seen v_o_seed v_o_found v_o_foundViews v_o_foundMany d_o_page) → va_S A s.heap H locs → lv_has ls 4 [(0, .ref a_o), (1, .int x1), (2, .int x2)] → fX9_party_70 v_o_thrown d_o_page x1 x2 = some res → W p l e ({ frames := 2, cells := 0, slots := 0, locals := 46 } : Room) s m args below meth c H locs 0 0 (MQ below (QRw D A (WX9_party cI cJ cZ cB a_o a_o_text a_o_many a_o_views a_o_aisles a_o_readMany a_o_readViews a_o_readAisles a_o_readPage a_o_page a_o_trial a_o_book a_o_kept a_o_isKept a_o_seenSeat a_o_seenWas res.2 v_o_textSize v_o_place v_o_rows v_o_readRows v_o_doings v_o_seen v_o_seed v_o_found v_o_foundViews v_o_foundMany d_o_page) (some (.int res.1))) args s 0 0 A) (F0 m 70 ls []) := by
  obtain ⟨hx, hb, hr, hml, hts, hown, hlk⟩ := id C
  intro v_o_thrown v_o_textSize v_o_place v_o_rows v_o_readRows v_o_doings v_o_seen v_o_seed v_o_found v_o_foundViews v_o_foundMany d_o_page x1 x2 H locs ls res hP hD hS hl hf
  unfold fX9_party_70 at hf
  refine lv_aload_n hx hb dX9_party_70 rfl (lv_at hl 0 rfl) ?_
  refine va_get (D := D) (ci := 9) (v := .ref a_o_page) (C := RX9) (T := TX9) (N := 26) hx hb hts iX9_party_X9 hown hK.1 hP 0 rfl rfl 13 (by decide) (hts (.fieldLink RX9 35 "LoneSeatsModel" "page" "[I") (by decide +kernel)) (fun _ h9 => h9) rfl dX9_party_71 ?_
  refine lv_iload_n hx hb dX9_party_74 rfl (lv_at hl 1 rfl) ?_
  obtain ⟨q1, hq2, hf⟩ := pf_b hf
  have hPc := hP.sub (ws' := ([] : va_W)) [] rfl
  refine cl_roi (va_runS (As := [.int x1]) (rest := [.ref a_o_page]) ⟨hx, hb, hml, hown, hts⟩ (kX9_at l D cI cJ cZ cB x1 q1 hq2) (va_cwS 1 hts gX9_party_X9_at rfl rfl rfl (by decide +kernel) ⟨Nat.le_of_ble_eq_true rfl, Nat.le_of_ble_eq_true rfl⟩) ⟨PRo.blind, PRo.at hK hPc⟩ rfl rfl hl.1 rfl (lv_room (Nat.le_of_ble_eq_true rfl)) dX9_party_75 ⟨Nat.zero_le _, Nat.zero_le _⟩) ?_
  refine lv_iload_n hx hb dX9_party_78 rfl (lv_at hl 2 rfl) ?_
  refine lv_iadd hx hb dX9_party_79 ?_
  obtain ⟨hg3, hf⟩ := pf_x hf
  refine va_iald hx hb hK.1 hP 1 0 rfl rfl hg3 dX9_party_80 ?_
  cases hf
  exact W.iret hx hb hr (fun t ht hW => ⟨⟨rfl, by rw [ht]; exact hP, hD⟩, hS.F ht⟩) hS.2.2 dX9_party_81
def fX9_party_61 (v_o_thrown : Int32) (d_o_page : (Nat → Int32)) (x1 : Int32) (x2 : Int32) (x3 : Int32) : Option (Int32 × Int32) := (if x3 = 0 then some ((-9 : Int32), v_o_thrown) else fX9_party_70 v_o_thrown d_o_page x1 x2)
set_option maxRecDepth 100000 in
set_option maxHeartbeats 4000000 in
theorem tX9_party_61 {p : Program} {l : Launch} {e : Env} {s : State} {m : MethodId} {args : Array Value} {below : List Frame} {meth : Method} {c : Code} {D : va_G} {cI cJ cZ cB : ClassId} {a_o : Nat} {a_o_text : Nat} {a_o_many : Nat} {a_o_views : Nat} {a_o_aisles : Nat} {a_o_readMany : Nat} {a_o_readViews : Nat} {a_o_readAisles : Nat} {a_o_readPage : Nat} {a_o_page : Nat} {a_o_trial : Nat} {a_o_book : Nat} {a_o_kept : Nat} {a_o_isKept : Nat} {a_o_seenSeat : Nat} {a_o_seenWas : Nat} {A : Nat → Prop} (C : Cx p s m args meth c cX9_party 4 (some .int) wsX9_party RX9) (hK : Kw D (tyL cI cJ cZ cB) s) (hA : ∀ q : Nat, s.heap.size ≤ q → A q) : ∀ (v_o_thrown : Int32) (v_o_textSize : Int32) (v_o_place : Int32) (v_o_rows : Int32) (v_o_readRows : Int32) (v_o_doings : Int32) (v_o_seen : Int32) (v_o_seed : Int64) (v_o_found : Int32) (v_o_foundViews : Int32) (v_o_foundMany : Int32) (d_o_page : (Nat → Int32)) (x1 : Int32) (x2 : Int32) (x3 : Int32) (H : Heap) (locs : List Loc) (ls : Array Slot) (res : Int32 × Int32), va_P D vwCl (WX9_party cI cJ cZ cB a_o a_o_text a_o_many a_o_views a_o_aisles a_o_readMany a_o_readViews a_o_readAisles a_o_readPage a_o_page a_o_trial a_o_book a_o_kept a_o_isKept a_o_seenSeat a_o_seenWas v_o_thrown v_o_textSize v_o_place v_o_rows v_o_readRows v_o_doings v_o_seen v_o_seed v_o_found v_o_foundViews v_o_foundMany d_o_page) H → va_D A (WX9_party cI cJ cZ cB a_o a_o_text a_o_many a_o_views a_o_aisles a_o_readMany a_o_readViews a_o_readAisles a_o_readPage a_o_page a_o_trial a_o_book a_o_kept a_o_isKept a_o_seenSeat a_o_seenWas v_o_thrown v_o_textSize v_o_place v_o_rows v_o_readRows v_o_doings v_o_seen v_o_seed v_o_found v_o_foundViews v_o_foundMany d_o_page) → va_S A s.heap H locs → lv_has ls 4 [(0, .ref a_o), (1, .int x1), (2, .int x2), (3, .int x3)] → fX9_party_61 v_o_thrown d_o_page x1 x2 x3 = some res → W p l e ({ frames := 2, cells := 0, slots := 0, locals := 46 } : Room) s m args below meth c H locs 0 0 (MQ below (QRw D A (WX9_party cI cJ cZ cB a_o a_o_text a_o_many a_o_views a_o_aisles a_o_readMany a_o_readViews a_o_readAisles a_o_readPage a_o_page a_o_trial a_o_book a_o_kept a_o_isKept a_o_seenSeat a_o_seenWas res.2 v_o_textSize v_o_place v_o_rows v_o_readRows v_o_doings v_o_seen v_o_seed v_o_found v_o_foundViews v_o_foundMany d_o_page) (some (.int res.1))) args s 0 0 A) (F0 m 61 ls []) := by
  obtain ⟨hx, hb, hr, hml, hts, hown, hlk⟩ := id C
  intro v_o_thrown v_o_textSize v_o_place v_o_rows v_o_readRows v_o_doings v_o_seen v_o_seed v_o_found v_o_foundViews v_o_foundMany d_o_page x1 x2 x3 H locs ls res hP hD hS hl hf
  unfold fX9_party_61 at hf
  refine lv_iload_n hx hb dX9_party_61 rfl (lv_at hl 3 rfl) ?_
  refine lv_if_ne (tgt := 70) hx hb dX9_party_62 (by decide) (fun hc => ?_) (fun hc => ?_)
  · have hf := pf_f hc hf
    exact tX9_party_70 C hK hA  v_o_thrown v_o_textSize v_o_place v_o_rows v_o_readRows v_o_doings v_o_seen v_o_seed v_o_found v_o_foundViews v_o_foundMany d_o_page x1 x2 _ _ ls _ hP hD hS (lv_sub hl [0, 1, 2] rfl) hf
  · have hf := pf_t hc hf
    refine lv_bipush (v := (-9 : Int32)) hx hb dX9_party_65 (by decide) ?_
    refine lv_goto (tgt := 81) hx hb dX9_party_67 (by decide) ?_
    cases hf
    exact W.iret hx hb hr (fun t ht hW => ⟨⟨rfl, by rw [ht]; exact hP, hD⟩, hS.F ht⟩) hS.2.2 dX9_party_81
def fX9_party_50 (v_o_thrown : Int32) (d_o_page : (Nat → Int32)) (x1 : Int32) (x2 : Int32) (k0 : Int32) : Option (Int32 × Int32) := (if x2 = (3 : Int32) then fX9_party_61 v_o_thrown d_o_page x1 x2 k0 else (if x2 = (4 : Int32) then fX9_party_61 v_o_thrown d_o_page x1 x2 k0 else fX9_party_70 v_o_thrown d_o_page x1 x2))
set_option maxRecDepth 100000 in
set_option maxHeartbeats 4000000 in
theorem tX9_party_50 {p : Program} {l : Launch} {e : Env} {s : State} {m : MethodId} {args : Array Value} {below : List Frame} {meth : Method} {c : Code} {D : va_G} {cI cJ cZ cB : ClassId} {a_o : Nat} {a_o_text : Nat} {a_o_many : Nat} {a_o_views : Nat} {a_o_aisles : Nat} {a_o_readMany : Nat} {a_o_readViews : Nat} {a_o_readAisles : Nat} {a_o_readPage : Nat} {a_o_page : Nat} {a_o_trial : Nat} {a_o_book : Nat} {a_o_kept : Nat} {a_o_isKept : Nat} {a_o_seenSeat : Nat} {a_o_seenWas : Nat} {A : Nat → Prop} (C : Cx p s m args meth c cX9_party 4 (some .int) wsX9_party RX9) (hK : Kw D (tyL cI cJ cZ cB) s) (hA : ∀ q : Nat, s.heap.size ≤ q → A q) : ∀ (v_o_thrown : Int32) (v_o_textSize : Int32) (v_o_place : Int32) (v_o_rows : Int32) (v_o_readRows : Int32) (v_o_doings : Int32) (v_o_seen : Int32) (v_o_seed : Int64) (v_o_found : Int32) (v_o_foundViews : Int32) (v_o_foundMany : Int32) (d_o_page : (Nat → Int32)) (x1 : Int32) (x2 : Int32) (k0 : Int32) (H : Heap) (locs : List Loc) (ls : Array Slot) (res : Int32 × Int32), va_P D vwCl (WX9_party cI cJ cZ cB a_o a_o_text a_o_many a_o_views a_o_aisles a_o_readMany a_o_readViews a_o_readAisles a_o_readPage a_o_page a_o_trial a_o_book a_o_kept a_o_isKept a_o_seenSeat a_o_seenWas v_o_thrown v_o_textSize v_o_place v_o_rows v_o_readRows v_o_doings v_o_seen v_o_seed v_o_found v_o_foundViews v_o_foundMany d_o_page) H → va_D A (WX9_party cI cJ cZ cB a_o a_o_text a_o_many a_o_views a_o_aisles a_o_readMany a_o_readViews a_o_readAisles a_o_readPage a_o_page a_o_trial a_o_book a_o_kept a_o_isKept a_o_seenSeat a_o_seenWas v_o_thrown v_o_textSize v_o_place v_o_rows v_o_readRows v_o_doings v_o_seen v_o_seed v_o_found v_o_foundViews v_o_foundMany d_o_page) → va_S A s.heap H locs → lv_has ls 4 [(0, .ref a_o), (1, .int x1), (2, .int x2)] → fX9_party_50 v_o_thrown d_o_page x1 x2 k0 = some res → W p l e ({ frames := 2, cells := 0, slots := 0, locals := 46 } : Room) s m args below meth c H locs 0 0 (MQ below (QRw D A (WX9_party cI cJ cZ cB a_o a_o_text a_o_many a_o_views a_o_aisles a_o_readMany a_o_readViews a_o_readAisles a_o_readPage a_o_page a_o_trial a_o_book a_o_kept a_o_isKept a_o_seenSeat a_o_seenWas res.2 v_o_textSize v_o_place v_o_rows v_o_readRows v_o_doings v_o_seen v_o_seed v_o_found v_o_foundViews v_o_foundMany d_o_page) (some (.int res.1))) args s 0 0 A) (F0 m 50 ls [.int k0]) := by
  obtain ⟨hx, hb, hr, hml, hts, hown, hlk⟩ := id C
  intro v_o_thrown v_o_textSize v_o_place v_o_rows v_o_readRows v_o_doings v_o_seen v_o_seed v_o_found v_o_foundViews v_o_foundMany d_o_page x1 x2 k0 H locs ls res hP hD hS hl hf
  unfold fX9_party_50 at hf
  refine lv_istore_n (lv' := [(3, .int k0), (0, .ref a_o), (1, .int x1), (2, .int x2)]) hx hb dX9_party_50 rfl hl (by decide) rfl (fun ls hl => ?_)
  refine lv_iload_n hx hb dX9_party_51 rfl (lv_at hl 3 rfl) ?_
  refine lv_iconst (v := (3 : Int32)) hx hb dX9_party_52 (by decide) ?_
  refine lv_icmp_eq (tgt := 61) hx hb dX9_party_53 (by decide) (fun hc => ?_) (fun hc => ?_)
  · have hf := pf_t hc hf
    exact tX9_party_61 C hK hA  v_o_thrown v_o_textSize v_o_place v_o_rows v_o_readRows v_o_doings v_o_seen v_o_seed v_o_found v_o_foundViews v_o_foundMany d_o_page x1 x2 k0 _ _ ls _ hP hD hS (lv_sub hl [1, 2, 3, 0] rfl) hf
  · have hf := pf_f hc hf
    refine lv_iload_n hx hb dX9_party_56 rfl (lv_at hl 3 rfl) ?_
    refine lv_iconst (v := (4 : Int32)) hx hb dX9_party_57 (by decide) ?_
    refine lv_icmp_ne (tgt := 70) hx hb dX9_party_58 (by decide) (fun hc => ?_) (fun hc => ?_)
    · have hf := pf_f hc hf
      exact tX9_party_70 C hK hA  v_o_thrown v_o_textSize v_o_place v_o_rows v_o_readRows v_o_doings v_o_seen v_o_seed v_o_found v_o_foundViews v_o_foundMany d_o_page x1 x2 _ _ ls _ hP hD hS (lv_sub hl [1, 2, 3] rfl) hf
    · have hf := pf_t hc hf
      exact tX9_party_61 C hK hA  v_o_thrown v_o_textSize v_o_place v_o_rows v_o_readRows v_o_doings v_o_seen v_o_seed v_o_found v_o_foundViews v_o_foundMany d_o_page x1 x2 k0 _ _ ls _ hP hD hS (lv_sub hl [1, 2, 3, 0] rfl) hf
def fX9_party (v_o_thrown : Int32) (d_o_page : (Nat → Int32)) (x1 : Int32) (x2 : Int32) : Option (Int32 × Int32) := ((fX9_noParty d_o_page x1).bind fun q1 => (if q1 = 0 then ((fX9_in ((x2).toInt64) (0 : Int64) (5 : Int64)).bind fun q3 => (if q3 = 0 then some ((-2 : Int32), (0 : Int32)) else ((fX9_at x1).bind fun q5 => (if (q5 + (2 : Int32)) < 0 ∨ 229 ≤ ((q5 + (2 : Int32))).toNatClampNeg then none else (if (d_o_page ((q5 + (2 : Int32))).toNatClampNeg) = (1 : Int32) then fX9_party_50 (0 : Int32) d_o_page x1 x2 (1 : Int32) else fX9_party_50 (0 : Int32) d_o_page x1 x2 (0 : Int32)))))) else some ((-1 : Int32), (0 : Int32))))
set_option maxRecDepth 100000 in
set_option maxHeartbeats 4000000 in
theorem kX9_party (l : Launch) (D : va_G) (cI cJ cZ cB : ClassId) (a_o : Nat) (a_o_text : Nat) (a_o_many : Nat) (a_o_views : Nat) (a_o_aisles : Nat) (a_o_readMany : Nat) (a_o_readViews : Nat) (a_o_readAisles : Nat) (a_o_readPage : Nat) (a_o_page : Nat) (a_o_trial : Nat) (a_o_book : Nat) (a_o_kept : Nat) (a_o_isKept : Nat) (a_o_seenSeat : Nat) (a_o_seenWas : Nat) (v_o_thrown : Int32) (v_o_textSize : Int32) (v_o_place : Int32) (v_o_rows : Int32) (v_o_readRows : Int32) (v_o_doings : Int32) (v_o_seen : Int32) (v_o_seed : Int64) (v_o_found : Int32) (v_o_foundViews : Int32) (v_o_foundMany : Int32) (d_o_page : (Nat → Int32)) (x1 : Int32) (x2 : Int32) (res : Int32 × Int32) (hf : fX9_party v_o_thrown d_o_page x1 x2 = some res) : Rw l yX9_party wsX9_party ({ frames := 2, cells := 0, slots := 0, locals := 46 } : Room) D (tyL cI cJ cZ cB) [.ref a_o, .int x1, .int x2] (WX9_party cI cJ cZ cB a_o a_o_text a_o_many a_o_views a_o_aisles a_o_readMany a_o_readViews a_o_readAisles a_o_readPage a_o_page a_o_trial a_o_book a_o_kept a_o_isKept a_o_seenSeat a_o_seenWas v_o_thrown v_o_textSize v_o_place v_o_rows v_o_readRows v_o_doings v_o_seen v_o_seed v_o_found v_o_foundViews v_o_foundMany d_o_page) (some (.int res.1)) (WX9_party cI cJ cZ cB a_o a_o_text a_o_many a_o_views a_o_aisles a_o_readMany a_o_readViews a_o_readAisles a_o_readPage a_o_page a_o_trial a_o_book a_o_kept a_o_isKept a_o_seenSeat a_o_seenWas res.2 v_o_textSize v_o_place v_o_rows v_o_readRows v_o_doings v_o_seen v_o_seed v_o_found v_o_foundViews v_o_foundMany d_o_page) := by
  refine Rw.of (cc := cX9_party) (maxL := 4) (ret := (some .int)) (own := RX9) (by decide) rfl rfl (Nat.le_of_ble_eq_true rfl) ?_
  intro p e s m below meth c A ls C hK hA hP hD hS hl
  obtain ⟨hx, hb, hr, hml, hts, hown, hlk⟩ := id C
  have hl : lv_has ls 4 [(0, .ref a_o), (1, .int x1), (2, .int x2)] := hl
  unfold fX9_party at hf
  refine lv_aload_n hx hb dX9_party_0 rfl (lv_at hl 0 rfl) ?_
  refine lv_iconst (v := (0 : Int32)) hx hb dX9_party_1 (by decide) ?_
  refine va_put (D := D) (ci := 9) (v := .int (0 : Int32)) (ty := .int) (C := RX9) (T := TX9) (N := 26) hx hb hts iX9_party_X9 tyX9 tyX9_ok nmX9 hown hK.1 hP hD hS 0 rfl rfl 0 (by decide) (hts (.fieldLink RX9 60 "LoneSeatsModel" "thrown" "I") (by decide +kernel)) (fun _ h9 => h9) rfl (by decide +kernel) rfl rfl (Nat.le_of_ble_eq_true rfl) dX9_party_2 (fun H locs hP hD hS => ?_)
  have hP : va_P D vwCl (WX9_party cI cJ cZ cB a_o a_o_text a_o_many a_o_views a_o_aisles a_o_readMany a_o_readViews a_o_readAisles a_o_readPage a_o_page a_o_trial a_o_book a_o_kept a_o_isKept a_o_seenSeat a_o_seenWas (0 : Int32) v_o_textSize v_o_place v_o_rows v_o_readRows v_o_doings v_o_seen v_o_seed v_o_found v_o_foundViews v_o_foundMany d_o_page) H := hP
  have hD : va_D A (WX9_party cI cJ cZ cB a_o a_o_text a_o_many a_o_views a_o_aisles a_o_readMany a_o_readViews a_o_readAisles a_o_readPage a_o_page a_o_trial a_o_book a_o_kept a_o_isKept a_o_seenSeat a_o_seenWas (0 : Int32) v_o_textSize v_o_place v_o_rows v_o_readRows v_o_doings v_o_seen v_o_seed v_o_found v_o_foundViews v_o_foundMany d_o_page) := hD
  refine lv_aload_n hx hb dX9_party_5 rfl (lv_at hl 0 rfl) ?_
  refine lv_iload_n hx hb dX9_party_6 rfl (lv_at hl 1 rfl) ?_
  obtain ⟨q1, hq2, hf⟩ := pf_b hf
  have hPc := hP.sub (ws' := (WX9_noParty cI cJ cZ cB a_o a_o_text a_o_many a_o_views a_o_aisles a_o_readMany a_o_readViews a_o_readAisles a_o_readPage a_o_page a_o_trial a_o_book a_o_kept a_o_isKept a_o_seenSeat a_o_seenWas (0 : Int32) v_o_textSize v_o_place v_o_rows v_o_readRows v_o_doings v_o_seen v_o_seed v_o_found v_o_foundViews v_o_foundMany d_o_page)) [0, 1] rfl
  refine cl_roi (va_runV (As := [.int x1]) (rest := []) ⟨hx, hb, hml, hown, hts⟩ (kX9_noParty l D cI cJ cZ cB a_o a_o_text a_o_many a_o_views a_o_aisles a_o_readMany a_o_readViews a_o_readAisles a_o_readPage a_o_page a_o_trial a_o_book a_o_kept a_o_isKept a_o_seenSeat a_o_seenWas (0 : Int32) v_o_textSize v_o_place v_o_rows v_o_readRows v_o_doings v_o_seen v_o_seed v_o_found v_o_foundViews v_o_foundMany d_o_page x1 q1 hq2) (cwV 1 hts gX9_party_X9_noParty rfl rfl rfl (by decide +kernel) ⟨Nat.le_of_ble_eq_true rfl, Nat.le_of_ble_eq_true rfl⟩) ⟨PRo.blind, va_recv hK.1 hPc (ci := 9) (q0 := 0) rfl rfl, PRo.at hK hPc⟩ rfl rfl hl.1 rfl (lv_room (Nat.le_of_ble_eq_true rfl)) dX9_party_7 ⟨Nat.zero_le _, Nat.zero_le _⟩) ?_
  refine lv_if_eq (tgt := 15) hx hb dX9_party_10 (by decide) (fun hc => ?_) (fun hc => ?_)
  · have hf := pf_t hc hf
    refine lv_iload_n hx hb dX9_party_15 rfl (lv_at hl 2 rfl) ?_
    refine lv_i2l (v := (x2).toInt64) hx hb dX9_party_16 rfl ?_
    refine lv_lconst (v := (0 : Int64)) hx hb dX9_party_17 (by decide) ?_
    refine lv_ldc2 (v := (5 : Int64)) hx hb hown (hts (.constantLong RX9 179 (5 : Int64)) (by decide +kernel)) dX9_party_18 ?_
    obtain ⟨q3, hq4, hf⟩ := pf_b hf
    have hPc := hP.sub (ws' := ([] : va_W)) [] rfl
    refine cl_roi (va_runS (As := [.long ((x2).toInt64), .long (0 : Int64), .long (5 : Int64)]) (rest := []) ⟨hx, hb, hml, hown, hts⟩ (kX9_in l D cI cJ cZ cB ((x2).toInt64) (0 : Int64) (5 : Int64) q3 hq4) (va_cwS 3 hts gX9_party_X9_in rfl rfl rfl (by decide +kernel) ⟨Nat.le_of_ble_eq_true rfl, Nat.le_of_ble_eq_true rfl⟩) ⟨PRo.blind, PRo.at hK hPc⟩ rfl rfl hl.1 rfl (lv_room (Nat.le_of_ble_eq_true rfl)) dX9_party_21 ⟨Nat.zero_le _, Nat.zero_le _⟩) ?_
    refine lv_if_ne (tgt := 30) hx hb dX9_party_24 (by decide) (fun hc => ?_) (fun hc => ?_)
    · have hf := pf_f hc hf
      refine lv_aload_n hx hb dX9_party_30 rfl (lv_at hl 0 rfl) ?_
      refine va_get (D := D) (ci := 9) (v := .ref a_o_page) (C := RX9) (T := TX9) (N := 26) hx hb hts iX9_party_X9 hown hK.1 hP 0 rfl rfl 13 (by decide) (hts (.fieldLink RX9 35 "LoneSeatsModel" "page" "[I") (by decide +kernel)) (fun _ h9 => h9) rfl dX9_party_31 ?_
      refine lv_iload_n hx hb dX9_party_34 rfl (lv_at hl 1 rfl) ?_
      obtain ⟨q5, hq6, hf⟩ := pf_b hf
      have hPc := hP.sub (ws' := ([] : va_W)) [] rfl
      refine cl_roi (va_runS (As := [.int x1]) (rest := [.ref a_o_page]) ⟨hx, hb, hml, hown, hts⟩ (kX9_at l D cI cJ cZ cB x1 q5 hq6) (va_cwS 1 hts gX9_party_X9_at rfl rfl rfl (by decide +kernel) ⟨Nat.le_of_ble_eq_true rfl, Nat.le_of_ble_eq_true rfl⟩) ⟨PRo.blind, PRo.at hK hPc⟩ rfl rfl hl.1 rfl (lv_room (Nat.le_of_ble_eq_true rfl)) dX9_party_35 ⟨Nat.zero_le _, Nat.zero_le _⟩) ?_
      refine lv_iconst (v := (2 : Int32)) hx hb dX9_party_38 (by decide) ?_
      refine lv_iadd hx hb dX9_party_39 ?_
      obtain ⟨hg7, hf⟩ := pf_x hf
      refine va_iald hx hb hK.1 hP 1 0 rfl rfl hg7 dX9_party_40 ?_
      refine lv_iconst (v := (1 : Int32)) hx hb dX9_party_41 (by decide) ?_
      refine lv_icmp_ne (tgt := 49) hx hb dX9_party_42 (by decide) (fun hc => ?_) (fun hc => ?_)
      · have hf := pf_f hc hf
        refine lv_iconst (v := (0 : Int32)) hx hb dX9_party_49 (by decide) ?_
        exact tX9_party_50 C hK hA  (0 : Int32) v_o_textSize v_o_place v_o_rows v_o_readRows v_o_doings v_o_seen v_o_seed v_o_found v_o_foundViews v_o_foundMany d_o_page x1 x2 (0 : Int32) _ _ ls _ hP hD hS (lv_sub hl [0, 1, 2] rfl) hf
      · have hf := pf_t hc hf
        refine lv_iconst (v := (1 : Int32)) hx hb dX9_party_45 (by decide) ?_
        refine lv_goto (tgt := 50) hx hb dX9_party_46 (by decide) ?_
        exact tX9_party_50 C hK hA  (0 : Int32) v_o_textSize v_o_place v_o_rows v_o_readRows v_o_doings v_o_seen v_o_seed v_o_found v_o_foundViews v_o_foundMany d_o_page x1 x2 (1 : Int32) _ _ ls _ hP hD hS (lv_sub hl [0, 1, 2] rfl) hf
    · have hf := pf_t hc hf
      refine lv_bipush (v := (-2 : Int32)) hx hb dX9_party_27 (by decide) ?_
      cases hf
      exact W.iret hx hb hr (fun t ht hW => ⟨⟨rfl, by rw [ht]; exact hP, hD⟩, hS.F ht⟩) hS.2.2 dX9_party_29
  · have hf := pf_f hc hf
    refine lv_iconst (v := (-1 : Int32)) hx hb dX9_party_13 (by decide) ?_
    cases hf
    exact W.iret hx hb hr (fun t ht hW => ⟨⟨rfl, by rw [ht]; exact hP, hD⟩, hS.F ht⟩) hS.2.2 dX9_party_14
abbrev WX9_note (cI cJ cZ cB : ClassId) (a_o : Nat) (a_o_text : Nat) (a_o_many : Nat) (a_o_views : Nat) (a_o_aisles : Nat) (a_o_readMany : Nat) (a_o_readViews : Nat) (a_o_readAisles : Nat) (a_o_readPage : Nat) (a_o_page : Nat) (a_o_trial : Nat) (a_o_book : Nat) (a_o_kept : Nat) (a_o_isKept : Nat) (a_o_seenSeat : Nat) (a_o_seenWas : Nat) (v_o_thrown : Int32) (v_o_textSize : Int32) (v_o_place : Int32) (v_o_rows : Int32) (v_o_readRows : Int32) (v_o_doings : Int32) (v_o_seen : Int32) (v_o_seed : Int64) (v_o_found : Int32) (v_o_foundViews : Int32) (v_o_foundMany : Int32) (d_o_page : (Nat → Int32)) (d_o_book : (Nat → Int32)) : va_W := [(a_o, .inr (9, [.int v_o_thrown, .ref a_o_text, .int v_o_textSize, .int v_o_place, .int v_o_rows, .ref a_o_many, .ref a_o_views, .ref a_o_aisles, .int v_o_readRows, .ref a_o_readMany, .ref a_o_readViews, .ref a_o_readAisles, .ref a_o_readPage, .ref a_o_page, .ref a_o_trial, .ref a_o_book, .int v_o_doings, .ref a_o_kept, .ref a_o_isKept, .int v_o_seen, .ref a_o_seenSeat, .ref a_o_seenWas, .long v_o_seed, .int v_o_found, .int v_o_foundViews, .int v_o_foundMany])), (a_o_page, .inl (cI, (229, .inl d_o_page))), (a_o_book, .inl (cI, (3206, .inl d_o_book)))]
set_option maxRecDepth 20000 in
theorem iX9_note_X9 : ∀ w ∈ wsX90, w ∈ wsX9_note := by decide +kernel
def fX9_note_52 : Nat → Int32 → (Nat → Int32) → (Nat → Int32) → Int32 → Option (Int32 × (Nat → Int32))
  | 0, _, _, _, _ => none
  | n + 1, v_o_doings, d_o_page, d_o_book, x1 => (if (229 : Int32) ≤ x1 then some ((v_o_doings + (1 : Int32)), d_o_book) else (if x1 < 0 ∨ 229 ≤ (x1).toNatClampNeg then none else (if (((229 : Int32) * v_o_doings) + x1) < 0 ∨ 3206 ≤ ((((229 : Int32) * v_o_doings) + x1)).toNatClampNeg then none else fX9_note_52 n v_o_doings d_o_page (upd d_o_book (((((229 : Int32) * v_o_doings) + x1)).toNatClampNeg) (d_o_page (x1).toNatClampNeg)) (x1 + (1 : Int32)))))
set_option maxRecDepth 100000 in
set_option maxHeartbeats 4000000 in
theorem tX9_note_52 {p : Program} {l : Launch} {e : Env} {s : State} {m : MethodId} {args : Array Value} {below : List Frame} {meth : Method} {c : Code} {D : va_G} {cI cJ cZ cB : ClassId} {a_o : Nat} {a_o_text : Nat} {a_o_many : Nat} {a_o_views : Nat} {a_o_aisles : Nat} {a_o_readMany : Nat} {a_o_readViews : Nat} {a_o_readAisles : Nat} {a_o_readPage : Nat} {a_o_page : Nat} {a_o_trial : Nat} {a_o_book : Nat} {a_o_kept : Nat} {a_o_isKept : Nat} {a_o_seenSeat : Nat} {a_o_seenWas : Nat} {A : Nat → Prop} (C : Cx p s m args meth c cX9_note 2 none wsX9_note RX9) (hK : Kw D (tyL cI cJ cZ cB) s) (hA : ∀ q : Nat, s.heap.size ≤ q → A q) : ∀ (n : Nat), ∀ (v_o_thrown : Int32) (v_o_textSize : Int32) (v_o_place : Int32) (v_o_rows : Int32) (v_o_readRows : Int32) (v_o_doings : Int32) (v_o_seen : Int32) (v_o_seed : Int64) (v_o_found : Int32) (v_o_foundViews : Int32) (v_o_foundMany : Int32) (d_o_page : (Nat → Int32)) (d_o_book : (Nat → Int32)) (x1 : Int32) (H : Heap) (locs : List Loc) (ls : Array Slot) (res : Int32 × (Nat → Int32)), va_P D vwCl (WX9_note cI cJ cZ cB a_o a_o_text a_o_many a_o_views a_o_aisles a_o_readMany a_o_readViews a_o_readAisles a_o_readPage a_o_page a_o_trial a_o_book a_o_kept a_o_isKept a_o_seenSeat a_o_seenWas v_o_thrown v_o_textSize v_o_place v_o_rows v_o_readRows v_o_doings v_o_seen v_o_seed v_o_found v_o_foundViews v_o_foundMany d_o_page d_o_book) H → va_D A (WX9_note cI cJ cZ cB a_o a_o_text a_o_many a_o_views a_o_aisles a_o_readMany a_o_readViews a_o_readAisles a_o_readPage a_o_page a_o_trial a_o_book a_o_kept a_o_isKept a_o_seenSeat a_o_seenWas v_o_thrown v_o_textSize v_o_place v_o_rows v_o_readRows v_o_doings v_o_seen v_o_seed v_o_found v_o_foundViews v_o_foundMany d_o_page d_o_book) → va_S A s.heap H locs → lv_has ls 2 [(0, .ref a_o), (1, .int x1)] → fX9_note_52 n v_o_doings d_o_page d_o_book x1 = some res → W p l e ({ frames := 0, cells := 0, slots := 0, locals := 0 } : Room) s m args below meth c H locs 0 0 (MQ below (QRw D A (WX9_note cI cJ cZ cB a_o a_o_text a_o_many a_o_views a_o_aisles a_o_readMany a_o_readViews a_o_readAisles a_o_readPage a_o_page a_o_trial a_o_book a_o_kept a_o_isKept a_o_seenSeat a_o_seenWas v_o_thrown v_o_textSize v_o_place v_o_rows v_o_readRows res.1 v_o_seen v_o_seed v_o_found v_o_foundViews v_o_foundMany d_o_page res.2) none) args s 0 0 A) (F0 m 52 ls []) := by
  obtain ⟨hx, hb, hr, hml, hts, hown, hlk⟩ := id C
  intro n
  induction n with
  | zero =>
    intro v_o_thrown v_o_textSize v_o_place v_o_rows v_o_readRows v_o_doings v_o_seen v_o_seed v_o_found v_o_foundViews v_o_foundMany d_o_page d_o_book x1 H locs ls res hP hD hS hl hf
    rw [fX9_note_52] at hf
    cases hf
  | succ n ih =>
    intro v_o_thrown v_o_textSize v_o_place v_o_rows v_o_readRows v_o_doings v_o_seen v_o_seed v_o_found v_o_foundViews v_o_foundMany d_o_page d_o_book x1 H locs ls res hP hD hS hl hf
    rw [fX9_note_52] at hf
    refine lv_iload_n hx hb dX9_note_52 rfl (lv_at hl 1 rfl) ?_
    refine lv_sipush (v := (229 : Int32)) hx hb dX9_note_53 (by decide) ?_
    refine lv_icmp_ge (tgt := 86) hx hb dX9_note_56 (by decide) (fun hc => ?_) (fun hc => ?_)
    · have hf := pf_t hc hf
      refine lv_aload_n hx hb dX9_note_86 rfl (lv_at hl 0 rfl) ?_
      refine lv_dup hx hb dX9_note_87 rfl ?_
      refine va_get (D := D) (ci := 9) (v := .int v_o_doings) (C := RX9) (T := TX9) (N := 26) hx hb hts iX9_note_X9 hown hK.1 hP 0 rfl rfl 16 (by decide) (hts (.fieldLink RX9 105 "LoneSeatsModel" "doings" "I") (by decide +kernel)) (fun _ h9 => h9) rfl dX9_note_88 ?_
      refine lv_iconst (v := (1 : Int32)) hx hb dX9_note_91 (by decide) ?_
      refine lv_iadd hx hb dX9_note_92 ?_
      refine va_put (D := D) (ci := 9) (v := .int (v_o_doings + (1 : Int32))) (ty := .int) (C := RX9) (T := TX9) (N := 26) hx hb hts iX9_note_X9 tyX9 tyX9_ok nmX9 hown hK.1 hP hD hS 0 rfl rfl 16 (by decide) (hts (.fieldLink RX9 105 "LoneSeatsModel" "doings" "I") (by decide +kernel)) (fun _ h9 => h9) rfl (by decide +kernel) rfl rfl (Nat.le_of_ble_eq_true rfl) dX9_note_93 (fun H locs hP hD hS => ?_)
      have hP : va_P D vwCl (WX9_note cI cJ cZ cB a_o a_o_text a_o_many a_o_views a_o_aisles a_o_readMany a_o_readViews a_o_readAisles a_o_readPage a_o_page a_o_trial a_o_book a_o_kept a_o_isKept a_o_seenSeat a_o_seenWas v_o_thrown v_o_textSize v_o_place v_o_rows v_o_readRows (v_o_doings + (1 : Int32)) v_o_seen v_o_seed v_o_found v_o_foundViews v_o_foundMany d_o_page d_o_book) H := hP
      have hD : va_D A (WX9_note cI cJ cZ cB a_o a_o_text a_o_many a_o_views a_o_aisles a_o_readMany a_o_readViews a_o_readAisles a_o_readPage a_o_page a_o_trial a_o_book a_o_kept a_o_isKept a_o_seenSeat a_o_seenWas v_o_thrown v_o_textSize v_o_place v_o_rows v_o_readRows (v_o_doings + (1 : Int32)) v_o_seen v_o_seed v_o_found v_o_foundViews v_o_foundMany d_o_page d_o_book) := hD
      cases hf
      exact W.vret hx hb hr (fun t ht hW => ⟨⟨rfl, by rw [ht]; exact hP, hD⟩, hS.F ht⟩) hS.2.2 dX9_note_96
    · have hf := pf_f hc hf
      refine lv_aload_n hx hb dX9_note_59 rfl (lv_at hl 0 rfl) ?_
      refine va_get (D := D) (ci := 9) (v := .ref a_o_book) (C := RX9) (T := TX9) (N := 26) hx hb hts iX9_note_X9 hown hK.1 hP 0 rfl rfl 15 (by decide) (hts (.fieldLink RX9 41 "LoneSeatsModel" "book" "[I") (by decide +kernel)) (fun _ h9 => h9) rfl dX9_note_60 ?_
      refine lv_sipush (v := (229 : Int32)) hx hb dX9_note_63 (by decide) ?_
      refine lv_aload_n hx hb dX9_note_66 rfl (lv_at hl 0 rfl) ?_
      refine va_get (D := D) (ci := 9) (v := .int v_o_doings) (C := RX9) (T := TX9) (N := 26) hx hb hts iX9_note_X9 hown hK.1 hP 0 rfl rfl 16 (by decide) (hts (.fieldLink RX9 105 "LoneSeatsModel" "doings" "I") (by decide +kernel)) (fun _ h9 => h9) rfl dX9_note_67 ?_
      refine lv_imul hx hb dX9_note_70 ?_
      refine lv_iload_n hx hb dX9_note_71 rfl (lv_at hl 1 rfl) ?_
      refine lv_iadd hx hb dX9_note_72 ?_
      refine lv_aload_n hx hb dX9_note_73 rfl (lv_at hl 0 rfl) ?_
      refine va_get (D := D) (ci := 9) (v := .ref a_o_page) (C := RX9) (T := TX9) (N := 26) hx hb hts iX9_note_X9 hown hK.1 hP 0 rfl rfl 13 (by decide) (hts (.fieldLink RX9 35 "LoneSeatsModel" "page" "[I") (by decide +kernel)) (fun _ h9 => h9) rfl dX9_note_74 ?_
      refine lv_iload_n hx hb dX9_note_77 rfl (lv_at hl 1 rfl) ?_
      obtain ⟨hg1, hf⟩ := pf_x hf
      refine va_iald hx hb hK.1 hP 1 0 rfl rfl hg1 dX9_note_78 ?_
      obtain ⟨hg2, hf⟩ := pf_x hf
      refine va_iast hx hb hK.1 hP hD hS 2 0 rfl rfl hg2 dX9_note_79 (fun H locs hP hD hS => ?_)
      have hP : va_P D vwCl (WX9_note cI cJ cZ cB a_o a_o_text a_o_many a_o_views a_o_aisles a_o_readMany a_o_readViews a_o_readAisles a_o_readPage a_o_page a_o_trial a_o_book a_o_kept a_o_isKept a_o_seenSeat a_o_seenWas v_o_thrown v_o_textSize v_o_place v_o_rows v_o_readRows v_o_doings v_o_seen v_o_seed v_o_found v_o_foundViews v_o_foundMany d_o_page (upd d_o_book (((((229 : Int32) * v_o_doings) + x1)).toNatClampNeg) (d_o_page (x1).toNatClampNeg))) H := hP
      have hD : va_D A (WX9_note cI cJ cZ cB a_o a_o_text a_o_many a_o_views a_o_aisles a_o_readMany a_o_readViews a_o_readAisles a_o_readPage a_o_page a_o_trial a_o_book a_o_kept a_o_isKept a_o_seenSeat a_o_seenWas v_o_thrown v_o_textSize v_o_place v_o_rows v_o_readRows v_o_doings v_o_seen v_o_seed v_o_found v_o_foundViews v_o_foundMany d_o_page (upd d_o_book (((((229 : Int32) * v_o_doings) + x1)).toNatClampNeg) (d_o_page (x1).toNatClampNeg))) := hD
      refine lv_iinc (v := (x1 + (1 : Int32))) (lv' := [(1, .int (x1 + (1 : Int32))), (0, .ref a_o)]) hx hb dX9_note_80 hl (k := 1) rfl rfl (by decide) rfl (fun ls hl => ?_)
      refine lv_goto (tgt := 52) hx hb dX9_note_83 (by decide) ?_
      exact ih v_o_thrown v_o_textSize v_o_place v_o_rows v_o_readRows v_o_doings v_o_seen v_o_seed v_o_found v_o_foundViews v_o_foundMany d_o_page (upd d_o_book (((((229 : Int32) * v_o_doings) + x1)).toNatClampNeg) (d_o_page (x1).toNatClampNeg)) (x1 + (1 : Int32)) _ _ ls _ hP hD hS (lv_sub hl [1, 0] rfl) hf
def fX9_note_11 : Nat → Int32 → (Nat → Int32) → (Nat → Int32) → Int32 → Option (Int32 × (Nat → Int32))
  | 0, _, _, _, _ => none
  | n + 1, v_o_doings, d_o_page, d_o_book, x1 => (if (2977 : Int32) ≤ x1 then fX9_note_52 FU (v_o_doings - (1 : Int32)) d_o_page d_o_book (0 : Int32) else (if (x1 + (229 : Int32)) < 0 ∨ 3206 ≤ ((x1 + (229 : Int32))).toNatClampNeg then none else (if x1 < 0 ∨ 3206 ≤ (x1).toNatClampNeg then none else fX9_note_11 n v_o_doings d_o_page (upd d_o_book ((x1).toNatClampNeg) (d_o_book ((x1 + (229 : Int32))).toNatClampNeg)) (x1 + (1 : Int32)))))
set_option maxRecDepth 100000 in
set_option maxHeartbeats 4000000 in
theorem tX9_note_11 {p : Program} {l : Launch} {e : Env} {s : State} {m : MethodId} {args : Array Value} {below : List Frame} {meth : Method} {c : Code} {D : va_G} {cI cJ cZ cB : ClassId} {a_o : Nat} {a_o_text : Nat} {a_o_many : Nat} {a_o_views : Nat} {a_o_aisles : Nat} {a_o_readMany : Nat} {a_o_readViews : Nat} {a_o_readAisles : Nat} {a_o_readPage : Nat} {a_o_page : Nat} {a_o_trial : Nat} {a_o_book : Nat} {a_o_kept : Nat} {a_o_isKept : Nat} {a_o_seenSeat : Nat} {a_o_seenWas : Nat} {A : Nat → Prop} (C : Cx p s m args meth c cX9_note 2 none wsX9_note RX9) (hK : Kw D (tyL cI cJ cZ cB) s) (hA : ∀ q : Nat, s.heap.size ≤ q → A q) : ∀ (n : Nat), ∀ (v_o_thrown : Int32) (v_o_textSize : Int32) (v_o_place : Int32) (v_o_rows : Int32) (v_o_readRows : Int32) (v_o_doings : Int32) (v_o_seen : Int32) (v_o_seed : Int64) (v_o_found : Int32) (v_o_foundViews : Int32) (v_o_foundMany : Int32) (d_o_page : (Nat → Int32)) (d_o_book : (Nat → Int32)) (x1 : Int32) (H : Heap) (locs : List Loc) (ls : Array Slot) (res : Int32 × (Nat → Int32)), va_P D vwCl (WX9_note cI cJ cZ cB a_o a_o_text a_o_many a_o_views a_o_aisles a_o_readMany a_o_readViews a_o_readAisles a_o_readPage a_o_page a_o_trial a_o_book a_o_kept a_o_isKept a_o_seenSeat a_o_seenWas v_o_thrown v_o_textSize v_o_place v_o_rows v_o_readRows v_o_doings v_o_seen v_o_seed v_o_found v_o_foundViews v_o_foundMany d_o_page d_o_book) H → va_D A (WX9_note cI cJ cZ cB a_o a_o_text a_o_many a_o_views a_o_aisles a_o_readMany a_o_readViews a_o_readAisles a_o_readPage a_o_page a_o_trial a_o_book a_o_kept a_o_isKept a_o_seenSeat a_o_seenWas v_o_thrown v_o_textSize v_o_place v_o_rows v_o_readRows v_o_doings v_o_seen v_o_seed v_o_found v_o_foundViews v_o_foundMany d_o_page d_o_book) → va_S A s.heap H locs → lv_has ls 2 [(0, .ref a_o), (1, .int x1)] → fX9_note_11 n v_o_doings d_o_page d_o_book x1 = some res → W p l e ({ frames := 0, cells := 0, slots := 0, locals := 0 } : Room) s m args below meth c H locs 0 0 (MQ below (QRw D A (WX9_note cI cJ cZ cB a_o a_o_text a_o_many a_o_views a_o_aisles a_o_readMany a_o_readViews a_o_readAisles a_o_readPage a_o_page a_o_trial a_o_book a_o_kept a_o_isKept a_o_seenSeat a_o_seenWas v_o_thrown v_o_textSize v_o_place v_o_rows v_o_readRows res.1 v_o_seen v_o_seed v_o_found v_o_foundViews v_o_foundMany d_o_page res.2) none) args s 0 0 A) (F0 m 11 ls []) := by
  obtain ⟨hx, hb, hr, hml, hts, hown, hlk⟩ := id C
  intro n
  induction n with
  | zero =>
    intro v_o_thrown v_o_textSize v_o_place v_o_rows v_o_readRows v_o_doings v_o_seen v_o_seed v_o_found v_o_foundViews v_o_foundMany d_o_page d_o_book x1 H locs ls res hP hD hS hl hf
    rw [fX9_note_11] at hf
    cases hf
  | succ n ih =>
    intro v_o_thrown v_o_textSize v_o_place v_o_rows v_o_readRows v_o_doings v_o_seen v_o_seed v_o_found v_o_foundViews v_o_foundMany d_o_page d_o_book x1 H locs ls res hP hD hS hl hf
    rw [fX9_note_11] at hf
    refine lv_iload_n hx hb dX9_note_11 rfl (lv_at hl 1 rfl) ?_
    refine lv_sipush (v := (2977 : Int32)) hx hb dX9_note_12 (by decide) ?_
    refine lv_icmp_ge (tgt := 40) hx hb dX9_note_15 (by decide) (fun hc => ?_) (fun hc => ?_)
    · have hf := pf_t hc hf
      refine lv_aload_n hx hb dX9_note_40 rfl (lv_at hl 0 rfl) ?_
      refine lv_dup hx hb dX9_note_41 rfl ?_
      refine va_get (D := D) (ci := 9) (v := .int v_o_doings) (C := RX9) (T := TX9) (N := 26) hx hb hts iX9_note_X9 hown hK.1 hP 0 rfl rfl 16 (by decide) (hts (.fieldLink RX9 105 "LoneSeatsModel" "doings" "I") (by decide +kernel)) (fun _ h9 => h9) rfl dX9_note_42 ?_
      refine lv_iconst (v := (1 : Int32)) hx hb dX9_note_45 (by decide) ?_
      refine lv_isub hx hb dX9_note_46 ?_
      refine va_put (D := D) (ci := 9) (v := .int (v_o_doings - (1 : Int32))) (ty := .int) (C := RX9) (T := TX9) (N := 26) hx hb hts iX9_note_X9 tyX9 tyX9_ok nmX9 hown hK.1 hP hD hS 0 rfl rfl 16 (by decide) (hts (.fieldLink RX9 105 "LoneSeatsModel" "doings" "I") (by decide +kernel)) (fun _ h9 => h9) rfl (by decide +kernel) rfl rfl (Nat.le_of_ble_eq_true rfl) dX9_note_47 (fun H locs hP hD hS => ?_)
      have hP : va_P D vwCl (WX9_note cI cJ cZ cB a_o a_o_text a_o_many a_o_views a_o_aisles a_o_readMany a_o_readViews a_o_readAisles a_o_readPage a_o_page a_o_trial a_o_book a_o_kept a_o_isKept a_o_seenSeat a_o_seenWas v_o_thrown v_o_textSize v_o_place v_o_rows v_o_readRows (v_o_doings - (1 : Int32)) v_o_seen v_o_seed v_o_found v_o_foundViews v_o_foundMany d_o_page d_o_book) H := hP
      have hD : va_D A (WX9_note cI cJ cZ cB a_o a_o_text a_o_many a_o_views a_o_aisles a_o_readMany a_o_readViews a_o_readAisles a_o_readPage a_o_page a_o_trial a_o_book a_o_kept a_o_isKept a_o_seenSeat a_o_seenWas v_o_thrown v_o_textSize v_o_place v_o_rows v_o_readRows (v_o_doings - (1 : Int32)) v_o_seen v_o_seed v_o_found v_o_foundViews v_o_foundMany d_o_page d_o_book) := hD
      refine lv_iconst (v := (0 : Int32)) hx hb dX9_note_50 (by decide) ?_
      refine lv_istore_n (lv' := [(1, .int (0 : Int32)), (0, .ref a_o)]) hx hb dX9_note_51 rfl hl (by decide) rfl (fun ls hl => ?_)
      exact tX9_note_52 C hK hA  FU v_o_thrown v_o_textSize v_o_place v_o_rows v_o_readRows (v_o_doings - (1 : Int32)) v_o_seen v_o_seed v_o_found v_o_foundViews v_o_foundMany d_o_page d_o_book (0 : Int32) _ _ ls _ hP hD hS (lv_sub hl [1, 0] rfl) hf
    · have hf := pf_f hc hf
      refine lv_aload_n hx hb dX9_note_18 rfl (lv_at hl 0 rfl) ?_
      refine va_get (D := D) (ci := 9) (v := .ref a_o_book) (C := RX9) (T := TX9) (N := 26) hx hb hts iX9_note_X9 hown hK.1 hP 0 rfl rfl 15 (by decide) (hts (.fieldLink RX9 41 "LoneSeatsModel" "book" "[I") (by decide +kernel)) (fun _ h9 => h9) rfl dX9_note_19 ?_
      refine lv_iload_n hx hb dX9_note_22 rfl (lv_at hl 1 rfl) ?_
      refine lv_aload_n hx hb dX9_note_23 rfl (lv_at hl 0 rfl) ?_
      refine va_get (D := D) (ci := 9) (v := .ref a_o_book) (C := RX9) (T := TX9) (N := 26) hx hb hts iX9_note_X9 hown hK.1 hP 0 rfl rfl 15 (by decide) (hts (.fieldLink RX9 41 "LoneSeatsModel" "book" "[I") (by decide +kernel)) (fun _ h9 => h9) rfl dX9_note_24 ?_
      refine lv_iload_n hx hb dX9_note_27 rfl (lv_at hl 1 rfl) ?_
      refine lv_sipush (v := (229 : Int32)) hx hb dX9_note_28 (by decide) ?_
      refine lv_iadd hx hb dX9_note_31 ?_
      obtain ⟨hg1, hf⟩ := pf_x hf
      refine va_iald hx hb hK.1 hP 2 0 rfl rfl hg1 dX9_note_32 ?_
      obtain ⟨hg2, hf⟩ := pf_x hf
      refine va_iast hx hb hK.1 hP hD hS 2 0 rfl rfl hg2 dX9_note_33 (fun H locs hP hD hS => ?_)
      have hP : va_P D vwCl (WX9_note cI cJ cZ cB a_o a_o_text a_o_many a_o_views a_o_aisles a_o_readMany a_o_readViews a_o_readAisles a_o_readPage a_o_page a_o_trial a_o_book a_o_kept a_o_isKept a_o_seenSeat a_o_seenWas v_o_thrown v_o_textSize v_o_place v_o_rows v_o_readRows v_o_doings v_o_seen v_o_seed v_o_found v_o_foundViews v_o_foundMany d_o_page (upd d_o_book ((x1).toNatClampNeg) (d_o_book ((x1 + (229 : Int32))).toNatClampNeg))) H := hP
      have hD : va_D A (WX9_note cI cJ cZ cB a_o a_o_text a_o_many a_o_views a_o_aisles a_o_readMany a_o_readViews a_o_readAisles a_o_readPage a_o_page a_o_trial a_o_book a_o_kept a_o_isKept a_o_seenSeat a_o_seenWas v_o_thrown v_o_textSize v_o_place v_o_rows v_o_readRows v_o_doings v_o_seen v_o_seed v_o_found v_o_foundViews v_o_foundMany d_o_page (upd d_o_book ((x1).toNatClampNeg) (d_o_book ((x1 + (229 : Int32))).toNatClampNeg))) := hD
      refine lv_iinc (v := (x1 + (1 : Int32))) (lv' := [(1, .int (x1 + (1 : Int32))), (0, .ref a_o)]) hx hb dX9_note_34 hl (k := 1) rfl rfl (by decide) rfl (fun ls hl => ?_)
      refine lv_goto (tgt := 11) hx hb dX9_note_37 (by decide) ?_
      exact ih v_o_thrown v_o_textSize v_o_place v_o_rows v_o_readRows v_o_doings v_o_seen v_o_seed v_o_found v_o_foundViews v_o_foundMany d_o_page (upd d_o_book ((x1).toNatClampNeg) (d_o_book ((x1 + (229 : Int32))).toNatClampNeg)) (x1 + (1 : Int32)) _ _ ls _ hP hD hS (lv_sub hl [1, 0] rfl) hf
def fX9_note (v_o_doings : Int32) (d_o_page : (Nat → Int32)) (d_o_book : (Nat → Int32)) : Option (Int32 × (Nat → Int32)) := (if v_o_doings = (14 : Int32) then fX9_note_11 FU v_o_doings d_o_page d_o_book (0 : Int32) else fX9_note_52 FU v_o_doings d_o_page d_o_book (0 : Int32))
set_option maxRecDepth 100000 in
set_option maxHeartbeats 4000000 in
theorem kX9_note (l : Launch) (D : va_G) (cI cJ cZ cB : ClassId) (a_o : Nat) (a_o_text : Nat) (a_o_many : Nat) (a_o_views : Nat) (a_o_aisles : Nat) (a_o_readMany : Nat) (a_o_readViews : Nat) (a_o_readAisles : Nat) (a_o_readPage : Nat) (a_o_page : Nat) (a_o_trial : Nat) (a_o_book : Nat) (a_o_kept : Nat) (a_o_isKept : Nat) (a_o_seenSeat : Nat) (a_o_seenWas : Nat) (v_o_thrown : Int32) (v_o_textSize : Int32) (v_o_place : Int32) (v_o_rows : Int32) (v_o_readRows : Int32) (v_o_doings : Int32) (v_o_seen : Int32) (v_o_seed : Int64) (v_o_found : Int32) (v_o_foundViews : Int32) (v_o_foundMany : Int32) (d_o_page : (Nat → Int32)) (d_o_book : (Nat → Int32)) (res : Int32 × (Nat → Int32)) (hf : fX9_note v_o_doings d_o_page d_o_book = some res) : Rw l yX9_note wsX9_note ({ frames := 0, cells := 0, slots := 0, locals := 0 } : Room) D (tyL cI cJ cZ cB) [.ref a_o] (WX9_note cI cJ cZ cB a_o a_o_text a_o_many a_o_views a_o_aisles a_o_readMany a_o_readViews a_o_readAisles a_o_readPage a_o_page a_o_trial a_o_book a_o_kept a_o_isKept a_o_seenSeat a_o_seenWas v_o_thrown v_o_textSize v_o_place v_o_rows v_o_readRows v_o_doings v_o_seen v_o_seed v_o_found v_o_foundViews v_o_foundMany d_o_page d_o_book) none (WX9_note cI cJ cZ cB a_o a_o_text a_o_many a_o_views a_o_aisles a_o_readMany a_o_readViews a_o_readAisles a_o_readPage a_o_page a_o_trial a_o_book a_o_kept a_o_isKept a_o_seenSeat a_o_seenWas v_o_thrown v_o_textSize v_o_place v_o_rows v_o_readRows res.1 v_o_seen v_o_seed v_o_found v_o_foundViews v_o_foundMany d_o_page res.2) := by
  refine Rw.of (cc := cX9_note) (maxL := 2) (ret := none) (own := RX9) (by decide) rfl rfl (Nat.le_of_ble_eq_true rfl) ?_
  intro p e s m below meth c A ls C hK hA hP hD hS hl
  obtain ⟨hx, hb, hr, hml, hts, hown, hlk⟩ := id C
  have hl : lv_has ls 2 [(0, .ref a_o)] := hl
  unfold fX9_note at hf
  refine lv_aload_n hx hb dX9_note_0 rfl (lv_at hl 0 rfl) ?_
  refine va_get (D := D) (ci := 9) (v := .int v_o_doings) (C := RX9) (T := TX9) (N := 26) hx hb hts iX9_note_X9 hown hK.1 hP 0 rfl rfl 16 (by decide) (hts (.fieldLink RX9 105 "LoneSeatsModel" "doings" "I") (by decide +kernel)) (fun _ h9 => h9) rfl dX9_note_1 ?_
  refine lv_bipush (v := (14 : Int32)) hx hb dX9_note_4 (by decide) ?_
  refine lv_icmp_ne (tgt := 50) hx hb dX9_note_6 (by decide) (fun hc => ?_) (fun hc => ?_)
  · have hf := pf_f hc hf
    refine lv_iconst (v := (0 : Int32)) hx hb dX9_note_50 (by decide) ?_
    refine lv_istore_n (lv' := [(1, .int (0 : Int32)), (0, .ref a_o)]) hx hb dX9_note_51 rfl hl (by decide) rfl (fun ls hl => ?_)
    exact tX9_note_52 C hK hA  FU v_o_thrown v_o_textSize v_o_place v_o_rows v_o_readRows v_o_doings v_o_seen v_o_seed v_o_found v_o_foundViews v_o_foundMany d_o_page d_o_book (0 : Int32) _ _ ls _ hP hD hS (lv_sub hl [1, 0] rfl) hf
  · have hf := pf_t hc hf
    refine lv_iconst (v := (0 : Int32)) hx hb dX9_note_9 (by decide) ?_
    refine lv_istore_n (lv' := [(1, .int (0 : Int32)), (0, .ref a_o)]) hx hb dX9_note_10 rfl hl (by decide) rfl (fun ls hl => ?_)
    exact tX9_note_11 C hK hA  FU v_o_thrown v_o_textSize v_o_place v_o_rows v_o_readRows v_o_doings v_o_seen v_o_seed v_o_found v_o_foundViews v_o_foundMany d_o_page d_o_book (0 : Int32) _ _ ls _ hP hD hS (lv_sub hl [1, 0] rfl) hf
def fX9_isAsk (x0 : Int32) (x1 : Int32) : Option (Int32) := ((fX9_in ((x0).toInt64) (1 : Int64) (6 : Int64)).bind fun q1 => (if q1 = 0 then some (0 : Int32) else ((fX9_in ((x1).toInt64) (1 : Int64) (9 : Int64)).bind fun q3 => (if q3 = 0 then some (0 : Int32) else some (1 : Int32)))))
set_option maxRecDepth 100000 in
set_option maxHeartbeats 4000000 in
theorem kX9_isAsk (l : Launch) (D : va_G) (cI cJ cZ cB : ClassId) (x0 : Int32) (x1 : Int32) (res : Int32) (hf : fX9_isAsk x0 x1 = some res) : Ro l yX9_isAsk wsX9_isAsk ({ frames := 1, cells := 0, slots := 0, locals := 25 } : Room) D (tyL cI cJ cZ cB) [.int x0, .int x1] ([] : va_W) (some (.int res)) := by
  refine Ro.of (cc := cX9_isAsk) (maxL := 2) (ret := (some .boolean)) (own := RX9) (by decide) rfl rfl (Nat.le_of_ble_eq_true rfl) ?_
  intro p e s m below meth c ls C hK hP hl
  obtain ⟨hx, hb, hr, hml, hts, hown, hlk⟩ := id C
  have hl : lv_has ls 2 [(0, .int x0), (1, .int x1)] := hl
  unfold fX9_isAsk at hf
  refine lv_iload_n hx hb dX9_isAsk_0 rfl (lv_at hl 0 rfl) ?_
  refine lv_i2l (v := (x0).toInt64) hx hb dX9_isAsk_1 rfl ?_
  refine lv_lconst (v := (1 : Int64)) hx hb dX9_isAsk_2 (by decide) ?_
  refine lv_ldc2 (v := (6 : Int64)) hx hb hown (hts (.constantLong RX9 181 (6 : Int64)) (by decide +kernel)) dX9_isAsk_3 ?_
  obtain ⟨q1, hq2, hf⟩ := pf_b hf
  have hPc := hP.sub (ws' := ([] : va_W)) [] rfl
  refine cl_roi (va_runS (As := [.long ((x0).toInt64), .long (1 : Int64), .long (6 : Int64)]) (rest := []) ⟨hx, hb, hml, hown, hts⟩ (kX9_in l D cI cJ cZ cB ((x0).toInt64) (1 : Int64) (6 : Int64) q1 hq2) (va_cwS 3 hts gX9_isAsk_X9_in rfl rfl rfl (by decide +kernel) ⟨Nat.le_of_ble_eq_true rfl, Nat.le_of_ble_eq_true rfl⟩) ⟨PRo.blind, PRo.at hK hPc⟩ rfl rfl hl.1 rfl (lv_room (Nat.le_of_ble_eq_true rfl)) dX9_isAsk_6 ⟨Nat.zero_le _, Nat.zero_le _⟩) ?_
  refine lv_if_eq (tgt := 28) hx hb dX9_isAsk_9 (by decide) (fun hc => ?_) (fun hc => ?_)
  · have hf := pf_t hc hf
    refine lv_iconst (v := (0 : Int32)) hx hb dX9_isAsk_28 (by decide) ?_
    cases hf
    exact W.zret hx hb hr (nar_b (by decide)) (fun t ht hW => ⟨rfl, ht⟩) (fun _ h => absurd h List.not_mem_nil) dX9_isAsk_29
  · have hf := pf_f hc hf
    refine lv_iload_n hx hb dX9_isAsk_12 rfl (lv_at hl 1 rfl) ?_
    refine lv_i2l (v := (x1).toInt64) hx hb dX9_isAsk_13 rfl ?_
    refine lv_lconst (v := (1 : Int64)) hx hb dX9_isAsk_14 (by decide) ?_
    refine lv_ldc2 (v := (9 : Int64)) hx hb hown (hts (.constantLong RX9 183 (9 : Int64)) (by decide +kernel)) dX9_isAsk_15 ?_
    obtain ⟨q3, hq4, hf⟩ := pf_b hf
    have hPc := hP.sub (ws' := ([] : va_W)) [] rfl
    refine cl_roi (va_runS (As := [.long ((x1).toInt64), .long (1 : Int64), .long (9 : Int64)]) (rest := []) ⟨hx, hb, hml, hown, hts⟩ (kX9_in l D cI cJ cZ cB ((x1).toInt64) (1 : Int64) (9 : Int64) q3 hq4) (va_cwS 3 hts gX9_isAsk_X9_in rfl rfl rfl (by decide +kernel) ⟨Nat.le_of_ble_eq_true rfl, Nat.le_of_ble_eq_true rfl⟩) ⟨PRo.blind, PRo.at hK hPc⟩ rfl rfl hl.1 rfl (lv_room (Nat.le_of_ble_eq_true rfl)) dX9_isAsk_18 ⟨Nat.zero_le _, Nat.zero_le _⟩) ?_
    refine lv_if_eq (tgt := 28) hx hb dX9_isAsk_21 (by decide) (fun hc => ?_) (fun hc => ?_)
    · have hf := pf_t hc hf
      refine lv_iconst (v := (0 : Int32)) hx hb dX9_isAsk_28 (by decide) ?_
      cases hf
      exact W.zret hx hb hr (nar_b (by decide)) (fun t ht hW => ⟨rfl, ht⟩) (fun _ h => absurd h List.not_mem_nil) dX9_isAsk_29
    · have hf := pf_f hc hf
      refine lv_iconst (v := (1 : Int32)) hx hb dX9_isAsk_24 (by decide) ?_
      refine lv_goto (tgt := 29) hx hb dX9_isAsk_25 (by decide) ?_
      cases hf
      exact W.zret hx hb hr (nar_b (by decide)) (fun t ht hW => ⟨rfl, ht⟩) (fun _ h => absurd h List.not_mem_nil) dX9_isAsk_29
abbrev WX9_ask (cI cJ cZ cB : ClassId) (a_o : Nat) (a_o_text : Nat) (a_o_many : Nat) (a_o_views : Nat) (a_o_aisles : Nat) (a_o_readMany : Nat) (a_o_readViews : Nat) (a_o_readAisles : Nat) (a_o_readPage : Nat) (a_o_page : Nat) (a_o_trial : Nat) (a_o_book : Nat) (a_o_kept : Nat) (a_o_isKept : Nat) (a_o_seenSeat : Nat) (a_o_seenWas : Nat) (v_o_thrown : Int32) (v_o_textSize : Int32) (v_o_place : Int32) (v_o_rows : Int32) (v_o_readRows : Int32) (v_o_doings : Int32) (v_o_seen : Int32) (v_o_seed : Int64) (v_o_found : Int32) (v_o_foundViews : Int32) (v_o_foundMany : Int32) (d_o_many : (Nat → Int32)) (d_o_views : (Nat → Int32)) (d_o_aisles : (Nat → Int32)) (d_o_page : (Nat → Int32)) (d_o_book : (Nat → Int32)) : va_W := [(a_o, .inr (9, [.int v_o_thrown, .ref a_o_text, .int v_o_textSize, .int v_o_place, .int v_o_rows, .ref a_o_many, .ref a_o_views, .ref a_o_aisles, .int v_o_readRows, .ref a_o_readMany, .ref a_o_readViews, .ref a_o_readAisles, .ref a_o_readPage, .ref a_o_page, .ref a_o_trial, .ref a_o_book, .int v_o_doings, .ref a_o_kept, .ref a_o_isKept, .int v_o_seen, .ref a_o_seenSeat, .ref a_o_seenWas, .long v_o_seed, .int v_o_found, .int v_o_foundViews, .int v_o_foundMany])), (a_o_many, .inl (cI, (4, .inl d_o_many))), (a_o_views, .inl (cI, (36, .inl d_o_views))), (a_o_aisles, .inl (cZ, (36, .inl d_o_aisles))), (a_o_page, .inl (cI, (229, .inl d_o_page))), (a_o_book, .inl (cI, (3206, .inl d_o_book)))]
set_option maxRecDepth 20000 in
theorem iX9_ask_X9 : ∀ w ∈ wsX90, w ∈ wsX9_ask := by decide +kernel
def fX9_ask (v_o_thrown : Int32) (v_o_rows : Int32) (v_o_doings : Int32) (v_o_found : Int32) (v_o_foundViews : Int32) (v_o_foundMany : Int32) (d_o_many : (Nat → Int32)) (d_o_views : (Nat → Int32)) (d_o_aisles : (Nat → Int32)) (d_o_page : (Nat → Int32)) (d_o_book : (Nat → Int32)) (x1 : Int32) (x2 : Int32) : Option (Int32 × Int32 × Int32 × Int32 × Int32 × Int32 × (Nat → Int32) × (Nat → Int32)) := ((fX9_isAsk x1 x2).bind fun q1 => (if q1 = 0 then some ((-2 : Int32), (0 : Int32), v_o_doings, v_o_found, v_o_foundViews, v_o_foundMany, d_o_page, d_o_book) else ((fX9_mayAsk v_o_rows v_o_found v_o_foundViews v_o_foundMany d_o_many d_o_views d_o_aisles d_o_page x1 x2).bind fun q3 => (if q3.1 = 0 then some ((-4 : Int32), (0 : Int32), v_o_doings, q3.2.1, q3.2.2.1, q3.2.2.2.1, q3.2.2.2.2, d_o_book) else ((fX9_note v_o_doings q3.2.2.2.2 d_o_book).bind fun q5 => ((fX9_askOn v_o_rows q3.2.1 q3.2.2.1 q3.2.2.2.1 d_o_many d_o_views d_o_aisles q3.2.2.2.2 x1 x2).bind fun q7 => some ((q7.2.2.2 ((6 : Int32)).toNatClampNeg), (0 : Int32), q5.1, q7.1, q7.2.1, q7.2.2.1, q7.2.2.2, q5.2)))))))
set_option maxRecDepth 100000 in
set_option maxHeartbeats 4000000 in
theorem kX9_ask (l : Launch) (D : va_G) (cI cJ cZ cB : ClassId) (a_o : Nat) (a_o_text : Nat) (a_o_many : Nat) (a_o_views : Nat) (a_o_aisles : Nat) (a_o_readMany : Nat) (a_o_readViews : Nat) (a_o_readAisles : Nat) (a_o_readPage : Nat) (a_o_page : Nat) (a_o_trial : Nat) (a_o_book : Nat) (a_o_kept : Nat) (a_o_isKept : Nat) (a_o_seenSeat : Nat) (a_o_seenWas : Nat) (v_o_thrown : Int32) (v_o_textSize : Int32) (v_o_place : Int32) (v_o_rows : Int32) (v_o_readRows : Int32) (v_o_doings : Int32) (v_o_seen : Int32) (v_o_seed : Int64) (v_o_found : Int32) (v_o_foundViews : Int32) (v_o_foundMany : Int32) (d_o_many : (Nat → Int32)) (d_o_views : (Nat → Int32)) (d_o_aisles : (Nat → Int32)) (d_o_page : (Nat → Int32)) (d_o_book : (Nat → Int32)) (x1 : Int32) (x2 : Int32) (res : Int32 × Int32 × Int32 × Int32 × Int32 × Int32 × (Nat → Int32) × (Nat → Int32)) (hf : fX9_ask v_o_thrown v_o_rows v_o_doings v_o_found v_o_foundViews v_o_foundMany d_o_many d_o_views d_o_aisles d_o_page d_o_book x1 x2 = some res) : Rw l yX9_ask wsX9_ask ({ frames := 8, cells := 0, slots := 0, locals := 198 } : Room) D (tyL cI cJ cZ cB) [.ref a_o, .int x1, .int x2] (WX9_ask cI cJ cZ cB a_o a_o_text a_o_many a_o_views a_o_aisles a_o_readMany a_o_readViews a_o_readAisles a_o_readPage a_o_page a_o_trial a_o_book a_o_kept a_o_isKept a_o_seenSeat a_o_seenWas v_o_thrown v_o_textSize v_o_place v_o_rows v_o_readRows v_o_doings v_o_seen v_o_seed v_o_found v_o_foundViews v_o_foundMany d_o_many d_o_views d_o_aisles d_o_page d_o_book) (some (.int res.1)) (WX9_ask cI cJ cZ cB a_o a_o_text a_o_many a_o_views a_o_aisles a_o_readMany a_o_readViews a_o_readAisles a_o_readPage a_o_page a_o_trial a_o_book a_o_kept a_o_isKept a_o_seenSeat a_o_seenWas res.2.1 v_o_textSize v_o_place v_o_rows v_o_readRows res.2.2.1 v_o_seen v_o_seed res.2.2.2.1 res.2.2.2.2.1 res.2.2.2.2.2.1 d_o_many d_o_views d_o_aisles res.2.2.2.2.2.2.1 res.2.2.2.2.2.2.2) := by
  refine Rw.of (cc := cX9_ask) (maxL := 3) (ret := (some .int)) (own := RX9) (by decide) rfl rfl (Nat.le_of_ble_eq_true rfl) ?_
  intro p e s m below meth c A ls C hK hA hP hD hS hl
  obtain ⟨hx, hb, hr, hml, hts, hown, hlk⟩ := id C
  have hl : lv_has ls 3 [(0, .ref a_o), (1, .int x1), (2, .int x2)] := hl
  unfold fX9_ask at hf
  refine lv_aload_n hx hb dX9_ask_0 rfl (lv_at hl 0 rfl) ?_
  refine lv_iconst (v := (0 : Int32)) hx hb dX9_ask_1 (by decide) ?_
  refine va_put (D := D) (ci := 9) (v := .int (0 : Int32)) (ty := .int) (C := RX9) (T := TX9) (N := 26) hx hb hts iX9_ask_X9 tyX9 tyX9_ok nmX9 hown hK.1 hP hD hS 0 rfl rfl 0 (by decide) (hts (.fieldLink RX9 60 "LoneSeatsModel" "thrown" "I") (by decide +kernel)) (fun _ h9 => h9) rfl (by decide +kernel) rfl rfl (Nat.le_of_ble_eq_true rfl) dX9_ask_2 (fun H locs hP hD hS => ?_)
  have hP : va_P D vwCl (WX9_ask cI cJ cZ cB a_o a_o_text a_o_many a_o_views a_o_aisles a_o_readMany a_o_readViews a_o_readAisles a_o_readPage a_o_page a_o_trial a_o_book a_o_kept a_o_isKept a_o_seenSeat a_o_seenWas (0 : Int32) v_o_textSize v_o_place v_o_rows v_o_readRows v_o_doings v_o_seen v_o_seed v_o_found v_o_foundViews v_o_foundMany d_o_many d_o_views d_o_aisles d_o_page d_o_book) H := hP
  have hD : va_D A (WX9_ask cI cJ cZ cB a_o a_o_text a_o_many a_o_views a_o_aisles a_o_readMany a_o_readViews a_o_readAisles a_o_readPage a_o_page a_o_trial a_o_book a_o_kept a_o_isKept a_o_seenSeat a_o_seenWas (0 : Int32) v_o_textSize v_o_place v_o_rows v_o_readRows v_o_doings v_o_seen v_o_seed v_o_found v_o_foundViews v_o_foundMany d_o_many d_o_views d_o_aisles d_o_page d_o_book) := hD
  refine lv_iload_n hx hb dX9_ask_5 rfl (lv_at hl 1 rfl) ?_
  refine lv_iload_n hx hb dX9_ask_6 rfl (lv_at hl 2 rfl) ?_
  obtain ⟨q1, hq2, hf⟩ := pf_b hf
  have hPc := hP.sub (ws' := ([] : va_W)) [] rfl
  refine cl_roi (va_runS (As := [.int x1, .int x2]) (rest := []) ⟨hx, hb, hml, hown, hts⟩ (kX9_isAsk l D cI cJ cZ cB x1 x2 q1 hq2) (va_cwS 2 hts gX9_ask_X9_isAsk rfl rfl rfl (by decide +kernel) ⟨Nat.le_of_ble_eq_true rfl, Nat.le_of_ble_eq_true rfl⟩) ⟨PRo.blind, PRo.at hK hPc⟩ rfl rfl hl.1 rfl (lv_room (Nat.le_of_ble_eq_true rfl)) dX9_ask_7 ⟨Nat.zero_le _, Nat.zero_le _⟩) ?_
  refine lv_if_ne (tgt := 16) hx hb dX9_ask_10 (by decide) (fun hc => ?_) (fun hc => ?_)
  · have hf := pf_f hc hf
    refine lv_aload_n hx hb dX9_ask_16 rfl (lv_at hl 0 rfl) ?_
    refine lv_aload_n hx hb dX9_ask_17 rfl (lv_at hl 0 rfl) ?_
    refine va_get (D := D) (ci := 9) (v := .ref a_o_page) (C := RX9) (T := TX9) (N := 26) hx hb hts iX9_ask_X9 hown hK.1 hP 0 rfl rfl 13 (by decide) (hts (.fieldLink RX9 35 "LoneSeatsModel" "page" "[I") (by decide +kernel)) (fun _ h9 => h9) rfl dX9_ask_18 ?_
    refine lv_iload_n hx hb dX9_ask_21 rfl (lv_at hl 1 rfl) ?_
    refine lv_iload_n hx hb dX9_ask_22 rfl (lv_at hl 2 rfl) ?_
    obtain ⟨q3, hq4, hf⟩ := pf_b hf
    have hPc := hP.sub (ws' := (WX9_mayAsk cI cJ cZ cB a_o a_o_text a_o_many a_o_views a_o_aisles a_o_readMany a_o_readViews a_o_readAisles a_o_readPage a_o_page a_o_trial a_o_book a_o_kept a_o_isKept a_o_seenSeat a_o_seenWas a_o_page (0 : Int32) v_o_textSize v_o_place v_o_rows v_o_readRows v_o_doings v_o_seen v_o_seed v_o_found v_o_foundViews v_o_foundMany d_o_many d_o_views d_o_aisles d_o_page)) [0, 1, 2, 3, 4] rfl
    have hDc := hD.sub (ws' := (WX9_mayAsk cI cJ cZ cB a_o a_o_text a_o_many a_o_views a_o_aisles a_o_readMany a_o_readViews a_o_readAisles a_o_readPage a_o_page a_o_trial a_o_book a_o_kept a_o_isKept a_o_seenSeat a_o_seenWas a_o_page (0 : Int32) v_o_textSize v_o_place v_o_rows v_o_readRows v_o_doings v_o_seen v_o_seed v_o_found v_o_foundViews v_o_foundMany d_o_many d_o_views d_o_aisles d_o_page)) [0, 1, 2, 3, 4] (by decide) rfl
    refine cl_rwi (wr := [(a_o_book, .inl (cI, (3206, .inl d_o_book)))]) (wsN := (WX9_ask cI cJ cZ cB a_o a_o_text a_o_many a_o_views a_o_aisles a_o_readMany a_o_readViews a_o_readAisles a_o_readPage a_o_page a_o_trial a_o_book a_o_kept a_o_isKept a_o_seenSeat a_o_seenWas (0 : Int32) v_o_textSize v_o_place v_o_rows v_o_readRows v_o_doings v_o_seen v_o_seed q3.2.1 q3.2.2.1 q3.2.2.2.1 d_o_many d_o_views d_o_aisles q3.2.2.2.2 d_o_book)) (va_runV (As := [.ref a_o_page, .int x1, .int x2]) (rest := []) ⟨hx, hb, hml, hown, hts⟩ ((kX9_mayAsk l D cI cJ cZ cB a_o a_o_text a_o_many a_o_views a_o_aisles a_o_readMany a_o_readViews a_o_readAisles a_o_readPage a_o_page a_o_trial a_o_book a_o_kept a_o_isKept a_o_seenSeat a_o_seenWas a_o_page (0 : Int32) v_o_textSize v_o_place v_o_rows v_o_readRows v_o_doings v_o_seen v_o_seed v_o_found v_o_foundViews v_o_foundMany d_o_many d_o_views d_o_aisles d_o_page x1 x2 q3 hq4) _) (cwV 3 hts gX9_ask_X9_mayAsk rfl rfl rfl (by decide +kernel) ⟨Nat.le_of_ble_eq_true rfl, Nat.le_of_ble_eq_true rfl⟩) ⟨PRw.blind, va_recv hK.1 hPc (ci := 9) (q0 := 0) rfl rfl, PRw.at hK hPc hDc⟩ rfl rfl hl.1 rfl (lv_room (Nat.le_of_ble_eq_true rfl)) dX9_ask_23 ⟨Nat.zero_le _, Nat.zero_le _⟩) hP hD hS hA [0, 1, 2, 3, 4] [5] [1, 2, 3, 4, 5, 0] rfl rfl (by decide) (by decide) rfl (by decide) (fun H locs hP hD hS => ?_)
    refine lv_if_ne (tgt := 32) hx hb dX9_ask_26 (by decide) (fun hc => ?_) (fun hc => ?_)
    · have hf := pf_f hc hf
      refine lv_aload_n hx hb dX9_ask_32 rfl (lv_at hl 0 rfl) ?_
      obtain ⟨q5, hq6, hf⟩ := pf_b hf
      have hPc := hP.sub (ws' := (WX9_note cI cJ cZ cB a_o a_o_text a_o_many a_o_views a_o_aisles a_o_readMany a_o_readViews a_o_readAisles a_o_readPage a_o_page a_o_trial a_o_book a_o_kept a_o_isKept a_o_seenSeat a_o_seenWas (0 : Int32) v_o_textSize v_o_place v_o_rows v_o_readRows v_o_doings v_o_seen v_o_seed q3.2.1 q3.2.2.1 q3.2.2.2.1 q3.2.2.2.2 d_o_book)) [0, 4, 5] rfl
      have hDc := hD.sub (ws' := (WX9_note cI cJ cZ cB a_o a_o_text a_o_many a_o_views a_o_aisles a_o_readMany a_o_readViews a_o_readAisles a_o_readPage a_o_page a_o_trial a_o_book a_o_kept a_o_isKept a_o_seenSeat a_o_seenWas (0 : Int32) v_o_textSize v_o_place v_o_rows v_o_readRows v_o_doings v_o_seen v_o_seed q3.2.1 q3.2.2.1 q3.2.2.2.1 q3.2.2.2.2 d_o_book)) [0, 4, 5] (by decide) rfl
      refine cl_rwv (wr := [(a_o_many, .inl (cI, (4, .inl d_o_many))), (a_o_views, .inl (cI, (36, .inl d_o_views))), (a_o_aisles, .inl (cZ, (36, .inl d_o_aisles)))]) (wsN := (WX9_ask cI cJ cZ cB a_o a_o_text a_o_many a_o_views a_o_aisles a_o_readMany a_o_readViews a_o_readAisles a_o_readPage a_o_page a_o_trial a_o_book a_o_kept a_o_isKept a_o_seenSeat a_o_seenWas (0 : Int32) v_o_textSize v_o_place v_o_rows v_o_readRows q5.1 v_o_seen v_o_seed q3.2.1 q3.2.2.1 q3.2.2.2.1 d_o_many d_o_views d_o_aisles q3.2.2.2.2 q5.2)) (va_runV (As := []) (rest := []) ⟨hx, hb, hml, hown, hts⟩ ((kX9_note l D cI cJ cZ cB a_o a_o_text a_o_many a_o_views a_o_aisles a_o_readMany a_o_readViews a_o_readAisles a_o_readPage a_o_page a_o_trial a_o_book a_o_kept a_o_isKept a_o_seenSeat a_o_seenWas (0 : Int32) v_o_textSize v_o_place v_o_rows v_o_readRows v_o_doings v_o_seen v_o_seed q3.2.1 q3.2.2.1 q3.2.2.2.1 q3.2.2.2.2 d_o_book q5 hq6) _) (cwV 0 hts gX9_ask_X9_note rfl rfl rfl (by decide +kernel) ⟨Nat.le_of_ble_eq_true rfl, Nat.le_of_ble_eq_true rfl⟩) ⟨PRw.blind, va_recv hK.1 hPc (ci := 9) (q0 := 0) rfl rfl, PRw.at hK hPc hDc⟩ rfl rfl hl.1 rfl (lv_room (Nat.le_of_ble_eq_true rfl)) dX9_ask_33 ⟨Nat.zero_le _, Nat.zero_le _⟩) hP hD hS hA [0, 4, 5] [1, 2, 3] [3, 0, 1, 2, 4, 5] rfl rfl (by decide) (by decide) rfl (by decide) (fun H locs hP hD hS => ?_)
      refine lv_aload_n hx hb dX9_ask_36 rfl (lv_at hl 0 rfl) ?_
      refine lv_aload_n hx hb dX9_ask_37 rfl (lv_at hl 0 rfl) ?_
      refine va_get (D := D) (ci := 9) (v := .ref a_o_page) (C := RX9) (T := TX9) (N := 26) hx hb hts iX9_ask_X9 hown hK.1 hP 0 rfl rfl 13 (by decide) (hts (.fieldLink RX9 35 "LoneSeatsModel" "page" "[I") (by decide +kernel)) (fun _ h9 => h9) rfl dX9_ask_38 ?_
      refine lv_iload_n hx hb dX9_ask_41 rfl (lv_at hl 1 rfl) ?_
      refine lv_iload_n hx hb dX9_ask_42 rfl (lv_at hl 2 rfl) ?_
      obtain ⟨q7, hq8, hf⟩ := pf_b hf
      have hPc := hP.sub (ws' := (WX9_askOn cI cJ cZ cB a_o a_o_text a_o_many a_o_views a_o_aisles a_o_readMany a_o_readViews a_o_readAisles a_o_readPage a_o_page a_o_trial a_o_book a_o_kept a_o_isKept a_o_seenSeat a_o_seenWas a_o_page (0 : Int32) v_o_textSize v_o_place v_o_rows v_o_readRows q5.1 v_o_seen v_o_seed q3.2.1 q3.2.2.1 q3.2.2.2.1 d_o_many d_o_views d_o_aisles q3.2.2.2.2)) [0, 1, 2, 3, 4] rfl
      have hDc := hD.sub (ws' := (WX9_askOn cI cJ cZ cB a_o a_o_text a_o_many a_o_views a_o_aisles a_o_readMany a_o_readViews a_o_readAisles a_o_readPage a_o_page a_o_trial a_o_book a_o_kept a_o_isKept a_o_seenSeat a_o_seenWas a_o_page (0 : Int32) v_o_textSize v_o_place v_o_rows v_o_readRows q5.1 v_o_seen v_o_seed q3.2.1 q3.2.2.1 q3.2.2.2.1 d_o_many d_o_views d_o_aisles q3.2.2.2.2)) [0, 1, 2, 3, 4] (by decide) rfl
      refine cl_rwv (wr := [(a_o_book, .inl (cI, (3206, .inl q5.2)))]) (wsN := (WX9_ask cI cJ cZ cB a_o a_o_text a_o_many a_o_views a_o_aisles a_o_readMany a_o_readViews a_o_readAisles a_o_readPage a_o_page a_o_trial a_o_book a_o_kept a_o_isKept a_o_seenSeat a_o_seenWas (0 : Int32) v_o_textSize v_o_place v_o_rows v_o_readRows q5.1 v_o_seen v_o_seed q7.1 q7.2.1 q7.2.2.1 d_o_many d_o_views d_o_aisles q7.2.2.2 q5.2)) (va_runV (As := [.ref a_o_page, .int x1, .int x2]) (rest := []) ⟨hx, hb, hml, hown, hts⟩ ((kX9_askOn l D cI cJ cZ cB a_o a_o_text a_o_many a_o_views a_o_aisles a_o_readMany a_o_readViews a_o_readAisles a_o_readPage a_o_page a_o_trial a_o_book a_o_kept a_o_isKept a_o_seenSeat a_o_seenWas a_o_page (0 : Int32) v_o_textSize v_o_place v_o_rows v_o_readRows q5.1 v_o_seen v_o_seed q3.2.1 q3.2.2.1 q3.2.2.2.1 d_o_many d_o_views d_o_aisles q3.2.2.2.2 x1 x2 q7 hq8) _) (cwV 3 hts gX9_ask_X9_askOn rfl rfl rfl (by decide +kernel) ⟨Nat.le_of_ble_eq_true rfl, Nat.le_of_ble_eq_true rfl⟩) ⟨PRw.blind, va_recv hK.1 hPc (ci := 9) (q0 := 0) rfl rfl, PRw.at hK hPc hDc⟩ rfl rfl hl.1 rfl (lv_room (Nat.le_of_ble_eq_true rfl)) dX9_ask_43 ⟨Nat.zero_le _, Nat.zero_le _⟩) hP hD hS hA [0, 1, 2, 3, 4] [5] [1, 2, 3, 4, 5, 0] rfl rfl (by decide) (by decide) rfl (by decide) (fun H locs hP hD hS => ?_)
      refine lv_aload_n hx hb dX9_ask_46 rfl (lv_at hl 0 rfl) ?_
      refine va_get (D := D) (ci := 9) (v := .ref a_o_page) (C := RX9) (T := TX9) (N := 26) hx hb hts iX9_ask_X9 hown hK.1 hP 0 rfl rfl 13 (by decide) (hts (.fieldLink RX9 35 "LoneSeatsModel" "page" "[I") (by decide +kernel)) (fun _ h9 => h9) rfl dX9_ask_47 ?_
      refine lv_bipush (v := (6 : Int32)) hx hb dX9_ask_50 (by decide) ?_
      refine va_iald hx hb hK.1 hP 4 0 rfl rfl (show ¬ ((6 : Int32) < 0 ∨ 229 ≤ ((6 : Int32)).toNatClampNeg) by decide) dX9_ask_52 ?_
      cases hf
      exact W.iret hx hb hr (fun t ht hW => ⟨⟨rfl, by rw [ht]; exact hP, hD⟩, hS.F ht⟩) hS.2.2 dX9_ask_53
    · have hf := pf_t hc hf
      refine lv_bipush (v := (-4 : Int32)) hx hb dX9_ask_29 (by decide) ?_
      cases hf
      exact W.iret hx hb hr (fun t ht hW => ⟨⟨rfl, by rw [ht]; exact hP, hD⟩, hS.F ht⟩) hS.2.2 dX9_ask_31
  · have hf := pf_t hc hf
    refine lv_bipush (v := (-2 : Int32)) hx hb dX9_ask_13 (by decide) ?_
    cases hf
    exact W.iret hx hb hr (fun t ht hW => ⟨⟨rfl, by rw [ht]; exact hP, hD⟩, hS.F ht⟩) hS.2.2 dX9_ask_15
abbrev WX9_giveBack (cI cJ cZ cB : ClassId) (a_o : Nat) (a_o_text : Nat) (a_o_many : Nat) (a_o_views : Nat) (a_o_aisles : Nat) (a_o_readMany : Nat) (a_o_readViews : Nat) (a_o_readAisles : Nat) (a_o_readPage : Nat) (a_o_page : Nat) (a_o_trial : Nat) (a_o_book : Nat) (a_o_kept : Nat) (a_o_isKept : Nat) (a_o_seenSeat : Nat) (a_o_seenWas : Nat) (v_o_thrown : Int32) (v_o_textSize : Int32) (v_o_place : Int32) (v_o_rows : Int32) (v_o_readRows : Int32) (v_o_doings : Int32) (v_o_seen : Int32) (v_o_seed : Int64) (v_o_found : Int32) (v_o_foundViews : Int32) (v_o_foundMany : Int32) (d_o_many : (Nat → Int32)) (d_o_views : (Nat → Int32)) (d_o_aisles : (Nat → Int32)) (d_o_page : (Nat → Int32)) (d_o_book : (Nat → Int32)) : va_W := [(a_o, .inr (9, [.int v_o_thrown, .ref a_o_text, .int v_o_textSize, .int v_o_place, .int v_o_rows, .ref a_o_many, .ref a_o_views, .ref a_o_aisles, .int v_o_readRows, .ref a_o_readMany, .ref a_o_readViews, .ref a_o_readAisles, .ref a_o_readPage, .ref a_o_page, .ref a_o_trial, .ref a_o_book, .int v_o_doings, .ref a_o_kept, .ref a_o_isKept, .int v_o_seen, .ref a_o_seenSeat, .ref a_o_seenWas, .long v_o_seed, .int v_o_found, .int v_o_foundViews, .int v_o_foundMany])), (a_o_many, .inl (cI, (4, .inl d_o_many))), (a_o_views, .inl (cI, (36, .inl d_o_views))), (a_o_aisles, .inl (cZ, (36, .inl d_o_aisles))), (a_o_page, .inl (cI, (229, .inl d_o_page))), (a_o_book, .inl (cI, (3206, .inl d_o_book)))]
set_option maxRecDepth 20000 in
theorem iX9_giveBack_X9 : ∀ w ∈ wsX90, w ∈ wsX9_giveBack := by decide +kernel
def fX9_giveBack (v_o_thrown : Int32) (v_o_rows : Int32) (v_o_doings : Int32) (v_o_found : Int32) (v_o_foundViews : Int32) (v_o_foundMany : Int32) (d_o_many : (Nat → Int32)) (d_o_views : (Nat → Int32)) (d_o_aisles : (Nat → Int32)) (d_o_page : (Nat → Int32)) (d_o_book : (Nat → Int32)) (x1 : Int32) : Option (Int32 × Int32 × Int32 × Int32 × Int32 × Int32 × (Nat → Int32) × (Nat → Int32)) := ((fX9_noParty d_o_page x1).bind fun q1 => (if q1 = 0 then ((fX9_at x1).bind fun q3 => (if (q3 + (2 : Int32)) < 0 ∨ 229 ≤ ((q3 + (2 : Int32))).toNatClampNeg then none else (if (d_o_page ((q3 + (2 : Int32))).toNatClampNeg) = (1 : Int32) then ((fX9_note v_o_doings d_o_page d_o_book).bind fun q6 => ((fX9_returnOn v_o_rows v_o_found v_o_foundViews v_o_foundMany d_o_many d_o_views d_o_aisles d_o_page x1).bind fun q8 => some (q8.1, (0 : Int32), q6.1, q8.2.1, q8.2.2.1, q8.2.2.2.1, q8.2.2.2.2, q6.2))) else some ((-3 : Int32), (0 : Int32), v_o_doings, v_o_found, v_o_foundViews, v_o_foundMany, d_o_page, d_o_book)))) else some ((-1 : Int32), (0 : Int32), v_o_doings, v_o_found, v_o_foundViews, v_o_foundMany, d_o_page, d_o_book)))
set_option maxRecDepth 100000 in
set_option maxHeartbeats 4000000 in
theorem kX9_giveBack (l : Launch) (D : va_G) (cI cJ cZ cB : ClassId) (a_o : Nat) (a_o_text : Nat) (a_o_many : Nat) (a_o_views : Nat) (a_o_aisles : Nat) (a_o_readMany : Nat) (a_o_readViews : Nat) (a_o_readAisles : Nat) (a_o_readPage : Nat) (a_o_page : Nat) (a_o_trial : Nat) (a_o_book : Nat) (a_o_kept : Nat) (a_o_isKept : Nat) (a_o_seenSeat : Nat) (a_o_seenWas : Nat) (v_o_thrown : Int32) (v_o_textSize : Int32) (v_o_place : Int32) (v_o_rows : Int32) (v_o_readRows : Int32) (v_o_doings : Int32) (v_o_seen : Int32) (v_o_seed : Int64) (v_o_found : Int32) (v_o_foundViews : Int32) (v_o_foundMany : Int32) (d_o_many : (Nat → Int32)) (d_o_views : (Nat → Int32)) (d_o_aisles : (Nat → Int32)) (d_o_page : (Nat → Int32)) (d_o_book : (Nat → Int32)) (x1 : Int32) (res : Int32 × Int32 × Int32 × Int32 × Int32 × Int32 × (Nat → Int32) × (Nat → Int32)) (hf : fX9_giveBack v_o_thrown v_o_rows v_o_doings v_o_found v_o_foundViews v_o_foundMany d_o_many d_o_views d_o_aisles d_o_page d_o_book x1 = some res) : Rw l yX9_giveBack wsX9_giveBack ({ frames := 9, cells := 0, slots := 0, locals := 222 } : Room) D (tyL cI cJ cZ cB) [.ref a_o, .int x1] (WX9_giveBack cI cJ cZ cB a_o a_o_text a_o_many a_o_views a_o_aisles a_o_readMany a_o_readViews a_o_readAisles a_o_readPage a_o_page a_o_trial a_o_book a_o_kept a_o_isKept a_o_seenSeat a_o_seenWas v_o_thrown v_o_textSize v_o_place v_o_rows v_o_readRows v_o_doings v_o_seen v_o_seed v_o_found v_o_foundViews v_o_foundMany d_o_many d_o_views d_o_aisles d_o_page d_o_book) (some (.int res.1)) (WX9_giveBack cI cJ cZ cB a_o a_o_text a_o_many a_o_views a_o_aisles a_o_readMany a_o_readViews a_o_readAisles a_o_readPage a_o_page a_o_trial a_o_book a_o_kept a_o_isKept a_o_seenSeat a_o_seenWas res.2.1 v_o_textSize v_o_place v_o_rows v_o_readRows res.2.2.1 v_o_seen v_o_seed res.2.2.2.1 res.2.2.2.2.1 res.2.2.2.2.2.1 d_o_many d_o_views d_o_aisles res.2.2.2.2.2.2.1 res.2.2.2.2.2.2.2) := by
  refine Rw.of (cc := cX9_giveBack) (maxL := 2) (ret := (some .int)) (own := RX9) (by decide) rfl rfl (Nat.le_of_ble_eq_true rfl) ?_
  intro p e s m below meth c A ls C hK hA hP hD hS hl
  obtain ⟨hx, hb, hr, hml, hts, hown, hlk⟩ := id C
  have hl : lv_has ls 2 [(0, .ref a_o), (1, .int x1)] := hl
  unfold fX9_giveBack at hf
  refine lv_aload_n hx hb dX9_giveBack_0 rfl (lv_at hl 0 rfl) ?_
  refine lv_iconst (v := (0 : Int32)) hx hb dX9_giveBack_1 (by decide) ?_
  refine va_put (D := D) (ci := 9) (v := .int (0 : Int32)) (ty := .int) (C := RX9) (T := TX9) (N := 26) hx hb hts iX9_giveBack_X9 tyX9 tyX9_ok nmX9 hown hK.1 hP hD hS 0 rfl rfl 0 (by decide) (hts (.fieldLink RX9 60 "LoneSeatsModel" "thrown" "I") (by decide +kernel)) (fun _ h9 => h9) rfl (by decide +kernel) rfl rfl (Nat.le_of_ble_eq_true rfl) dX9_giveBack_2 (fun H locs hP hD hS => ?_)
  have hP : va_P D vwCl (WX9_giveBack cI cJ cZ cB a_o a_o_text a_o_many a_o_views a_o_aisles a_o_readMany a_o_readViews a_o_readAisles a_o_readPage a_o_page a_o_trial a_o_book a_o_kept a_o_isKept a_o_seenSeat a_o_seenWas (0 : Int32) v_o_textSize v_o_place v_o_rows v_o_readRows v_o_doings v_o_seen v_o_seed v_o_found v_o_foundViews v_o_foundMany d_o_many d_o_views d_o_aisles d_o_page d_o_book) H := hP
  have hD : va_D A (WX9_giveBack cI cJ cZ cB a_o a_o_text a_o_many a_o_views a_o_aisles a_o_readMany a_o_readViews a_o_readAisles a_o_readPage a_o_page a_o_trial a_o_book a_o_kept a_o_isKept a_o_seenSeat a_o_seenWas (0 : Int32) v_o_textSize v_o_place v_o_rows v_o_readRows v_o_doings v_o_seen v_o_seed v_o_found v_o_foundViews v_o_foundMany d_o_many d_o_views d_o_aisles d_o_page d_o_book) := hD
  refine lv_aload_n hx hb dX9_giveBack_5 rfl (lv_at hl 0 rfl) ?_
  refine lv_iload_n hx hb dX9_giveBack_6 rfl (lv_at hl 1 rfl) ?_
  obtain ⟨q1, hq2, hf⟩ := pf_b hf
  have hPc := hP.sub (ws' := (WX9_noParty cI cJ cZ cB a_o a_o_text a_o_many a_o_views a_o_aisles a_o_readMany a_o_readViews a_o_readAisles a_o_readPage a_o_page a_o_trial a_o_book a_o_kept a_o_isKept a_o_seenSeat a_o_seenWas (0 : Int32) v_o_textSize v_o_place v_o_rows v_o_readRows v_o_doings v_o_seen v_o_seed v_o_found v_o_foundViews v_o_foundMany d_o_page)) [0, 4] rfl
  refine cl_roi (va_runV (As := [.int x1]) (rest := []) ⟨hx, hb, hml, hown, hts⟩ (kX9_noParty l D cI cJ cZ cB a_o a_o_text a_o_many a_o_views a_o_aisles a_o_readMany a_o_readViews a_o_readAisles a_o_readPage a_o_page a_o_trial a_o_book a_o_kept a_o_isKept a_o_seenSeat a_o_seenWas (0 : Int32) v_o_textSize v_o_place v_o_rows v_o_readRows v_o_doings v_o_seen v_o_seed v_o_found v_o_foundViews v_o_foundMany d_o_page x1 q1 hq2) (cwV 1 hts gX9_giveBack_X9_noParty rfl rfl rfl (by decide +kernel) ⟨Nat.le_of_ble_eq_true rfl, Nat.le_of_ble_eq_true rfl⟩) ⟨PRo.blind, va_recv hK.1 hPc (ci := 9) (q0 := 0) rfl rfl, PRo.at hK hPc⟩ rfl rfl hl.1 rfl (lv_room (Nat.le_of_ble_eq_true rfl)) dX9_giveBack_7 ⟨Nat.zero_le _, Nat.zero_le _⟩) ?_
  refine lv_if_eq (tgt := 15) hx hb dX9_giveBack_10 (by decide) (fun hc => ?_) (fun hc => ?_)
  · have hf := pf_t hc hf
    refine lv_aload_n hx hb dX9_giveBack_15 rfl (lv_at hl 0 rfl) ?_
    refine va_get (D := D) (ci := 9) (v := .ref a_o_page) (C := RX9) (T := TX9) (N := 26) hx hb hts iX9_giveBack_X9 hown hK.1 hP 0 rfl rfl 13 (by decide) (hts (.fieldLink RX9 35 "LoneSeatsModel" "page" "[I") (by decide +kernel)) (fun _ h9 => h9) rfl dX9_giveBack_16 ?_
    refine lv_iload_n hx hb dX9_giveBack_19 rfl (lv_at hl 1 rfl) ?_
    obtain ⟨q3, hq4, hf⟩ := pf_b hf
    have hPc := hP.sub (ws' := ([] : va_W)) [] rfl
    refine cl_roi (va_runS (As := [.int x1]) (rest := [.ref a_o_page]) ⟨hx, hb, hml, hown, hts⟩ (kX9_at l D cI cJ cZ cB x1 q3 hq4) (va_cwS 1 hts gX9_giveBack_X9_at rfl rfl rfl (by decide +kernel) ⟨Nat.le_of_ble_eq_true rfl, Nat.le_of_ble_eq_true rfl⟩) ⟨PRo.blind, PRo.at hK hPc⟩ rfl rfl hl.1 rfl (lv_room (Nat.le_of_ble_eq_true rfl)) dX9_giveBack_20 ⟨Nat.zero_le _, Nat.zero_le _⟩) ?_
    refine lv_iconst (v := (2 : Int32)) hx hb dX9_giveBack_23 (by decide) ?_
    refine lv_iadd hx hb dX9_giveBack_24 ?_
    obtain ⟨hg5, hf⟩ := pf_x hf
    refine va_iald hx hb hK.1 hP 4 0 rfl rfl hg5 dX9_giveBack_25 ?_
    refine lv_iconst (v := (1 : Int32)) hx hb dX9_giveBack_26 (by decide) ?_
    refine lv_icmp_eq (tgt := 33) hx hb dX9_giveBack_27 (by decide) (fun hc => ?_) (fun hc => ?_)
    · have hf := pf_t hc hf
      refine lv_aload_n hx hb dX9_giveBack_33 rfl (lv_at hl 0 rfl) ?_
      obtain ⟨q6, hq7, hf⟩ := pf_b hf
      have hPc := hP.sub (ws' := (WX9_note cI cJ cZ cB a_o a_o_text a_o_many a_o_views a_o_aisles a_o_readMany a_o_readViews a_o_readAisles a_o_readPage a_o_page a_o_trial a_o_book a_o_kept a_o_isKept a_o_seenSeat a_o_seenWas (0 : Int32) v_o_textSize v_o_place v_o_rows v_o_readRows v_o_doings v_o_seen v_o_seed v_o_found v_o_foundViews v_o_foundMany d_o_page d_o_book)) [0, 4, 5] rfl
      have hDc := hD.sub (ws' := (WX9_note cI cJ cZ cB a_o a_o_text a_o_many a_o_views a_o_aisles a_o_readMany a_o_readViews a_o_readAisles a_o_readPage a_o_page a_o_trial a_o_book a_o_kept a_o_isKept a_o_seenSeat a_o_seenWas (0 : Int32) v_o_textSize v_o_place v_o_rows v_o_readRows v_o_doings v_o_seen v_o_seed v_o_found v_o_foundViews v_o_foundMany d_o_page d_o_book)) [0, 4, 5] (by decide) rfl
      refine cl_rwv (wr := [(a_o_many, .inl (cI, (4, .inl d_o_many))), (a_o_views, .inl (cI, (36, .inl d_o_views))), (a_o_aisles, .inl (cZ, (36, .inl d_o_aisles)))]) (wsN := (WX9_giveBack cI cJ cZ cB a_o a_o_text a_o_many a_o_views a_o_aisles a_o_readMany a_o_readViews a_o_readAisles a_o_readPage a_o_page a_o_trial a_o_book a_o_kept a_o_isKept a_o_seenSeat a_o_seenWas (0 : Int32) v_o_textSize v_o_place v_o_rows v_o_readRows q6.1 v_o_seen v_o_seed v_o_found v_o_foundViews v_o_foundMany d_o_many d_o_views d_o_aisles d_o_page q6.2)) (va_runV (As := []) (rest := []) ⟨hx, hb, hml, hown, hts⟩ ((kX9_note l D cI cJ cZ cB a_o a_o_text a_o_many a_o_views a_o_aisles a_o_readMany a_o_readViews a_o_readAisles a_o_readPage a_o_page a_o_trial a_o_book a_o_kept a_o_isKept a_o_seenSeat a_o_seenWas (0 : Int32) v_o_textSize v_o_place v_o_rows v_o_readRows v_o_doings v_o_seen v_o_seed v_o_found v_o_foundViews v_o_foundMany d_o_page d_o_book q6 hq7) _) (cwV 0 hts gX9_giveBack_X9_note rfl rfl rfl (by decide +kernel) ⟨Nat.le_of_ble_eq_true rfl, Nat.le_of_ble_eq_true rfl⟩) ⟨PRw.blind, va_recv hK.1 hPc (ci := 9) (q0 := 0) rfl rfl, PRw.at hK hPc hDc⟩ rfl rfl hl.1 rfl (lv_room (Nat.le_of_ble_eq_true rfl)) dX9_giveBack_34 ⟨Nat.zero_le _, Nat.zero_le _⟩) hP hD hS hA [0, 4, 5] [1, 2, 3] [3, 0, 1, 2, 4, 5] rfl rfl (by decide) (by decide) rfl (by decide) (fun H locs hP hD hS => ?_)
      refine lv_aload_n hx hb dX9_giveBack_37 rfl (lv_at hl 0 rfl) ?_
      refine lv_aload_n hx hb dX9_giveBack_38 rfl (lv_at hl 0 rfl) ?_
      refine va_get (D := D) (ci := 9) (v := .ref a_o_page) (C := RX9) (T := TX9) (N := 26) hx hb hts iX9_giveBack_X9 hown hK.1 hP 0 rfl rfl 13 (by decide) (hts (.fieldLink RX9 35 "LoneSeatsModel" "page" "[I") (by decide +kernel)) (fun _ h9 => h9) rfl dX9_giveBack_39 ?_
      refine lv_iload_n hx hb dX9_giveBack_42 rfl (lv_at hl 1 rfl) ?_
      obtain ⟨q8, hq9, hf⟩ := pf_b hf
      have hPc := hP.sub (ws' := (WX9_returnOn cI cJ cZ cB a_o a_o_text a_o_many a_o_views a_o_aisles a_o_readMany a_o_readViews a_o_readAisles a_o_readPage a_o_page a_o_trial a_o_book a_o_kept a_o_isKept a_o_seenSeat a_o_seenWas a_o_page (0 : Int32) v_o_textSize v_o_place v_o_rows v_o_readRows q6.1 v_o_seen v_o_seed v_o_found v_o_foundViews v_o_foundMany d_o_many d_o_views d_o_aisles d_o_page)) [0, 1, 2, 3, 4] rfl
      have hDc := hD.sub (ws' := (WX9_returnOn cI cJ cZ cB a_o a_o_text a_o_many a_o_views a_o_aisles a_o_readMany a_o_readViews a_o_readAisles a_o_readPage a_o_page a_o_trial a_o_book a_o_kept a_o_isKept a_o_seenSeat a_o_seenWas a_o_page (0 : Int32) v_o_textSize v_o_place v_o_rows v_o_readRows q6.1 v_o_seen v_o_seed v_o_found v_o_foundViews v_o_foundMany d_o_many d_o_views d_o_aisles d_o_page)) [0, 1, 2, 3, 4] (by decide) rfl
      refine cl_rwi (wr := [(a_o_book, .inl (cI, (3206, .inl q6.2)))]) (wsN := (WX9_giveBack cI cJ cZ cB a_o a_o_text a_o_many a_o_views a_o_aisles a_o_readMany a_o_readViews a_o_readAisles a_o_readPage a_o_page a_o_trial a_o_book a_o_kept a_o_isKept a_o_seenSeat a_o_seenWas (0 : Int32) v_o_textSize v_o_place v_o_rows v_o_readRows q6.1 v_o_seen v_o_seed q8.2.1 q8.2.2.1 q8.2.2.2.1 d_o_many d_o_views d_o_aisles q8.2.2.2.2 q6.2)) (va_runV (As := [.ref a_o_page, .int x1]) (rest := []) ⟨hx, hb, hml, hown, hts⟩ ((kX9_returnOn l D cI cJ cZ cB a_o a_o_text a_o_many a_o_views a_o_aisles a_o_readMany a_o_readViews a_o_readAisles a_o_readPage a_o_page a_o_trial a_o_book a_o_kept a_o_isKept a_o_seenSeat a_o_seenWas a_o_page (0 : Int32) v_o_textSize v_o_place v_o_rows v_o_readRows q6.1 v_o_seen v_o_seed v_o_found v_o_foundViews v_o_foundMany d_o_many d_o_views d_o_aisles d_o_page x1 q8 hq9) _) (cwV 2 hts gX9_giveBack_X9_returnOn rfl rfl rfl (by decide +kernel) ⟨Nat.le_of_ble_eq_true rfl, Nat.le_of_ble_eq_true rfl⟩) ⟨PRw.blind, va_recv hK.1 hPc (ci := 9) (q0 := 0) rfl rfl, PRw.at hK hPc hDc⟩ rfl rfl hl.1 rfl (lv_room (Nat.le_of_ble_eq_true rfl)) dX9_giveBack_43 ⟨Nat.zero_le _, Nat.zero_le _⟩) hP hD hS hA [0, 1, 2, 3, 4] [5] [1, 2, 3, 4, 5, 0] rfl rfl (by decide) (by decide) rfl (by decide) (fun H locs hP hD hS => ?_)
      cases hf
      exact W.iret hx hb hr (fun t ht hW => ⟨⟨rfl, by rw [ht]; exact hP, hD⟩, hS.F ht⟩) hS.2.2 dX9_giveBack_46
    · have hf := pf_f hc hf
      refine lv_bipush (v := (-3 : Int32)) hx hb dX9_giveBack_30 (by decide) ?_
      cases hf
      exact W.iret hx hb hr (fun t ht hW => ⟨⟨rfl, by rw [ht]; exact hP, hD⟩, hS.F ht⟩) hS.2.2 dX9_giveBack_32
  · have hf := pf_f hc hf
    refine lv_iconst (v := (-1 : Int32)) hx hb dX9_giveBack_13 (by decide) ?_
    cases hf
    exact W.iret hx hb hr (fun t ht hW => ⟨⟨rfl, by rw [ht]; exact hP, hD⟩, hS.F ht⟩) hS.2.2 dX9_giveBack_14
abbrev WX9_leave (cI cJ cZ cB : ClassId) (a_o : Nat) (a_o_text : Nat) (a_o_many : Nat) (a_o_views : Nat) (a_o_aisles : Nat) (a_o_readMany : Nat) (a_o_readViews : Nat) (a_o_readAisles : Nat) (a_o_readPage : Nat) (a_o_page : Nat) (a_o_trial : Nat) (a_o_book : Nat) (a_o_kept : Nat) (a_o_isKept : Nat) (a_o_seenSeat : Nat) (a_o_seenWas : Nat) (v_o_thrown : Int32) (v_o_textSize : Int32) (v_o_place : Int32) (v_o_rows : Int32) (v_o_readRows : Int32) (v_o_doings : Int32) (v_o_seen : Int32) (v_o_seed : Int64) (v_o_found : Int32) (v_o_foundViews : Int32) (v_o_foundMany : Int32) (d_o_page : (Nat → Int32)) (d_o_book : (Nat → Int32)) : va_W := [(a_o, .inr (9, [.int v_o_thrown, .ref a_o_text, .int v_o_textSize, .int v_o_place, .int v_o_rows, .ref a_o_many, .ref a_o_views, .ref a_o_aisles, .int v_o_readRows, .ref a_o_readMany, .ref a_o_readViews, .ref a_o_readAisles, .ref a_o_readPage, .ref a_o_page, .ref a_o_trial, .ref a_o_book, .int v_o_doings, .ref a_o_kept, .ref a_o_isKept, .int v_o_seen, .ref a_o_seenSeat, .ref a_o_seenWas, .long v_o_seed, .int v_o_found, .int v_o_foundViews, .int v_o_foundMany])), (a_o_page, .inl (cI, (229, .inl d_o_page))), (a_o_book, .inl (cI, (3206, .inl d_o_book)))]
set_option maxRecDepth 20000 in
theorem iX9_leave_X9 : ∀ w ∈ wsX90, w ∈ wsX9_leave := by decide +kernel
def fX9_leave_67 : Nat → Int32 → Int32 → (Nat → Int32) → (Nat → Int32) → Int32 → Int32 → Int32 → Option (Int32 × Int32 × Int32 × (Nat → Int32) × (Nat → Int32))
  | 0, _, _, _, _, _, _, _ => none
  | n + 1, v_o_thrown, v_o_doings, d_o_page, d_o_book, x1, x2, x3 => (if x2 ≤ x3 then some ((d_o_page ((7 : Int32)).toNatClampNeg), v_o_thrown, v_o_doings, d_o_page, d_o_book) else (if ((8 : Int32) + x3) < 0 ∨ 229 ≤ (((8 : Int32) + x3)).toNatClampNeg then none else (if (d_o_page (((8 : Int32) + x3)).toNatClampNeg) = x1 then fX9_leave_67 n v_o_thrown v_o_doings d_o_page d_o_book x1 x2 (x3 + (1 : Int32)) else (if ((8 : Int32) + (d_o_page ((7 : Int32)).toNatClampNeg)) < 0 ∨ 229 ≤ (((8 : Int32) + (d_o_page ((7 : Int32)).toNatClampNeg))).toNatClampNeg then none else fX9_leave_67 n v_o_thrown v_o_doings (upd (upd d_o_page ((((8 : Int32) + (d_o_page ((7 : Int32)).toNatClampNeg))).toNatClampNeg) (d_o_page (((8 : Int32) + x3)).toNatClampNeg)) (((7 : Int32)).toNatClampNeg) (((upd d_o_page ((((8 : Int32) + (d_o_page ((7 : Int32)).toNatClampNeg))).toNatClampNeg) (d_o_page (((8 : Int32) + x3)).toNatClampNeg)) ((7 : Int32)).toNatClampNeg) + (1 : Int32))) d_o_book x1 x2 (x3 + (1 : Int32))))))
set_option maxRecDepth 100000 in
set_option maxHeartbeats 4000000 in
theorem tX9_leave_67 {p : Program} {l : Launch} {e : Env} {s : State} {m : MethodId} {args : Array Value} {below : List Frame} {meth : Method} {c : Code} {D : va_G} {cI cJ cZ cB : ClassId} {a_o : Nat} {a_o_text : Nat} {a_o_many : Nat} {a_o_views : Nat} {a_o_aisles : Nat} {a_o_readMany : Nat} {a_o_readViews : Nat} {a_o_readAisles : Nat} {a_o_readPage : Nat} {a_o_page : Nat} {a_o_trial : Nat} {a_o_book : Nat} {a_o_kept : Nat} {a_o_isKept : Nat} {a_o_seenSeat : Nat} {a_o_seenWas : Nat} {A : Nat → Prop} (C : Cx p s m args meth c cX9_leave 5 (some .int) wsX9_leave RX9) (hK : Kw D (tyL cI cJ cZ cB) s) (hA : ∀ q : Nat, s.heap.size ≤ q → A q) : ∀ (n : Nat), ∀ (v_o_thrown : Int32) (v_o_textSize : Int32) (v_o_place : Int32) (v_o_rows : Int32) (v_o_readRows : Int32) (v_o_doings : Int32) (v_o_seen : Int32) (v_o_seed : Int64) (v_o_found : Int32) (v_o_foundViews : Int32) (v_o_foundMany : Int32) (d_o_page : (Nat → Int32)) (d_o_book : (Nat → Int32)) (x1 : Int32) (x2 : Int32) (x3 : Int32) (H : Heap) (locs : List Loc) (ls : Array Slot) (res : Int32 × Int32 × Int32 × (Nat → Int32) × (Nat → Int32)), va_P D vwCl (WX9_leave cI cJ cZ cB a_o a_o_text a_o_many a_o_views a_o_aisles a_o_readMany a_o_readViews a_o_readAisles a_o_readPage a_o_page a_o_trial a_o_book a_o_kept a_o_isKept a_o_seenSeat a_o_seenWas v_o_thrown v_o_textSize v_o_place v_o_rows v_o_readRows v_o_doings v_o_seen v_o_seed v_o_found v_o_foundViews v_o_foundMany d_o_page d_o_book) H → va_D A (WX9_leave cI cJ cZ cB a_o a_o_text a_o_many a_o_views a_o_aisles a_o_readMany a_o_readViews a_o_readAisles a_o_readPage a_o_page a_o_trial a_o_book a_o_kept a_o_isKept a_o_seenSeat a_o_seenWas v_o_thrown v_o_textSize v_o_place v_o_rows v_o_readRows v_o_doings v_o_seen v_o_seed v_o_found v_o_foundViews v_o_foundMany d_o_page d_o_book) → va_S A s.heap H locs → lv_has ls 5 [(0, .ref a_o), (1, .int x1), (2, .int x2), (3, .int x3)] → fX9_leave_67 n v_o_thrown v_o_doings d_o_page d_o_book x1 x2 x3 = some res → W p l e ({ frames := 2, cells := 0, slots := 0, locals := 46 } : Room) s m args below meth c H locs 0 0 (MQ below (QRw D A (WX9_leave cI cJ cZ cB a_o a_o_text a_o_many a_o_views a_o_aisles a_o_readMany a_o_readViews a_o_readAisles a_o_readPage a_o_page a_o_trial a_o_book a_o_kept a_o_isKept a_o_seenSeat a_o_seenWas res.2.1 v_o_textSize v_o_place v_o_rows v_o_readRows res.2.2.1 v_o_seen v_o_seed v_o_found v_o_foundViews v_o_foundMany res.2.2.2.1 res.2.2.2.2) (some (.int res.1))) args s 0 0 A) (F0 m 67 ls []) := by
  obtain ⟨hx, hb, hr, hml, hts, hown, hlk⟩ := id C
  intro n
  induction n with
  | zero =>
    intro v_o_thrown v_o_textSize v_o_place v_o_rows v_o_readRows v_o_doings v_o_seen v_o_seed v_o_found v_o_foundViews v_o_foundMany d_o_page d_o_book x1 x2 x3 H locs ls res hP hD hS hl hf
    rw [fX9_leave_67] at hf
    cases hf
  | succ n ih =>
    intro v_o_thrown v_o_textSize v_o_place v_o_rows v_o_readRows v_o_doings v_o_seen v_o_seed v_o_found v_o_foundViews v_o_foundMany d_o_page d_o_book x1 x2 x3 H locs ls res hP hD hS hl hf
    rw [fX9_leave_67] at hf
    refine lv_iload_n hx hb dX9_leave_67 rfl (lv_at hl 3 rfl) ?_
    refine lv_iload_n hx hb dX9_leave_68 rfl (lv_at hl 2 rfl) ?_
    refine lv_icmp_ge (tgt := 123) hx hb dX9_leave_69 (by decide) (fun hc => ?_) (fun hc => ?_)
    · have hf := pf_t hc hf
      refine lv_aload_n hx hb dX9_leave_123 rfl (lv_at hl 0 rfl) ?_
      refine va_get (D := D) (ci := 9) (v := .ref a_o_page) (C := RX9) (T := TX9) (N := 26) hx hb hts iX9_leave_X9 hown hK.1 hP 0 rfl rfl 13 (by decide) (hts (.fieldLink RX9 35 "LoneSeatsModel" "page" "[I") (by decide +kernel)) (fun _ h9 => h9) rfl dX9_leave_124 ?_
      refine lv_bipush (v := (7 : Int32)) hx hb dX9_leave_127 (by decide) ?_
      refine va_iald hx hb hK.1 hP 1 0 rfl rfl (show ¬ ((7 : Int32) < 0 ∨ 229 ≤ ((7 : Int32)).toNatClampNeg) by decide) dX9_leave_129 ?_
      cases hf
      exact W.iret hx hb hr (fun t ht hW => ⟨⟨rfl, by rw [ht]; exact hP, hD⟩, hS.F ht⟩) hS.2.2 dX9_leave_130
    · have hf := pf_f hc hf
      refine lv_aload_n hx hb dX9_leave_72 rfl (lv_at hl 0 rfl) ?_
      refine va_get (D := D) (ci := 9) (v := .ref a_o_page) (C := RX9) (T := TX9) (N := 26) hx hb hts iX9_leave_X9 hown hK.1 hP 0 rfl rfl 13 (by decide) (hts (.fieldLink RX9 35 "LoneSeatsModel" "page" "[I") (by decide +kernel)) (fun _ h9 => h9) rfl dX9_leave_73 ?_
      refine lv_bipush (v := (8 : Int32)) hx hb dX9_leave_76 (by decide) ?_
      refine lv_iload_n hx hb dX9_leave_78 rfl (lv_at hl 3 rfl) ?_
      refine lv_iadd hx hb dX9_leave_79 ?_
      obtain ⟨hg1, hf⟩ := pf_x hf
      refine va_iald hx hb hK.1 hP 1 0 rfl rfl hg1 dX9_leave_80 ?_
      refine lv_istore (lv' := [(4, .int (d_o_page (((8 : Int32) + x3)).toNatClampNeg)), (0, .ref a_o), (1, .int x1), (2, .int x2), (3, .int x3)]) hx hb dX9_leave_81 hl (by decide) rfl (fun ls hl => ?_)
      refine lv_iload hx hb dX9_leave_83 (lv_at hl 0 rfl) ?_
      refine lv_iload_n hx hb dX9_leave_85 rfl (lv_at hl 2 rfl) ?_
      refine lv_icmp_eq (tgt := 117) hx hb dX9_leave_86 (by decide) (fun hc => ?_) (fun hc => ?_)
      · have hf := pf_t hc hf
        refine lv_iinc (v := (x3 + (1 : Int32))) (lv' := [(3, .int (x3 + (1 : Int32))), (4, .int (d_o_page (((8 : Int32) + x3)).toNatClampNeg)), (0, .ref a_o), (1, .int x1), (2, .int x2)]) hx hb dX9_leave_117 hl (k := 4) rfl rfl (by decide) rfl (fun ls hl => ?_)
        refine lv_goto (tgt := 67) hx hb dX9_leave_120 (by decide) ?_
        exact ih v_o_thrown v_o_textSize v_o_place v_o_rows v_o_readRows v_o_doings v_o_seen v_o_seed v_o_found v_o_foundViews v_o_foundMany d_o_page d_o_book x1 x2 (x3 + (1 : Int32)) _ _ ls _ hP hD hS (lv_sub hl [2, 3, 4, 0] rfl) hf
      · have hf := pf_f hc hf
        refine lv_aload_n hx hb dX9_leave_89 rfl (lv_at hl 1 rfl) ?_
        refine va_get (D := D) (ci := 9) (v := .ref a_o_page) (C := RX9) (T := TX9) (N := 26) hx hb hts iX9_leave_X9 hown hK.1 hP 0 rfl rfl 13 (by decide) (hts (.fieldLink RX9 35 "LoneSeatsModel" "page" "[I") (by decide +kernel)) (fun _ h9 => h9) rfl dX9_leave_90 ?_
        refine lv_bipush (v := (8 : Int32)) hx hb dX9_leave_93 (by decide) ?_
        refine lv_aload_n hx hb dX9_leave_95 rfl (lv_at hl 1 rfl) ?_
        refine va_get (D := D) (ci := 9) (v := .ref a_o_page) (C := RX9) (T := TX9) (N := 26) hx hb hts iX9_leave_X9 hown hK.1 hP 0 rfl rfl 13 (by decide) (hts (.fieldLink RX9 35 "LoneSeatsModel" "page" "[I") (by decide +kernel)) (fun _ h9 => h9) rfl dX9_leave_96 ?_
        refine lv_bipush (v := (7 : Int32)) hx hb dX9_leave_99 (by decide) ?_
        refine va_iald hx hb hK.1 hP 1 0 rfl rfl (show ¬ ((7 : Int32) < 0 ∨ 229 ≤ ((7 : Int32)).toNatClampNeg) by decide) dX9_leave_101 ?_
        refine lv_iadd hx hb dX9_leave_102 ?_
        refine lv_iload hx hb dX9_leave_103 (lv_at hl 0 rfl) ?_
        obtain ⟨hg2, hf⟩ := pf_x hf
        refine va_iast hx hb hK.1 hP hD hS 1 0 rfl rfl hg2 dX9_leave_105 (fun H locs hP hD hS => ?_)
        have hP : va_P D vwCl (WX9_leave cI cJ cZ cB a_o a_o_text a_o_many a_o_views a_o_aisles a_o_readMany a_o_readViews a_o_readAisles a_o_readPage a_o_page a_o_trial a_o_book a_o_kept a_o_isKept a_o_seenSeat a_o_seenWas v_o_thrown v_o_textSize v_o_place v_o_rows v_o_readRows v_o_doings v_o_seen v_o_seed v_o_found v_o_foundViews v_o_foundMany (upd d_o_page ((((8 : Int32) + (d_o_page ((7 : Int32)).toNatClampNeg))).toNatClampNeg) (d_o_page (((8 : Int32) + x3)).toNatClampNeg)) d_o_book) H := hP
        have hD : va_D A (WX9_leave cI cJ cZ cB a_o a_o_text a_o_many a_o_views a_o_aisles a_o_readMany a_o_readViews a_o_readAisles a_o_readPage a_o_page a_o_trial a_o_book a_o_kept a_o_isKept a_o_seenSeat a_o_seenWas v_o_thrown v_o_textSize v_o_place v_o_rows v_o_readRows v_o_doings v_o_seen v_o_seed v_o_found v_o_foundViews v_o_foundMany (upd d_o_page ((((8 : Int32) + (d_o_page ((7 : Int32)).toNatClampNeg))).toNatClampNeg) (d_o_page (((8 : Int32) + x3)).toNatClampNeg)) d_o_book) := hD
        refine lv_aload_n hx hb dX9_leave_106 rfl (lv_at hl 1 rfl) ?_
        refine va_get (D := D) (ci := 9) (v := .ref a_o_page) (C := RX9) (T := TX9) (N := 26) hx hb hts iX9_leave_X9 hown hK.1 hP 0 rfl rfl 13 (by decide) (hts (.fieldLink RX9 35 "LoneSeatsModel" "page" "[I") (by decide +kernel)) (fun _ h9 => h9) rfl dX9_leave_107 ?_
        refine lv_bipush (v := (7 : Int32)) hx hb dX9_leave_110 (by decide) ?_
        refine lv_dup2_11 hx hb dX9_leave_112 rfl rfl ?_
        refine va_iald hx hb hK.1 hP 1 0 rfl rfl (show ¬ ((7 : Int32) < 0 ∨ 229 ≤ ((7 : Int32)).toNatClampNeg) by decide) dX9_leave_113 ?_
        refine lv_iconst (v := (1 : Int32)) hx hb dX9_leave_114 (by decide) ?_
        refine lv_iadd hx hb dX9_leave_115 ?_
        refine va_iast hx hb hK.1 hP hD hS 1 0 rfl rfl (show ¬ ((7 : Int32) < 0 ∨ 229 ≤ ((7 : Int32)).toNatClampNeg) by decide) dX9_leave_116 (fun H locs hP hD hS => ?_)
        have hP : va_P D vwCl (WX9_leave cI cJ cZ cB a_o a_o_text a_o_many a_o_views a_o_aisles a_o_readMany a_o_readViews a_o_readAisles a_o_readPage a_o_page a_o_trial a_o_book a_o_kept a_o_isKept a_o_seenSeat a_o_seenWas v_o_thrown v_o_textSize v_o_place v_o_rows v_o_readRows v_o_doings v_o_seen v_o_seed v_o_found v_o_foundViews v_o_foundMany (upd (upd d_o_page ((((8 : Int32) + (d_o_page ((7 : Int32)).toNatClampNeg))).toNatClampNeg) (d_o_page (((8 : Int32) + x3)).toNatClampNeg)) (((7 : Int32)).toNatClampNeg) (((upd d_o_page ((((8 : Int32) + (d_o_page ((7 : Int32)).toNatClampNeg))).toNatClampNeg) (d_o_page (((8 : Int32) + x3)).toNatClampNeg)) ((7 : Int32)).toNatClampNeg) + (1 : Int32))) d_o_book) H := hP
        have hD : va_D A (WX9_leave cI cJ cZ cB a_o a_o_text a_o_many a_o_views a_o_aisles a_o_readMany a_o_readViews a_o_readAisles a_o_readPage a_o_page a_o_trial a_o_book a_o_kept a_o_isKept a_o_seenSeat a_o_seenWas v_o_thrown v_o_textSize v_o_place v_o_rows v_o_readRows v_o_doings v_o_seen v_o_seed v_o_found v_o_foundViews v_o_foundMany (upd (upd d_o_page ((((8 : Int32) + (d_o_page ((7 : Int32)).toNatClampNeg))).toNatClampNeg) (d_o_page (((8 : Int32) + x3)).toNatClampNeg)) (((7 : Int32)).toNatClampNeg) (((upd d_o_page ((((8 : Int32) + (d_o_page ((7 : Int32)).toNatClampNeg))).toNatClampNeg) (d_o_page (((8 : Int32) + x3)).toNatClampNeg)) ((7 : Int32)).toNatClampNeg) + (1 : Int32))) d_o_book) := hD
        refine lv_iinc (v := (x3 + (1 : Int32))) (lv' := [(3, .int (x3 + (1 : Int32))), (4, .int (d_o_page (((8 : Int32) + x3)).toNatClampNeg)), (0, .ref a_o), (1, .int x1), (2, .int x2)]) hx hb dX9_leave_117 hl (k := 4) rfl rfl (by decide) rfl (fun ls hl => ?_)
        refine lv_goto (tgt := 67) hx hb dX9_leave_120 (by decide) ?_
        exact ih v_o_thrown v_o_textSize v_o_place v_o_rows v_o_readRows v_o_doings v_o_seen v_o_seed v_o_found v_o_foundViews v_o_foundMany (upd (upd d_o_page ((((8 : Int32) + (d_o_page ((7 : Int32)).toNatClampNeg))).toNatClampNeg) (d_o_page (((8 : Int32) + x3)).toNatClampNeg)) (((7 : Int32)).toNatClampNeg) (((upd d_o_page ((((8 : Int32) + (d_o_page ((7 : Int32)).toNatClampNeg))).toNatClampNeg) (d_o_page (((8 : Int32) + x3)).toNatClampNeg)) ((7 : Int32)).toNatClampNeg) + (1 : Int32))) d_o_book x1 x2 (x3 + (1 : Int32)) _ _ ls _ hP hD hS (lv_sub hl [2, 3, 4, 0] rfl) hf
def fX9_leave (v_o_thrown : Int32) (v_o_doings : Int32) (d_o_page : (Nat → Int32)) (d_o_book : (Nat → Int32)) (x1 : Int32) : Option (Int32 × Int32 × Int32 × (Nat → Int32) × (Nat → Int32)) := ((fX9_noParty d_o_page x1).bind fun q1 => (if q1 = 0 then ((fX9_at x1).bind fun q3 => (if (q3 + (2 : Int32)) < 0 ∨ 229 ≤ ((q3 + (2 : Int32))).toNatClampNeg then none else (if (d_o_page ((q3 + (2 : Int32))).toNatClampNeg) = (2 : Int32) then ((fX9_note v_o_doings d_o_page d_o_book).bind fun q6 => ((fX9_at x1).bind fun q8 => (if (q8 + (2 : Int32)) < 0 ∨ 229 ≤ ((q8 + (2 : Int32))).toNatClampNeg then none else fX9_leave_67 FU (0 : Int32) q6.1 (upd (upd d_o_page (((q8 + (2 : Int32))).toNatClampNeg) (0 : Int32)) (((7 : Int32)).toNatClampNeg) (0 : Int32)) q6.2 x1 ((upd d_o_page (((q8 + (2 : Int32))).toNatClampNeg) (0 : Int32)) ((7 : Int32)).toNatClampNeg) (0 : Int32)))) else some ((-3 : Int32), (0 : Int32), v_o_doings, d_o_page, d_o_book)))) else some ((-1 : Int32), (0 : Int32), v_o_doings, d_o_page, d_o_book)))
set_option maxRecDepth 100000 in
set_option maxHeartbeats 4000000 in
theorem kX9_leave (l : Launch) (D : va_G) (cI cJ cZ cB : ClassId) (a_o : Nat) (a_o_text : Nat) (a_o_many : Nat) (a_o_views : Nat) (a_o_aisles : Nat) (a_o_readMany : Nat) (a_o_readViews : Nat) (a_o_readAisles : Nat) (a_o_readPage : Nat) (a_o_page : Nat) (a_o_trial : Nat) (a_o_book : Nat) (a_o_kept : Nat) (a_o_isKept : Nat) (a_o_seenSeat : Nat) (a_o_seenWas : Nat) (v_o_thrown : Int32) (v_o_textSize : Int32) (v_o_place : Int32) (v_o_rows : Int32) (v_o_readRows : Int32) (v_o_doings : Int32) (v_o_seen : Int32) (v_o_seed : Int64) (v_o_found : Int32) (v_o_foundViews : Int32) (v_o_foundMany : Int32) (d_o_page : (Nat → Int32)) (d_o_book : (Nat → Int32)) (x1 : Int32) (res : Int32 × Int32 × Int32 × (Nat → Int32) × (Nat → Int32)) (hf : fX9_leave v_o_thrown v_o_doings d_o_page d_o_book x1 = some res) : Rw l yX9_leave wsX9_leave ({ frames := 2, cells := 0, slots := 0, locals := 46 } : Room) D (tyL cI cJ cZ cB) [.ref a_o, .int x1] (WX9_leave cI cJ cZ cB a_o a_o_text a_o_many a_o_views a_o_aisles a_o_readMany a_o_readViews a_o_readAisles a_o_readPage a_o_page a_o_trial a_o_book a_o_kept a_o_isKept a_o_seenSeat a_o_seenWas v_o_thrown v_o_textSize v_o_place v_o_rows v_o_readRows v_o_doings v_o_seen v_o_seed v_o_found v_o_foundViews v_o_foundMany d_o_page d_o_book) (some (.int res.1)) (WX9_leave cI cJ cZ cB a_o a_o_text a_o_many a_o_views a_o_aisles a_o_readMany a_o_readViews a_o_readAisles a_o_readPage a_o_page a_o_trial a_o_book a_o_kept a_o_isKept a_o_seenSeat a_o_seenWas res.2.1 v_o_textSize v_o_place v_o_rows v_o_readRows res.2.2.1 v_o_seen v_o_seed v_o_found v_o_foundViews v_o_foundMany res.2.2.2.1 res.2.2.2.2) := by
  refine Rw.of (cc := cX9_leave) (maxL := 5) (ret := (some .int)) (own := RX9) (by decide) rfl rfl (Nat.le_of_ble_eq_true rfl) ?_
  intro p e s m below meth c A ls C hK hA hP hD hS hl
  obtain ⟨hx, hb, hr, hml, hts, hown, hlk⟩ := id C
  have hl : lv_has ls 5 [(0, .ref a_o), (1, .int x1)] := hl
  unfold fX9_leave at hf
  refine lv_aload_n hx hb dX9_leave_0 rfl (lv_at hl 0 rfl) ?_
  refine lv_iconst (v := (0 : Int32)) hx hb dX9_leave_1 (by decide) ?_
  refine va_put (D := D) (ci := 9) (v := .int (0 : Int32)) (ty := .int) (C := RX9) (T := TX9) (N := 26) hx hb hts iX9_leave_X9 tyX9 tyX9_ok nmX9 hown hK.1 hP hD hS 0 rfl rfl 0 (by decide) (hts (.fieldLink RX9 60 "LoneSeatsModel" "thrown" "I") (by decide +kernel)) (fun _ h9 => h9) rfl (by decide +kernel) rfl rfl (Nat.le_of_ble_eq_true rfl) dX9_leave_2 (fun H locs hP hD hS => ?_)
  have hP : va_P D vwCl (WX9_leave cI cJ cZ cB a_o a_o_text a_o_many a_o_views a_o_aisles a_o_readMany a_o_readViews a_o_readAisles a_o_readPage a_o_page a_o_trial a_o_book a_o_kept a_o_isKept a_o_seenSeat a_o_seenWas (0 : Int32) v_o_textSize v_o_place v_o_rows v_o_readRows v_o_doings v_o_seen v_o_seed v_o_found v_o_foundViews v_o_foundMany d_o_page d_o_book) H := hP
  have hD : va_D A (WX9_leave cI cJ cZ cB a_o a_o_text a_o_many a_o_views a_o_aisles a_o_readMany a_o_readViews a_o_readAisles a_o_readPage a_o_page a_o_trial a_o_book a_o_kept a_o_isKept a_o_seenSeat a_o_seenWas (0 : Int32) v_o_textSize v_o_place v_o_rows v_o_readRows v_o_doings v_o_seen v_o_seed v_o_found v_o_foundViews v_o_foundMany d_o_page d_o_book) := hD
  refine lv_aload_n hx hb dX9_leave_5 rfl (lv_at hl 0 rfl) ?_
  refine lv_iload_n hx hb dX9_leave_6 rfl (lv_at hl 1 rfl) ?_
  obtain ⟨q1, hq2, hf⟩ := pf_b hf
  have hPc := hP.sub (ws' := (WX9_noParty cI cJ cZ cB a_o a_o_text a_o_many a_o_views a_o_aisles a_o_readMany a_o_readViews a_o_readAisles a_o_readPage a_o_page a_o_trial a_o_book a_o_kept a_o_isKept a_o_seenSeat a_o_seenWas (0 : Int32) v_o_textSize v_o_place v_o_rows v_o_readRows v_o_doings v_o_seen v_o_seed v_o_found v_o_foundViews v_o_foundMany d_o_page)) [0, 1] rfl
  refine cl_roi (va_runV (As := [.int x1]) (rest := []) ⟨hx, hb, hml, hown, hts⟩ (kX9_noParty l D cI cJ cZ cB a_o a_o_text a_o_many a_o_views a_o_aisles a_o_readMany a_o_readViews a_o_readAisles a_o_readPage a_o_page a_o_trial a_o_book a_o_kept a_o_isKept a_o_seenSeat a_o_seenWas (0 : Int32) v_o_textSize v_o_place v_o_rows v_o_readRows v_o_doings v_o_seen v_o_seed v_o_found v_o_foundViews v_o_foundMany d_o_page x1 q1 hq2) (cwV 1 hts gX9_leave_X9_noParty rfl rfl rfl (by decide +kernel) ⟨Nat.le_of_ble_eq_true rfl, Nat.le_of_ble_eq_true rfl⟩) ⟨PRo.blind, va_recv hK.1 hPc (ci := 9) (q0 := 0) rfl rfl, PRo.at hK hPc⟩ rfl rfl hl.1 rfl (lv_room (Nat.le_of_ble_eq_true rfl)) dX9_leave_7 ⟨Nat.zero_le _, Nat.zero_le _⟩) ?_
  refine lv_if_eq (tgt := 15) hx hb dX9_leave_10 (by decide) (fun hc => ?_) (fun hc => ?_)
  · have hf := pf_t hc hf
    refine lv_aload_n hx hb dX9_leave_15 rfl (lv_at hl 0 rfl) ?_
    refine va_get (D := D) (ci := 9) (v := .ref a_o_page) (C := RX9) (T := TX9) (N := 26) hx hb hts iX9_leave_X9 hown hK.1 hP 0 rfl rfl 13 (by decide) (hts (.fieldLink RX9 35 "LoneSeatsModel" "page" "[I") (by decide +kernel)) (fun _ h9 => h9) rfl dX9_leave_16 ?_
    refine lv_iload_n hx hb dX9_leave_19 rfl (lv_at hl 1 rfl) ?_
    obtain ⟨q3, hq4, hf⟩ := pf_b hf
    have hPc := hP.sub (ws' := ([] : va_W)) [] rfl
    refine cl_roi (va_runS (As := [.int x1]) (rest := [.ref a_o_page]) ⟨hx, hb, hml, hown, hts⟩ (kX9_at l D cI cJ cZ cB x1 q3 hq4) (va_cwS 1 hts gX9_leave_X9_at rfl rfl rfl (by decide +kernel) ⟨Nat.le_of_ble_eq_true rfl, Nat.le_of_ble_eq_true rfl⟩) ⟨PRo.blind, PRo.at hK hPc⟩ rfl rfl hl.1 rfl (lv_room (Nat.le_of_ble_eq_true rfl)) dX9_leave_20 ⟨Nat.zero_le _, Nat.zero_le _⟩) ?_
    refine lv_iconst (v := (2 : Int32)) hx hb dX9_leave_23 (by decide) ?_
    refine lv_iadd hx hb dX9_leave_24 ?_
    obtain ⟨hg5, hf⟩ := pf_x hf
    refine va_iald hx hb hK.1 hP 1 0 rfl rfl hg5 dX9_leave_25 ?_
    refine lv_iconst (v := (2 : Int32)) hx hb dX9_leave_26 (by decide) ?_
    refine lv_icmp_eq (tgt := 33) hx hb dX9_leave_27 (by decide) (fun hc => ?_) (fun hc => ?_)
    · have hf := pf_t hc hf
      refine lv_aload_n hx hb dX9_leave_33 rfl (lv_at hl 0 rfl) ?_
      obtain ⟨q6, hq7, hf⟩ := pf_b hf
      have hPc := hP.sub (ws' := (WX9_note cI cJ cZ cB a_o a_o_text a_o_many a_o_views a_o_aisles a_o_readMany a_o_readViews a_o_readAisles a_o_readPage a_o_page a_o_trial a_o_book a_o_kept a_o_isKept a_o_seenSeat a_o_seenWas (0 : Int32) v_o_textSize v_o_place v_o_rows v_o_readRows v_o_doings v_o_seen v_o_seed v_o_found v_o_foundViews v_o_foundMany d_o_page d_o_book)) [0, 1, 2] rfl
      have hDc := hD.sub (ws' := (WX9_note cI cJ cZ cB a_o a_o_text a_o_many a_o_views a_o_aisles a_o_readMany a_o_readViews a_o_readAisles a_o_readPage a_o_page a_o_trial a_o_book a_o_kept a_o_isKept a_o_seenSeat a_o_seenWas (0 : Int32) v_o_textSize v_o_place v_o_rows v_o_readRows v_o_doings v_o_seen v_o_seed v_o_found v_o_foundViews v_o_foundMany d_o_page d_o_book)) [0, 1, 2] (by decide) rfl
      refine cl_rwv (wr := []) (wsN := (WX9_leave cI cJ cZ cB a_o a_o_text a_o_many a_o_views a_o_aisles a_o_readMany a_o_readViews a_o_readAisles a_o_readPage a_o_page a_o_trial a_o_book a_o_kept a_o_isKept a_o_seenSeat a_o_seenWas (0 : Int32) v_o_textSize v_o_place v_o_rows v_o_readRows q6.1 v_o_seen v_o_seed v_o_found v_o_foundViews v_o_foundMany d_o_page q6.2)) (va_runV (As := []) (rest := []) ⟨hx, hb, hml, hown, hts⟩ ((kX9_note l D cI cJ cZ cB a_o a_o_text a_o_many a_o_views a_o_aisles a_o_readMany a_o_readViews a_o_readAisles a_o_readPage a_o_page a_o_trial a_o_book a_o_kept a_o_isKept a_o_seenSeat a_o_seenWas (0 : Int32) v_o_textSize v_o_place v_o_rows v_o_readRows v_o_doings v_o_seen v_o_seed v_o_found v_o_foundViews v_o_foundMany d_o_page d_o_book q6 hq7) _) (cwV 0 hts gX9_leave_X9_note rfl rfl rfl (by decide +kernel) ⟨Nat.le_of_ble_eq_true rfl, Nat.le_of_ble_eq_true rfl⟩) ⟨PRw.blind, va_recv hK.1 hPc (ci := 9) (q0 := 0) rfl rfl, PRw.at hK hPc hDc⟩ rfl rfl hl.1 rfl (lv_room (Nat.le_of_ble_eq_true rfl)) dX9_leave_34 ⟨Nat.zero_le _, Nat.zero_le _⟩) hP hD hS hA [0, 1, 2] [] [0, 1, 2] rfl rfl (by decide) (by decide) rfl (by decide) (fun H locs hP hD hS => ?_)
      refine lv_aload_n hx hb dX9_leave_37 rfl (lv_at hl 0 rfl) ?_
      refine va_get (D := D) (ci := 9) (v := .ref a_o_page) (C := RX9) (T := TX9) (N := 26) hx hb hts iX9_leave_X9 hown hK.1 hP 0 rfl rfl 13 (by decide) (hts (.fieldLink RX9 35 "LoneSeatsModel" "page" "[I") (by decide +kernel)) (fun _ h9 => h9) rfl dX9_leave_38 ?_
      refine lv_iload_n hx hb dX9_leave_41 rfl (lv_at hl 1 rfl) ?_
      obtain ⟨q8, hq9, hf⟩ := pf_b hf
      have hPc := hP.sub (ws' := ([] : va_W)) [] rfl
      refine cl_roi (va_runS (As := [.int x1]) (rest := [.ref a_o_page]) ⟨hx, hb, hml, hown, hts⟩ (kX9_at l D cI cJ cZ cB x1 q8 hq9) (va_cwS 1 hts gX9_leave_X9_at rfl rfl rfl (by decide +kernel) ⟨Nat.le_of_ble_eq_true rfl, Nat.le_of_ble_eq_true rfl⟩) ⟨PRo.blind, PRo.at hK hPc⟩ rfl rfl hl.1 rfl (lv_room (Nat.le_of_ble_eq_true rfl)) dX9_leave_42 ⟨Nat.zero_le _, Nat.zero_le _⟩) ?_
      refine lv_iconst (v := (2 : Int32)) hx hb dX9_leave_45 (by decide) ?_
      refine lv_iadd hx hb dX9_leave_46 ?_
      refine lv_iconst (v := (0 : Int32)) hx hb dX9_leave_47 (by decide) ?_
      obtain ⟨hg10, hf⟩ := pf_x hf
      refine va_iast hx hb hK.1 hP hD hS 1 0 rfl rfl hg10 dX9_leave_48 (fun H locs hP hD hS => ?_)
      have hP : va_P D vwCl (WX9_leave cI cJ cZ cB a_o a_o_text a_o_many a_o_views a_o_aisles a_o_readMany a_o_readViews a_o_readAisles a_o_readPage a_o_page a_o_trial a_o_book a_o_kept a_o_isKept a_o_seenSeat a_o_seenWas (0 : Int32) v_o_textSize v_o_place v_o_rows v_o_readRows q6.1 v_o_seen v_o_seed v_o_found v_o_foundViews v_o_foundMany (upd d_o_page (((q8 + (2 : Int32))).toNatClampNeg) (0 : Int32)) q6.2) H := hP
      have hD : va_D A (WX9_leave cI cJ cZ cB a_o a_o_text a_o_many a_o_views a_o_aisles a_o_readMany a_o_readViews a_o_readAisles a_o_readPage a_o_page a_o_trial a_o_book a_o_kept a_o_isKept a_o_seenSeat a_o_seenWas (0 : Int32) v_o_textSize v_o_place v_o_rows v_o_readRows q6.1 v_o_seen v_o_seed v_o_found v_o_foundViews v_o_foundMany (upd d_o_page (((q8 + (2 : Int32))).toNatClampNeg) (0 : Int32)) q6.2) := hD
      refine lv_aload_n hx hb dX9_leave_49 rfl (lv_at hl 0 rfl) ?_
      refine va_get (D := D) (ci := 9) (v := .ref a_o_page) (C := RX9) (T := TX9) (N := 26) hx hb hts iX9_leave_X9 hown hK.1 hP 0 rfl rfl 13 (by decide) (hts (.fieldLink RX9 35 "LoneSeatsModel" "page" "[I") (by decide +kernel)) (fun _ h9 => h9) rfl dX9_leave_50 ?_
      refine lv_bipush (v := (7 : Int32)) hx hb dX9_leave_53 (by decide) ?_
      refine va_iald hx hb hK.1 hP 1 0 rfl rfl (show ¬ ((7 : Int32) < 0 ∨ 229 ≤ ((7 : Int32)).toNatClampNeg) by decide) dX9_leave_55 ?_
      refine lv_istore_n (lv' := [(2, .int ((upd d_o_page (((q8 + (2 : Int32))).toNatClampNeg) (0 : Int32)) ((7 : Int32)).toNatClampNeg)), (0, .ref a_o), (1, .int x1)]) hx hb dX9_leave_56 rfl hl (by decide) rfl (fun ls hl => ?_)
      refine lv_aload_n hx hb dX9_leave_57 rfl (lv_at hl 1 rfl) ?_
      refine va_get (D := D) (ci := 9) (v := .ref a_o_page) (C := RX9) (T := TX9) (N := 26) hx hb hts iX9_leave_X9 hown hK.1 hP 0 rfl rfl 13 (by decide) (hts (.fieldLink RX9 35 "LoneSeatsModel" "page" "[I") (by decide +kernel)) (fun _ h9 => h9) rfl dX9_leave_58 ?_
      refine lv_bipush (v := (7 : Int32)) hx hb dX9_leave_61 (by decide) ?_
      refine lv_iconst (v := (0 : Int32)) hx hb dX9_leave_63 (by decide) ?_
      refine va_iast hx hb hK.1 hP hD hS 1 0 rfl rfl (show ¬ ((7 : Int32) < 0 ∨ 229 ≤ ((7 : Int32)).toNatClampNeg) by decide) dX9_leave_64 (fun H locs hP hD hS => ?_)
      have hP : va_P D vwCl (WX9_leave cI cJ cZ cB a_o a_o_text a_o_many a_o_views a_o_aisles a_o_readMany a_o_readViews a_o_readAisles a_o_readPage a_o_page a_o_trial a_o_book a_o_kept a_o_isKept a_o_seenSeat a_o_seenWas (0 : Int32) v_o_textSize v_o_place v_o_rows v_o_readRows q6.1 v_o_seen v_o_seed v_o_found v_o_foundViews v_o_foundMany (upd (upd d_o_page (((q8 + (2 : Int32))).toNatClampNeg) (0 : Int32)) (((7 : Int32)).toNatClampNeg) (0 : Int32)) q6.2) H := hP
      have hD : va_D A (WX9_leave cI cJ cZ cB a_o a_o_text a_o_many a_o_views a_o_aisles a_o_readMany a_o_readViews a_o_readAisles a_o_readPage a_o_page a_o_trial a_o_book a_o_kept a_o_isKept a_o_seenSeat a_o_seenWas (0 : Int32) v_o_textSize v_o_place v_o_rows v_o_readRows q6.1 v_o_seen v_o_seed v_o_found v_o_foundViews v_o_foundMany (upd (upd d_o_page (((q8 + (2 : Int32))).toNatClampNeg) (0 : Int32)) (((7 : Int32)).toNatClampNeg) (0 : Int32)) q6.2) := hD
      refine lv_iconst (v := (0 : Int32)) hx hb dX9_leave_65 (by decide) ?_
      refine lv_istore_n (lv' := [(3, .int (0 : Int32)), (2, .int ((upd d_o_page (((q8 + (2 : Int32))).toNatClampNeg) (0 : Int32)) ((7 : Int32)).toNatClampNeg)), (0, .ref a_o), (1, .int x1)]) hx hb dX9_leave_66 rfl hl (by decide) rfl (fun ls hl => ?_)
      exact tX9_leave_67 C hK hA  FU (0 : Int32) v_o_textSize v_o_place v_o_rows v_o_readRows q6.1 v_o_seen v_o_seed v_o_found v_o_foundViews v_o_foundMany (upd (upd d_o_page (((q8 + (2 : Int32))).toNatClampNeg) (0 : Int32)) (((7 : Int32)).toNatClampNeg) (0 : Int32)) q6.2 x1 ((upd d_o_page (((q8 + (2 : Int32))).toNatClampNeg) (0 : Int32)) ((7 : Int32)).toNatClampNeg) (0 : Int32) _ _ ls _ hP hD hS (lv_sub hl [2, 3, 1, 0] rfl) hf
    · have hf := pf_f hc hf
      refine lv_bipush (v := (-3 : Int32)) hx hb dX9_leave_30 (by decide) ?_
      cases hf
      exact W.iret hx hb hr (fun t ht hW => ⟨⟨rfl, by rw [ht]; exact hP, hD⟩, hS.F ht⟩) hS.2.2 dX9_leave_32
  · have hf := pf_f hc hf
    refine lv_iconst (v := (-1 : Int32)) hx hb dX9_leave_13 (by decide) ?_
    cases hf
    exact W.iret hx hb hr (fun t ht hW => ⟨⟨rfl, by rw [ht]; exact hP, hD⟩, hS.F ht⟩) hS.2.2 dX9_leave_14
abbrev WX9_shift (cI cJ cZ cB : ClassId) (a_o : Nat) (a_o_text : Nat) (a_o_many : Nat) (a_o_views : Nat) (a_o_aisles : Nat) (a_o_readMany : Nat) (a_o_readViews : Nat) (a_o_readAisles : Nat) (a_o_readPage : Nat) (a_o_page : Nat) (a_o_trial : Nat) (a_o_book : Nat) (a_o_kept : Nat) (a_o_isKept : Nat) (a_o_seenSeat : Nat) (a_o_seenWas : Nat) (v_o_thrown : Int32) (v_o_textSize : Int32) (v_o_place : Int32) (v_o_rows : Int32) (v_o_readRows : Int32) (v_o_doings : Int32) (v_o_seen : Int32) (v_o_seed : Int64) (v_o_found : Int32) (v_o_foundViews : Int32) (v_o_foundMany : Int32) (d_o_many : (Nat → Int32)) (d_o_views : (Nat → Int32)) (d_o_aisles : (Nat → Int32)) (d_o_page : (Nat → Int32)) (d_o_trial : (Nat → Int32)) (d_o_book : (Nat → Int32)) : va_W := [(a_o, .inr (9, [.int v_o_thrown, .ref a_o_text, .int v_o_textSize, .int v_o_place, .int v_o_rows, .ref a_o_many, .ref a_o_views, .ref a_o_aisles, .int v_o_readRows, .ref a_o_readMany, .ref a_o_readViews, .ref a_o_readAisles, .ref a_o_readPage, .ref a_o_page, .ref a_o_trial, .ref a_o_book, .int v_o_doings, .ref a_o_kept, .ref a_o_isKept, .int v_o_seen, .ref a_o_seenSeat, .ref a_o_seenWas, .long v_o_seed, .int v_o_found, .int v_o_foundViews, .int v_o_foundMany])), (a_o_many, .inl (cI, (4, .inl d_o_many))), (a_o_views, .inl (cI, (36, .inl d_o_views))), (a_o_aisles, .inl (cZ, (36, .inl d_o_aisles))), (a_o_page, .inl (cI, (229, .inl d_o_page))), (a_o_trial, .inl (cI, (229, .inl d_o_trial))), (a_o_book, .inl (cI, (3206, .inl d_o_book)))]
set_option maxRecDepth 20000 in
theorem iX9_shift_X9 : ∀ w ∈ wsX90, w ∈ wsX9_shift := by decide +kernel
def fX9_shift (v_o_thrown : Int32) (v_o_rows : Int32) (v_o_doings : Int32) (v_o_found : Int32) (v_o_foundViews : Int32) (v_o_foundMany : Int32) (d_o_many : (Nat → Int32)) (d_o_views : (Nat → Int32)) (d_o_aisles : (Nat → Int32)) (d_o_page : (Nat → Int32)) (d_o_trial : (Nat → Int32)) (d_o_book : (Nat → Int32)) (x1 : Int32) : Option (Int32 × Int32 × Int32 × Int32 × Int32 × Int32 × (Nat → Int32) × (Nat → Int32) × (Nat → Int32)) := ((fX9_noParty d_o_page x1).bind fun q1 => (if q1 = 0 then ((fX9_at x1).bind fun q3 => (if (q3 + (2 : Int32)) < 0 ∨ 229 ≤ ((q3 + (2 : Int32))).toNatClampNeg then none else (if (d_o_page ((q3 + (2 : Int32))).toNatClampNeg) = (1 : Int32) then (if (q3 + (0 : Int32)) < 0 ∨ 229 ≤ ((q3 + (0 : Int32))).toNatClampNeg then none else (if (q3 + (3 : Int32)) < 0 ∨ 229 ≤ ((q3 + (3 : Int32))).toNatClampNeg then none else (if (q3 + (4 : Int32)) < 0 ∨ 229 ≤ ((q3 + (4 : Int32))).toNatClampNeg then none else ((fX9_viewsOf d_o_views (d_o_page ((q3 + (3 : Int32))).toNatClampNeg) (d_o_page ((q3 + (4 : Int32))).toNatClampNeg) (d_o_page ((q3 + (0 : Int32))).toNatClampNeg)).bind fun q9 => ((fX9_copy d_o_page d_o_trial).bind fun q11 => (if (q3 + (3 : Int32)) < 0 ∨ 229 ≤ ((q3 + (3 : Int32))).toNatClampNeg then none else (if (q3 + (4 : Int32)) < 0 ∨ 229 ≤ ((q3 + (4 : Int32))).toNatClampNeg then none else ((fX9_lay q11 (q11 ((q3 + (3 : Int32))).toNatClampNeg) (q11 ((q3 + (4 : Int32))).toNatClampNeg) (d_o_page ((q3 + (0 : Int32))).toNatClampNeg) (0 : Int32)).bind fun q15 => (if (q3 + (1 : Int32)) < 0 ∨ 229 ≤ ((q3 + (1 : Int32))).toNatClampNeg then none else ((fX9_allLone v_o_rows d_o_many d_o_aisles d_o_page).bind fun q18 => ((fX9_findPlace v_o_rows v_o_found v_o_foundViews v_o_foundMany d_o_many d_o_views d_o_aisles q15 (d_o_page ((q3 + (0 : Int32))).toNatClampNeg) (q15 ((q3 + (1 : Int32))).toNatClampNeg) (15 : Int32) q18).bind fun q20 => (if q20.2.2.1 = 0 then some ((-3 : Int32), (0 : Int32), v_o_doings, q20.1, q20.2.1, q20.2.2.1, d_o_page, q20.2.2.2, d_o_book) else (if q9 < q20.2.1 then ((fX9_note v_o_doings d_o_page d_o_book).bind fun q22 => (if (q3 + (3 : Int32)) < 0 ∨ 229 ≤ ((q3 + (3 : Int32))).toNatClampNeg then none else (if (q3 + (4 : Int32)) < 0 ∨ 229 ≤ ((q3 + (4 : Int32))).toNatClampNeg then none else ((fX9_lay d_o_page (d_o_page ((q3 + (3 : Int32))).toNatClampNeg) (d_o_page ((q3 + (4 : Int32))).toNatClampNeg) (d_o_page ((q3 + (0 : Int32))).toNatClampNeg) (0 : Int32)).bind fun q26 => ((fX9_seatOn q20.1 q26 x1).bind fun q28 => ((fX9_letInOn v_o_rows q20.1 q20.2.1 q20.2.2.1 d_o_many d_o_views d_o_aisles q28).bind fun q30 => some ((q20.2.1 - q9), (0 : Int32), q22.1, q30.1, q30.2.1, q30.2.2.1, q30.2.2.2, q20.2.2.2, q22.2))))))) else some ((-3 : Int32), (0 : Int32), v_o_doings, q20.1, q20.2.1, q20.2.2.1, d_o_page, q20.2.2.2, d_o_book)))))))))))))) else some ((-3 : Int32), (0 : Int32), v_o_doings, v_o_found, v_o_foundViews, v_o_foundMany, d_o_page, d_o_trial, d_o_book)))) else some ((-1 : Int32), (0 : Int32), v_o_doings, v_o_found, v_o_foundViews, v_o_foundMany, d_o_page, d_o_trial, d_o_book)))
set_option maxRecDepth 100000 in
set_option maxHeartbeats 4000000 in
theorem kX9_shift (l : Launch) (D : va_G) (cI cJ cZ cB : ClassId) (a_o : Nat) (a_o_text : Nat) (a_o_many : Nat) (a_o_views : Nat) (a_o_aisles : Nat) (a_o_readMany : Nat) (a_o_readViews : Nat) (a_o_readAisles : Nat) (a_o_readPage : Nat) (a_o_page : Nat) (a_o_trial : Nat) (a_o_book : Nat) (a_o_kept : Nat) (a_o_isKept : Nat) (a_o_seenSeat : Nat) (a_o_seenWas : Nat) (v_o_thrown : Int32) (v_o_textSize : Int32) (v_o_place : Int32) (v_o_rows : Int32) (v_o_readRows : Int32) (v_o_doings : Int32) (v_o_seen : Int32) (v_o_seed : Int64) (v_o_found : Int32) (v_o_foundViews : Int32) (v_o_foundMany : Int32) (d_o_many : (Nat → Int32)) (d_o_views : (Nat → Int32)) (d_o_aisles : (Nat → Int32)) (d_o_page : (Nat → Int32)) (d_o_trial : (Nat → Int32)) (d_o_book : (Nat → Int32)) (x1 : Int32) (res : Int32 × Int32 × Int32 × Int32 × Int32 × Int32 × (Nat → Int32) × (Nat → Int32) × (Nat → Int32)) (hf : fX9_shift v_o_thrown v_o_rows v_o_doings v_o_found v_o_foundViews v_o_foundMany d_o_many d_o_views d_o_aisles d_o_page d_o_trial d_o_book x1 = some res) : Rw l yX9_shift wsX9_shift ({ frames := 8, cells := 0, slots := 0, locals := 198 } : Room) D (tyL cI cJ cZ cB) [.ref a_o, .int x1] (WX9_shift cI cJ cZ cB a_o a_o_text a_o_many a_o_views a_o_aisles a_o_readMany a_o_readViews a_o_readAisles a_o_readPage a_o_page a_o_trial a_o_book a_o_kept a_o_isKept a_o_seenSeat a_o_seenWas v_o_thrown v_o_textSize v_o_place v_o_rows v_o_readRows v_o_doings v_o_seen v_o_seed v_o_found v_o_foundViews v_o_foundMany d_o_many d_o_views d_o_aisles d_o_page d_o_trial d_o_book) (some (.int res.1)) (WX9_shift cI cJ cZ cB a_o a_o_text a_o_many a_o_views a_o_aisles a_o_readMany a_o_readViews a_o_readAisles a_o_readPage a_o_page a_o_trial a_o_book a_o_kept a_o_isKept a_o_seenSeat a_o_seenWas res.2.1 v_o_textSize v_o_place v_o_rows v_o_readRows res.2.2.1 v_o_seen v_o_seed res.2.2.2.1 res.2.2.2.2.1 res.2.2.2.2.2.1 d_o_many d_o_views d_o_aisles res.2.2.2.2.2.2.1 res.2.2.2.2.2.2.2.1 res.2.2.2.2.2.2.2.2) := by
  refine Rw.of (cc := cX9_shift) (maxL := 6) (ret := (some .int)) (own := RX9) (by decide) rfl rfl (Nat.le_of_ble_eq_true rfl) ?_
  intro p e s m below meth c A ls C hK hA hP hD hS hl
  obtain ⟨hx, hb, hr, hml, hts, hown, hlk⟩ := id C
  have hl : lv_has ls 6 [(0, .ref a_o), (1, .int x1)] := hl
  unfold fX9_shift at hf
  refine lv_aload_n hx hb dX9_shift_0 rfl (lv_at hl 0 rfl) ?_
  refine lv_iconst (v := (0 : Int32)) hx hb dX9_shift_1 (by decide) ?_
  refine va_put (D := D) (ci := 9) (v := .int (0 : Int32)) (ty := .int) (C := RX9) (T := TX9) (N := 26) hx hb hts iX9_shift_X9 tyX9 tyX9_ok nmX9 hown hK.1 hP hD hS 0 rfl rfl 0 (by decide) (hts (.fieldLink RX9 60 "LoneSeatsModel" "thrown" "I") (by decide +kernel)) (fun _ h9 => h9) rfl (by decide +kernel) rfl rfl (Nat.le_of_ble_eq_true rfl) dX9_shift_2 (fun H locs hP hD hS => ?_)
  have hP : va_P D vwCl (WX9_shift cI cJ cZ cB a_o a_o_text a_o_many a_o_views a_o_aisles a_o_readMany a_o_readViews a_o_readAisles a_o_readPage a_o_page a_o_trial a_o_book a_o_kept a_o_isKept a_o_seenSeat a_o_seenWas (0 : Int32) v_o_textSize v_o_place v_o_rows v_o_readRows v_o_doings v_o_seen v_o_seed v_o_found v_o_foundViews v_o_foundMany d_o_many d_o_views d_o_aisles d_o_page d_o_trial d_o_book) H := hP
  have hD : va_D A (WX9_shift cI cJ cZ cB a_o a_o_text a_o_many a_o_views a_o_aisles a_o_readMany a_o_readViews a_o_readAisles a_o_readPage a_o_page a_o_trial a_o_book a_o_kept a_o_isKept a_o_seenSeat a_o_seenWas (0 : Int32) v_o_textSize v_o_place v_o_rows v_o_readRows v_o_doings v_o_seen v_o_seed v_o_found v_o_foundViews v_o_foundMany d_o_many d_o_views d_o_aisles d_o_page d_o_trial d_o_book) := hD
  refine lv_aload_n hx hb dX9_shift_5 rfl (lv_at hl 0 rfl) ?_
  refine lv_iload_n hx hb dX9_shift_6 rfl (lv_at hl 1 rfl) ?_
  obtain ⟨q1, hq2, hf⟩ := pf_b hf
  have hPc := hP.sub (ws' := (WX9_noParty cI cJ cZ cB a_o a_o_text a_o_many a_o_views a_o_aisles a_o_readMany a_o_readViews a_o_readAisles a_o_readPage a_o_page a_o_trial a_o_book a_o_kept a_o_isKept a_o_seenSeat a_o_seenWas (0 : Int32) v_o_textSize v_o_place v_o_rows v_o_readRows v_o_doings v_o_seen v_o_seed v_o_found v_o_foundViews v_o_foundMany d_o_page)) [0, 4] rfl
  refine cl_roi (va_runV (As := [.int x1]) (rest := []) ⟨hx, hb, hml, hown, hts⟩ (kX9_noParty l D cI cJ cZ cB a_o a_o_text a_o_many a_o_views a_o_aisles a_o_readMany a_o_readViews a_o_readAisles a_o_readPage a_o_page a_o_trial a_o_book a_o_kept a_o_isKept a_o_seenSeat a_o_seenWas (0 : Int32) v_o_textSize v_o_place v_o_rows v_o_readRows v_o_doings v_o_seen v_o_seed v_o_found v_o_foundViews v_o_foundMany d_o_page x1 q1 hq2) (cwV 1 hts gX9_shift_X9_noParty rfl rfl rfl (by decide +kernel) ⟨Nat.le_of_ble_eq_true rfl, Nat.le_of_ble_eq_true rfl⟩) ⟨PRo.blind, va_recv hK.1 hPc (ci := 9) (q0 := 0) rfl rfl, PRo.at hK hPc⟩ rfl rfl hl.1 rfl (lv_room (Nat.le_of_ble_eq_true rfl)) dX9_shift_7 ⟨Nat.zero_le _, Nat.zero_le _⟩) ?_
  refine lv_if_eq (tgt := 15) hx hb dX9_shift_10 (by decide) (fun hc => ?_) (fun hc => ?_)
  · have hf := pf_t hc hf
    refine lv_iload_n hx hb dX9_shift_15 rfl (lv_at hl 1 rfl) ?_
    obtain ⟨q3, hq4, hf⟩ := pf_b hf
    have hPc := hP.sub (ws' := ([] : va_W)) [] rfl
    refine cl_roi (va_runS (As := [.int x1]) (rest := []) ⟨hx, hb, hml, hown, hts⟩ (kX9_at l D cI cJ cZ cB x1 q3 hq4) (va_cwS 1 hts gX9_shift_X9_at rfl rfl rfl (by decide +kernel) ⟨Nat.le_of_ble_eq_true rfl, Nat.le_of_ble_eq_true rfl⟩) ⟨PRo.blind, PRo.at hK hPc⟩ rfl rfl hl.1 rfl (lv_room (Nat.le_of_ble_eq_true rfl)) dX9_shift_16 ⟨Nat.zero_le _, Nat.zero_le _⟩) ?_
    refine lv_istore_n (lv' := [(2, .int q3), (0, .ref a_o), (1, .int x1)]) hx hb dX9_shift_19 rfl hl (by decide) rfl (fun ls hl => ?_)
    refine lv_aload_n hx hb dX9_shift_20 rfl (lv_at hl 1 rfl) ?_
    refine va_get (D := D) (ci := 9) (v := .ref a_o_page) (C := RX9) (T := TX9) (N := 26) hx hb hts iX9_shift_X9 hown hK.1 hP 0 rfl rfl 13 (by decide) (hts (.fieldLink RX9 35 "LoneSeatsModel" "page" "[I") (by decide +kernel)) (fun _ h9 => h9) rfl dX9_shift_21 ?_
    refine lv_iload_n hx hb dX9_shift_24 rfl (lv_at hl 0 rfl) ?_
    refine lv_iconst (v := (2 : Int32)) hx hb dX9_shift_25 (by decide) ?_
    refine lv_iadd hx hb dX9_shift_26 ?_
    obtain ⟨hg5, hf⟩ := pf_x hf
    refine va_iald hx hb hK.1 hP 4 0 rfl rfl hg5 dX9_shift_27 ?_
    refine lv_iconst (v := (1 : Int32)) hx hb dX9_shift_28 (by decide) ?_
    refine lv_icmp_eq (tgt := 35) hx hb dX9_shift_29 (by decide) (fun hc => ?_) (fun hc => ?_)
    · have hf := pf_t hc hf
      refine lv_aload_n hx hb dX9_shift_35 rfl (lv_at hl 1 rfl) ?_
      refine va_get (D := D) (ci := 9) (v := .ref a_o_page) (C := RX9) (T := TX9) (N := 26) hx hb hts iX9_shift_X9 hown hK.1 hP 0 rfl rfl 13 (by decide) (hts (.fieldLink RX9 35 "LoneSeatsModel" "page" "[I") (by decide +kernel)) (fun _ h9 => h9) rfl dX9_shift_36 ?_
      refine lv_iload_n hx hb dX9_shift_39 rfl (lv_at hl 0 rfl) ?_
      refine lv_iconst (v := (0 : Int32)) hx hb dX9_shift_40 (by decide) ?_
      refine lv_iadd hx hb dX9_shift_41 ?_
      obtain ⟨hg6, hf⟩ := pf_x hf
      refine va_iald hx hb hK.1 hP 4 0 rfl rfl hg6 dX9_shift_42 ?_
      refine lv_istore_n (lv' := [(3, .int (d_o_page ((q3 + (0 : Int32))).toNatClampNeg)), (2, .int q3), (0, .ref a_o), (1, .int x1)]) hx hb dX9_shift_43 rfl hl (by decide) rfl (fun ls hl => ?_)
      refine lv_aload_n hx hb dX9_shift_44 rfl (lv_at hl 2 rfl) ?_
      refine lv_aload_n hx hb dX9_shift_45 rfl (lv_at hl 2 rfl) ?_
      refine va_get (D := D) (ci := 9) (v := .ref a_o_page) (C := RX9) (T := TX9) (N := 26) hx hb hts iX9_shift_X9 hown hK.1 hP 0 rfl rfl 13 (by decide) (hts (.fieldLink RX9 35 "LoneSeatsModel" "page" "[I") (by decide +kernel)) (fun _ h9 => h9) rfl dX9_shift_46 ?_
      refine lv_iload_n hx hb dX9_shift_49 rfl (lv_at hl 1 rfl) ?_
      refine lv_iconst (v := (3 : Int32)) hx hb dX9_shift_50 (by decide) ?_
      refine lv_iadd hx hb dX9_shift_51 ?_
      obtain ⟨hg7, hf⟩ := pf_x hf
      refine va_iald hx hb hK.1 hP 4 0 rfl rfl hg7 dX9_shift_52 ?_
      refine lv_aload_n hx hb dX9_shift_53 rfl (lv_at hl 2 rfl) ?_
      refine va_get (D := D) (ci := 9) (v := .ref a_o_page) (C := RX9) (T := TX9) (N := 26) hx hb hts iX9_shift_X9 hown hK.1 hP 0 rfl rfl 13 (by decide) (hts (.fieldLink RX9 35 "LoneSeatsModel" "page" "[I") (by decide +kernel)) (fun _ h9 => h9) rfl dX9_shift_54 ?_
      refine lv_iload_n hx hb dX9_shift_57 rfl (lv_at hl 1 rfl) ?_
      refine lv_iconst (v := (4 : Int32)) hx hb dX9_shift_58 (by decide) ?_
      refine lv_iadd hx hb dX9_shift_59 ?_
      obtain ⟨hg8, hf⟩ := pf_x hf
      refine va_iald hx hb hK.1 hP 4 0 rfl rfl hg8 dX9_shift_60 ?_
      refine lv_iload_n hx hb dX9_shift_61 rfl (lv_at hl 0 rfl) ?_
      obtain ⟨q9, hq10, hf⟩ := pf_b hf
      have hPc := hP.sub (ws' := (WX9_viewsOf cI cJ cZ cB a_o a_o_text a_o_many a_o_views a_o_aisles a_o_readMany a_o_readViews a_o_readAisles a_o_readPage a_o_page a_o_trial a_o_book a_o_kept a_o_isKept a_o_seenSeat a_o_seenWas (0 : Int32) v_o_textSize v_o_place v_o_rows v_o_readRows v_o_doings v_o_seen v_o_seed v_o_found v_o_foundViews v_o_foundMany d_o_views)) [0, 2] rfl
      refine cl_roi (va_runV (As := [.int (d_o_page ((q3 + (3 : Int32))).toNatClampNeg), .int (d_o_page ((q3 + (4 : Int32))).toNatClampNeg), .int (d_o_page ((q3 + (0 : Int32))).toNatClampNeg)]) (rest := []) ⟨hx, hb, hml, hown, hts⟩ (kX9_viewsOf l D cI cJ cZ cB a_o a_o_text a_o_many a_o_views a_o_aisles a_o_readMany a_o_readViews a_o_readAisles a_o_readPage a_o_page a_o_trial a_o_book a_o_kept a_o_isKept a_o_seenSeat a_o_seenWas (0 : Int32) v_o_textSize v_o_place v_o_rows v_o_readRows v_o_doings v_o_seen v_o_seed v_o_found v_o_foundViews v_o_foundMany d_o_views (d_o_page ((q3 + (3 : Int32))).toNatClampNeg) (d_o_page ((q3 + (4 : Int32))).toNatClampNeg) (d_o_page ((q3 + (0 : Int32))).toNatClampNeg) q9 hq10) (cwV 3 hts gX9_shift_X9_viewsOf rfl rfl rfl (by decide +kernel) ⟨Nat.le_of_ble_eq_true rfl, Nat.le_of_ble_eq_true rfl⟩) ⟨PRo.blind, va_recv hK.1 hPc (ci := 9) (q0 := 0) rfl rfl, PRo.at hK hPc⟩ rfl rfl hl.1 rfl (lv_room (Nat.le_of_ble_eq_true rfl)) dX9_shift_62 ⟨Nat.zero_le _, Nat.zero_le _⟩) ?_
      refine lv_istore (lv' := [(4, .int q9), (3, .int (d_o_page ((q3 + (0 : Int32))).toNatClampNeg)), (2, .int q3), (0, .ref a_o), (1, .int x1)]) hx hb dX9_shift_65 hl (by decide) rfl (fun ls hl => ?_)
      refine lv_aload_n hx hb dX9_shift_67 rfl (lv_at hl 3 rfl) ?_
      refine va_get (D := D) (ci := 9) (v := .ref a_o_page) (C := RX9) (T := TX9) (N := 26) hx hb hts iX9_shift_X9 hown hK.1 hP 0 rfl rfl 13 (by decide) (hts (.fieldLink RX9 35 "LoneSeatsModel" "page" "[I") (by decide +kernel)) (fun _ h9 => h9) rfl dX9_shift_68 ?_
      refine lv_aload_n hx hb dX9_shift_71 rfl (lv_at hl 3 rfl) ?_
      refine va_get (D := D) (ci := 9) (v := .ref a_o_trial) (C := RX9) (T := TX9) (N := 26) hx hb hts iX9_shift_X9 hown hK.1 hP 0 rfl rfl 14 (by decide) (hts (.fieldLink RX9 38 "LoneSeatsModel" "trial" "[I") (by decide +kernel)) (fun _ h9 => h9) rfl dX9_shift_72 ?_
      obtain ⟨q11, hq12, hf⟩ := pf_b hf
      have hPc := hP.sub (ws' := (WX9_copy cI cJ cZ cB a_o_page a_o_trial d_o_page d_o_trial)) [4, 5] rfl
      have hDc := hD.sub (ws' := (WX9_copy cI cJ cZ cB a_o_page a_o_trial d_o_page d_o_trial)) [4, 5] (by decide) rfl
      refine cl_rwv (wr := [(a_o, .inr (9, [.int (0 : Int32), .ref a_o_text, .int v_o_textSize, .int v_o_place, .int v_o_rows, .ref a_o_many, .ref a_o_views, .ref a_o_aisles, .int v_o_readRows, .ref a_o_readMany, .ref a_o_readViews, .ref a_o_readAisles, .ref a_o_readPage, .ref a_o_page, .ref a_o_trial, .ref a_o_book, .int v_o_doings, .ref a_o_kept, .ref a_o_isKept, .int v_o_seen, .ref a_o_seenSeat, .ref a_o_seenWas, .long v_o_seed, .int v_o_found, .int v_o_foundViews, .int v_o_foundMany])), (a_o_many, .inl (cI, (4, .inl d_o_many))), (a_o_views, .inl (cI, (36, .inl d_o_views))), (a_o_aisles, .inl (cZ, (36, .inl d_o_aisles))), (a_o_book, .inl (cI, (3206, .inl d_o_book)))]) (wsN := (WX9_shift cI cJ cZ cB a_o a_o_text a_o_many a_o_views a_o_aisles a_o_readMany a_o_readViews a_o_readAisles a_o_readPage a_o_page a_o_trial a_o_book a_o_kept a_o_isKept a_o_seenSeat a_o_seenWas (0 : Int32) v_o_textSize v_o_place v_o_rows v_o_readRows v_o_doings v_o_seen v_o_seed v_o_found v_o_foundViews v_o_foundMany d_o_many d_o_views d_o_aisles d_o_page q11 d_o_book)) (va_runS (As := [.ref a_o_page, .ref a_o_trial]) (rest := []) ⟨hx, hb, hml, hown, hts⟩ ((kX9_copy l D cI cJ cZ cB a_o_page a_o_trial d_o_page d_o_trial q11 hq12) _) (va_cwS 2 hts gX9_shift_X9_copy rfl rfl rfl (by decide +kernel) ⟨Nat.le_of_ble_eq_true rfl, Nat.le_of_ble_eq_true rfl⟩) ⟨PRw.blind, PRw.at hK hPc hDc⟩ rfl rfl hl.1 rfl (lv_room (Nat.le_of_ble_eq_true rfl)) dX9_shift_75 ⟨Nat.zero_le _, Nat.zero_le _⟩) hP hD hS hA [4, 5] [0, 1, 2, 3, 6] [0, 1, 2, 3, 5, 6, 4] rfl rfl (by decide) (by decide) rfl (by decide) (fun H locs hP hD hS => ?_)
      refine lv_aload_n hx hb dX9_shift_78 rfl (lv_at hl 3 rfl) ?_
      refine va_get (D := D) (ci := 9) (v := .ref a_o_trial) (C := RX9) (T := TX9) (N := 26) hx hb hts iX9_shift_X9 hown hK.1 hP 0 rfl rfl 14 (by decide) (hts (.fieldLink RX9 38 "LoneSeatsModel" "trial" "[I") (by decide +kernel)) (fun _ h9 => h9) rfl dX9_shift_79 ?_
      refine lv_aload_n hx hb dX9_shift_82 rfl (lv_at hl 3 rfl) ?_
      refine va_get (D := D) (ci := 9) (v := .ref a_o_trial) (C := RX9) (T := TX9) (N := 26) hx hb hts iX9_shift_X9 hown hK.1 hP 0 rfl rfl 14 (by decide) (hts (.fieldLink RX9 38 "LoneSeatsModel" "trial" "[I") (by decide +kernel)) (fun _ h9 => h9) rfl dX9_shift_83 ?_
      refine lv_iload_n hx hb dX9_shift_86 rfl (lv_at hl 2 rfl) ?_
      refine lv_iconst (v := (3 : Int32)) hx hb dX9_shift_87 (by decide) ?_
      refine lv_iadd hx hb dX9_shift_88 ?_
      obtain ⟨hg13, hf⟩ := pf_x hf
      refine va_iald hx hb hK.1 hP 5 0 rfl rfl hg13 dX9_shift_89 ?_
      refine lv_aload_n hx hb dX9_shift_90 rfl (lv_at hl 3 rfl) ?_
      refine va_get (D := D) (ci := 9) (v := .ref a_o_trial) (C := RX9) (T := TX9) (N := 26) hx hb hts iX9_shift_X9 hown hK.1 hP 0 rfl rfl 14 (by decide) (hts (.fieldLink RX9 38 "LoneSeatsModel" "trial" "[I") (by decide +kernel)) (fun _ h9 => h9) rfl dX9_shift_91 ?_
      refine lv_iload_n hx hb dX9_shift_94 rfl (lv_at hl 2 rfl) ?_
      refine lv_iconst (v := (4 : Int32)) hx hb dX9_shift_95 (by decide) ?_
      refine lv_iadd hx hb dX9_shift_96 ?_
      obtain ⟨hg14, hf⟩ := pf_x hf
      refine va_iald hx hb hK.1 hP 5 0 rfl rfl hg14 dX9_shift_97 ?_
      refine lv_iload_n hx hb dX9_shift_98 rfl (lv_at hl 1 rfl) ?_
      refine lv_iconst (v := (0 : Int32)) hx hb dX9_shift_99 (by decide) ?_
      obtain ⟨q15, hq16, hf⟩ := pf_b hf
      have hPc := hP.sub (ws' := (WX9_lay cI cJ cZ cB a_o_trial q11)) [5] rfl
      have hDc := hD.sub (ws' := (WX9_lay cI cJ cZ cB a_o_trial q11)) [5] (by decide) rfl
      refine cl_rwv (wr := [(a_o, .inr (9, [.int (0 : Int32), .ref a_o_text, .int v_o_textSize, .int v_o_place, .int v_o_rows, .ref a_o_many, .ref a_o_views, .ref a_o_aisles, .int v_o_readRows, .ref a_o_readMany, .ref a_o_readViews, .ref a_o_readAisles, .ref a_o_readPage, .ref a_o_page, .ref a_o_trial, .ref a_o_book, .int v_o_doings, .ref a_o_kept, .ref a_o_isKept, .int v_o_seen, .ref a_o_seenSeat, .ref a_o_seenWas, .long v_o_seed, .int v_o_found, .int v_o_foundViews, .int v_o_foundMany])), (a_o_many, .inl (cI, (4, .inl d_o_many))), (a_o_views, .inl (cI, (36, .inl d_o_views))), (a_o_aisles, .inl (cZ, (36, .inl d_o_aisles))), (a_o_page, .inl (cI, (229, .inl d_o_page))), (a_o_book, .inl (cI, (3206, .inl d_o_book)))]) (wsN := (WX9_shift cI cJ cZ cB a_o a_o_text a_o_many a_o_views a_o_aisles a_o_readMany a_o_readViews a_o_readAisles a_o_readPage a_o_page a_o_trial a_o_book a_o_kept a_o_isKept a_o_seenSeat a_o_seenWas (0 : Int32) v_o_textSize v_o_place v_o_rows v_o_readRows v_o_doings v_o_seen v_o_seed v_o_found v_o_foundViews v_o_foundMany d_o_many d_o_views d_o_aisles d_o_page q15 d_o_book)) (va_runS (As := [.ref a_o_trial, .int (q11 ((q3 + (3 : Int32))).toNatClampNeg), .int (q11 ((q3 + (4 : Int32))).toNatClampNeg), .int (d_o_page ((q3 + (0 : Int32))).toNatClampNeg), .int (0 : Int32)]) (rest := []) ⟨hx, hb, hml, hown, hts⟩ ((kX9_lay l D cI cJ cZ cB a_o_trial q11 (q11 ((q3 + (3 : Int32))).toNatClampNeg) (q11 ((q3 + (4 : Int32))).toNatClampNeg) (d_o_page ((q3 + (0 : Int32))).toNatClampNeg) (0 : Int32) q15 hq16) _) (va_cwS 5 hts gX9_shift_X9_lay rfl rfl rfl (by decide +kernel) ⟨Nat.le_of_ble_eq_true rfl, Nat.le_of_ble_eq_true rfl⟩) ⟨PRw.blind, PRw.at hK hPc hDc⟩ rfl rfl hl.1 rfl (lv_room (Nat.le_of_ble_eq_true rfl)) dX9_shift_100 ⟨Nat.zero_le _, Nat.zero_le _⟩) hP hD hS hA [5] [0, 1, 2, 3, 4, 6] [0, 1, 2, 3, 4, 6, 5] rfl rfl (by decide) (by decide) rfl (by decide) (fun H locs hP hD hS => ?_)
      refine lv_aload_n hx hb dX9_shift_103 rfl (lv_at hl 3 rfl) ?_
      refine lv_aload_n hx hb dX9_shift_104 rfl (lv_at hl 3 rfl) ?_
      refine va_get (D := D) (ci := 9) (v := .ref a_o_trial) (C := RX9) (T := TX9) (N := 26) hx hb hts iX9_shift_X9 hown hK.1 hP 0 rfl rfl 14 (by decide) (hts (.fieldLink RX9 38 "LoneSeatsModel" "trial" "[I") (by decide +kernel)) (fun _ h9 => h9) rfl dX9_shift_105 ?_
      refine lv_iload_n hx hb dX9_shift_108 rfl (lv_at hl 1 rfl) ?_
      refine lv_aload_n hx hb dX9_shift_109 rfl (lv_at hl 3 rfl) ?_
      refine va_get (D := D) (ci := 9) (v := .ref a_o_trial) (C := RX9) (T := TX9) (N := 26) hx hb hts iX9_shift_X9 hown hK.1 hP 0 rfl rfl 14 (by decide) (hts (.fieldLink RX9 38 "LoneSeatsModel" "trial" "[I") (by decide +kernel)) (fun _ h9 => h9) rfl dX9_shift_110 ?_
      refine lv_iload_n hx hb dX9_shift_113 rfl (lv_at hl 2 rfl) ?_
      refine lv_iconst (v := (1 : Int32)) hx hb dX9_shift_114 (by decide) ?_
      refine lv_iadd hx hb dX9_shift_115 ?_
      obtain ⟨hg17, hf⟩ := pf_x hf
      refine va_iald hx hb hK.1 hP 5 0 rfl rfl hg17 dX9_shift_116 ?_
      refine lv_bipush (v := (15 : Int32)) hx hb dX9_shift_117 (by decide) ?_
      refine lv_aload_n hx hb dX9_shift_119 rfl (lv_at hl 3 rfl) ?_
      refine lv_aload_n hx hb dX9_shift_120 rfl (lv_at hl 3 rfl) ?_
      refine va_get (D := D) (ci := 9) (v := .ref a_o_page) (C := RX9) (T := TX9) (N := 26) hx hb hts iX9_shift_X9 hown hK.1 hP 0 rfl rfl 13 (by decide) (hts (.fieldLink RX9 35 "LoneSeatsModel" "page" "[I") (by decide +kernel)) (fun _ h9 => h9) rfl dX9_shift_121 ?_
      obtain ⟨q18, hq19, hf⟩ := pf_b hf
      have hPc := hP.sub (ws' := (WX9_allLone cI cJ cZ cB a_o a_o_text a_o_many a_o_views a_o_aisles a_o_readMany a_o_readViews a_o_readAisles a_o_readPage a_o_page a_o_trial a_o_book a_o_kept a_o_isKept a_o_seenSeat a_o_seenWas a_o_page (0 : Int32) v_o_textSize v_o_place v_o_rows v_o_readRows v_o_doings v_o_seen v_o_seed v_o_found v_o_foundViews v_o_foundMany d_o_many d_o_aisles d_o_page)) [0, 1, 3, 4] rfl
      refine cl_roi (va_runV (As := [.ref a_o_page]) (rest := [.int (15 : Int32), .int (q15 ((q3 + (1 : Int32))).toNatClampNeg), .int (d_o_page ((q3 + (0 : Int32))).toNatClampNeg), .ref a_o_trial, .ref a_o]) ⟨hx, hb, hml, hown, hts⟩ (kX9_allLone l D cI cJ cZ cB a_o a_o_text a_o_many a_o_views a_o_aisles a_o_readMany a_o_readViews a_o_readAisles a_o_readPage a_o_page a_o_trial a_o_book a_o_kept a_o_isKept a_o_seenSeat a_o_seenWas a_o_page (0 : Int32) v_o_textSize v_o_place v_o_rows v_o_readRows v_o_doings v_o_seen v_o_seed v_o_found v_o_foundViews v_o_foundMany d_o_many d_o_aisles d_o_page q18 hq19) (cwV 1 hts gX9_shift_X9_allLone rfl rfl rfl (by decide +kernel) ⟨Nat.le_of_ble_eq_true rfl, Nat.le_of_ble_eq_true rfl⟩) ⟨PRo.blind, va_recv hK.1 hPc (ci := 9) (q0 := 0) rfl rfl, PRo.at hK hPc⟩ rfl rfl hl.1 rfl (lv_room (Nat.le_of_ble_eq_true rfl)) dX9_shift_124 ⟨Nat.zero_le _, Nat.zero_le _⟩) ?_
      obtain ⟨q20, hq21, hf⟩ := pf_b hf
      have hPc := hP.sub (ws' := (WX9_findPlace cI cJ cZ cB a_o a_o_text a_o_many a_o_views a_o_aisles a_o_readMany a_o_readViews a_o_readAisles a_o_readPage a_o_page a_o_trial a_o_book a_o_kept a_o_isKept a_o_seenSeat a_o_seenWas a_o_trial (0 : Int32) v_o_textSize v_o_place v_o_rows v_o_readRows v_o_doings v_o_seen v_o_seed v_o_found v_o_foundViews v_o_foundMany d_o_many d_o_views d_o_aisles q15)) [0, 1, 2, 3, 5] rfl
      have hDc := hD.sub (ws' := (WX9_findPlace cI cJ cZ cB a_o a_o_text a_o_many a_o_views a_o_aisles a_o_readMany a_o_readViews a_o_readAisles a_o_readPage a_o_page a_o_trial a_o_book a_o_kept a_o_isKept a_o_seenSeat a_o_seenWas a_o_trial (0 : Int32) v_o_textSize v_o_place v_o_rows v_o_readRows v_o_doings v_o_seen v_o_seed v_o_found v_o_foundViews v_o_foundMany d_o_many d_o_views d_o_aisles q15)) [0, 1, 2, 3, 5] (by decide) rfl
      refine cl_rwv (wr := [(a_o_page, .inl (cI, (229, .inl d_o_page))), (a_o_book, .inl (cI, (3206, .inl d_o_book)))]) (wsN := (WX9_shift cI cJ cZ cB a_o a_o_text a_o_many a_o_views a_o_aisles a_o_readMany a_o_readViews a_o_readAisles a_o_readPage a_o_page a_o_trial a_o_book a_o_kept a_o_isKept a_o_seenSeat a_o_seenWas (0 : Int32) v_o_textSize v_o_place v_o_rows v_o_readRows v_o_doings v_o_seen v_o_seed q20.1 q20.2.1 q20.2.2.1 d_o_many d_o_views d_o_aisles d_o_page q20.2.2.2 d_o_book)) (va_runV (As := [.ref a_o_trial, .int (d_o_page ((q3 + (0 : Int32))).toNatClampNeg), .int (q15 ((q3 + (1 : Int32))).toNatClampNeg), .int (15 : Int32), .int q18]) (rest := []) ⟨hx, hb, hml, hown, hts⟩ ((kX9_findPlace l D cI cJ cZ cB a_o a_o_text a_o_many a_o_views a_o_aisles a_o_readMany a_o_readViews a_o_readAisles a_o_readPage a_o_page a_o_trial a_o_book a_o_kept a_o_isKept a_o_seenSeat a_o_seenWas a_o_trial (0 : Int32) v_o_textSize v_o_place v_o_rows v_o_readRows v_o_doings v_o_seen v_o_seed v_o_found v_o_foundViews v_o_foundMany d_o_many d_o_views d_o_aisles q15 (d_o_page ((q3 + (0 : Int32))).toNatClampNeg) (q15 ((q3 + (1 : Int32))).toNatClampNeg) (15 : Int32) q18 q20 hq21) _) (cwV 5 hts gX9_shift_X9_findPlace rfl rfl rfl (by decide +kernel) ⟨Nat.le_of_ble_eq_true rfl, Nat.le_of_ble_eq_true rfl⟩) ⟨PRw.blind, va_recv hK.1 hPc (ci := 9) (q0 := 0) rfl rfl, PRw.at hK hPc hDc⟩ rfl rfl hl.1 rfl (lv_room (Nat.le_of_ble_eq_true rfl)) dX9_shift_127 ⟨Nat.zero_le _, Nat.zero_le _⟩) hP hD hS hA [0, 1, 2, 3, 5] [4, 6] [2, 3, 4, 5, 0, 6, 1] rfl rfl (by decide) (by decide) rfl (by decide) (fun H locs hP hD hS => ?_)
      refine lv_aload_n hx hb dX9_shift_130 rfl (lv_at hl 3 rfl) ?_
      refine va_get (D := D) (ci := 9) (v := .int q20.2.2.1) (C := RX9) (T := TX9) (N := 26) hx hb hts iX9_shift_X9 hown hK.1 hP 0 rfl rfl 25 (by decide) (hts (.fieldLink RX9 137 "LoneSeatsModel" "foundMany" "I") (by decide +kernel)) (fun _ h9 => h9) rfl dX9_shift_131 ?_
      refine lv_if_eq (tgt := 146) hx hb dX9_shift_134 (by decide) (fun hc => ?_) (fun hc => ?_)
      · have hf := pf_t hc hf
        refine lv_bipush (v := (-3 : Int32)) hx hb dX9_shift_146 (by decide) ?_
        cases hf
        exact W.iret hx hb hr (fun t ht hW => ⟨⟨rfl, by rw [ht]; exact hP, hD⟩, hS.F ht⟩) hS.2.2 dX9_shift_148
      · have hf := pf_f hc hf
        refine lv_aload_n hx hb dX9_shift_137 rfl (lv_at hl 3 rfl) ?_
        refine va_get (D := D) (ci := 9) (v := .int q20.2.1) (C := RX9) (T := TX9) (N := 26) hx hb hts iX9_shift_X9 hown hK.1 hP 0 rfl rfl 24 (by decide) (hts (.fieldLink RX9 134 "LoneSeatsModel" "foundViews" "I") (by decide +kernel)) (fun _ h9 => h9) rfl dX9_shift_138 ?_
        refine lv_iload hx hb dX9_shift_141 (lv_at hl 0 rfl) ?_
        refine lv_icmp_gt (tgt := 149) hx hb dX9_shift_143 (by decide) (fun hc => ?_) (fun hc => ?_)
        · have hf := pf_t hc hf
          refine lv_aload_n hx hb dX9_shift_149 rfl (lv_at hl 3 rfl) ?_
          refine va_get (D := D) (ci := 9) (v := .int q20.2.1) (C := RX9) (T := TX9) (N := 26) hx hb hts iX9_shift_X9 hown hK.1 hP 0 rfl rfl 24 (by decide) (hts (.fieldLink RX9 134 "LoneSeatsModel" "foundViews" "I") (by decide +kernel)) (fun _ h9 => h9) rfl dX9_shift_150 ?_
          refine lv_iload hx hb dX9_shift_153 (lv_at hl 0 rfl) ?_
          refine lv_isub hx hb dX9_shift_155 ?_
          refine lv_istore (lv' := [(5, .int (q20.2.1 - q9)), (4, .int q9), (3, .int (d_o_page ((q3 + (0 : Int32))).toNatClampNeg)), (2, .int q3), (0, .ref a_o), (1, .int x1)]) hx hb dX9_shift_156 hl (by decide) rfl (fun ls hl => ?_)
          refine lv_aload_n hx hb dX9_shift_158 rfl (lv_at hl 4 rfl) ?_
          obtain ⟨q22, hq23, hf⟩ := pf_b hf
          have hPc := hP.sub (ws' := (WX9_note cI cJ cZ cB a_o a_o_text a_o_many a_o_views a_o_aisles a_o_readMany a_o_readViews a_o_readAisles a_o_readPage a_o_page a_o_trial a_o_book a_o_kept a_o_isKept a_o_seenSeat a_o_seenWas (0 : Int32) v_o_textSize v_o_place v_o_rows v_o_readRows v_o_doings v_o_seen v_o_seed q20.1 q20.2.1 q20.2.2.1 d_o_page d_o_book)) [0, 4, 6] rfl
          have hDc := hD.sub (ws' := (WX9_note cI cJ cZ cB a_o a_o_text a_o_many a_o_views a_o_aisles a_o_readMany a_o_readViews a_o_readAisles a_o_readPage a_o_page a_o_trial a_o_book a_o_kept a_o_isKept a_o_seenSeat a_o_seenWas (0 : Int32) v_o_textSize v_o_place v_o_rows v_o_readRows v_o_doings v_o_seen v_o_seed q20.1 q20.2.1 q20.2.2.1 d_o_page d_o_book)) [0, 4, 6] (by decide) rfl
          refine cl_rwv (wr := [(a_o_many, .inl (cI, (4, .inl d_o_many))), (a_o_views, .inl (cI, (36, .inl d_o_views))), (a_o_aisles, .inl (cZ, (36, .inl d_o_aisles))), (a_o_trial, .inl (cI, (229, .inl q20.2.2.2)))]) (wsN := (WX9_shift cI cJ cZ cB a_o a_o_text a_o_many a_o_views a_o_aisles a_o_readMany a_o_readViews a_o_readAisles a_o_readPage a_o_page a_o_trial a_o_book a_o_kept a_o_isKept a_o_seenSeat a_o_seenWas (0 : Int32) v_o_textSize v_o_place v_o_rows v_o_readRows q22.1 v_o_seen v_o_seed q20.1 q20.2.1 q20.2.2.1 d_o_many d_o_views d_o_aisles d_o_page q20.2.2.2 q22.2)) (va_runV (As := []) (rest := []) ⟨hx, hb, hml, hown, hts⟩ ((kX9_note l D cI cJ cZ cB a_o a_o_text a_o_many a_o_views a_o_aisles a_o_readMany a_o_readViews a_o_readAisles a_o_readPage a_o_page a_o_trial a_o_book a_o_kept a_o_isKept a_o_seenSeat a_o_seenWas (0 : Int32) v_o_textSize v_o_place v_o_rows v_o_readRows v_o_doings v_o_seen v_o_seed q20.1 q20.2.1 q20.2.2.1 d_o_page d_o_book q22 hq23) _) (cwV 0 hts gX9_shift_X9_note rfl rfl rfl (by decide +kernel) ⟨Nat.le_of_ble_eq_true rfl, Nat.le_of_ble_eq_true rfl⟩) ⟨PRw.blind, va_recv hK.1 hPc (ci := 9) (q0 := 0) rfl rfl, PRw.at hK hPc hDc⟩ rfl rfl hl.1 rfl (lv_room (Nat.le_of_ble_eq_true rfl)) dX9_shift_159 ⟨Nat.zero_le _, Nat.zero_le _⟩) hP hD hS hA [0, 4, 6] [1, 2, 3, 5] [4, 0, 1, 2, 5, 3, 6] rfl rfl (by decide) (by decide) rfl (by decide) (fun H locs hP hD hS => ?_)
          refine lv_aload_n hx hb dX9_shift_162 rfl (lv_at hl 4 rfl) ?_
          refine va_get (D := D) (ci := 9) (v := .ref a_o_page) (C := RX9) (T := TX9) (N := 26) hx hb hts iX9_shift_X9 hown hK.1 hP 0 rfl rfl 13 (by decide) (hts (.fieldLink RX9 35 "LoneSeatsModel" "page" "[I") (by decide +kernel)) (fun _ h9 => h9) rfl dX9_shift_163 ?_
          refine lv_aload_n hx hb dX9_shift_166 rfl (lv_at hl 4 rfl) ?_
          refine va_get (D := D) (ci := 9) (v := .ref a_o_page) (C := RX9) (T := TX9) (N := 26) hx hb hts iX9_shift_X9 hown hK.1 hP 0 rfl rfl 13 (by decide) (hts (.fieldLink RX9 35 "LoneSeatsModel" "page" "[I") (by decide +kernel)) (fun _ h9 => h9) rfl dX9_shift_167 ?_
          refine lv_iload_n hx hb dX9_shift_170 rfl (lv_at hl 3 rfl) ?_
          refine lv_iconst (v := (3 : Int32)) hx hb dX9_shift_171 (by decide) ?_
          refine lv_iadd hx hb dX9_shift_172 ?_
          obtain ⟨hg24, hf⟩ := pf_x hf
          refine va_iald hx hb hK.1 hP 4 0 rfl rfl hg24 dX9_shift_173 ?_
          refine lv_aload_n hx hb dX9_shift_174 rfl (lv_at hl 4 rfl) ?_
          refine va_get (D := D) (ci := 9) (v := .ref a_o_page) (C := RX9) (T := TX9) (N := 26) hx hb hts iX9_shift_X9 hown hK.1 hP 0 rfl rfl 13 (by decide) (hts (.fieldLink RX9 35 "LoneSeatsModel" "page" "[I") (by decide +kernel)) (fun _ h9 => h9) rfl dX9_shift_175 ?_
          refine lv_iload_n hx hb dX9_shift_178 rfl (lv_at hl 3 rfl) ?_
          refine lv_iconst (v := (4 : Int32)) hx hb dX9_shift_179 (by decide) ?_
          refine lv_iadd hx hb dX9_shift_180 ?_
          obtain ⟨hg25, hf⟩ := pf_x hf
          refine va_iald hx hb hK.1 hP 4 0 rfl rfl hg25 dX9_shift_181 ?_
          refine lv_iload_n hx hb dX9_shift_182 rfl (lv_at hl 2 rfl) ?_
          refine lv_iconst (v := (0 : Int32)) hx hb dX9_shift_183 (by decide) ?_
          obtain ⟨q26, hq27, hf⟩ := pf_b hf
          have hPc := hP.sub (ws' := (WX9_lay cI cJ cZ cB a_o_page d_o_page)) [4] rfl
          have hDc := hD.sub (ws' := (WX9_lay cI cJ cZ cB a_o_page d_o_page)) [4] (by decide) rfl
          refine cl_rwv (wr := [(a_o, .inr (9, [.int (0 : Int32), .ref a_o_text, .int v_o_textSize, .int v_o_place, .int v_o_rows, .ref a_o_many, .ref a_o_views, .ref a_o_aisles, .int v_o_readRows, .ref a_o_readMany, .ref a_o_readViews, .ref a_o_readAisles, .ref a_o_readPage, .ref a_o_page, .ref a_o_trial, .ref a_o_book, .int q22.1, .ref a_o_kept, .ref a_o_isKept, .int v_o_seen, .ref a_o_seenSeat, .ref a_o_seenWas, .long v_o_seed, .int q20.1, .int q20.2.1, .int q20.2.2.1])), (a_o_many, .inl (cI, (4, .inl d_o_many))), (a_o_views, .inl (cI, (36, .inl d_o_views))), (a_o_aisles, .inl (cZ, (36, .inl d_o_aisles))), (a_o_trial, .inl (cI, (229, .inl q20.2.2.2))), (a_o_book, .inl (cI, (3206, .inl q22.2)))]) (wsN := (WX9_shift cI cJ cZ cB a_o a_o_text a_o_many a_o_views a_o_aisles a_o_readMany a_o_readViews a_o_readAisles a_o_readPage a_o_page a_o_trial a_o_book a_o_kept a_o_isKept a_o_seenSeat a_o_seenWas (0 : Int32) v_o_textSize v_o_place v_o_rows v_o_readRows q22.1 v_o_seen v_o_seed q20.1 q20.2.1 q20.2.2.1 d_o_many d_o_views d_o_aisles q26 q20.2.2.2 q22.2)) (va_runS (As := [.ref a_o_page, .int (d_o_page ((q3 + (3 : Int32))).toNatClampNeg), .int (d_o_page ((q3 + (4 : Int32))).toNatClampNeg), .int (d_o_page ((q3 + (0 : Int32))).toNatClampNeg), .int (0 : Int32)]) (rest := []) ⟨hx, hb, hml, hown, hts⟩ ((kX9_lay l D cI cJ cZ cB a_o_page d_o_page (d_o_page ((q3 + (3 : Int32))).toNatClampNeg) (d_o_page ((q3 + (4 : Int32))).toNatClampNeg) (d_o_page ((q3 + (0 : Int32))).toNatClampNeg) (0 : Int32) q26 hq27) _) (va_cwS 5 hts gX9_shift_X9_lay rfl rfl rfl (by decide +kernel) ⟨Nat.le_of_ble_eq_true rfl, Nat.le_of_ble_eq_true rfl⟩) ⟨PRw.blind, PRw.at hK hPc hDc⟩ rfl rfl hl.1 rfl (lv_room (Nat.le_of_ble_eq_true rfl)) dX9_shift_184 ⟨Nat.zero_le _, Nat.zero_le _⟩) hP hD hS hA [4] [0, 1, 2, 3, 5, 6] [0, 1, 2, 3, 6, 4, 5] rfl rfl (by decide) (by decide) rfl (by decide) (fun H locs hP hD hS => ?_)
          refine lv_aload_n hx hb dX9_shift_187 rfl (lv_at hl 4 rfl) ?_
          refine lv_aload_n hx hb dX9_shift_188 rfl (lv_at hl 4 rfl) ?_
          refine va_get (D := D) (ci := 9) (v := .ref a_o_page) (C := RX9) (T := TX9) (N := 26) hx hb hts iX9_shift_X9 hown hK.1 hP 0 rfl rfl 13 (by decide) (hts (.fieldLink RX9 35 "LoneSeatsModel" "page" "[I") (by decide +kernel)) (fun _ h9 => h9) rfl dX9_shift_189 ?_
          refine lv_iload_n hx hb dX9_shift_192 rfl (lv_at hl 5 rfl) ?_
          obtain ⟨q28, hq29, hf⟩ := pf_b hf
          have hPc := hP.sub (ws' := (WX9_seatOn cI cJ cZ cB a_o a_o_text a_o_many a_o_views a_o_aisles a_o_readMany a_o_readViews a_o_readAisles a_o_readPage a_o_page a_o_trial a_o_book a_o_kept a_o_isKept a_o_seenSeat a_o_seenWas a_o_page (0 : Int32) v_o_textSize v_o_place v_o_rows v_o_readRows q22.1 v_o_seen v_o_seed q20.1 q20.2.1 q20.2.2.1 q26)) [0, 4] rfl
          have hDc := hD.sub (ws' := (WX9_seatOn cI cJ cZ cB a_o a_o_text a_o_many a_o_views a_o_aisles a_o_readMany a_o_readViews a_o_readAisles a_o_readPage a_o_page a_o_trial a_o_book a_o_kept a_o_isKept a_o_seenSeat a_o_seenWas a_o_page (0 : Int32) v_o_textSize v_o_place v_o_rows v_o_readRows q22.1 v_o_seen v_o_seed q20.1 q20.2.1 q20.2.2.1 q26)) [0, 4] (by decide) rfl
          refine cl_rwv (wr := [(a_o_many, .inl (cI, (4, .inl d_o_many))), (a_o_views, .inl (cI, (36, .inl d_o_views))), (a_o_aisles, .inl (cZ, (36, .inl d_o_aisles))), (a_o_trial, .inl (cI, (229, .inl q20.2.2.2))), (a_o_book, .inl (cI, (3206, .inl q22.2)))]) (wsN := (WX9_shift cI cJ cZ cB a_o a_o_text a_o_many a_o_views a_o_aisles a_o_readMany a_o_readViews a_o_readAisles a_o_readPage a_o_page a_o_trial a_o_book a_o_kept a_o_isKept a_o_seenSeat a_o_seenWas (0 : Int32) v_o_textSize v_o_place v_o_rows v_o_readRows q22.1 v_o_seen v_o_seed q20.1 q20.2.1 q20.2.2.1 d_o_many d_o_views d_o_aisles q28 q20.2.2.2 q22.2)) (va_runV (As := [.ref a_o_page, .int x1]) (rest := []) ⟨hx, hb, hml, hown, hts⟩ ((kX9_seatOn l D cI cJ cZ cB a_o a_o_text a_o_many a_o_views a_o_aisles a_o_readMany a_o_readViews a_o_readAisles a_o_readPage a_o_page a_o_trial a_o_book a_o_kept a_o_isKept a_o_seenSeat a_o_seenWas a_o_page (0 : Int32) v_o_textSize v_o_place v_o_rows v_o_readRows q22.1 v_o_seen v_o_seed q20.1 q20.2.1 q20.2.2.1 q26 x1 q28 hq29) _) (cwV 2 hts gX9_shift_X9_seatOn rfl rfl rfl (by decide +kernel) ⟨Nat.le_of_ble_eq_true rfl, Nat.le_of_ble_eq_true rfl⟩) ⟨PRw.blind, va_recv hK.1 hPc (ci := 9) (q0 := 0) rfl rfl, PRw.at hK hPc hDc⟩ rfl rfl hl.1 rfl (lv_room (Nat.le_of_ble_eq_true rfl)) dX9_shift_193 ⟨Nat.zero_le _, Nat.zero_le _⟩) hP hD hS hA [0, 4] [1, 2, 3, 5, 6] [5, 0, 1, 2, 6, 3, 4] rfl rfl (by decide) (by decide) rfl (by decide) (fun H locs hP hD hS => ?_)
          refine lv_aload_n hx hb dX9_shift_196 rfl (lv_at hl 4 rfl) ?_
          refine lv_aload_n hx hb dX9_shift_197 rfl (lv_at hl 4 rfl) ?_
          refine va_get (D := D) (ci := 9) (v := .ref a_o_page) (C := RX9) (T := TX9) (N := 26) hx hb hts iX9_shift_X9 hown hK.1 hP 0 rfl rfl 13 (by decide) (hts (.fieldLink RX9 35 "LoneSeatsModel" "page" "[I") (by decide +kernel)) (fun _ h9 => h9) rfl dX9_shift_198 ?_
          obtain ⟨q30, hq31, hf⟩ := pf_b hf
          have hPc := hP.sub (ws' := (WX9_letInOn cI cJ cZ cB a_o a_o_text a_o_many a_o_views a_o_aisles a_o_readMany a_o_readViews a_o_readAisles a_o_readPage a_o_page a_o_trial a_o_book a_o_kept a_o_isKept a_o_seenSeat a_o_seenWas a_o_page (0 : Int32) v_o_textSize v_o_place v_o_rows v_o_readRows q22.1 v_o_seen v_o_seed q20.1 q20.2.1 q20.2.2.1 d_o_many d_o_views d_o_aisles q28)) [0, 1, 2, 3, 4] rfl
          have hDc := hD.sub (ws' := (WX9_letInOn cI cJ cZ cB a_o a_o_text a_o_many a_o_views a_o_aisles a_o_readMany a_o_readViews a_o_readAisles a_o_readPage a_o_page a_o_trial a_o_book a_o_kept a_o_isKept a_o_seenSeat a_o_seenWas a_o_page (0 : Int32) v_o_textSize v_o_place v_o_rows v_o_readRows q22.1 v_o_seen v_o_seed q20.1 q20.2.1 q20.2.2.1 d_o_many d_o_views d_o_aisles q28)) [0, 1, 2, 3, 4] (by decide) rfl
          refine cl_rwv (wr := [(a_o_trial, .inl (cI, (229, .inl q20.2.2.2))), (a_o_book, .inl (cI, (3206, .inl q22.2)))]) (wsN := (WX9_shift cI cJ cZ cB a_o a_o_text a_o_many a_o_views a_o_aisles a_o_readMany a_o_readViews a_o_readAisles a_o_readPage a_o_page a_o_trial a_o_book a_o_kept a_o_isKept a_o_seenSeat a_o_seenWas (0 : Int32) v_o_textSize v_o_place v_o_rows v_o_readRows q22.1 v_o_seen v_o_seed q30.1 q30.2.1 q30.2.2.1 d_o_many d_o_views d_o_aisles q30.2.2.2 q20.2.2.2 q22.2)) (va_runV (As := [.ref a_o_page]) (rest := []) ⟨hx, hb, hml, hown, hts⟩ ((kX9_letInOn l D cI cJ cZ cB a_o a_o_text a_o_many a_o_views a_o_aisles a_o_readMany a_o_readViews a_o_readAisles a_o_readPage a_o_page a_o_trial a_o_book a_o_kept a_o_isKept a_o_seenSeat a_o_seenWas a_o_page (0 : Int32) v_o_textSize v_o_place v_o_rows v_o_readRows q22.1 v_o_seen v_o_seed q20.1 q20.2.1 q20.2.2.1 d_o_many d_o_views d_o_aisles q28 q30 hq31) _) (cwV 1 hts gX9_shift_X9_letInOn rfl rfl rfl (by decide +kernel) ⟨Nat.le_of_ble_eq_true rfl, Nat.le_of_ble_eq_true rfl⟩) ⟨PRw.blind, va_recv hK.1 hPc (ci := 9) (q0 := 0) rfl rfl, PRw.at hK hPc hDc⟩ rfl rfl hl.1 rfl (lv_room (Nat.le_of_ble_eq_true rfl)) dX9_shift_201 ⟨Nat.zero_le _, Nat.zero_le _⟩) hP hD hS hA [0, 1, 2, 3, 4] [5, 6] [2, 3, 4, 5, 6, 0, 1] rfl rfl (by decide) (by decide) rfl (by decide) (fun H locs hP hD hS => ?_)
          refine lv_iload hx hb dX9_shift_204 (lv_at hl 0 rfl) ?_
          cases hf
          exact W.iret hx hb hr (fun t ht hW => ⟨⟨rfl, by rw [ht]; exact hP, hD⟩, hS.F ht⟩) hS.2.2 dX9_shift_206
        · have hf := pf_f hc hf
          refine lv_bipush (v := (-3 : Int32)) hx hb dX9_shift_146 (by decide) ?_
          cases hf
          exact W.iret hx hb hr (fun t ht hW => ⟨⟨rfl, by rw [ht]; exact hP, hD⟩, hS.F ht⟩) hS.2.2 dX9_shift_148
    · have hf := pf_f hc hf
      refine lv_bipush (v := (-3 : Int32)) hx hb dX9_shift_32 (by decide) ?_
      cases hf
      exact W.iret hx hb hr (fun t ht hW => ⟨⟨rfl, by rw [ht]; exact hP, hD⟩, hS.F ht⟩) hS.2.2 dX9_shift_34
  · have hf := pf_f hc hf
    refine lv_iconst (v := (-1 : Int32)) hx hb dX9_shift_13 (by decide) ?_
    cases hf
    exact W.iret hx hb hr (fun t ht hW => ⟨⟨rfl, by rw [ht]; exact hP, hD⟩, hS.F ht⟩) hS.2.2 dX9_shift_14
