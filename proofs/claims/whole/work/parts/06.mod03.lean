abbrev WX9_price (cI cJ cZ cB : ClassId) (a_o : Nat) (a_o_text : Nat) (a_o_many : Nat) (a_o_views : Nat) (a_o_aisles : Nat) (a_o_readMany : Nat) (a_o_readViews : Nat) (a_o_readAisles : Nat) (a_o_readPage : Nat) (a_o_page : Nat) (a_o_trial : Nat) (a_o_book : Nat) (a_o_kept : Nat) (a_o_isKept : Nat) (a_o_seenSeat : Nat) (a_o_seenWas : Nat) (v_o_thrown : Int32) (v_o_textSize : Int32) (v_o_place : Int32) (v_o_rows : Int32) (v_o_readRows : Int32) (v_o_doings : Int32) (v_o_seen : Int32) (v_o_seed : Int64) (v_o_found : Int32) (v_o_foundViews : Int32) (v_o_foundMany : Int32) (d_o_many : (Nat → Int32)) (d_o_views : (Nat → Int32)) (d_o_aisles : (Nat → Int32)) (d_o_page : (Nat → Int32)) (d_o_book : (Nat → Int32)) : va_W := [(a_o, .inr (9, [.int v_o_thrown, .ref a_o_text, .int v_o_textSize, .int v_o_place, .int v_o_rows, .ref a_o_many, .ref a_o_views, .ref a_o_aisles, .int v_o_readRows, .ref a_o_readMany, .ref a_o_readViews, .ref a_o_readAisles, .ref a_o_readPage, .ref a_o_page, .ref a_o_trial, .ref a_o_book, .int v_o_doings, .ref a_o_kept, .ref a_o_isKept, .int v_o_seen, .ref a_o_seenSeat, .ref a_o_seenWas, .long v_o_seed, .int v_o_found, .int v_o_foundViews, .int v_o_foundMany])), (a_o_many, .inl (cI, (4, .inl d_o_many))), (a_o_views, .inl (cI, (36, .inl d_o_views))), (a_o_aisles, .inl (cZ, (36, .inl d_o_aisles))), (a_o_page, .inl (cI, (229, .inl d_o_page))), (a_o_book, .inl (cI, (3206, .inl d_o_book)))]
set_option maxRecDepth 20000 in
theorem iX9_price_X9 : ∀ w ∈ wsX90, w ∈ wsX9_price := by decide +kernel
def fX9_price (v_o_thrown : Int32) (v_o_rows : Int32) (v_o_doings : Int32) (v_o_found : Int32) (v_o_foundViews : Int32) (v_o_foundMany : Int32) (d_o_many : (Nat → Int32)) (d_o_views : (Nat → Int32)) (d_o_aisles : (Nat → Int32)) (d_o_page : (Nat → Int32)) (d_o_book : (Nat → Int32)) (x1 : Int32) (x2 : Int32) : Option (Int32 × Int32 × Int32 × Int32 × Int32 × Int32 × (Nat → Int32) × (Nat → Int32)) := ((fX9_noRow v_o_rows x1).bind fun q1 => (if q1 = 0 then ((fX9_in ((x2).toInt64) (1 : Int64) (9 : Int64)).bind fun q3 => (if q3 = 0 then some ((-2 : Int32), (0 : Int32), v_o_doings, v_o_found, v_o_foundViews, v_o_foundMany, d_o_page, d_o_book) else ((fX9_note v_o_doings d_o_page d_o_book).bind fun q5 => (if ((0 : Int32) + x1) < 0 ∨ 229 ≤ (((0 : Int32) + x1)).toNatClampNeg then none else (if ((0 : Int32) + x1) < 0 ∨ 229 ≤ (((0 : Int32) + x1)).toNatClampNeg then none else ((fX9_letInOn v_o_rows v_o_found v_o_foundViews v_o_foundMany d_o_many d_o_views d_o_aisles (upd d_o_page ((((0 : Int32) + x1)).toNatClampNeg) x2)).bind fun q9 => some ((d_o_page (((0 : Int32) + x1)).toNatClampNeg), (0 : Int32), q5.1, q9.1, q9.2.1, q9.2.2.1, q9.2.2.2, q5.2))))))) else some ((-1 : Int32), (0 : Int32), v_o_doings, v_o_found, v_o_foundViews, v_o_foundMany, d_o_page, d_o_book)))
set_option maxRecDepth 100000 in
set_option maxHeartbeats 4000000 in
theorem kX9_price (l : Launch) (D : va_G) (cI cJ cZ cB : ClassId) (a_o : Nat) (a_o_text : Nat) (a_o_many : Nat) (a_o_views : Nat) (a_o_aisles : Nat) (a_o_readMany : Nat) (a_o_readViews : Nat) (a_o_readAisles : Nat) (a_o_readPage : Nat) (a_o_page : Nat) (a_o_trial : Nat) (a_o_book : Nat) (a_o_kept : Nat) (a_o_isKept : Nat) (a_o_seenSeat : Nat) (a_o_seenWas : Nat) (v_o_thrown : Int32) (v_o_textSize : Int32) (v_o_place : Int32) (v_o_rows : Int32) (v_o_readRows : Int32) (v_o_doings : Int32) (v_o_seen : Int32) (v_o_seed : Int64) (v_o_found : Int32) (v_o_foundViews : Int32) (v_o_foundMany : Int32) (d_o_many : (Nat → Int32)) (d_o_views : (Nat → Int32)) (d_o_aisles : (Nat → Int32)) (d_o_page : (Nat → Int32)) (d_o_book : (Nat → Int32)) (x1 : Int32) (x2 : Int32) (res : Int32 × Int32 × Int32 × Int32 × Int32 × Int32 × (Nat → Int32) × (Nat → Int32)) (hf : fX9_price v_o_thrown v_o_rows v_o_doings v_o_found v_o_foundViews v_o_foundMany d_o_many d_o_views d_o_aisles d_o_page d_o_book x1 x2 = some res) : Rw l yX9_price wsX9_price ({ frames := 8, cells := 0, slots := 0, locals := 198 } : Room) D (tyL cI cJ cZ cB) [.ref a_o, .int x1, .int x2] (WX9_price cI cJ cZ cB a_o a_o_text a_o_many a_o_views a_o_aisles a_o_readMany a_o_readViews a_o_readAisles a_o_readPage a_o_page a_o_trial a_o_book a_o_kept a_o_isKept a_o_seenSeat a_o_seenWas v_o_thrown v_o_textSize v_o_place v_o_rows v_o_readRows v_o_doings v_o_seen v_o_seed v_o_found v_o_foundViews v_o_foundMany d_o_many d_o_views d_o_aisles d_o_page d_o_book) (some (.int res.1)) (WX9_price cI cJ cZ cB a_o a_o_text a_o_many a_o_views a_o_aisles a_o_readMany a_o_readViews a_o_readAisles a_o_readPage a_o_page a_o_trial a_o_book a_o_kept a_o_isKept a_o_seenSeat a_o_seenWas res.2.1 v_o_textSize v_o_place v_o_rows v_o_readRows res.2.2.1 v_o_seen v_o_seed res.2.2.2.1 res.2.2.2.2.1 res.2.2.2.2.2.1 d_o_many d_o_views d_o_aisles res.2.2.2.2.2.2.1 res.2.2.2.2.2.2.2) := by
  refine Rw.of (cc := cX9_price) (maxL := 4) (ret := (some .int)) (own := RX9) (by decide) rfl rfl (Nat.le_of_ble_eq_true rfl) ?_
  intro p e s m below meth c A ls C hK hA hP hD hS hl
  obtain ⟨hx, hb, hr, hml, hts, hown, hlk⟩ := id C
  have hl : lv_has ls 4 [(0, .ref a_o), (1, .int x1), (2, .int x2)] := hl
  unfold fX9_price at hf
  refine lv_aload_n hx hb dX9_price_0 rfl (lv_at hl 0 rfl) ?_
  refine lv_iconst (v := (0 : Int32)) hx hb dX9_price_1 (by decide) ?_
  refine va_put (D := D) (ci := 9) (v := .int (0 : Int32)) (ty := .int) (C := RX9) (T := TX9) (N := 26) hx hb hts iX9_price_X9 tyX9 tyX9_ok nmX9 hown hK.1 hP hD hS 0 rfl rfl 0 (by decide) (hts (.fieldLink RX9 60 "LoneSeatsModel" "thrown" "I") (by decide +kernel)) (fun _ h9 => h9) rfl (by decide +kernel) rfl rfl (Nat.le_of_ble_eq_true rfl) dX9_price_2 (fun H locs hP hD hS => ?_)
  have hP : va_P D vwCl (WX9_price cI cJ cZ cB a_o a_o_text a_o_many a_o_views a_o_aisles a_o_readMany a_o_readViews a_o_readAisles a_o_readPage a_o_page a_o_trial a_o_book a_o_kept a_o_isKept a_o_seenSeat a_o_seenWas (0 : Int32) v_o_textSize v_o_place v_o_rows v_o_readRows v_o_doings v_o_seen v_o_seed v_o_found v_o_foundViews v_o_foundMany d_o_many d_o_views d_o_aisles d_o_page d_o_book) H := hP
  have hD : va_D A (WX9_price cI cJ cZ cB a_o a_o_text a_o_many a_o_views a_o_aisles a_o_readMany a_o_readViews a_o_readAisles a_o_readPage a_o_page a_o_trial a_o_book a_o_kept a_o_isKept a_o_seenSeat a_o_seenWas (0 : Int32) v_o_textSize v_o_place v_o_rows v_o_readRows v_o_doings v_o_seen v_o_seed v_o_found v_o_foundViews v_o_foundMany d_o_many d_o_views d_o_aisles d_o_page d_o_book) := hD
  refine lv_aload_n hx hb dX9_price_5 rfl (lv_at hl 0 rfl) ?_
  refine lv_iload_n hx hb dX9_price_6 rfl (lv_at hl 1 rfl) ?_
  obtain ⟨q1, hq2, hf⟩ := pf_b hf
  have hPc := hP.sub (ws' := (WX9_noRow cI cJ cZ cB a_o a_o_text a_o_many a_o_views a_o_aisles a_o_readMany a_o_readViews a_o_readAisles a_o_readPage a_o_page a_o_trial a_o_book a_o_kept a_o_isKept a_o_seenSeat a_o_seenWas (0 : Int32) v_o_textSize v_o_place v_o_rows v_o_readRows v_o_doings v_o_seen v_o_seed v_o_found v_o_foundViews v_o_foundMany)) [0] rfl
  refine cl_roi (va_runV (As := [.int x1]) (rest := []) ⟨hx, hb, hml, hown, hts⟩ (kX9_noRow l D cI cJ cZ cB a_o a_o_text a_o_many a_o_views a_o_aisles a_o_readMany a_o_readViews a_o_readAisles a_o_readPage a_o_page a_o_trial a_o_book a_o_kept a_o_isKept a_o_seenSeat a_o_seenWas (0 : Int32) v_o_textSize v_o_place v_o_rows v_o_readRows v_o_doings v_o_seen v_o_seed v_o_found v_o_foundViews v_o_foundMany x1 q1 hq2) (cwV 1 hts gX9_price_X9_noRow rfl rfl rfl (by decide +kernel) ⟨Nat.le_of_ble_eq_true rfl, Nat.le_of_ble_eq_true rfl⟩) ⟨PRo.blind, va_recv hK.1 hPc (ci := 9) (q0 := 0) rfl rfl, PRo.at hK hPc⟩ rfl rfl hl.1 rfl (lv_room (Nat.le_of_ble_eq_true rfl)) dX9_price_7 ⟨Nat.zero_le _, Nat.zero_le _⟩) ?_
  refine lv_if_eq (tgt := 15) hx hb dX9_price_10 (by decide) (fun hc => ?_) (fun hc => ?_)
  · have hf := pf_t hc hf
    refine lv_iload_n hx hb dX9_price_15 rfl (lv_at hl 2 rfl) ?_
    refine lv_i2l (v := (x2).toInt64) hx hb dX9_price_16 rfl ?_
    refine lv_lconst (v := (1 : Int64)) hx hb dX9_price_17 (by decide) ?_
    refine lv_ldc2 (v := (9 : Int64)) hx hb hown (hts (.constantLong RX9 183 (9 : Int64)) (by decide +kernel)) dX9_price_18 ?_
    obtain ⟨q3, hq4, hf⟩ := pf_b hf
    have hPc := hP.sub (ws' := ([] : va_W)) [] rfl
    refine cl_roi (va_runS (As := [.long ((x2).toInt64), .long (1 : Int64), .long (9 : Int64)]) (rest := []) ⟨hx, hb, hml, hown, hts⟩ (kX9_in l D cI cJ cZ cB ((x2).toInt64) (1 : Int64) (9 : Int64) q3 hq4) (va_cwS 3 hts gX9_price_X9_in rfl rfl rfl (by decide +kernel) ⟨Nat.le_of_ble_eq_true rfl, Nat.le_of_ble_eq_true rfl⟩) ⟨PRo.blind, PRo.at hK hPc⟩ rfl rfl hl.1 rfl (lv_room (Nat.le_of_ble_eq_true rfl)) dX9_price_21 ⟨Nat.zero_le _, Nat.zero_le _⟩) ?_
    refine lv_if_ne (tgt := 30) hx hb dX9_price_24 (by decide) (fun hc => ?_) (fun hc => ?_)
    · have hf := pf_f hc hf
      refine lv_aload_n hx hb dX9_price_30 rfl (lv_at hl 0 rfl) ?_
      obtain ⟨q5, hq6, hf⟩ := pf_b hf
      have hPc := hP.sub (ws' := (WX9_note cI cJ cZ cB a_o a_o_text a_o_many a_o_views a_o_aisles a_o_readMany a_o_readViews a_o_readAisles a_o_readPage a_o_page a_o_trial a_o_book a_o_kept a_o_isKept a_o_seenSeat a_o_seenWas (0 : Int32) v_o_textSize v_o_place v_o_rows v_o_readRows v_o_doings v_o_seen v_o_seed v_o_found v_o_foundViews v_o_foundMany d_o_page d_o_book)) [0, 4, 5] rfl
      have hDc := hD.sub (ws' := (WX9_note cI cJ cZ cB a_o a_o_text a_o_many a_o_views a_o_aisles a_o_readMany a_o_readViews a_o_readAisles a_o_readPage a_o_page a_o_trial a_o_book a_o_kept a_o_isKept a_o_seenSeat a_o_seenWas (0 : Int32) v_o_textSize v_o_place v_o_rows v_o_readRows v_o_doings v_o_seen v_o_seed v_o_found v_o_foundViews v_o_foundMany d_o_page d_o_book)) [0, 4, 5] (by decide) rfl
      refine cl_rwv (wr := [(a_o_many, .inl (cI, (4, .inl d_o_many))), (a_o_views, .inl (cI, (36, .inl d_o_views))), (a_o_aisles, .inl (cZ, (36, .inl d_o_aisles)))]) (wsN := (WX9_price cI cJ cZ cB a_o a_o_text a_o_many a_o_views a_o_aisles a_o_readMany a_o_readViews a_o_readAisles a_o_readPage a_o_page a_o_trial a_o_book a_o_kept a_o_isKept a_o_seenSeat a_o_seenWas (0 : Int32) v_o_textSize v_o_place v_o_rows v_o_readRows q5.1 v_o_seen v_o_seed v_o_found v_o_foundViews v_o_foundMany d_o_many d_o_views d_o_aisles d_o_page q5.2)) (va_runV (As := []) (rest := []) ⟨hx, hb, hml, hown, hts⟩ ((kX9_note l D cI cJ cZ cB a_o a_o_text a_o_many a_o_views a_o_aisles a_o_readMany a_o_readViews a_o_readAisles a_o_readPage a_o_page a_o_trial a_o_book a_o_kept a_o_isKept a_o_seenSeat a_o_seenWas (0 : Int32) v_o_textSize v_o_place v_o_rows v_o_readRows v_o_doings v_o_seen v_o_seed v_o_found v_o_foundViews v_o_foundMany d_o_page d_o_book q5 hq6) _) (cwV 0 hts gX9_price_X9_note rfl rfl rfl (by decide +kernel) ⟨Nat.le_of_ble_eq_true rfl, Nat.le_of_ble_eq_true rfl⟩) ⟨PRw.blind, va_recv hK.1 hPc (ci := 9) (q0 := 0) rfl rfl, PRw.at hK hPc hDc⟩ rfl rfl hl.1 rfl (lv_room (Nat.le_of_ble_eq_true rfl)) dX9_price_31 ⟨Nat.zero_le _, Nat.zero_le _⟩) hP hD hS hA [0, 4, 5] [1, 2, 3] [3, 0, 1, 2, 4, 5] rfl rfl (by decide) (by decide) rfl (by decide) (fun H locs hP hD hS => ?_)
      refine lv_aload_n hx hb dX9_price_34 rfl (lv_at hl 0 rfl) ?_
      refine va_get (D := D) (ci := 9) (v := .ref a_o_page) (C := RX9) (T := TX9) (N := 26) hx hb hts iX9_price_X9 hown hK.1 hP 0 rfl rfl 13 (by decide) (hts (.fieldLink RX9 35 "LoneSeatsModel" "page" "[I") (by decide +kernel)) (fun _ h9 => h9) rfl dX9_price_35 ?_
      refine lv_iconst (v := (0 : Int32)) hx hb dX9_price_38 (by decide) ?_
      refine lv_iload_n hx hb dX9_price_39 rfl (lv_at hl 1 rfl) ?_
      refine lv_iadd hx hb dX9_price_40 ?_
      obtain ⟨hg7, hf⟩ := pf_x hf
      refine va_iald hx hb hK.1 hP 4 0 rfl rfl hg7 dX9_price_41 ?_
      refine lv_istore_n (lv' := [(3, .int (d_o_page (((0 : Int32) + x1)).toNatClampNeg)), (0, .ref a_o), (1, .int x1), (2, .int x2)]) hx hb dX9_price_42 rfl hl (by decide) rfl (fun ls hl => ?_)
      refine lv_aload_n hx hb dX9_price_43 rfl (lv_at hl 1 rfl) ?_
      refine va_get (D := D) (ci := 9) (v := .ref a_o_page) (C := RX9) (T := TX9) (N := 26) hx hb hts iX9_price_X9 hown hK.1 hP 0 rfl rfl 13 (by decide) (hts (.fieldLink RX9 35 "LoneSeatsModel" "page" "[I") (by decide +kernel)) (fun _ h9 => h9) rfl dX9_price_44 ?_
      refine lv_iconst (v := (0 : Int32)) hx hb dX9_price_47 (by decide) ?_
      refine lv_iload_n hx hb dX9_price_48 rfl (lv_at hl 2 rfl) ?_
      refine lv_iadd hx hb dX9_price_49 ?_
      refine lv_iload_n hx hb dX9_price_50 rfl (lv_at hl 3 rfl) ?_
      obtain ⟨hg8, hf⟩ := pf_x hf
      refine va_iast hx hb hK.1 hP hD hS 4 0 rfl rfl hg8 dX9_price_51 (fun H locs hP hD hS => ?_)
      have hP : va_P D vwCl (WX9_price cI cJ cZ cB a_o a_o_text a_o_many a_o_views a_o_aisles a_o_readMany a_o_readViews a_o_readAisles a_o_readPage a_o_page a_o_trial a_o_book a_o_kept a_o_isKept a_o_seenSeat a_o_seenWas (0 : Int32) v_o_textSize v_o_place v_o_rows v_o_readRows q5.1 v_o_seen v_o_seed v_o_found v_o_foundViews v_o_foundMany d_o_many d_o_views d_o_aisles (upd d_o_page ((((0 : Int32) + x1)).toNatClampNeg) x2) q5.2) H := hP
      have hD : va_D A (WX9_price cI cJ cZ cB a_o a_o_text a_o_many a_o_views a_o_aisles a_o_readMany a_o_readViews a_o_readAisles a_o_readPage a_o_page a_o_trial a_o_book a_o_kept a_o_isKept a_o_seenSeat a_o_seenWas (0 : Int32) v_o_textSize v_o_place v_o_rows v_o_readRows q5.1 v_o_seen v_o_seed v_o_found v_o_foundViews v_o_foundMany d_o_many d_o_views d_o_aisles (upd d_o_page ((((0 : Int32) + x1)).toNatClampNeg) x2) q5.2) := hD
      refine lv_aload_n hx hb dX9_price_52 rfl (lv_at hl 1 rfl) ?_
      refine lv_aload_n hx hb dX9_price_53 rfl (lv_at hl 1 rfl) ?_
      refine va_get (D := D) (ci := 9) (v := .ref a_o_page) (C := RX9) (T := TX9) (N := 26) hx hb hts iX9_price_X9 hown hK.1 hP 0 rfl rfl 13 (by decide) (hts (.fieldLink RX9 35 "LoneSeatsModel" "page" "[I") (by decide +kernel)) (fun _ h9 => h9) rfl dX9_price_54 ?_
      obtain ⟨q9, hq10, hf⟩ := pf_b hf
      have hPc := hP.sub (ws' := (WX9_letInOn cI cJ cZ cB a_o a_o_text a_o_many a_o_views a_o_aisles a_o_readMany a_o_readViews a_o_readAisles a_o_readPage a_o_page a_o_trial a_o_book a_o_kept a_o_isKept a_o_seenSeat a_o_seenWas a_o_page (0 : Int32) v_o_textSize v_o_place v_o_rows v_o_readRows q5.1 v_o_seen v_o_seed v_o_found v_o_foundViews v_o_foundMany d_o_many d_o_views d_o_aisles (upd d_o_page ((((0 : Int32) + x1)).toNatClampNeg) x2))) [0, 1, 2, 3, 4] rfl
      have hDc := hD.sub (ws' := (WX9_letInOn cI cJ cZ cB a_o a_o_text a_o_many a_o_views a_o_aisles a_o_readMany a_o_readViews a_o_readAisles a_o_readPage a_o_page a_o_trial a_o_book a_o_kept a_o_isKept a_o_seenSeat a_o_seenWas a_o_page (0 : Int32) v_o_textSize v_o_place v_o_rows v_o_readRows q5.1 v_o_seen v_o_seed v_o_found v_o_foundViews v_o_foundMany d_o_many d_o_views d_o_aisles (upd d_o_page ((((0 : Int32) + x1)).toNatClampNeg) x2))) [0, 1, 2, 3, 4] (by decide) rfl
      refine cl_rwv (wr := [(a_o_book, .inl (cI, (3206, .inl q5.2)))]) (wsN := (WX9_price cI cJ cZ cB a_o a_o_text a_o_many a_o_views a_o_aisles a_o_readMany a_o_readViews a_o_readAisles a_o_readPage a_o_page a_o_trial a_o_book a_o_kept a_o_isKept a_o_seenSeat a_o_seenWas (0 : Int32) v_o_textSize v_o_place v_o_rows v_o_readRows q5.1 v_o_seen v_o_seed q9.1 q9.2.1 q9.2.2.1 d_o_many d_o_views d_o_aisles q9.2.2.2 q5.2)) (va_runV (As := [.ref a_o_page]) (rest := []) ⟨hx, hb, hml, hown, hts⟩ ((kX9_letInOn l D cI cJ cZ cB a_o a_o_text a_o_many a_o_views a_o_aisles a_o_readMany a_o_readViews a_o_readAisles a_o_readPage a_o_page a_o_trial a_o_book a_o_kept a_o_isKept a_o_seenSeat a_o_seenWas a_o_page (0 : Int32) v_o_textSize v_o_place v_o_rows v_o_readRows q5.1 v_o_seen v_o_seed v_o_found v_o_foundViews v_o_foundMany d_o_many d_o_views d_o_aisles (upd d_o_page ((((0 : Int32) + x1)).toNatClampNeg) x2) q9 hq10) _) (cwV 1 hts gX9_price_X9_letInOn rfl rfl rfl (by decide +kernel) ⟨Nat.le_of_ble_eq_true rfl, Nat.le_of_ble_eq_true rfl⟩) ⟨PRw.blind, va_recv hK.1 hPc (ci := 9) (q0 := 0) rfl rfl, PRw.at hK hPc hDc⟩ rfl rfl hl.1 rfl (lv_room (Nat.le_of_ble_eq_true rfl)) dX9_price_57 ⟨Nat.zero_le _, Nat.zero_le _⟩) hP hD hS hA [0, 1, 2, 3, 4] [5] [1, 2, 3, 4, 5, 0] rfl rfl (by decide) (by decide) rfl (by decide) (fun H locs hP hD hS => ?_)
      refine lv_iload_n hx hb dX9_price_60 rfl (lv_at hl 0 rfl) ?_
      cases hf
      exact W.iret hx hb hr (fun t ht hW => ⟨⟨rfl, by rw [ht]; exact hP, hD⟩, hS.F ht⟩) hS.2.2 dX9_price_61
    · have hf := pf_t hc hf
      refine lv_bipush (v := (-2 : Int32)) hx hb dX9_price_27 (by decide) ?_
      cases hf
      exact W.iret hx hb hr (fun t ht hW => ⟨⟨rfl, by rw [ht]; exact hP, hD⟩, hS.F ht⟩) hS.2.2 dX9_price_29
  · have hf := pf_f hc hf
    refine lv_iconst (v := (-1 : Int32)) hx hb dX9_price_13 (by decide) ?_
    cases hf
    exact W.iret hx hb hr (fun t ht hW => ⟨⟨rfl, by rw [ht]; exact hP, hD⟩, hS.F ht⟩) hS.2.2 dX9_price_14
abbrev WX9_fee (cI cJ cZ cB : ClassId) (a_o : Nat) (a_o_text : Nat) (a_o_many : Nat) (a_o_views : Nat) (a_o_aisles : Nat) (a_o_readMany : Nat) (a_o_readViews : Nat) (a_o_readAisles : Nat) (a_o_readPage : Nat) (a_o_page : Nat) (a_o_trial : Nat) (a_o_book : Nat) (a_o_kept : Nat) (a_o_isKept : Nat) (a_o_seenSeat : Nat) (a_o_seenWas : Nat) (v_o_thrown : Int32) (v_o_textSize : Int32) (v_o_place : Int32) (v_o_rows : Int32) (v_o_readRows : Int32) (v_o_doings : Int32) (v_o_seen : Int32) (v_o_seed : Int64) (v_o_found : Int32) (v_o_foundViews : Int32) (v_o_foundMany : Int32) (d_o_page : (Nat → Int32)) (d_o_book : (Nat → Int32)) : va_W := [(a_o, .inr (9, [.int v_o_thrown, .ref a_o_text, .int v_o_textSize, .int v_o_place, .int v_o_rows, .ref a_o_many, .ref a_o_views, .ref a_o_aisles, .int v_o_readRows, .ref a_o_readMany, .ref a_o_readViews, .ref a_o_readAisles, .ref a_o_readPage, .ref a_o_page, .ref a_o_trial, .ref a_o_book, .int v_o_doings, .ref a_o_kept, .ref a_o_isKept, .int v_o_seen, .ref a_o_seenSeat, .ref a_o_seenWas, .long v_o_seed, .int v_o_found, .int v_o_foundViews, .int v_o_foundMany])), (a_o_page, .inl (cI, (229, .inl d_o_page))), (a_o_book, .inl (cI, (3206, .inl d_o_book)))]
set_option maxRecDepth 20000 in
theorem iX9_fee_X9 : ∀ w ∈ wsX90, w ∈ wsX9_fee := by decide +kernel
def fX9_fee (v_o_thrown : Int32) (v_o_doings : Int32) (d_o_page : (Nat → Int32)) (d_o_book : (Nat → Int32)) (x1 : Int32) : Option (Int32 × Int32 × Int32 × (Nat → Int32) × (Nat → Int32)) := ((fX9_in ((x1).toInt64) (0 : Int64) (9 : Int64)).bind fun q1 => (if q1 = 0 then some ((-2 : Int32), (0 : Int32), v_o_doings, d_o_page, d_o_book) else ((fX9_note v_o_doings d_o_page d_o_book).bind fun q3 => some ((d_o_page ((4 : Int32)).toNatClampNeg), (0 : Int32), q3.1, (upd d_o_page (((4 : Int32)).toNatClampNeg) x1), q3.2))))
set_option maxRecDepth 100000 in
set_option maxHeartbeats 4000000 in
theorem kX9_fee (l : Launch) (D : va_G) (cI cJ cZ cB : ClassId) (a_o : Nat) (a_o_text : Nat) (a_o_many : Nat) (a_o_views : Nat) (a_o_aisles : Nat) (a_o_readMany : Nat) (a_o_readViews : Nat) (a_o_readAisles : Nat) (a_o_readPage : Nat) (a_o_page : Nat) (a_o_trial : Nat) (a_o_book : Nat) (a_o_kept : Nat) (a_o_isKept : Nat) (a_o_seenSeat : Nat) (a_o_seenWas : Nat) (v_o_thrown : Int32) (v_o_textSize : Int32) (v_o_place : Int32) (v_o_rows : Int32) (v_o_readRows : Int32) (v_o_doings : Int32) (v_o_seen : Int32) (v_o_seed : Int64) (v_o_found : Int32) (v_o_foundViews : Int32) (v_o_foundMany : Int32) (d_o_page : (Nat → Int32)) (d_o_book : (Nat → Int32)) (x1 : Int32) (res : Int32 × Int32 × Int32 × (Nat → Int32) × (Nat → Int32)) (hf : fX9_fee v_o_thrown v_o_doings d_o_page d_o_book x1 = some res) : Rw l yX9_fee wsX9_fee ({ frames := 1, cells := 0, slots := 0, locals := 25 } : Room) D (tyL cI cJ cZ cB) [.ref a_o, .int x1] (WX9_fee cI cJ cZ cB a_o a_o_text a_o_many a_o_views a_o_aisles a_o_readMany a_o_readViews a_o_readAisles a_o_readPage a_o_page a_o_trial a_o_book a_o_kept a_o_isKept a_o_seenSeat a_o_seenWas v_o_thrown v_o_textSize v_o_place v_o_rows v_o_readRows v_o_doings v_o_seen v_o_seed v_o_found v_o_foundViews v_o_foundMany d_o_page d_o_book) (some (.int res.1)) (WX9_fee cI cJ cZ cB a_o a_o_text a_o_many a_o_views a_o_aisles a_o_readMany a_o_readViews a_o_readAisles a_o_readPage a_o_page a_o_trial a_o_book a_o_kept a_o_isKept a_o_seenSeat a_o_seenWas res.2.1 v_o_textSize v_o_place v_o_rows v_o_readRows res.2.2.1 v_o_seen v_o_seed v_o_found v_o_foundViews v_o_foundMany res.2.2.2.1 res.2.2.2.2) := by
  refine Rw.of (cc := cX9_fee) (maxL := 3) (ret := (some .int)) (own := RX9) (by decide) rfl rfl (Nat.le_of_ble_eq_true rfl) ?_
  intro p e s m below meth c A ls C hK hA hP hD hS hl
  obtain ⟨hx, hb, hr, hml, hts, hown, hlk⟩ := id C
  have hl : lv_has ls 3 [(0, .ref a_o), (1, .int x1)] := hl
  unfold fX9_fee at hf
  refine lv_aload_n hx hb dX9_fee_0 rfl (lv_at hl 0 rfl) ?_
  refine lv_iconst (v := (0 : Int32)) hx hb dX9_fee_1 (by decide) ?_
  refine va_put (D := D) (ci := 9) (v := .int (0 : Int32)) (ty := .int) (C := RX9) (T := TX9) (N := 26) hx hb hts iX9_fee_X9 tyX9 tyX9_ok nmX9 hown hK.1 hP hD hS 0 rfl rfl 0 (by decide) (hts (.fieldLink RX9 60 "LoneSeatsModel" "thrown" "I") (by decide +kernel)) (fun _ h9 => h9) rfl (by decide +kernel) rfl rfl (Nat.le_of_ble_eq_true rfl) dX9_fee_2 (fun H locs hP hD hS => ?_)
  have hP : va_P D vwCl (WX9_fee cI cJ cZ cB a_o a_o_text a_o_many a_o_views a_o_aisles a_o_readMany a_o_readViews a_o_readAisles a_o_readPage a_o_page a_o_trial a_o_book a_o_kept a_o_isKept a_o_seenSeat a_o_seenWas (0 : Int32) v_o_textSize v_o_place v_o_rows v_o_readRows v_o_doings v_o_seen v_o_seed v_o_found v_o_foundViews v_o_foundMany d_o_page d_o_book) H := hP
  have hD : va_D A (WX9_fee cI cJ cZ cB a_o a_o_text a_o_many a_o_views a_o_aisles a_o_readMany a_o_readViews a_o_readAisles a_o_readPage a_o_page a_o_trial a_o_book a_o_kept a_o_isKept a_o_seenSeat a_o_seenWas (0 : Int32) v_o_textSize v_o_place v_o_rows v_o_readRows v_o_doings v_o_seen v_o_seed v_o_found v_o_foundViews v_o_foundMany d_o_page d_o_book) := hD
  refine lv_iload_n hx hb dX9_fee_5 rfl (lv_at hl 1 rfl) ?_
  refine lv_i2l (v := (x1).toInt64) hx hb dX9_fee_6 rfl ?_
  refine lv_lconst (v := (0 : Int64)) hx hb dX9_fee_7 (by decide) ?_
  refine lv_ldc2 (v := (9 : Int64)) hx hb hown (hts (.constantLong RX9 183 (9 : Int64)) (by decide +kernel)) dX9_fee_8 ?_
  obtain ⟨q1, hq2, hf⟩ := pf_b hf
  have hPc := hP.sub (ws' := ([] : va_W)) [] rfl
  refine cl_roi (va_runS (As := [.long ((x1).toInt64), .long (0 : Int64), .long (9 : Int64)]) (rest := []) ⟨hx, hb, hml, hown, hts⟩ (kX9_in l D cI cJ cZ cB ((x1).toInt64) (0 : Int64) (9 : Int64) q1 hq2) (va_cwS 3 hts gX9_fee_X9_in rfl rfl rfl (by decide +kernel) ⟨Nat.le_of_ble_eq_true rfl, Nat.le_of_ble_eq_true rfl⟩) ⟨PRo.blind, PRo.at hK hPc⟩ rfl rfl hl.1 rfl (lv_room (Nat.le_of_ble_eq_true rfl)) dX9_fee_11 ⟨Nat.zero_le _, Nat.zero_le _⟩) ?_
  refine lv_if_ne (tgt := 20) hx hb dX9_fee_14 (by decide) (fun hc => ?_) (fun hc => ?_)
  · have hf := pf_f hc hf
    refine lv_aload_n hx hb dX9_fee_20 rfl (lv_at hl 0 rfl) ?_
    obtain ⟨q3, hq4, hf⟩ := pf_b hf
    have hPc := hP.sub (ws' := (WX9_note cI cJ cZ cB a_o a_o_text a_o_many a_o_views a_o_aisles a_o_readMany a_o_readViews a_o_readAisles a_o_readPage a_o_page a_o_trial a_o_book a_o_kept a_o_isKept a_o_seenSeat a_o_seenWas (0 : Int32) v_o_textSize v_o_place v_o_rows v_o_readRows v_o_doings v_o_seen v_o_seed v_o_found v_o_foundViews v_o_foundMany d_o_page d_o_book)) [0, 1, 2] rfl
    have hDc := hD.sub (ws' := (WX9_note cI cJ cZ cB a_o a_o_text a_o_many a_o_views a_o_aisles a_o_readMany a_o_readViews a_o_readAisles a_o_readPage a_o_page a_o_trial a_o_book a_o_kept a_o_isKept a_o_seenSeat a_o_seenWas (0 : Int32) v_o_textSize v_o_place v_o_rows v_o_readRows v_o_doings v_o_seen v_o_seed v_o_found v_o_foundViews v_o_foundMany d_o_page d_o_book)) [0, 1, 2] (by decide) rfl
    refine cl_rwv (wr := []) (wsN := (WX9_fee cI cJ cZ cB a_o a_o_text a_o_many a_o_views a_o_aisles a_o_readMany a_o_readViews a_o_readAisles a_o_readPage a_o_page a_o_trial a_o_book a_o_kept a_o_isKept a_o_seenSeat a_o_seenWas (0 : Int32) v_o_textSize v_o_place v_o_rows v_o_readRows q3.1 v_o_seen v_o_seed v_o_found v_o_foundViews v_o_foundMany d_o_page q3.2)) (va_runV (As := []) (rest := []) ⟨hx, hb, hml, hown, hts⟩ ((kX9_note l D cI cJ cZ cB a_o a_o_text a_o_many a_o_views a_o_aisles a_o_readMany a_o_readViews a_o_readAisles a_o_readPage a_o_page a_o_trial a_o_book a_o_kept a_o_isKept a_o_seenSeat a_o_seenWas (0 : Int32) v_o_textSize v_o_place v_o_rows v_o_readRows v_o_doings v_o_seen v_o_seed v_o_found v_o_foundViews v_o_foundMany d_o_page d_o_book q3 hq4) _) (cwV 0 hts gX9_fee_X9_note rfl rfl rfl (by decide +kernel) ⟨Nat.le_of_ble_eq_true rfl, Nat.le_of_ble_eq_true rfl⟩) ⟨PRw.blind, va_recv hK.1 hPc (ci := 9) (q0 := 0) rfl rfl, PRw.at hK hPc hDc⟩ rfl rfl hl.1 rfl (lv_room (Nat.le_of_ble_eq_true rfl)) dX9_fee_21 ⟨Nat.zero_le _, Nat.zero_le _⟩) hP hD hS hA [0, 1, 2] [] [0, 1, 2] rfl rfl (by decide) (by decide) rfl (by decide) (fun H locs hP hD hS => ?_)
    refine lv_aload_n hx hb dX9_fee_24 rfl (lv_at hl 0 rfl) ?_
    refine va_get (D := D) (ci := 9) (v := .ref a_o_page) (C := RX9) (T := TX9) (N := 26) hx hb hts iX9_fee_X9 hown hK.1 hP 0 rfl rfl 13 (by decide) (hts (.fieldLink RX9 35 "LoneSeatsModel" "page" "[I") (by decide +kernel)) (fun _ h9 => h9) rfl dX9_fee_25 ?_
    refine lv_iconst (v := (4 : Int32)) hx hb dX9_fee_28 (by decide) ?_
    refine va_iald hx hb hK.1 hP 1 0 rfl rfl (show ¬ ((4 : Int32) < 0 ∨ 229 ≤ ((4 : Int32)).toNatClampNeg) by decide) dX9_fee_29 ?_
    refine lv_istore_n (lv' := [(2, .int (d_o_page ((4 : Int32)).toNatClampNeg)), (0, .ref a_o), (1, .int x1)]) hx hb dX9_fee_30 rfl hl (by decide) rfl (fun ls hl => ?_)
    refine lv_aload_n hx hb dX9_fee_31 rfl (lv_at hl 1 rfl) ?_
    refine va_get (D := D) (ci := 9) (v := .ref a_o_page) (C := RX9) (T := TX9) (N := 26) hx hb hts iX9_fee_X9 hown hK.1 hP 0 rfl rfl 13 (by decide) (hts (.fieldLink RX9 35 "LoneSeatsModel" "page" "[I") (by decide +kernel)) (fun _ h9 => h9) rfl dX9_fee_32 ?_
    refine lv_iconst (v := (4 : Int32)) hx hb dX9_fee_35 (by decide) ?_
    refine lv_iload_n hx hb dX9_fee_36 rfl (lv_at hl 2 rfl) ?_
    refine va_iast hx hb hK.1 hP hD hS 1 0 rfl rfl (show ¬ ((4 : Int32) < 0 ∨ 229 ≤ ((4 : Int32)).toNatClampNeg) by decide) dX9_fee_37 (fun H locs hP hD hS => ?_)
    have hP : va_P D vwCl (WX9_fee cI cJ cZ cB a_o a_o_text a_o_many a_o_views a_o_aisles a_o_readMany a_o_readViews a_o_readAisles a_o_readPage a_o_page a_o_trial a_o_book a_o_kept a_o_isKept a_o_seenSeat a_o_seenWas (0 : Int32) v_o_textSize v_o_place v_o_rows v_o_readRows q3.1 v_o_seen v_o_seed v_o_found v_o_foundViews v_o_foundMany (upd d_o_page (((4 : Int32)).toNatClampNeg) x1) q3.2) H := hP
    have hD : va_D A (WX9_fee cI cJ cZ cB a_o a_o_text a_o_many a_o_views a_o_aisles a_o_readMany a_o_readViews a_o_readAisles a_o_readPage a_o_page a_o_trial a_o_book a_o_kept a_o_isKept a_o_seenSeat a_o_seenWas (0 : Int32) v_o_textSize v_o_place v_o_rows v_o_readRows q3.1 v_o_seen v_o_seed v_o_found v_o_foundViews v_o_foundMany (upd d_o_page (((4 : Int32)).toNatClampNeg) x1) q3.2) := hD
    refine lv_iload_n hx hb dX9_fee_38 rfl (lv_at hl 0 rfl) ?_
    cases hf
    exact W.iret hx hb hr (fun t ht hW => ⟨⟨rfl, by rw [ht]; exact hP, hD⟩, hS.F ht⟩) hS.2.2 dX9_fee_39
  · have hf := pf_t hc hf
    refine lv_bipush (v := (-2 : Int32)) hx hb dX9_fee_17 (by decide) ?_
    cases hf
    exact W.iret hx hb hr (fun t ht hW => ⟨⟨rfl, by rw [ht]; exact hP, hD⟩, hS.F ht⟩) hS.2.2 dX9_fee_19
abbrev WX9_undo (cI cJ cZ cB : ClassId) (a_o : Nat) (a_o_text : Nat) (a_o_many : Nat) (a_o_views : Nat) (a_o_aisles : Nat) (a_o_readMany : Nat) (a_o_readViews : Nat) (a_o_readAisles : Nat) (a_o_readPage : Nat) (a_o_page : Nat) (a_o_trial : Nat) (a_o_book : Nat) (a_o_kept : Nat) (a_o_isKept : Nat) (a_o_seenSeat : Nat) (a_o_seenWas : Nat) (v_o_thrown : Int32) (v_o_textSize : Int32) (v_o_place : Int32) (v_o_rows : Int32) (v_o_readRows : Int32) (v_o_doings : Int32) (v_o_seen : Int32) (v_o_seed : Int64) (v_o_found : Int32) (v_o_foundViews : Int32) (v_o_foundMany : Int32) (d_o_page : (Nat → Int32)) (d_o_book : (Nat → Int32)) : va_W := [(a_o, .inr (9, [.int v_o_thrown, .ref a_o_text, .int v_o_textSize, .int v_o_place, .int v_o_rows, .ref a_o_many, .ref a_o_views, .ref a_o_aisles, .int v_o_readRows, .ref a_o_readMany, .ref a_o_readViews, .ref a_o_readAisles, .ref a_o_readPage, .ref a_o_page, .ref a_o_trial, .ref a_o_book, .int v_o_doings, .ref a_o_kept, .ref a_o_isKept, .int v_o_seen, .ref a_o_seenSeat, .ref a_o_seenWas, .long v_o_seed, .int v_o_found, .int v_o_foundViews, .int v_o_foundMany])), (a_o_page, .inl (cI, (229, .inl d_o_page))), (a_o_book, .inl (cI, (3206, .inl d_o_book)))]
set_option maxRecDepth 20000 in
theorem iX9_undo_X9 : ∀ w ∈ wsX90, w ∈ wsX9_undo := by decide +kernel
def fX9_undo_27 : Nat → Int32 → Int32 → (Nat → Int32) → (Nat → Int32) → Int32 → Option (Int32 × Int32 × Int32 × (Nat → Int32))
  | 0, _, _, _, _, _ => none
  | n + 1, v_o_thrown, v_o_doings, d_o_page, d_o_book, x1 => (if (229 : Int32) ≤ x1 then some (v_o_doings, v_o_thrown, v_o_doings, d_o_page) else (if (((229 : Int32) * v_o_doings) + x1) < 0 ∨ 3206 ≤ ((((229 : Int32) * v_o_doings) + x1)).toNatClampNeg then none else (if x1 < 0 ∨ 229 ≤ (x1).toNatClampNeg then none else fX9_undo_27 n v_o_thrown v_o_doings (upd d_o_page ((x1).toNatClampNeg) (d_o_book ((((229 : Int32) * v_o_doings) + x1)).toNatClampNeg)) d_o_book (x1 + (1 : Int32)))))
set_option maxRecDepth 100000 in
set_option maxHeartbeats 4000000 in
theorem tX9_undo_27 {p : Program} {l : Launch} {e : Env} {s : State} {m : MethodId} {args : Array Value} {below : List Frame} {meth : Method} {c : Code} {D : va_G} {cI cJ cZ cB : ClassId} {a_o : Nat} {a_o_text : Nat} {a_o_many : Nat} {a_o_views : Nat} {a_o_aisles : Nat} {a_o_readMany : Nat} {a_o_readViews : Nat} {a_o_readAisles : Nat} {a_o_readPage : Nat} {a_o_page : Nat} {a_o_trial : Nat} {a_o_book : Nat} {a_o_kept : Nat} {a_o_isKept : Nat} {a_o_seenSeat : Nat} {a_o_seenWas : Nat} {A : Nat → Prop} (C : Cx p s m args meth c cX9_undo 2 (some .int) wsX9_undo RX9) (hK : Kw D (tyL cI cJ cZ cB) s) (hA : ∀ q : Nat, s.heap.size ≤ q → A q) : ∀ (n : Nat), ∀ (v_o_thrown : Int32) (v_o_textSize : Int32) (v_o_place : Int32) (v_o_rows : Int32) (v_o_readRows : Int32) (v_o_doings : Int32) (v_o_seen : Int32) (v_o_seed : Int64) (v_o_found : Int32) (v_o_foundViews : Int32) (v_o_foundMany : Int32) (d_o_page : (Nat → Int32)) (d_o_book : (Nat → Int32)) (x1 : Int32) (H : Heap) (locs : List Loc) (ls : Array Slot) (res : Int32 × Int32 × Int32 × (Nat → Int32)), va_P D vwCl (WX9_undo cI cJ cZ cB a_o a_o_text a_o_many a_o_views a_o_aisles a_o_readMany a_o_readViews a_o_readAisles a_o_readPage a_o_page a_o_trial a_o_book a_o_kept a_o_isKept a_o_seenSeat a_o_seenWas v_o_thrown v_o_textSize v_o_place v_o_rows v_o_readRows v_o_doings v_o_seen v_o_seed v_o_found v_o_foundViews v_o_foundMany d_o_page d_o_book) H → va_D A (WX9_undo cI cJ cZ cB a_o a_o_text a_o_many a_o_views a_o_aisles a_o_readMany a_o_readViews a_o_readAisles a_o_readPage a_o_page a_o_trial a_o_book a_o_kept a_o_isKept a_o_seenSeat a_o_seenWas v_o_thrown v_o_textSize v_o_place v_o_rows v_o_readRows v_o_doings v_o_seen v_o_seed v_o_found v_o_foundViews v_o_foundMany d_o_page d_o_book) → va_S A s.heap H locs → lv_has ls 2 [(0, .ref a_o), (1, .int x1)] → fX9_undo_27 n v_o_thrown v_o_doings d_o_page d_o_book x1 = some res → W p l e ({ frames := 0, cells := 0, slots := 0, locals := 0 } : Room) s m args below meth c H locs 0 0 (MQ below (QRw D A (WX9_undo cI cJ cZ cB a_o a_o_text a_o_many a_o_views a_o_aisles a_o_readMany a_o_readViews a_o_readAisles a_o_readPage a_o_page a_o_trial a_o_book a_o_kept a_o_isKept a_o_seenSeat a_o_seenWas res.2.1 v_o_textSize v_o_place v_o_rows v_o_readRows res.2.2.1 v_o_seen v_o_seed v_o_found v_o_foundViews v_o_foundMany res.2.2.2 d_o_book) (some (.int res.1))) args s 0 0 A) (F0 m 27 ls []) := by
  obtain ⟨hx, hb, hr, hml, hts, hown, hlk⟩ := id C
  intro n
  induction n with
  | zero =>
    intro v_o_thrown v_o_textSize v_o_place v_o_rows v_o_readRows v_o_doings v_o_seen v_o_seed v_o_found v_o_foundViews v_o_foundMany d_o_page d_o_book x1 H locs ls res hP hD hS hl hf
    rw [fX9_undo_27] at hf
    cases hf
  | succ n ih =>
    intro v_o_thrown v_o_textSize v_o_place v_o_rows v_o_readRows v_o_doings v_o_seen v_o_seed v_o_found v_o_foundViews v_o_foundMany d_o_page d_o_book x1 H locs ls res hP hD hS hl hf
    rw [fX9_undo_27] at hf
    refine lv_iload_n hx hb dX9_undo_27 rfl (lv_at hl 1 rfl) ?_
    refine lv_sipush (v := (229 : Int32)) hx hb dX9_undo_28 (by decide) ?_
    refine lv_icmp_ge (tgt := 61) hx hb dX9_undo_31 (by decide) (fun hc => ?_) (fun hc => ?_)
    · have hf := pf_t hc hf
      refine lv_aload_n hx hb dX9_undo_61 rfl (lv_at hl 0 rfl) ?_
      refine va_get (D := D) (ci := 9) (v := .int v_o_doings) (C := RX9) (T := TX9) (N := 26) hx hb hts iX9_undo_X9 hown hK.1 hP 0 rfl rfl 16 (by decide) (hts (.fieldLink RX9 105 "LoneSeatsModel" "doings" "I") (by decide +kernel)) (fun _ h9 => h9) rfl dX9_undo_62 ?_
      cases hf
      exact W.iret hx hb hr (fun t ht hW => ⟨⟨rfl, by rw [ht]; exact hP, hD⟩, hS.F ht⟩) hS.2.2 dX9_undo_65
    · have hf := pf_f hc hf
      refine lv_aload_n hx hb dX9_undo_34 rfl (lv_at hl 0 rfl) ?_
      refine va_get (D := D) (ci := 9) (v := .ref a_o_page) (C := RX9) (T := TX9) (N := 26) hx hb hts iX9_undo_X9 hown hK.1 hP 0 rfl rfl 13 (by decide) (hts (.fieldLink RX9 35 "LoneSeatsModel" "page" "[I") (by decide +kernel)) (fun _ h9 => h9) rfl dX9_undo_35 ?_
      refine lv_iload_n hx hb dX9_undo_38 rfl (lv_at hl 1 rfl) ?_
      refine lv_aload_n hx hb dX9_undo_39 rfl (lv_at hl 0 rfl) ?_
      refine va_get (D := D) (ci := 9) (v := .ref a_o_book) (C := RX9) (T := TX9) (N := 26) hx hb hts iX9_undo_X9 hown hK.1 hP 0 rfl rfl 15 (by decide) (hts (.fieldLink RX9 41 "LoneSeatsModel" "book" "[I") (by decide +kernel)) (fun _ h9 => h9) rfl dX9_undo_40 ?_
      refine lv_sipush (v := (229 : Int32)) hx hb dX9_undo_43 (by decide) ?_
      refine lv_aload_n hx hb dX9_undo_46 rfl (lv_at hl 0 rfl) ?_
      refine va_get (D := D) (ci := 9) (v := .int v_o_doings) (C := RX9) (T := TX9) (N := 26) hx hb hts iX9_undo_X9 hown hK.1 hP 0 rfl rfl 16 (by decide) (hts (.fieldLink RX9 105 "LoneSeatsModel" "doings" "I") (by decide +kernel)) (fun _ h9 => h9) rfl dX9_undo_47 ?_
      refine lv_imul hx hb dX9_undo_50 ?_
      refine lv_iload_n hx hb dX9_undo_51 rfl (lv_at hl 1 rfl) ?_
      refine lv_iadd hx hb dX9_undo_52 ?_
      obtain ⟨hg1, hf⟩ := pf_x hf
      refine va_iald hx hb hK.1 hP 2 0 rfl rfl hg1 dX9_undo_53 ?_
      obtain ⟨hg2, hf⟩ := pf_x hf
      refine va_iast hx hb hK.1 hP hD hS 1 0 rfl rfl hg2 dX9_undo_54 (fun H locs hP hD hS => ?_)
      have hP : va_P D vwCl (WX9_undo cI cJ cZ cB a_o a_o_text a_o_many a_o_views a_o_aisles a_o_readMany a_o_readViews a_o_readAisles a_o_readPage a_o_page a_o_trial a_o_book a_o_kept a_o_isKept a_o_seenSeat a_o_seenWas v_o_thrown v_o_textSize v_o_place v_o_rows v_o_readRows v_o_doings v_o_seen v_o_seed v_o_found v_o_foundViews v_o_foundMany (upd d_o_page ((x1).toNatClampNeg) (d_o_book ((((229 : Int32) * v_o_doings) + x1)).toNatClampNeg)) d_o_book) H := hP
      have hD : va_D A (WX9_undo cI cJ cZ cB a_o a_o_text a_o_many a_o_views a_o_aisles a_o_readMany a_o_readViews a_o_readAisles a_o_readPage a_o_page a_o_trial a_o_book a_o_kept a_o_isKept a_o_seenSeat a_o_seenWas v_o_thrown v_o_textSize v_o_place v_o_rows v_o_readRows v_o_doings v_o_seen v_o_seed v_o_found v_o_foundViews v_o_foundMany (upd d_o_page ((x1).toNatClampNeg) (d_o_book ((((229 : Int32) * v_o_doings) + x1)).toNatClampNeg)) d_o_book) := hD
      refine lv_iinc (v := (x1 + (1 : Int32))) (lv' := [(1, .int (x1 + (1 : Int32))), (0, .ref a_o)]) hx hb dX9_undo_55 hl (k := 1) rfl rfl (by decide) rfl (fun ls hl => ?_)
      refine lv_goto (tgt := 27) hx hb dX9_undo_58 (by decide) ?_
      exact ih v_o_thrown v_o_textSize v_o_place v_o_rows v_o_readRows v_o_doings v_o_seen v_o_seed v_o_found v_o_foundViews v_o_foundMany (upd d_o_page ((x1).toNatClampNeg) (d_o_book ((((229 : Int32) * v_o_doings) + x1)).toNatClampNeg)) d_o_book (x1 + (1 : Int32)) _ _ ls _ hP hD hS (lv_sub hl [1, 0] rfl) hf
def fX9_undo (v_o_thrown : Int32) (v_o_doings : Int32) (d_o_page : (Nat → Int32)) (d_o_book : (Nat → Int32)) : Option (Int32 × Int32 × Int32 × (Nat → Int32)) := (if v_o_doings = 0 then some ((-3 : Int32), (0 : Int32), v_o_doings, d_o_page) else fX9_undo_27 FU (0 : Int32) (v_o_doings - (1 : Int32)) d_o_page d_o_book (0 : Int32))
set_option maxRecDepth 100000 in
set_option maxHeartbeats 4000000 in
theorem kX9_undo (l : Launch) (D : va_G) (cI cJ cZ cB : ClassId) (a_o : Nat) (a_o_text : Nat) (a_o_many : Nat) (a_o_views : Nat) (a_o_aisles : Nat) (a_o_readMany : Nat) (a_o_readViews : Nat) (a_o_readAisles : Nat) (a_o_readPage : Nat) (a_o_page : Nat) (a_o_trial : Nat) (a_o_book : Nat) (a_o_kept : Nat) (a_o_isKept : Nat) (a_o_seenSeat : Nat) (a_o_seenWas : Nat) (v_o_thrown : Int32) (v_o_textSize : Int32) (v_o_place : Int32) (v_o_rows : Int32) (v_o_readRows : Int32) (v_o_doings : Int32) (v_o_seen : Int32) (v_o_seed : Int64) (v_o_found : Int32) (v_o_foundViews : Int32) (v_o_foundMany : Int32) (d_o_page : (Nat → Int32)) (d_o_book : (Nat → Int32)) (res : Int32 × Int32 × Int32 × (Nat → Int32)) (hf : fX9_undo v_o_thrown v_o_doings d_o_page d_o_book = some res) : Rw l yX9_undo wsX9_undo ({ frames := 0, cells := 0, slots := 0, locals := 0 } : Room) D (tyL cI cJ cZ cB) [.ref a_o] (WX9_undo cI cJ cZ cB a_o a_o_text a_o_many a_o_views a_o_aisles a_o_readMany a_o_readViews a_o_readAisles a_o_readPage a_o_page a_o_trial a_o_book a_o_kept a_o_isKept a_o_seenSeat a_o_seenWas v_o_thrown v_o_textSize v_o_place v_o_rows v_o_readRows v_o_doings v_o_seen v_o_seed v_o_found v_o_foundViews v_o_foundMany d_o_page d_o_book) (some (.int res.1)) (WX9_undo cI cJ cZ cB a_o a_o_text a_o_many a_o_views a_o_aisles a_o_readMany a_o_readViews a_o_readAisles a_o_readPage a_o_page a_o_trial a_o_book a_o_kept a_o_isKept a_o_seenSeat a_o_seenWas res.2.1 v_o_textSize v_o_place v_o_rows v_o_readRows res.2.2.1 v_o_seen v_o_seed v_o_found v_o_foundViews v_o_foundMany res.2.2.2 d_o_book) := by
  refine Rw.of (cc := cX9_undo) (maxL := 2) (ret := (some .int)) (own := RX9) (by decide) rfl rfl (Nat.le_of_ble_eq_true rfl) ?_
  intro p e s m below meth c A ls C hK hA hP hD hS hl
  obtain ⟨hx, hb, hr, hml, hts, hown, hlk⟩ := id C
  have hl : lv_has ls 2 [(0, .ref a_o)] := hl
  unfold fX9_undo at hf
  refine lv_aload_n hx hb dX9_undo_0 rfl (lv_at hl 0 rfl) ?_
  refine lv_iconst (v := (0 : Int32)) hx hb dX9_undo_1 (by decide) ?_
  refine va_put (D := D) (ci := 9) (v := .int (0 : Int32)) (ty := .int) (C := RX9) (T := TX9) (N := 26) hx hb hts iX9_undo_X9 tyX9 tyX9_ok nmX9 hown hK.1 hP hD hS 0 rfl rfl 0 (by decide) (hts (.fieldLink RX9 60 "LoneSeatsModel" "thrown" "I") (by decide +kernel)) (fun _ h9 => h9) rfl (by decide +kernel) rfl rfl (Nat.le_of_ble_eq_true rfl) dX9_undo_2 (fun H locs hP hD hS => ?_)
  have hP : va_P D vwCl (WX9_undo cI cJ cZ cB a_o a_o_text a_o_many a_o_views a_o_aisles a_o_readMany a_o_readViews a_o_readAisles a_o_readPage a_o_page a_o_trial a_o_book a_o_kept a_o_isKept a_o_seenSeat a_o_seenWas (0 : Int32) v_o_textSize v_o_place v_o_rows v_o_readRows v_o_doings v_o_seen v_o_seed v_o_found v_o_foundViews v_o_foundMany d_o_page d_o_book) H := hP
  have hD : va_D A (WX9_undo cI cJ cZ cB a_o a_o_text a_o_many a_o_views a_o_aisles a_o_readMany a_o_readViews a_o_readAisles a_o_readPage a_o_page a_o_trial a_o_book a_o_kept a_o_isKept a_o_seenSeat a_o_seenWas (0 : Int32) v_o_textSize v_o_place v_o_rows v_o_readRows v_o_doings v_o_seen v_o_seed v_o_found v_o_foundViews v_o_foundMany d_o_page d_o_book) := hD
  refine lv_aload_n hx hb dX9_undo_5 rfl (lv_at hl 0 rfl) ?_
  refine va_get (D := D) (ci := 9) (v := .int v_o_doings) (C := RX9) (T := TX9) (N := 26) hx hb hts iX9_undo_X9 hown hK.1 hP 0 rfl rfl 16 (by decide) (hts (.fieldLink RX9 105 "LoneSeatsModel" "doings" "I") (by decide +kernel)) (fun _ h9 => h9) rfl dX9_undo_6 ?_
  refine lv_if_ne (tgt := 15) hx hb dX9_undo_9 (by decide) (fun hc => ?_) (fun hc => ?_)
  · have hf := pf_f hc hf
    refine lv_aload_n hx hb dX9_undo_15 rfl (lv_at hl 0 rfl) ?_
    refine lv_dup hx hb dX9_undo_16 rfl ?_
    refine va_get (D := D) (ci := 9) (v := .int v_o_doings) (C := RX9) (T := TX9) (N := 26) hx hb hts iX9_undo_X9 hown hK.1 hP 0 rfl rfl 16 (by decide) (hts (.fieldLink RX9 105 "LoneSeatsModel" "doings" "I") (by decide +kernel)) (fun _ h9 => h9) rfl dX9_undo_17 ?_
    refine lv_iconst (v := (1 : Int32)) hx hb dX9_undo_20 (by decide) ?_
    refine lv_isub hx hb dX9_undo_21 ?_
    refine va_put (D := D) (ci := 9) (v := .int (v_o_doings - (1 : Int32))) (ty := .int) (C := RX9) (T := TX9) (N := 26) hx hb hts iX9_undo_X9 tyX9 tyX9_ok nmX9 hown hK.1 hP hD hS 0 rfl rfl 16 (by decide) (hts (.fieldLink RX9 105 "LoneSeatsModel" "doings" "I") (by decide +kernel)) (fun _ h9 => h9) rfl (by decide +kernel) rfl rfl (Nat.le_of_ble_eq_true rfl) dX9_undo_22 (fun H locs hP hD hS => ?_)
    have hP : va_P D vwCl (WX9_undo cI cJ cZ cB a_o a_o_text a_o_many a_o_views a_o_aisles a_o_readMany a_o_readViews a_o_readAisles a_o_readPage a_o_page a_o_trial a_o_book a_o_kept a_o_isKept a_o_seenSeat a_o_seenWas (0 : Int32) v_o_textSize v_o_place v_o_rows v_o_readRows (v_o_doings - (1 : Int32)) v_o_seen v_o_seed v_o_found v_o_foundViews v_o_foundMany d_o_page d_o_book) H := hP
    have hD : va_D A (WX9_undo cI cJ cZ cB a_o a_o_text a_o_many a_o_views a_o_aisles a_o_readMany a_o_readViews a_o_readAisles a_o_readPage a_o_page a_o_trial a_o_book a_o_kept a_o_isKept a_o_seenSeat a_o_seenWas (0 : Int32) v_o_textSize v_o_place v_o_rows v_o_readRows (v_o_doings - (1 : Int32)) v_o_seen v_o_seed v_o_found v_o_foundViews v_o_foundMany d_o_page d_o_book) := hD
    refine lv_iconst (v := (0 : Int32)) hx hb dX9_undo_25 (by decide) ?_
    refine lv_istore_n (lv' := [(1, .int (0 : Int32)), (0, .ref a_o)]) hx hb dX9_undo_26 rfl hl (by decide) rfl (fun ls hl => ?_)
    exact tX9_undo_27 C hK hA  FU (0 : Int32) v_o_textSize v_o_place v_o_rows v_o_readRows (v_o_doings - (1 : Int32)) v_o_seen v_o_seed v_o_found v_o_foundViews v_o_foundMany d_o_page d_o_book (0 : Int32) _ _ ls _ hP hD hS (lv_sub hl [1, 0] rfl) hf
  · have hf := pf_t hc hf
    refine lv_bipush (v := (-3 : Int32)) hx hb dX9_undo_12 (by decide) ?_
    cases hf
    exact W.iret hx hb hr (fun t ht hW => ⟨⟨rfl, by rw [ht]; exact hP, hD⟩, hS.F ht⟩) hS.2.2 dX9_undo_14
abbrev WX9_best (cI cJ cZ cB : ClassId) (a_o : Nat) (a_o_text : Nat) (a_o_many : Nat) (a_o_views : Nat) (a_o_aisles : Nat) (a_o_readMany : Nat) (a_o_readViews : Nat) (a_o_readAisles : Nat) (a_o_readPage : Nat) (a_o_page : Nat) (a_o_trial : Nat) (a_o_book : Nat) (a_o_kept : Nat) (a_o_isKept : Nat) (a_o_seenSeat : Nat) (a_o_seenWas : Nat) (v_o_thrown : Int32) (v_o_textSize : Int32) (v_o_place : Int32) (v_o_rows : Int32) (v_o_readRows : Int32) (v_o_doings : Int32) (v_o_seen : Int32) (v_o_seed : Int64) (v_o_found : Int32) (v_o_foundViews : Int32) (v_o_foundMany : Int32) (d_o_many : (Nat → Int32)) (d_o_views : (Nat → Int32)) (d_o_aisles : (Nat → Int32)) (d_o_page : (Nat → Int32)) : va_W := [(a_o, .inr (9, [.int v_o_thrown, .ref a_o_text, .int v_o_textSize, .int v_o_place, .int v_o_rows, .ref a_o_many, .ref a_o_views, .ref a_o_aisles, .int v_o_readRows, .ref a_o_readMany, .ref a_o_readViews, .ref a_o_readAisles, .ref a_o_readPage, .ref a_o_page, .ref a_o_trial, .ref a_o_book, .int v_o_doings, .ref a_o_kept, .ref a_o_isKept, .int v_o_seen, .ref a_o_seenSeat, .ref a_o_seenWas, .long v_o_seed, .int v_o_found, .int v_o_foundViews, .int v_o_foundMany])), (a_o_many, .inl (cI, (4, .inl d_o_many))), (a_o_views, .inl (cI, (36, .inl d_o_views))), (a_o_aisles, .inl (cZ, (36, .inl d_o_aisles))), (a_o_page, .inl (cI, (229, .inl d_o_page)))]
set_option maxRecDepth 20000 in
theorem iX9_best_X9 : ∀ w ∈ wsX90, w ∈ wsX9_best := by decide +kernel
def fX9_best (v_o_thrown : Int32) (v_o_rows : Int32) (v_o_found : Int32) (v_o_foundViews : Int32) (v_o_foundMany : Int32) (d_o_many : (Nat → Int32)) (d_o_views : (Nat → Int32)) (d_o_aisles : (Nat → Int32)) (d_o_page : (Nat → Int32)) (x1 : Int32) (x2 : Int32) (x3 : Int32) : Option (Int32 × Int32 × Int32 × Int32 × Int32 × (Nat → Int32)) := ((fX9_isAsk x1 x2).bind fun q1 => (if q1 = 0 then some ((-2 : Int32), (0 : Int32), v_o_found, v_o_foundViews, v_o_foundMany, d_o_page) else ((fX9_in ((x3).toInt64) (0 : Int64) (2 : Int64)).bind fun q3 => (if q3 = 0 then some ((-2 : Int32), (0 : Int32), v_o_found, v_o_foundViews, v_o_foundMany, d_o_page) else ((fX9_findBest v_o_rows v_o_found v_o_foundViews v_o_foundMany d_o_many d_o_views d_o_aisles d_o_page x1 x2).bind fun q5 => (if x3 = 0 then some (q5.1, (0 : Int32), q5.1, q5.2.1, q5.2.2.1, q5.2.2.2) else (if x3 = (1 : Int32) then some (q5.2.1, (0 : Int32), q5.1, q5.2.1, q5.2.2.1, q5.2.2.2) else some (q5.2.2.1, (0 : Int32), q5.1, q5.2.1, q5.2.2.1, q5.2.2.2))))))))
set_option maxRecDepth 100000 in
set_option maxHeartbeats 4000000 in
theorem kX9_best (l : Launch) (D : va_G) (cI cJ cZ cB : ClassId) (a_o : Nat) (a_o_text : Nat) (a_o_many : Nat) (a_o_views : Nat) (a_o_aisles : Nat) (a_o_readMany : Nat) (a_o_readViews : Nat) (a_o_readAisles : Nat) (a_o_readPage : Nat) (a_o_page : Nat) (a_o_trial : Nat) (a_o_book : Nat) (a_o_kept : Nat) (a_o_isKept : Nat) (a_o_seenSeat : Nat) (a_o_seenWas : Nat) (v_o_thrown : Int32) (v_o_textSize : Int32) (v_o_place : Int32) (v_o_rows : Int32) (v_o_readRows : Int32) (v_o_doings : Int32) (v_o_seen : Int32) (v_o_seed : Int64) (v_o_found : Int32) (v_o_foundViews : Int32) (v_o_foundMany : Int32) (d_o_many : (Nat → Int32)) (d_o_views : (Nat → Int32)) (d_o_aisles : (Nat → Int32)) (d_o_page : (Nat → Int32)) (x1 : Int32) (x2 : Int32) (x3 : Int32) (res : Int32 × Int32 × Int32 × Int32 × Int32 × (Nat → Int32)) (hf : fX9_best v_o_thrown v_o_rows v_o_found v_o_foundViews v_o_foundMany d_o_many d_o_views d_o_aisles d_o_page x1 x2 x3 = some res) : Rw l yX9_best wsX9_best ({ frames := 7, cells := 0, slots := 0, locals := 174 } : Room) D (tyL cI cJ cZ cB) [.ref a_o, .int x1, .int x2, .int x3] (WX9_best cI cJ cZ cB a_o a_o_text a_o_many a_o_views a_o_aisles a_o_readMany a_o_readViews a_o_readAisles a_o_readPage a_o_page a_o_trial a_o_book a_o_kept a_o_isKept a_o_seenSeat a_o_seenWas v_o_thrown v_o_textSize v_o_place v_o_rows v_o_readRows v_o_doings v_o_seen v_o_seed v_o_found v_o_foundViews v_o_foundMany d_o_many d_o_views d_o_aisles d_o_page) (some (.int res.1)) (WX9_best cI cJ cZ cB a_o a_o_text a_o_many a_o_views a_o_aisles a_o_readMany a_o_readViews a_o_readAisles a_o_readPage a_o_page a_o_trial a_o_book a_o_kept a_o_isKept a_o_seenSeat a_o_seenWas res.2.1 v_o_textSize v_o_place v_o_rows v_o_readRows v_o_doings v_o_seen v_o_seed res.2.2.1 res.2.2.2.1 res.2.2.2.2.1 d_o_many d_o_views d_o_aisles res.2.2.2.2.2) := by
  refine Rw.of (cc := cX9_best) (maxL := 4) (ret := (some .int)) (own := RX9) (by decide) rfl rfl (Nat.le_of_ble_eq_true rfl) ?_
  intro p e s m below meth c A ls C hK hA hP hD hS hl
  obtain ⟨hx, hb, hr, hml, hts, hown, hlk⟩ := id C
  have hl : lv_has ls 4 [(0, .ref a_o), (1, .int x1), (2, .int x2), (3, .int x3)] := hl
  unfold fX9_best at hf
  refine lv_aload_n hx hb dX9_best_0 rfl (lv_at hl 0 rfl) ?_
  refine lv_iconst (v := (0 : Int32)) hx hb dX9_best_1 (by decide) ?_
  refine va_put (D := D) (ci := 9) (v := .int (0 : Int32)) (ty := .int) (C := RX9) (T := TX9) (N := 26) hx hb hts iX9_best_X9 tyX9 tyX9_ok nmX9 hown hK.1 hP hD hS 0 rfl rfl 0 (by decide) (hts (.fieldLink RX9 60 "LoneSeatsModel" "thrown" "I") (by decide +kernel)) (fun _ h9 => h9) rfl (by decide +kernel) rfl rfl (Nat.le_of_ble_eq_true rfl) dX9_best_2 (fun H locs hP hD hS => ?_)
  have hP : va_P D vwCl (WX9_best cI cJ cZ cB a_o a_o_text a_o_many a_o_views a_o_aisles a_o_readMany a_o_readViews a_o_readAisles a_o_readPage a_o_page a_o_trial a_o_book a_o_kept a_o_isKept a_o_seenSeat a_o_seenWas (0 : Int32) v_o_textSize v_o_place v_o_rows v_o_readRows v_o_doings v_o_seen v_o_seed v_o_found v_o_foundViews v_o_foundMany d_o_many d_o_views d_o_aisles d_o_page) H := hP
  have hD : va_D A (WX9_best cI cJ cZ cB a_o a_o_text a_o_many a_o_views a_o_aisles a_o_readMany a_o_readViews a_o_readAisles a_o_readPage a_o_page a_o_trial a_o_book a_o_kept a_o_isKept a_o_seenSeat a_o_seenWas (0 : Int32) v_o_textSize v_o_place v_o_rows v_o_readRows v_o_doings v_o_seen v_o_seed v_o_found v_o_foundViews v_o_foundMany d_o_many d_o_views d_o_aisles d_o_page) := hD
  refine lv_iload_n hx hb dX9_best_5 rfl (lv_at hl 1 rfl) ?_
  refine lv_iload_n hx hb dX9_best_6 rfl (lv_at hl 2 rfl) ?_
  obtain ⟨q1, hq2, hf⟩ := pf_b hf
  have hPc := hP.sub (ws' := ([] : va_W)) [] rfl
  refine cl_roi (va_runS (As := [.int x1, .int x2]) (rest := []) ⟨hx, hb, hml, hown, hts⟩ (kX9_isAsk l D cI cJ cZ cB x1 x2 q1 hq2) (va_cwS 2 hts gX9_best_X9_isAsk rfl rfl rfl (by decide +kernel) ⟨Nat.le_of_ble_eq_true rfl, Nat.le_of_ble_eq_true rfl⟩) ⟨PRo.blind, PRo.at hK hPc⟩ rfl rfl hl.1 rfl (lv_room (Nat.le_of_ble_eq_true rfl)) dX9_best_7 ⟨Nat.zero_le _, Nat.zero_le _⟩) ?_
  refine lv_if_eq (tgt := 25) hx hb dX9_best_10 (by decide) (fun hc => ?_) (fun hc => ?_)
  · have hf := pf_t hc hf
    refine lv_bipush (v := (-2 : Int32)) hx hb dX9_best_25 (by decide) ?_
    cases hf
    exact W.iret hx hb hr (fun t ht hW => ⟨⟨rfl, by rw [ht]; exact hP, hD⟩, hS.F ht⟩) hS.2.2 dX9_best_27
  · have hf := pf_f hc hf
    refine lv_iload_n hx hb dX9_best_13 rfl (lv_at hl 3 rfl) ?_
    refine lv_i2l (v := (x3).toInt64) hx hb dX9_best_14 rfl ?_
    refine lv_lconst (v := (0 : Int64)) hx hb dX9_best_15 (by decide) ?_
    refine lv_ldc2 (v := (2 : Int64)) hx hb hown (hts (.constantLong RX9 200 (2 : Int64)) (by decide +kernel)) dX9_best_16 ?_
    obtain ⟨q3, hq4, hf⟩ := pf_b hf
    have hPc := hP.sub (ws' := ([] : va_W)) [] rfl
    refine cl_roi (va_runS (As := [.long ((x3).toInt64), .long (0 : Int64), .long (2 : Int64)]) (rest := []) ⟨hx, hb, hml, hown, hts⟩ (kX9_in l D cI cJ cZ cB ((x3).toInt64) (0 : Int64) (2 : Int64) q3 hq4) (va_cwS 3 hts gX9_best_X9_in rfl rfl rfl (by decide +kernel) ⟨Nat.le_of_ble_eq_true rfl, Nat.le_of_ble_eq_true rfl⟩) ⟨PRo.blind, PRo.at hK hPc⟩ rfl rfl hl.1 rfl (lv_room (Nat.le_of_ble_eq_true rfl)) dX9_best_19 ⟨Nat.zero_le _, Nat.zero_le _⟩) ?_
    refine lv_if_ne (tgt := 28) hx hb dX9_best_22 (by decide) (fun hc => ?_) (fun hc => ?_)
    · have hf := pf_f hc hf
      refine lv_aload_n hx hb dX9_best_28 rfl (lv_at hl 0 rfl) ?_
      refine lv_aload_n hx hb dX9_best_29 rfl (lv_at hl 0 rfl) ?_
      refine va_get (D := D) (ci := 9) (v := .ref a_o_page) (C := RX9) (T := TX9) (N := 26) hx hb hts iX9_best_X9 hown hK.1 hP 0 rfl rfl 13 (by decide) (hts (.fieldLink RX9 35 "LoneSeatsModel" "page" "[I") (by decide +kernel)) (fun _ h9 => h9) rfl dX9_best_30 ?_
      refine lv_iload_n hx hb dX9_best_33 rfl (lv_at hl 1 rfl) ?_
      refine lv_iload_n hx hb dX9_best_34 rfl (lv_at hl 2 rfl) ?_
      obtain ⟨q5, hq6, hf⟩ := pf_b hf
      have hPc := hP.sub (ws' := (WX9_findBest cI cJ cZ cB a_o a_o_text a_o_many a_o_views a_o_aisles a_o_readMany a_o_readViews a_o_readAisles a_o_readPage a_o_page a_o_trial a_o_book a_o_kept a_o_isKept a_o_seenSeat a_o_seenWas a_o_page (0 : Int32) v_o_textSize v_o_place v_o_rows v_o_readRows v_o_doings v_o_seen v_o_seed v_o_found v_o_foundViews v_o_foundMany d_o_many d_o_views d_o_aisles d_o_page)) [0, 1, 2, 3, 4] rfl
      have hDc := hD.sub (ws' := (WX9_findBest cI cJ cZ cB a_o a_o_text a_o_many a_o_views a_o_aisles a_o_readMany a_o_readViews a_o_readAisles a_o_readPage a_o_page a_o_trial a_o_book a_o_kept a_o_isKept a_o_seenSeat a_o_seenWas a_o_page (0 : Int32) v_o_textSize v_o_place v_o_rows v_o_readRows v_o_doings v_o_seen v_o_seed v_o_found v_o_foundViews v_o_foundMany d_o_many d_o_views d_o_aisles d_o_page)) [0, 1, 2, 3, 4] (by decide) rfl
      refine cl_rwv (wr := []) (wsN := (WX9_best cI cJ cZ cB a_o a_o_text a_o_many a_o_views a_o_aisles a_o_readMany a_o_readViews a_o_readAisles a_o_readPage a_o_page a_o_trial a_o_book a_o_kept a_o_isKept a_o_seenSeat a_o_seenWas (0 : Int32) v_o_textSize v_o_place v_o_rows v_o_readRows v_o_doings v_o_seen v_o_seed q5.1 q5.2.1 q5.2.2.1 d_o_many d_o_views d_o_aisles q5.2.2.2)) (va_runV (As := [.ref a_o_page, .int x1, .int x2]) (rest := []) ⟨hx, hb, hml, hown, hts⟩ ((kX9_findBest l D cI cJ cZ cB a_o a_o_text a_o_many a_o_views a_o_aisles a_o_readMany a_o_readViews a_o_readAisles a_o_readPage a_o_page a_o_trial a_o_book a_o_kept a_o_isKept a_o_seenSeat a_o_seenWas a_o_page (0 : Int32) v_o_textSize v_o_place v_o_rows v_o_readRows v_o_doings v_o_seen v_o_seed v_o_found v_o_foundViews v_o_foundMany d_o_many d_o_views d_o_aisles d_o_page x1 x2 q5 hq6) _) (cwV 3 hts gX9_best_X9_findBest rfl rfl rfl (by decide +kernel) ⟨Nat.le_of_ble_eq_true rfl, Nat.le_of_ble_eq_true rfl⟩) ⟨PRw.blind, va_recv hK.1 hPc (ci := 9) (q0 := 0) rfl rfl, PRw.at hK hPc hDc⟩ rfl rfl hl.1 rfl (lv_room (Nat.le_of_ble_eq_true rfl)) dX9_best_35 ⟨Nat.zero_le _, Nat.zero_le _⟩) hP hD hS hA [0, 1, 2, 3, 4] [] [0, 1, 2, 3, 4] rfl rfl (by decide) (by decide) rfl (by decide) (fun H locs hP hD hS => ?_)
      refine lv_iload_n hx hb dX9_best_38 rfl (lv_at hl 3 rfl) ?_
      refine lv_if_ne (tgt := 49) hx hb dX9_best_39 (by decide) (fun hc => ?_) (fun hc => ?_)
      · have hf := pf_f hc hf
        refine lv_iload_n hx hb dX9_best_49 rfl (lv_at hl 3 rfl) ?_
        refine lv_iconst (v := (1 : Int32)) hx hb dX9_best_50 (by decide) ?_
        refine lv_icmp_ne (tgt := 61) hx hb dX9_best_51 (by decide) (fun hc => ?_) (fun hc => ?_)
        · have hf := pf_f hc hf
          refine lv_aload_n hx hb dX9_best_61 rfl (lv_at hl 0 rfl) ?_
          refine va_get (D := D) (ci := 9) (v := .int q5.2.2.1) (C := RX9) (T := TX9) (N := 26) hx hb hts iX9_best_X9 hown hK.1 hP 0 rfl rfl 25 (by decide) (hts (.fieldLink RX9 137 "LoneSeatsModel" "foundMany" "I") (by decide +kernel)) (fun _ h9 => h9) rfl dX9_best_62 ?_
          cases hf
          exact W.iret hx hb hr (fun t ht hW => ⟨⟨rfl, by rw [ht]; exact hP, hD⟩, hS.F ht⟩) hS.2.2 dX9_best_65
        · have hf := pf_t hc hf
          refine lv_aload_n hx hb dX9_best_54 rfl (lv_at hl 0 rfl) ?_
          refine va_get (D := D) (ci := 9) (v := .int q5.2.1) (C := RX9) (T := TX9) (N := 26) hx hb hts iX9_best_X9 hown hK.1 hP 0 rfl rfl 24 (by decide) (hts (.fieldLink RX9 134 "LoneSeatsModel" "foundViews" "I") (by decide +kernel)) (fun _ h9 => h9) rfl dX9_best_55 ?_
          refine lv_goto (tgt := 65) hx hb dX9_best_58 (by decide) ?_
          cases hf
          exact W.iret hx hb hr (fun t ht hW => ⟨⟨rfl, by rw [ht]; exact hP, hD⟩, hS.F ht⟩) hS.2.2 dX9_best_65
      · have hf := pf_t hc hf
        refine lv_aload_n hx hb dX9_best_42 rfl (lv_at hl 0 rfl) ?_
        refine va_get (D := D) (ci := 9) (v := .int q5.1) (C := RX9) (T := TX9) (N := 26) hx hb hts iX9_best_X9 hown hK.1 hP 0 rfl rfl 23 (by decide) (hts (.fieldLink RX9 56 "LoneSeatsModel" "found" "I") (by decide +kernel)) (fun _ h9 => h9) rfl dX9_best_43 ?_
        refine lv_goto (tgt := 65) hx hb dX9_best_46 (by decide) ?_
        cases hf
        exact W.iret hx hb hr (fun t ht hW => ⟨⟨rfl, by rw [ht]; exact hP, hD⟩, hS.F ht⟩) hS.2.2 dX9_best_65
    · have hf := pf_t hc hf
      refine lv_bipush (v := (-2 : Int32)) hx hb dX9_best_25 (by decide) ?_
      cases hf
      exact W.iret hx hb hr (fun t ht hW => ⟨⟨rfl, by rw [ht]; exact hP, hD⟩, hS.F ht⟩) hS.2.2 dX9_best_27
abbrev WX9_room (cI cJ cZ cB : ClassId) (a_o : Nat) (a_o_text : Nat) (a_o_many : Nat) (a_o_views : Nat) (a_o_aisles : Nat) (a_o_readMany : Nat) (a_o_readViews : Nat) (a_o_readAisles : Nat) (a_o_readPage : Nat) (a_o_page : Nat) (a_o_trial : Nat) (a_o_book : Nat) (a_o_kept : Nat) (a_o_isKept : Nat) (a_o_seenSeat : Nat) (a_o_seenWas : Nat) (v_o_thrown : Int32) (v_o_textSize : Int32) (v_o_place : Int32) (v_o_rows : Int32) (v_o_readRows : Int32) (v_o_doings : Int32) (v_o_seen : Int32) (v_o_seed : Int64) (v_o_found : Int32) (v_o_foundViews : Int32) (v_o_foundMany : Int32) (d_o_many : (Nat → Int32)) (d_o_views : (Nat → Int32)) (d_o_aisles : (Nat → Int32)) (d_o_page : (Nat → Int32)) (d_o_trial : (Nat → Int32)) : va_W := [(a_o, .inr (9, [.int v_o_thrown, .ref a_o_text, .int v_o_textSize, .int v_o_place, .int v_o_rows, .ref a_o_many, .ref a_o_views, .ref a_o_aisles, .int v_o_readRows, .ref a_o_readMany, .ref a_o_readViews, .ref a_o_readAisles, .ref a_o_readPage, .ref a_o_page, .ref a_o_trial, .ref a_o_book, .int v_o_doings, .ref a_o_kept, .ref a_o_isKept, .int v_o_seen, .ref a_o_seenSeat, .ref a_o_seenWas, .long v_o_seed, .int v_o_found, .int v_o_foundViews, .int v_o_foundMany])), (a_o_many, .inl (cI, (4, .inl d_o_many))), (a_o_views, .inl (cI, (36, .inl d_o_views))), (a_o_aisles, .inl (cZ, (36, .inl d_o_aisles))), (a_o_page, .inl (cI, (229, .inl d_o_page))), (a_o_trial, .inl (cI, (229, .inl d_o_trial)))]
set_option maxRecDepth 20000 in
theorem iX9_room_X9 : ∀ w ∈ wsX90, w ∈ wsX9_room := by decide +kernel
def fX9_room_44 : Nat → Int32 → Int32 → Int32 → Int32 → Int32 → (Nat → Int32) → (Nat → Int32) → (Nat → Int32) → (Nat → Int32) → (Nat → Int32) → Int32 → Int32 → Option (Int32 × Int32 × Int32 × Int32 × Int32 × (Nat → Int32))
  | 0, _, _, _, _, _, _, _, _, _, _, _, _ => none
  | n + 1, v_o_thrown, v_o_rows, v_o_found, v_o_foundViews, v_o_foundMany, d_o_many, d_o_views, d_o_aisles, d_o_page, d_o_trial, x1, x2 => (if v_o_foundMany ≤ 0 then some (x2, v_o_thrown, v_o_found, v_o_foundViews, v_o_foundMany, d_o_trial) else ((fX9_lay d_o_trial (v_o_found / (10 : Int32)) (v_o_found - v_o_found / (10 : Int32) * (10 : Int32)) x1 (31 : Int32)).bind fun q1 => ((fX9_findBest v_o_rows v_o_found v_o_foundViews v_o_foundMany d_o_many d_o_views d_o_aisles q1 x1 (9 : Int32)).bind fun q3 => fX9_room_44 n v_o_thrown v_o_rows q3.1 q3.2.1 q3.2.2.1 d_o_many d_o_views d_o_aisles d_o_page q3.2.2.2 x1 (x2 + (1 : Int32)))))
set_option maxRecDepth 100000 in
set_option maxHeartbeats 4000000 in
theorem tX9_room_44 {p : Program} {l : Launch} {e : Env} {s : State} {m : MethodId} {args : Array Value} {below : List Frame} {meth : Method} {c : Code} {D : va_G} {cI cJ cZ cB : ClassId} {a_o : Nat} {a_o_text : Nat} {a_o_many : Nat} {a_o_views : Nat} {a_o_aisles : Nat} {a_o_readMany : Nat} {a_o_readViews : Nat} {a_o_readAisles : Nat} {a_o_readPage : Nat} {a_o_page : Nat} {a_o_trial : Nat} {a_o_book : Nat} {a_o_kept : Nat} {a_o_isKept : Nat} {a_o_seenSeat : Nat} {a_o_seenWas : Nat} {A : Nat → Prop} (C : Cx p s m args meth c cX9_room 3 (some .int) wsX9_room RX9) (hK : Kw D (tyL cI cJ cZ cB) s) (hA : ∀ q : Nat, s.heap.size ≤ q → A q) : ∀ (n : Nat), ∀ (v_o_thrown : Int32) (v_o_textSize : Int32) (v_o_place : Int32) (v_o_rows : Int32) (v_o_readRows : Int32) (v_o_doings : Int32) (v_o_seen : Int32) (v_o_seed : Int64) (v_o_found : Int32) (v_o_foundViews : Int32) (v_o_foundMany : Int32) (d_o_many : (Nat → Int32)) (d_o_views : (Nat → Int32)) (d_o_aisles : (Nat → Int32)) (d_o_page : (Nat → Int32)) (d_o_trial : (Nat → Int32)) (x1 : Int32) (x2 : Int32) (H : Heap) (locs : List Loc) (ls : Array Slot) (res : Int32 × Int32 × Int32 × Int32 × Int32 × (Nat → Int32)), va_P D vwCl (WX9_room cI cJ cZ cB a_o a_o_text a_o_many a_o_views a_o_aisles a_o_readMany a_o_readViews a_o_readAisles a_o_readPage a_o_page a_o_trial a_o_book a_o_kept a_o_isKept a_o_seenSeat a_o_seenWas v_o_thrown v_o_textSize v_o_place v_o_rows v_o_readRows v_o_doings v_o_seen v_o_seed v_o_found v_o_foundViews v_o_foundMany d_o_many d_o_views d_o_aisles d_o_page d_o_trial) H → va_D A (WX9_room cI cJ cZ cB a_o a_o_text a_o_many a_o_views a_o_aisles a_o_readMany a_o_readViews a_o_readAisles a_o_readPage a_o_page a_o_trial a_o_book a_o_kept a_o_isKept a_o_seenSeat a_o_seenWas v_o_thrown v_o_textSize v_o_place v_o_rows v_o_readRows v_o_doings v_o_seen v_o_seed v_o_found v_o_foundViews v_o_foundMany d_o_many d_o_views d_o_aisles d_o_page d_o_trial) → va_S A s.heap H locs → lv_has ls 3 [(0, .ref a_o), (1, .int x1), (2, .int x2)] → fX9_room_44 n v_o_thrown v_o_rows v_o_found v_o_foundViews v_o_foundMany d_o_many d_o_views d_o_aisles d_o_page d_o_trial x1 x2 = some res → W p l e ({ frames := 7, cells := 0, slots := 0, locals := 174 } : Room) s m args below meth c H locs 0 0 (MQ below (QRw D A (WX9_room cI cJ cZ cB a_o a_o_text a_o_many a_o_views a_o_aisles a_o_readMany a_o_readViews a_o_readAisles a_o_readPage a_o_page a_o_trial a_o_book a_o_kept a_o_isKept a_o_seenSeat a_o_seenWas res.2.1 v_o_textSize v_o_place v_o_rows v_o_readRows v_o_doings v_o_seen v_o_seed res.2.2.1 res.2.2.2.1 res.2.2.2.2.1 d_o_many d_o_views d_o_aisles d_o_page res.2.2.2.2.2) (some (.int res.1))) args s 0 0 A) (F0 m 44 ls []) := by
  obtain ⟨hx, hb, hr, hml, hts, hown, hlk⟩ := id C
  intro n
  induction n with
  | zero =>
    intro v_o_thrown v_o_textSize v_o_place v_o_rows v_o_readRows v_o_doings v_o_seen v_o_seed v_o_found v_o_foundViews v_o_foundMany d_o_many d_o_views d_o_aisles d_o_page d_o_trial x1 x2 H locs ls res hP hD hS hl hf
    rw [fX9_room_44] at hf
    cases hf
  | succ n ih =>
    intro v_o_thrown v_o_textSize v_o_place v_o_rows v_o_readRows v_o_doings v_o_seen v_o_seed v_o_found v_o_foundViews v_o_foundMany d_o_many d_o_views d_o_aisles d_o_page d_o_trial x1 x2 H locs ls res hP hD hS hl hf
    rw [fX9_room_44] at hf
    refine lv_aload_n hx hb dX9_room_44 rfl (lv_at hl 0 rfl) ?_
    refine va_get (D := D) (ci := 9) (v := .int v_o_foundMany) (C := RX9) (T := TX9) (N := 26) hx hb hts iX9_room_X9 hown hK.1 hP 0 rfl rfl 25 (by decide) (hts (.fieldLink RX9 137 "LoneSeatsModel" "foundMany" "I") (by decide +kernel)) (fun _ h9 => h9) rfl dX9_room_45 ?_
    refine lv_if_le (tgt := 92) hx hb dX9_room_48 (by decide) (fun hc => ?_) (fun hc => ?_)
    · have hf := pf_t hc hf
      refine lv_iload_n hx hb dX9_room_92 rfl (lv_at hl 2 rfl) ?_
      cases hf
      exact W.iret hx hb hr (fun t ht hW => ⟨⟨rfl, by rw [ht]; exact hP, hD⟩, hS.F ht⟩) hS.2.2 dX9_room_93
    · have hf := pf_f hc hf
      refine lv_aload_n hx hb dX9_room_51 rfl (lv_at hl 0 rfl) ?_
      refine va_get (D := D) (ci := 9) (v := .ref a_o_trial) (C := RX9) (T := TX9) (N := 26) hx hb hts iX9_room_X9 hown hK.1 hP 0 rfl rfl 14 (by decide) (hts (.fieldLink RX9 38 "LoneSeatsModel" "trial" "[I") (by decide +kernel)) (fun _ h9 => h9) rfl dX9_room_52 ?_
      refine lv_aload_n hx hb dX9_room_55 rfl (lv_at hl 0 rfl) ?_
      refine va_get (D := D) (ci := 9) (v := .int v_o_found) (C := RX9) (T := TX9) (N := 26) hx hb hts iX9_room_X9 hown hK.1 hP 0 rfl rfl 23 (by decide) (hts (.fieldLink RX9 56 "LoneSeatsModel" "found" "I") (by decide +kernel)) (fun _ h9 => h9) rfl dX9_room_56 ?_
      refine lv_bipush (v := (10 : Int32)) hx hb dX9_room_59 (by decide) ?_
      refine lv_idiv hx hb dX9_room_61 (by decide) ?_
      refine lv_aload_n hx hb dX9_room_62 rfl (lv_at hl 0 rfl) ?_
      refine va_get (D := D) (ci := 9) (v := .int v_o_found) (C := RX9) (T := TX9) (N := 26) hx hb hts iX9_room_X9 hown hK.1 hP 0 rfl rfl 23 (by decide) (hts (.fieldLink RX9 56 "LoneSeatsModel" "found" "I") (by decide +kernel)) (fun _ h9 => h9) rfl dX9_room_63 ?_
      refine lv_bipush (v := (10 : Int32)) hx hb dX9_room_66 (by decide) ?_
      refine lv_irem hx hb dX9_room_68 (by decide) ?_
      refine lv_iload_n hx hb dX9_room_69 rfl (lv_at hl 1 rfl) ?_
      refine lv_bipush (v := (31 : Int32)) hx hb dX9_room_70 (by decide) ?_
      obtain ⟨q1, hq2, hf⟩ := pf_b hf
      have hPc := hP.sub (ws' := (WX9_lay cI cJ cZ cB a_o_trial d_o_trial)) [5] rfl
      have hDc := hD.sub (ws' := (WX9_lay cI cJ cZ cB a_o_trial d_o_trial)) [5] (by decide) rfl
      refine cl_rwv (wr := [(a_o, .inr (9, [.int v_o_thrown, .ref a_o_text, .int v_o_textSize, .int v_o_place, .int v_o_rows, .ref a_o_many, .ref a_o_views, .ref a_o_aisles, .int v_o_readRows, .ref a_o_readMany, .ref a_o_readViews, .ref a_o_readAisles, .ref a_o_readPage, .ref a_o_page, .ref a_o_trial, .ref a_o_book, .int v_o_doings, .ref a_o_kept, .ref a_o_isKept, .int v_o_seen, .ref a_o_seenSeat, .ref a_o_seenWas, .long v_o_seed, .int v_o_found, .int v_o_foundViews, .int v_o_foundMany])), (a_o_many, .inl (cI, (4, .inl d_o_many))), (a_o_views, .inl (cI, (36, .inl d_o_views))), (a_o_aisles, .inl (cZ, (36, .inl d_o_aisles))), (a_o_page, .inl (cI, (229, .inl d_o_page)))]) (wsN := (WX9_room cI cJ cZ cB a_o a_o_text a_o_many a_o_views a_o_aisles a_o_readMany a_o_readViews a_o_readAisles a_o_readPage a_o_page a_o_trial a_o_book a_o_kept a_o_isKept a_o_seenSeat a_o_seenWas v_o_thrown v_o_textSize v_o_place v_o_rows v_o_readRows v_o_doings v_o_seen v_o_seed v_o_found v_o_foundViews v_o_foundMany d_o_many d_o_views d_o_aisles d_o_page q1)) (va_runS (As := [.ref a_o_trial, .int (v_o_found / (10 : Int32)), .int (v_o_found - v_o_found / (10 : Int32) * (10 : Int32)), .int x1, .int (31 : Int32)]) (rest := []) ⟨hx, hb, hml, hown, hts⟩ ((kX9_lay l D cI cJ cZ cB a_o_trial d_o_trial (v_o_found / (10 : Int32)) (v_o_found - v_o_found / (10 : Int32) * (10 : Int32)) x1 (31 : Int32) q1 hq2) _) (va_cwS 5 hts gX9_room_X9_lay rfl rfl rfl (by decide +kernel) ⟨Nat.le_of_ble_eq_true rfl, Nat.le_of_ble_eq_true rfl⟩) ⟨PRw.blind, PRw.at hK hPc hDc⟩ rfl rfl hl.1 rfl (lv_room (Nat.le_of_ble_eq_true rfl)) dX9_room_72 ⟨Nat.zero_le _, Nat.zero_le _⟩) hP hD hS hA [5] [0, 1, 2, 3, 4] [0, 1, 2, 3, 4, 5] rfl rfl (by decide) (by decide) rfl (by decide) (fun H locs hP hD hS => ?_)
      refine lv_iinc (v := (x2 + (1 : Int32))) (lv' := [(2, .int (x2 + (1 : Int32))), (0, .ref a_o), (1, .int x1)]) hx hb dX9_room_75 hl (k := 2) rfl rfl (by decide) rfl (fun ls hl => ?_)
      refine lv_aload_n hx hb dX9_room_78 rfl (lv_at hl 1 rfl) ?_
      refine lv_aload_n hx hb dX9_room_79 rfl (lv_at hl 1 rfl) ?_
      refine va_get (D := D) (ci := 9) (v := .ref a_o_trial) (C := RX9) (T := TX9) (N := 26) hx hb hts iX9_room_X9 hown hK.1 hP 0 rfl rfl 14 (by decide) (hts (.fieldLink RX9 38 "LoneSeatsModel" "trial" "[I") (by decide +kernel)) (fun _ h9 => h9) rfl dX9_room_80 ?_
      refine lv_iload_n hx hb dX9_room_83 rfl (lv_at hl 2 rfl) ?_
      refine lv_bipush (v := (9 : Int32)) hx hb dX9_room_84 (by decide) ?_
      obtain ⟨q3, hq4, hf⟩ := pf_b hf
      have hPc := hP.sub (ws' := (WX9_findBest cI cJ cZ cB a_o a_o_text a_o_many a_o_views a_o_aisles a_o_readMany a_o_readViews a_o_readAisles a_o_readPage a_o_page a_o_trial a_o_book a_o_kept a_o_isKept a_o_seenSeat a_o_seenWas a_o_trial v_o_thrown v_o_textSize v_o_place v_o_rows v_o_readRows v_o_doings v_o_seen v_o_seed v_o_found v_o_foundViews v_o_foundMany d_o_many d_o_views d_o_aisles q1)) [0, 1, 2, 3, 5] rfl
      have hDc := hD.sub (ws' := (WX9_findBest cI cJ cZ cB a_o a_o_text a_o_many a_o_views a_o_aisles a_o_readMany a_o_readViews a_o_readAisles a_o_readPage a_o_page a_o_trial a_o_book a_o_kept a_o_isKept a_o_seenSeat a_o_seenWas a_o_trial v_o_thrown v_o_textSize v_o_place v_o_rows v_o_readRows v_o_doings v_o_seen v_o_seed v_o_found v_o_foundViews v_o_foundMany d_o_many d_o_views d_o_aisles q1)) [0, 1, 2, 3, 5] (by decide) rfl
      refine cl_rwv (wr := [(a_o_page, .inl (cI, (229, .inl d_o_page)))]) (wsN := (WX9_room cI cJ cZ cB a_o a_o_text a_o_many a_o_views a_o_aisles a_o_readMany a_o_readViews a_o_readAisles a_o_readPage a_o_page a_o_trial a_o_book a_o_kept a_o_isKept a_o_seenSeat a_o_seenWas v_o_thrown v_o_textSize v_o_place v_o_rows v_o_readRows v_o_doings v_o_seen v_o_seed q3.1 q3.2.1 q3.2.2.1 d_o_many d_o_views d_o_aisles d_o_page q3.2.2.2)) (va_runV (As := [.ref a_o_trial, .int x1, .int (9 : Int32)]) (rest := []) ⟨hx, hb, hml, hown, hts⟩ ((kX9_findBest l D cI cJ cZ cB a_o a_o_text a_o_many a_o_views a_o_aisles a_o_readMany a_o_readViews a_o_readAisles a_o_readPage a_o_page a_o_trial a_o_book a_o_kept a_o_isKept a_o_seenSeat a_o_seenWas a_o_trial v_o_thrown v_o_textSize v_o_place v_o_rows v_o_readRows v_o_doings v_o_seen v_o_seed v_o_found v_o_foundViews v_o_foundMany d_o_many d_o_views d_o_aisles q1 x1 (9 : Int32) q3 hq4) _) (cwV 3 hts gX9_room_X9_findBest rfl rfl rfl (by decide +kernel) ⟨Nat.le_of_ble_eq_true rfl, Nat.le_of_ble_eq_true rfl⟩) ⟨PRw.blind, va_recv hK.1 hPc (ci := 9) (q0 := 0) rfl rfl, PRw.at hK hPc hDc⟩ rfl rfl hl.1 rfl (lv_room (Nat.le_of_ble_eq_true rfl)) dX9_room_86 ⟨Nat.zero_le _, Nat.zero_le _⟩) hP hD hS hA [0, 1, 2, 3, 5] [4] [1, 2, 3, 4, 0, 5] rfl rfl (by decide) (by decide) rfl (by decide) (fun H locs hP hD hS => ?_)
      refine lv_goto (tgt := 44) hx hb dX9_room_89 (by decide) ?_
      exact ih v_o_thrown v_o_textSize v_o_place v_o_rows v_o_readRows v_o_doings v_o_seen v_o_seed q3.1 q3.2.1 q3.2.2.1 d_o_many d_o_views d_o_aisles d_o_page q3.2.2.2 x1 (x2 + (1 : Int32)) _ _ ls _ hP hD hS (lv_sub hl [1, 2, 0] rfl) hf
def fX9_room (v_o_thrown : Int32) (v_o_rows : Int32) (v_o_found : Int32) (v_o_foundViews : Int32) (v_o_foundMany : Int32) (d_o_many : (Nat → Int32)) (d_o_views : (Nat → Int32)) (d_o_aisles : (Nat → Int32)) (d_o_page : (Nat → Int32)) (d_o_trial : (Nat → Int32)) (x1 : Int32) : Option (Int32 × Int32 × Int32 × Int32 × Int32 × (Nat → Int32)) := ((fX9_in ((x1).toInt64) (1 : Int64) (6 : Int64)).bind fun q1 => (if q1 = 0 then some ((-2 : Int32), (0 : Int32), v_o_found, v_o_foundViews, v_o_foundMany, d_o_trial) else ((fX9_copy d_o_page d_o_trial).bind fun q3 => ((fX9_findBest v_o_rows v_o_found v_o_foundViews v_o_foundMany d_o_many d_o_views d_o_aisles q3 x1 (9 : Int32)).bind fun q5 => fX9_room_44 FU (0 : Int32) v_o_rows q5.1 q5.2.1 q5.2.2.1 d_o_many d_o_views d_o_aisles d_o_page q5.2.2.2 x1 (0 : Int32)))))
set_option maxRecDepth 100000 in
set_option maxHeartbeats 4000000 in
theorem kX9_room (l : Launch) (D : va_G) (cI cJ cZ cB : ClassId) (a_o : Nat) (a_o_text : Nat) (a_o_many : Nat) (a_o_views : Nat) (a_o_aisles : Nat) (a_o_readMany : Nat) (a_o_readViews : Nat) (a_o_readAisles : Nat) (a_o_readPage : Nat) (a_o_page : Nat) (a_o_trial : Nat) (a_o_book : Nat) (a_o_kept : Nat) (a_o_isKept : Nat) (a_o_seenSeat : Nat) (a_o_seenWas : Nat) (v_o_thrown : Int32) (v_o_textSize : Int32) (v_o_place : Int32) (v_o_rows : Int32) (v_o_readRows : Int32) (v_o_doings : Int32) (v_o_seen : Int32) (v_o_seed : Int64) (v_o_found : Int32) (v_o_foundViews : Int32) (v_o_foundMany : Int32) (d_o_many : (Nat → Int32)) (d_o_views : (Nat → Int32)) (d_o_aisles : (Nat → Int32)) (d_o_page : (Nat → Int32)) (d_o_trial : (Nat → Int32)) (x1 : Int32) (res : Int32 × Int32 × Int32 × Int32 × Int32 × (Nat → Int32)) (hf : fX9_room v_o_thrown v_o_rows v_o_found v_o_foundViews v_o_foundMany d_o_many d_o_views d_o_aisles d_o_page d_o_trial x1 = some res) : Rw l yX9_room wsX9_room ({ frames := 7, cells := 0, slots := 0, locals := 174 } : Room) D (tyL cI cJ cZ cB) [.ref a_o, .int x1] (WX9_room cI cJ cZ cB a_o a_o_text a_o_many a_o_views a_o_aisles a_o_readMany a_o_readViews a_o_readAisles a_o_readPage a_o_page a_o_trial a_o_book a_o_kept a_o_isKept a_o_seenSeat a_o_seenWas v_o_thrown v_o_textSize v_o_place v_o_rows v_o_readRows v_o_doings v_o_seen v_o_seed v_o_found v_o_foundViews v_o_foundMany d_o_many d_o_views d_o_aisles d_o_page d_o_trial) (some (.int res.1)) (WX9_room cI cJ cZ cB a_o a_o_text a_o_many a_o_views a_o_aisles a_o_readMany a_o_readViews a_o_readAisles a_o_readPage a_o_page a_o_trial a_o_book a_o_kept a_o_isKept a_o_seenSeat a_o_seenWas res.2.1 v_o_textSize v_o_place v_o_rows v_o_readRows v_o_doings v_o_seen v_o_seed res.2.2.1 res.2.2.2.1 res.2.2.2.2.1 d_o_many d_o_views d_o_aisles d_o_page res.2.2.2.2.2) := by
  refine Rw.of (cc := cX9_room) (maxL := 3) (ret := (some .int)) (own := RX9) (by decide) rfl rfl (Nat.le_of_ble_eq_true rfl) ?_
  intro p e s m below meth c A ls C hK hA hP hD hS hl
  obtain ⟨hx, hb, hr, hml, hts, hown, hlk⟩ := id C
  have hl : lv_has ls 3 [(0, .ref a_o), (1, .int x1)] := hl
  unfold fX9_room at hf
  refine lv_aload_n hx hb dX9_room_0 rfl (lv_at hl 0 rfl) ?_
  refine lv_iconst (v := (0 : Int32)) hx hb dX9_room_1 (by decide) ?_
  refine va_put (D := D) (ci := 9) (v := .int (0 : Int32)) (ty := .int) (C := RX9) (T := TX9) (N := 26) hx hb hts iX9_room_X9 tyX9 tyX9_ok nmX9 hown hK.1 hP hD hS 0 rfl rfl 0 (by decide) (hts (.fieldLink RX9 60 "LoneSeatsModel" "thrown" "I") (by decide +kernel)) (fun _ h9 => h9) rfl (by decide +kernel) rfl rfl (Nat.le_of_ble_eq_true rfl) dX9_room_2 (fun H locs hP hD hS => ?_)
  have hP : va_P D vwCl (WX9_room cI cJ cZ cB a_o a_o_text a_o_many a_o_views a_o_aisles a_o_readMany a_o_readViews a_o_readAisles a_o_readPage a_o_page a_o_trial a_o_book a_o_kept a_o_isKept a_o_seenSeat a_o_seenWas (0 : Int32) v_o_textSize v_o_place v_o_rows v_o_readRows v_o_doings v_o_seen v_o_seed v_o_found v_o_foundViews v_o_foundMany d_o_many d_o_views d_o_aisles d_o_page d_o_trial) H := hP
  have hD : va_D A (WX9_room cI cJ cZ cB a_o a_o_text a_o_many a_o_views a_o_aisles a_o_readMany a_o_readViews a_o_readAisles a_o_readPage a_o_page a_o_trial a_o_book a_o_kept a_o_isKept a_o_seenSeat a_o_seenWas (0 : Int32) v_o_textSize v_o_place v_o_rows v_o_readRows v_o_doings v_o_seen v_o_seed v_o_found v_o_foundViews v_o_foundMany d_o_many d_o_views d_o_aisles d_o_page d_o_trial) := hD
  refine lv_iload_n hx hb dX9_room_5 rfl (lv_at hl 1 rfl) ?_
  refine lv_i2l (v := (x1).toInt64) hx hb dX9_room_6 rfl ?_
  refine lv_lconst (v := (1 : Int64)) hx hb dX9_room_7 (by decide) ?_
  refine lv_ldc2 (v := (6 : Int64)) hx hb hown (hts (.constantLong RX9 181 (6 : Int64)) (by decide +kernel)) dX9_room_8 ?_
  obtain ⟨q1, hq2, hf⟩ := pf_b hf
  have hPc := hP.sub (ws' := ([] : va_W)) [] rfl
  refine cl_roi (va_runS (As := [.long ((x1).toInt64), .long (1 : Int64), .long (6 : Int64)]) (rest := []) ⟨hx, hb, hml, hown, hts⟩ (kX9_in l D cI cJ cZ cB ((x1).toInt64) (1 : Int64) (6 : Int64) q1 hq2) (va_cwS 3 hts gX9_room_X9_in rfl rfl rfl (by decide +kernel) ⟨Nat.le_of_ble_eq_true rfl, Nat.le_of_ble_eq_true rfl⟩) ⟨PRo.blind, PRo.at hK hPc⟩ rfl rfl hl.1 rfl (lv_room (Nat.le_of_ble_eq_true rfl)) dX9_room_11 ⟨Nat.zero_le _, Nat.zero_le _⟩) ?_
  refine lv_if_ne (tgt := 20) hx hb dX9_room_14 (by decide) (fun hc => ?_) (fun hc => ?_)
  · have hf := pf_f hc hf
    refine lv_aload_n hx hb dX9_room_20 rfl (lv_at hl 0 rfl) ?_
    refine va_get (D := D) (ci := 9) (v := .ref a_o_page) (C := RX9) (T := TX9) (N := 26) hx hb hts iX9_room_X9 hown hK.1 hP 0 rfl rfl 13 (by decide) (hts (.fieldLink RX9 35 "LoneSeatsModel" "page" "[I") (by decide +kernel)) (fun _ h9 => h9) rfl dX9_room_21 ?_
    refine lv_aload_n hx hb dX9_room_24 rfl (lv_at hl 0 rfl) ?_
    refine va_get (D := D) (ci := 9) (v := .ref a_o_trial) (C := RX9) (T := TX9) (N := 26) hx hb hts iX9_room_X9 hown hK.1 hP 0 rfl rfl 14 (by decide) (hts (.fieldLink RX9 38 "LoneSeatsModel" "trial" "[I") (by decide +kernel)) (fun _ h9 => h9) rfl dX9_room_25 ?_
    obtain ⟨q3, hq4, hf⟩ := pf_b hf
    have hPc := hP.sub (ws' := (WX9_copy cI cJ cZ cB a_o_page a_o_trial d_o_page d_o_trial)) [4, 5] rfl
    have hDc := hD.sub (ws' := (WX9_copy cI cJ cZ cB a_o_page a_o_trial d_o_page d_o_trial)) [4, 5] (by decide) rfl
    refine cl_rwv (wr := [(a_o, .inr (9, [.int (0 : Int32), .ref a_o_text, .int v_o_textSize, .int v_o_place, .int v_o_rows, .ref a_o_many, .ref a_o_views, .ref a_o_aisles, .int v_o_readRows, .ref a_o_readMany, .ref a_o_readViews, .ref a_o_readAisles, .ref a_o_readPage, .ref a_o_page, .ref a_o_trial, .ref a_o_book, .int v_o_doings, .ref a_o_kept, .ref a_o_isKept, .int v_o_seen, .ref a_o_seenSeat, .ref a_o_seenWas, .long v_o_seed, .int v_o_found, .int v_o_foundViews, .int v_o_foundMany])), (a_o_many, .inl (cI, (4, .inl d_o_many))), (a_o_views, .inl (cI, (36, .inl d_o_views))), (a_o_aisles, .inl (cZ, (36, .inl d_o_aisles)))]) (wsN := (WX9_room cI cJ cZ cB a_o a_o_text a_o_many a_o_views a_o_aisles a_o_readMany a_o_readViews a_o_readAisles a_o_readPage a_o_page a_o_trial a_o_book a_o_kept a_o_isKept a_o_seenSeat a_o_seenWas (0 : Int32) v_o_textSize v_o_place v_o_rows v_o_readRows v_o_doings v_o_seen v_o_seed v_o_found v_o_foundViews v_o_foundMany d_o_many d_o_views d_o_aisles d_o_page q3)) (va_runS (As := [.ref a_o_page, .ref a_o_trial]) (rest := []) ⟨hx, hb, hml, hown, hts⟩ ((kX9_copy l D cI cJ cZ cB a_o_page a_o_trial d_o_page d_o_trial q3 hq4) _) (va_cwS 2 hts gX9_room_X9_copy rfl rfl rfl (by decide +kernel) ⟨Nat.le_of_ble_eq_true rfl, Nat.le_of_ble_eq_true rfl⟩) ⟨PRw.blind, PRw.at hK hPc hDc⟩ rfl rfl hl.1 rfl (lv_room (Nat.le_of_ble_eq_true rfl)) dX9_room_28 ⟨Nat.zero_le _, Nat.zero_le _⟩) hP hD hS hA [4, 5] [0, 1, 2, 3] [0, 1, 2, 3, 4, 5] rfl rfl (by decide) (by decide) rfl (by decide) (fun H locs hP hD hS => ?_)
    refine lv_iconst (v := (0 : Int32)) hx hb dX9_room_31 (by decide) ?_
    refine lv_istore_n (lv' := [(2, .int (0 : Int32)), (0, .ref a_o), (1, .int x1)]) hx hb dX9_room_32 rfl hl (by decide) rfl (fun ls hl => ?_)
    refine lv_aload_n hx hb dX9_room_33 rfl (lv_at hl 1 rfl) ?_
    refine lv_aload_n hx hb dX9_room_34 rfl (lv_at hl 1 rfl) ?_
    refine va_get (D := D) (ci := 9) (v := .ref a_o_trial) (C := RX9) (T := TX9) (N := 26) hx hb hts iX9_room_X9 hown hK.1 hP 0 rfl rfl 14 (by decide) (hts (.fieldLink RX9 38 "LoneSeatsModel" "trial" "[I") (by decide +kernel)) (fun _ h9 => h9) rfl dX9_room_35 ?_
    refine lv_iload_n hx hb dX9_room_38 rfl (lv_at hl 2 rfl) ?_
    refine lv_bipush (v := (9 : Int32)) hx hb dX9_room_39 (by decide) ?_
    obtain ⟨q5, hq6, hf⟩ := pf_b hf
    have hPc := hP.sub (ws' := (WX9_findBest cI cJ cZ cB a_o a_o_text a_o_many a_o_views a_o_aisles a_o_readMany a_o_readViews a_o_readAisles a_o_readPage a_o_page a_o_trial a_o_book a_o_kept a_o_isKept a_o_seenSeat a_o_seenWas a_o_trial (0 : Int32) v_o_textSize v_o_place v_o_rows v_o_readRows v_o_doings v_o_seen v_o_seed v_o_found v_o_foundViews v_o_foundMany d_o_many d_o_views d_o_aisles q3)) [0, 1, 2, 3, 5] rfl
    have hDc := hD.sub (ws' := (WX9_findBest cI cJ cZ cB a_o a_o_text a_o_many a_o_views a_o_aisles a_o_readMany a_o_readViews a_o_readAisles a_o_readPage a_o_page a_o_trial a_o_book a_o_kept a_o_isKept a_o_seenSeat a_o_seenWas a_o_trial (0 : Int32) v_o_textSize v_o_place v_o_rows v_o_readRows v_o_doings v_o_seen v_o_seed v_o_found v_o_foundViews v_o_foundMany d_o_many d_o_views d_o_aisles q3)) [0, 1, 2, 3, 5] (by decide) rfl
    refine cl_rwv (wr := [(a_o_page, .inl (cI, (229, .inl d_o_page)))]) (wsN := (WX9_room cI cJ cZ cB a_o a_o_text a_o_many a_o_views a_o_aisles a_o_readMany a_o_readViews a_o_readAisles a_o_readPage a_o_page a_o_trial a_o_book a_o_kept a_o_isKept a_o_seenSeat a_o_seenWas (0 : Int32) v_o_textSize v_o_place v_o_rows v_o_readRows v_o_doings v_o_seen v_o_seed q5.1 q5.2.1 q5.2.2.1 d_o_many d_o_views d_o_aisles d_o_page q5.2.2.2)) (va_runV (As := [.ref a_o_trial, .int x1, .int (9 : Int32)]) (rest := []) ⟨hx, hb, hml, hown, hts⟩ ((kX9_findBest l D cI cJ cZ cB a_o a_o_text a_o_many a_o_views a_o_aisles a_o_readMany a_o_readViews a_o_readAisles a_o_readPage a_o_page a_o_trial a_o_book a_o_kept a_o_isKept a_o_seenSeat a_o_seenWas a_o_trial (0 : Int32) v_o_textSize v_o_place v_o_rows v_o_readRows v_o_doings v_o_seen v_o_seed v_o_found v_o_foundViews v_o_foundMany d_o_many d_o_views d_o_aisles q3 x1 (9 : Int32) q5 hq6) _) (cwV 3 hts gX9_room_X9_findBest rfl rfl rfl (by decide +kernel) ⟨Nat.le_of_ble_eq_true rfl, Nat.le_of_ble_eq_true rfl⟩) ⟨PRw.blind, va_recv hK.1 hPc (ci := 9) (q0 := 0) rfl rfl, PRw.at hK hPc hDc⟩ rfl rfl hl.1 rfl (lv_room (Nat.le_of_ble_eq_true rfl)) dX9_room_41 ⟨Nat.zero_le _, Nat.zero_le _⟩) hP hD hS hA [0, 1, 2, 3, 5] [4] [1, 2, 3, 4, 0, 5] rfl rfl (by decide) (by decide) rfl (by decide) (fun H locs hP hD hS => ?_)
    exact tX9_room_44 C hK hA  FU (0 : Int32) v_o_textSize v_o_place v_o_rows v_o_readRows v_o_doings v_o_seen v_o_seed q5.1 q5.2.1 q5.2.2.1 d_o_many d_o_views d_o_aisles d_o_page q5.2.2.2 x1 (0 : Int32) _ _ ls _ hP hD hS (lv_sub hl [1, 2, 0] rfl) hf
  · have hf := pf_t hc hf
    refine lv_bipush (v := (-2 : Int32)) hx hb dX9_room_17 (by decide) ?_
    cases hf
    exact W.iret hx hb hr (fun t ht hW => ⟨⟨rfl, by rw [ht]; exact hP, hD⟩, hS.F ht⟩) hS.2.2 dX9_room_19
abbrev WX9_waits (cI cJ cZ cB : ClassId) (a_o : Nat) (a_o_text : Nat) (a_o_many : Nat) (a_o_views : Nat) (a_o_aisles : Nat) (a_o_readMany : Nat) (a_o_readViews : Nat) (a_o_readAisles : Nat) (a_o_readPage : Nat) (a_o_page : Nat) (a_o_trial : Nat) (a_o_book : Nat) (a_o_kept : Nat) (a_o_isKept : Nat) (a_o_seenSeat : Nat) (a_o_seenWas : Nat) (v_o_thrown : Int32) (v_o_textSize : Int32) (v_o_place : Int32) (v_o_rows : Int32) (v_o_readRows : Int32) (v_o_doings : Int32) (v_o_seen : Int32) (v_o_seed : Int64) (v_o_found : Int32) (v_o_foundViews : Int32) (v_o_foundMany : Int32) (d_o_page : (Nat → Int32)) : va_W := [(a_o, .inr (9, [.int v_o_thrown, .ref a_o_text, .int v_o_textSize, .int v_o_place, .int v_o_rows, .ref a_o_many, .ref a_o_views, .ref a_o_aisles, .int v_o_readRows, .ref a_o_readMany, .ref a_o_readViews, .ref a_o_readAisles, .ref a_o_readPage, .ref a_o_page, .ref a_o_trial, .ref a_o_book, .int v_o_doings, .ref a_o_kept, .ref a_o_isKept, .int v_o_seen, .ref a_o_seenSeat, .ref a_o_seenWas, .long v_o_seed, .int v_o_found, .int v_o_foundViews, .int v_o_foundMany])), (a_o_page, .inl (cI, (229, .inl d_o_page)))]
set_option maxRecDepth 20000 in
theorem iX9_waits_X9 : ∀ w ∈ wsX90, w ∈ wsX9_waits := by decide +kernel
def fX9_waits (v_o_thrown : Int32) (d_o_page : (Nat → Int32)) (x1 : Int32) : Option (Int32 × Int32) := ((fX9_in ((x1).toInt64) (0 : Int64) ((((d_o_page ((7 : Int32)).toNatClampNeg) - (1 : Int32))).toInt64)).bind fun q1 => (if q1 = 0 then some ((-9 : Int32), (0 : Int32)) else (if ((8 : Int32) + x1) < 0 ∨ 229 ≤ (((8 : Int32) + x1)).toNatClampNeg then none else some ((d_o_page (((8 : Int32) + x1)).toNatClampNeg), (0 : Int32)))))
set_option maxRecDepth 100000 in
set_option maxHeartbeats 4000000 in
theorem kX9_waits (l : Launch) (D : va_G) (cI cJ cZ cB : ClassId) (a_o : Nat) (a_o_text : Nat) (a_o_many : Nat) (a_o_views : Nat) (a_o_aisles : Nat) (a_o_readMany : Nat) (a_o_readViews : Nat) (a_o_readAisles : Nat) (a_o_readPage : Nat) (a_o_page : Nat) (a_o_trial : Nat) (a_o_book : Nat) (a_o_kept : Nat) (a_o_isKept : Nat) (a_o_seenSeat : Nat) (a_o_seenWas : Nat) (v_o_thrown : Int32) (v_o_textSize : Int32) (v_o_place : Int32) (v_o_rows : Int32) (v_o_readRows : Int32) (v_o_doings : Int32) (v_o_seen : Int32) (v_o_seed : Int64) (v_o_found : Int32) (v_o_foundViews : Int32) (v_o_foundMany : Int32) (d_o_page : (Nat → Int32)) (x1 : Int32) (res : Int32 × Int32) (hf : fX9_waits v_o_thrown d_o_page x1 = some res) : Rw l yX9_waits wsX9_waits ({ frames := 1, cells := 0, slots := 0, locals := 25 } : Room) D (tyL cI cJ cZ cB) [.ref a_o, .int x1] (WX9_waits cI cJ cZ cB a_o a_o_text a_o_many a_o_views a_o_aisles a_o_readMany a_o_readViews a_o_readAisles a_o_readPage a_o_page a_o_trial a_o_book a_o_kept a_o_isKept a_o_seenSeat a_o_seenWas v_o_thrown v_o_textSize v_o_place v_o_rows v_o_readRows v_o_doings v_o_seen v_o_seed v_o_found v_o_foundViews v_o_foundMany d_o_page) (some (.int res.1)) (WX9_waits cI cJ cZ cB a_o a_o_text a_o_many a_o_views a_o_aisles a_o_readMany a_o_readViews a_o_readAisles a_o_readPage a_o_page a_o_trial a_o_book a_o_kept a_o_isKept a_o_seenSeat a_o_seenWas res.2 v_o_textSize v_o_place v_o_rows v_o_readRows v_o_doings v_o_seen v_o_seed v_o_found v_o_foundViews v_o_foundMany d_o_page) := by
  refine Rw.of (cc := cX9_waits) (maxL := 2) (ret := (some .int)) (own := RX9) (by decide) rfl rfl (Nat.le_of_ble_eq_true rfl) ?_
  intro p e s m below meth c A ls C hK hA hP hD hS hl
  obtain ⟨hx, hb, hr, hml, hts, hown, hlk⟩ := id C
  have hl : lv_has ls 2 [(0, .ref a_o), (1, .int x1)] := hl
  unfold fX9_waits at hf
  refine lv_aload_n hx hb dX9_waits_0 rfl (lv_at hl 0 rfl) ?_
  refine lv_iconst (v := (0 : Int32)) hx hb dX9_waits_1 (by decide) ?_
  refine va_put (D := D) (ci := 9) (v := .int (0 : Int32)) (ty := .int) (C := RX9) (T := TX9) (N := 26) hx hb hts iX9_waits_X9 tyX9 tyX9_ok nmX9 hown hK.1 hP hD hS 0 rfl rfl 0 (by decide) (hts (.fieldLink RX9 60 "LoneSeatsModel" "thrown" "I") (by decide +kernel)) (fun _ h9 => h9) rfl (by decide +kernel) rfl rfl (Nat.le_of_ble_eq_true rfl) dX9_waits_2 (fun H locs hP hD hS => ?_)
  have hP : va_P D vwCl (WX9_waits cI cJ cZ cB a_o a_o_text a_o_many a_o_views a_o_aisles a_o_readMany a_o_readViews a_o_readAisles a_o_readPage a_o_page a_o_trial a_o_book a_o_kept a_o_isKept a_o_seenSeat a_o_seenWas (0 : Int32) v_o_textSize v_o_place v_o_rows v_o_readRows v_o_doings v_o_seen v_o_seed v_o_found v_o_foundViews v_o_foundMany d_o_page) H := hP
  have hD : va_D A (WX9_waits cI cJ cZ cB a_o a_o_text a_o_many a_o_views a_o_aisles a_o_readMany a_o_readViews a_o_readAisles a_o_readPage a_o_page a_o_trial a_o_book a_o_kept a_o_isKept a_o_seenSeat a_o_seenWas (0 : Int32) v_o_textSize v_o_place v_o_rows v_o_readRows v_o_doings v_o_seen v_o_seed v_o_found v_o_foundViews v_o_foundMany d_o_page) := hD
  refine lv_iload_n hx hb dX9_waits_5 rfl (lv_at hl 1 rfl) ?_
  refine lv_i2l (v := (x1).toInt64) hx hb dX9_waits_6 rfl ?_
  refine lv_lconst (v := (0 : Int64)) hx hb dX9_waits_7 (by decide) ?_
  refine lv_aload_n hx hb dX9_waits_8 rfl (lv_at hl 0 rfl) ?_
  refine va_get (D := D) (ci := 9) (v := .ref a_o_page) (C := RX9) (T := TX9) (N := 26) hx hb hts iX9_waits_X9 hown hK.1 hP 0 rfl rfl 13 (by decide) (hts (.fieldLink RX9 35 "LoneSeatsModel" "page" "[I") (by decide +kernel)) (fun _ h9 => h9) rfl dX9_waits_9 ?_
  refine lv_bipush (v := (7 : Int32)) hx hb dX9_waits_12 (by decide) ?_
  refine va_iald hx hb hK.1 hP 1 0 rfl rfl (show ¬ ((7 : Int32) < 0 ∨ 229 ≤ ((7 : Int32)).toNatClampNeg) by decide) dX9_waits_14 ?_
  refine lv_iconst (v := (1 : Int32)) hx hb dX9_waits_15 (by decide) ?_
  refine lv_isub hx hb dX9_waits_16 ?_
  refine lv_i2l (v := (((d_o_page ((7 : Int32)).toNatClampNeg) - (1 : Int32))).toInt64) hx hb dX9_waits_17 rfl ?_
  obtain ⟨q1, hq2, hf⟩ := pf_b hf
  have hPc := hP.sub (ws' := ([] : va_W)) [] rfl
  refine cl_roi (va_runS (As := [.long ((x1).toInt64), .long (0 : Int64), .long ((((d_o_page ((7 : Int32)).toNatClampNeg) - (1 : Int32))).toInt64)]) (rest := []) ⟨hx, hb, hml, hown, hts⟩ (kX9_in l D cI cJ cZ cB ((x1).toInt64) (0 : Int64) ((((d_o_page ((7 : Int32)).toNatClampNeg) - (1 : Int32))).toInt64) q1 hq2) (va_cwS 3 hts gX9_waits_X9_in rfl rfl rfl (by decide +kernel) ⟨Nat.le_of_ble_eq_true rfl, Nat.le_of_ble_eq_true rfl⟩) ⟨PRo.blind, PRo.at hK hPc⟩ rfl rfl hl.1 rfl (lv_room (Nat.le_of_ble_eq_true rfl)) dX9_waits_18 ⟨Nat.zero_le _, Nat.zero_le _⟩) ?_
  refine lv_if_eq (tgt := 36) hx hb dX9_waits_21 (by decide) (fun hc => ?_) (fun hc => ?_)
  · have hf := pf_t hc hf
    refine lv_bipush (v := (-9 : Int32)) hx hb dX9_waits_36 (by decide) ?_
    cases hf
    exact W.iret hx hb hr (fun t ht hW => ⟨⟨rfl, by rw [ht]; exact hP, hD⟩, hS.F ht⟩) hS.2.2 dX9_waits_38
  · have hf := pf_f hc hf
    refine lv_aload_n hx hb dX9_waits_24 rfl (lv_at hl 0 rfl) ?_
    refine va_get (D := D) (ci := 9) (v := .ref a_o_page) (C := RX9) (T := TX9) (N := 26) hx hb hts iX9_waits_X9 hown hK.1 hP 0 rfl rfl 13 (by decide) (hts (.fieldLink RX9 35 "LoneSeatsModel" "page" "[I") (by decide +kernel)) (fun _ h9 => h9) rfl dX9_waits_25 ?_
    refine lv_bipush (v := (8 : Int32)) hx hb dX9_waits_28 (by decide) ?_
    refine lv_iload_n hx hb dX9_waits_30 rfl (lv_at hl 1 rfl) ?_
    refine lv_iadd hx hb dX9_waits_31 ?_
    obtain ⟨hg3, hf⟩ := pf_x hf
    refine va_iald hx hb hK.1 hP 1 0 rfl rfl hg3 dX9_waits_32 ?_
    refine lv_goto (tgt := 38) hx hb dX9_waits_33 (by decide) ?_
    cases hf
    exact W.iret hx hb hr (fun t ht hW => ⟨⟨rfl, by rw [ht]; exact hP, hD⟩, hS.F ht⟩) hS.2.2 dX9_waits_38
abbrev WX9_sits (cI cJ cZ cB : ClassId) (a_o : Nat) (a_o_text : Nat) (a_o_many : Nat) (a_o_views : Nat) (a_o_aisles : Nat) (a_o_readMany : Nat) (a_o_readViews : Nat) (a_o_readAisles : Nat) (a_o_readPage : Nat) (a_o_page : Nat) (a_o_trial : Nat) (a_o_book : Nat) (a_o_kept : Nat) (a_o_isKept : Nat) (a_o_seenSeat : Nat) (a_o_seenWas : Nat) (a_p1 : Nat) (v_o_thrown : Int32) (v_o_textSize : Int32) (v_o_place : Int32) (v_o_rows : Int32) (v_o_readRows : Int32) (v_o_doings : Int32) (v_o_seen : Int32) (v_o_seed : Int64) (v_o_found : Int32) (v_o_foundViews : Int32) (v_o_foundMany : Int32) (d_p1 : (Nat → Int32)) : va_W := [(a_o, .inr (9, [.int v_o_thrown, .ref a_o_text, .int v_o_textSize, .int v_o_place, .int v_o_rows, .ref a_o_many, .ref a_o_views, .ref a_o_aisles, .int v_o_readRows, .ref a_o_readMany, .ref a_o_readViews, .ref a_o_readAisles, .ref a_o_readPage, .ref a_o_page, .ref a_o_trial, .ref a_o_book, .int v_o_doings, .ref a_o_kept, .ref a_o_isKept, .int v_o_seen, .ref a_o_seenSeat, .ref a_o_seenWas, .long v_o_seed, .int v_o_found, .int v_o_foundViews, .int v_o_foundMany])), (a_p1, .inl (cI, (229, .inl d_p1)))]
def fX9_sits (d_p1 : (Nat → Int32)) (x2 : Int32) : Option (Int32) := ((fX9_in ((x2).toInt64) (1 : Int64) (((d_p1 ((6 : Int32)).toNatClampNeg)).toInt64)).bind fun q1 => (if q1 = 0 then some (0 : Int32) else ((fX9_at x2).bind fun q3 => (if (q3 + (2 : Int32)) < 0 ∨ 229 ≤ ((q3 + (2 : Int32))).toNatClampNeg then none else (if (d_p1 ((q3 + (2 : Int32))).toNatClampNeg) = (1 : Int32) then some (1 : Int32) else some (0 : Int32))))))
set_option maxRecDepth 100000 in
set_option maxHeartbeats 4000000 in
theorem kX9_sits (l : Launch) (D : va_G) (cI cJ cZ cB : ClassId) (a_o : Nat) (a_o_text : Nat) (a_o_many : Nat) (a_o_views : Nat) (a_o_aisles : Nat) (a_o_readMany : Nat) (a_o_readViews : Nat) (a_o_readAisles : Nat) (a_o_readPage : Nat) (a_o_page : Nat) (a_o_trial : Nat) (a_o_book : Nat) (a_o_kept : Nat) (a_o_isKept : Nat) (a_o_seenSeat : Nat) (a_o_seenWas : Nat) (a_p1 : Nat) (v_o_thrown : Int32) (v_o_textSize : Int32) (v_o_place : Int32) (v_o_rows : Int32) (v_o_readRows : Int32) (v_o_doings : Int32) (v_o_seen : Int32) (v_o_seed : Int64) (v_o_found : Int32) (v_o_foundViews : Int32) (v_o_foundMany : Int32) (d_p1 : (Nat → Int32)) (x2 : Int32) (res : Int32) (hf : fX9_sits d_p1 x2 = some res) : Ro l yX9_sits wsX9_sits ({ frames := 1, cells := 0, slots := 0, locals := 25 } : Room) D (tyL cI cJ cZ cB) [.ref a_o, .ref a_p1, .int x2] (WX9_sits cI cJ cZ cB a_o a_o_text a_o_many a_o_views a_o_aisles a_o_readMany a_o_readViews a_o_readAisles a_o_readPage a_o_page a_o_trial a_o_book a_o_kept a_o_isKept a_o_seenSeat a_o_seenWas a_p1 v_o_thrown v_o_textSize v_o_place v_o_rows v_o_readRows v_o_doings v_o_seen v_o_seed v_o_found v_o_foundViews v_o_foundMany d_p1) (some (.int res)) := by
  refine Ro.of (cc := cX9_sits) (maxL := 3) (ret := (some .boolean)) (own := RX9) (by decide) rfl rfl (Nat.le_of_ble_eq_true rfl) ?_
  intro p e s m below meth c ls C hK hP hl
  obtain ⟨hx, hb, hr, hml, hts, hown, hlk⟩ := id C
  have hl : lv_has ls 3 [(0, .ref a_o), (1, .ref a_p1), (2, .int x2)] := hl
  unfold fX9_sits at hf
  refine lv_iload_n hx hb dX9_sits_0 rfl (lv_at hl 2 rfl) ?_
  refine lv_i2l (v := (x2).toInt64) hx hb dX9_sits_1 rfl ?_
  refine lv_lconst (v := (1 : Int64)) hx hb dX9_sits_2 (by decide) ?_
  refine lv_aload_n hx hb dX9_sits_3 rfl (lv_at hl 1 rfl) ?_
  refine lv_bipush (v := (6 : Int32)) hx hb dX9_sits_4 (by decide) ?_
  refine va_iald hx hb hK.1 hP 1 0 rfl rfl (show ¬ ((6 : Int32) < 0 ∨ 229 ≤ ((6 : Int32)).toNatClampNeg) by decide) dX9_sits_6 ?_
  refine lv_i2l (v := ((d_p1 ((6 : Int32)).toNatClampNeg)).toInt64) hx hb dX9_sits_7 rfl ?_
  obtain ⟨q1, hq2, hf⟩ := pf_b hf
  have hPc := hP.sub (ws' := ([] : va_W)) [] rfl
  refine cl_roi (va_runS (As := [.long ((x2).toInt64), .long (1 : Int64), .long (((d_p1 ((6 : Int32)).toNatClampNeg)).toInt64)]) (rest := []) ⟨hx, hb, hml, hown, hts⟩ (kX9_in l D cI cJ cZ cB ((x2).toInt64) (1 : Int64) (((d_p1 ((6 : Int32)).toNatClampNeg)).toInt64) q1 hq2) (va_cwS 3 hts gX9_sits_X9_in rfl rfl rfl (by decide +kernel) ⟨Nat.le_of_ble_eq_true rfl, Nat.le_of_ble_eq_true rfl⟩) ⟨PRo.blind, PRo.at hK hPc⟩ rfl rfl hl.1 rfl (lv_room (Nat.le_of_ble_eq_true rfl)) dX9_sits_8 ⟨Nat.zero_le _, Nat.zero_le _⟩) ?_
  refine lv_if_eq (tgt := 30) hx hb dX9_sits_11 (by decide) (fun hc => ?_) (fun hc => ?_)
  · have hf := pf_t hc hf
    refine lv_iconst (v := (0 : Int32)) hx hb dX9_sits_30 (by decide) ?_
    cases hf
    exact W.zret hx hb hr (nar_b (by decide)) (fun t ht hW => ⟨rfl, ht⟩) (fun _ h => absurd h List.not_mem_nil) dX9_sits_31
  · have hf := pf_f hc hf
    refine lv_aload_n hx hb dX9_sits_14 rfl (lv_at hl 1 rfl) ?_
    refine lv_iload_n hx hb dX9_sits_15 rfl (lv_at hl 2 rfl) ?_
    obtain ⟨q3, hq4, hf⟩ := pf_b hf
    have hPc := hP.sub (ws' := ([] : va_W)) [] rfl
    refine cl_roi (va_runS (As := [.int x2]) (rest := [.ref a_p1]) ⟨hx, hb, hml, hown, hts⟩ (kX9_at l D cI cJ cZ cB x2 q3 hq4) (va_cwS 1 hts gX9_sits_X9_at rfl rfl rfl (by decide +kernel) ⟨Nat.le_of_ble_eq_true rfl, Nat.le_of_ble_eq_true rfl⟩) ⟨PRo.blind, PRo.at hK hPc⟩ rfl rfl hl.1 rfl (lv_room (Nat.le_of_ble_eq_true rfl)) dX9_sits_16 ⟨Nat.zero_le _, Nat.zero_le _⟩) ?_
    refine lv_iconst (v := (2 : Int32)) hx hb dX9_sits_19 (by decide) ?_
    refine lv_iadd hx hb dX9_sits_20 ?_
    obtain ⟨hg5, hf⟩ := pf_x hf
    refine va_iald hx hb hK.1 hP 1 0 rfl rfl hg5 dX9_sits_21 ?_
    refine lv_iconst (v := (1 : Int32)) hx hb dX9_sits_22 (by decide) ?_
    refine lv_icmp_ne (tgt := 30) hx hb dX9_sits_23 (by decide) (fun hc => ?_) (fun hc => ?_)
    · have hf := pf_f hc hf
      refine lv_iconst (v := (0 : Int32)) hx hb dX9_sits_30 (by decide) ?_
      cases hf
      exact W.zret hx hb hr (nar_b (by decide)) (fun t ht hW => ⟨rfl, ht⟩) (fun _ h => absurd h List.not_mem_nil) dX9_sits_31
    · have hf := pf_t hc hf
      refine lv_iconst (v := (1 : Int32)) hx hb dX9_sits_26 (by decide) ?_
      refine lv_goto (tgt := 31) hx hb dX9_sits_27 (by decide) ?_
      cases hf
      exact W.zret hx hb hr (nar_b (by decide)) (fun t ht hW => ⟨rfl, ht⟩) (fun _ h => absurd h List.not_mem_nil) dX9_sits_31
abbrev WX9_does (cI cJ cZ cB : ClassId) (a_o : Nat) (a_o_text : Nat) (a_o_many : Nat) (a_o_views : Nat) (a_o_aisles : Nat) (a_o_readMany : Nat) (a_o_readViews : Nat) (a_o_readAisles : Nat) (a_o_readPage : Nat) (a_o_page : Nat) (a_o_trial : Nat) (a_o_book : Nat) (a_o_kept : Nat) (a_o_isKept : Nat) (a_o_seenSeat : Nat) (a_o_seenWas : Nat) (v_o_thrown : Int32) (v_o_textSize : Int32) (v_o_place : Int32) (v_o_rows : Int32) (v_o_readRows : Int32) (v_o_doings : Int32) (v_o_seen : Int32) (v_o_seed : Int64) (v_o_found : Int32) (v_o_foundViews : Int32) (v_o_foundMany : Int32) (d_o_many : (Nat → Int32)) (d_o_views : (Nat → Int32)) (d_o_aisles : (Nat → Int32)) (d_o_trial : (Nat → Int32)) : va_W := [(a_o, .inr (9, [.int v_o_thrown, .ref a_o_text, .int v_o_textSize, .int v_o_place, .int v_o_rows, .ref a_o_many, .ref a_o_views, .ref a_o_aisles, .int v_o_readRows, .ref a_o_readMany, .ref a_o_readViews, .ref a_o_readAisles, .ref a_o_readPage, .ref a_o_page, .ref a_o_trial, .ref a_o_book, .int v_o_doings, .ref a_o_kept, .ref a_o_isKept, .int v_o_seen, .ref a_o_seenSeat, .ref a_o_seenWas, .long v_o_seed, .int v_o_found, .int v_o_foundViews, .int v_o_foundMany])), (a_o_many, .inl (cI, (4, .inl d_o_many))), (a_o_views, .inl (cI, (36, .inl d_o_views))), (a_o_aisles, .inl (cZ, (36, .inl d_o_aisles))), (a_o_trial, .inl (cI, (229, .inl d_o_trial)))]
set_option maxRecDepth 20000 in
theorem iX9_does_X9 : ∀ w ∈ wsX90, w ∈ wsX9_does := by decide +kernel
def fX9_does (v_o_rows : Int32) (v_o_found : Int32) (v_o_foundViews : Int32) (v_o_foundMany : Int32) (d_o_many : (Nat → Int32)) (d_o_views : (Nat → Int32)) (d_o_aisles : (Nat → Int32)) (d_o_trial : (Nat → Int32)) (x1 : Int32) (x2 : Int32) (x3 : Int32) : Option (Int32 × Int32 × Int32 × Int32 × (Nat → Int32)) := (if x1 = (1 : Int32) then ((fX9_isAsk x2 x3).bind fun q2 => (if q2 = 0 then some ((0 : Int32), v_o_found, v_o_foundViews, v_o_foundMany, d_o_trial) else ((fX9_mayAsk v_o_rows v_o_found v_o_foundViews v_o_foundMany d_o_many d_o_views d_o_aisles d_o_trial x2 x3).bind fun q4 => (if q4.1 = 0 then some ((0 : Int32), q4.2.1, q4.2.2.1, q4.2.2.2.1, q4.2.2.2.2) else (if q4.2.2.2.1 = 0 then some ((0 : Int32), q4.2.1, q4.2.2.1, q4.2.2.2.1, q4.2.2.2.2) else ((fX9_askOn v_o_rows q4.2.1 q4.2.2.1 q4.2.2.2.1 d_o_many d_o_views d_o_aisles q4.2.2.2.2 x2 x3).bind fun q6 => some ((1 : Int32), q6.1, q6.2.1, q6.2.2.1, q6.2.2.2))))))) else (if x1 = (2 : Int32) then ((fX9_sits d_o_trial (((10 : Int32) * x2) + x3)).bind fun q9 => (if q9 = 0 then some ((0 : Int32), v_o_found, v_o_foundViews, v_o_foundMany, d_o_trial) else ((fX9_returnOn v_o_rows v_o_found v_o_foundViews v_o_foundMany d_o_many d_o_views d_o_aisles d_o_trial (((10 : Int32) * x2) + x3)).bind fun q11 => some ((1 : Int32), q11.2.1, q11.2.2.1, q11.2.2.2.1, q11.2.2.2.2)))) else (if x1 = (3 : Int32) then ((fX9_noRow v_o_rows x2).bind fun q14 => (if q14 = 0 then (if x3 = 0 then some ((0 : Int32), v_o_found, v_o_foundViews, v_o_foundMany, d_o_trial) else (if ((0 : Int32) + x2) < 0 ∨ 229 ≤ (((0 : Int32) + x2)).toNatClampNeg then none else ((fX9_letInOn v_o_rows v_o_found v_o_foundViews v_o_foundMany d_o_many d_o_views d_o_aisles (upd d_o_trial ((((0 : Int32) + x2)).toNatClampNeg) x3)).bind fun q17 => some ((1 : Int32), q17.1, q17.2.1, q17.2.2.1, q17.2.2.2)))) else some ((0 : Int32), v_o_found, v_o_foundViews, v_o_foundMany, d_o_trial))) else (if x1 = (4 : Int32) then ((fX9_noSeat v_o_rows d_o_many x2 x3).bind fun q20 => (if q20 = 0 then ((fX9_isLone d_o_many d_o_aisles d_o_trial x2 x3).bind fun q22 => (if q22 = 0 then some ((0 : Int32), v_o_found, v_o_foundViews, v_o_foundMany, d_o_trial) else some ((1 : Int32), v_o_found, v_o_foundViews, v_o_foundMany, d_o_trial))) else some ((0 : Int32), v_o_found, v_o_foundViews, v_o_foundMany, d_o_trial))) else (if x1 = (5 : Int32) then ((fX9_allFree v_o_rows d_o_many d_o_trial).bind fun q25 => (if q25 = (((10 : Int32) * x2) + x3) then some ((1 : Int32), v_o_found, v_o_foundViews, v_o_foundMany, d_o_trial) else some ((0 : Int32), v_o_found, v_o_foundViews, v_o_foundMany, d_o_trial))) else (if x1 = (6 : Int32) then ((fX9_sits d_o_trial (((10 : Int32) * x2) + x3)).bind fun q28 => (if ¬ (q28 = 0 ∨ q28 = 1) then none else some (q28, v_o_found, v_o_foundViews, v_o_foundMany, d_o_trial))) else (if x1 = (7 : Int32) then ((fX9_isAsk x2 x3).bind fun q32 => (if q32 = 0 then some ((0 : Int32), v_o_found, v_o_foundViews, v_o_foundMany, d_o_trial) else ((fX9_findBest v_o_rows v_o_found v_o_foundViews v_o_foundMany d_o_many d_o_views d_o_aisles d_o_trial x2 x3).bind fun q34 => (if q34.2.2.1 ≤ 0 then some ((0 : Int32), q34.1, q34.2.1, q34.2.2.1, q34.2.2.2) else some ((1 : Int32), q34.1, q34.2.1, q34.2.2.1, q34.2.2.2))))) else some ((0 : Int32), v_o_found, v_o_foundViews, v_o_foundMany, d_o_trial))))))))
set_option maxRecDepth 100000 in
set_option maxHeartbeats 4000000 in
theorem kX9_does (l : Launch) (D : va_G) (cI cJ cZ cB : ClassId) (a_o : Nat) (a_o_text : Nat) (a_o_many : Nat) (a_o_views : Nat) (a_o_aisles : Nat) (a_o_readMany : Nat) (a_o_readViews : Nat) (a_o_readAisles : Nat) (a_o_readPage : Nat) (a_o_page : Nat) (a_o_trial : Nat) (a_o_book : Nat) (a_o_kept : Nat) (a_o_isKept : Nat) (a_o_seenSeat : Nat) (a_o_seenWas : Nat) (v_o_thrown : Int32) (v_o_textSize : Int32) (v_o_place : Int32) (v_o_rows : Int32) (v_o_readRows : Int32) (v_o_doings : Int32) (v_o_seen : Int32) (v_o_seed : Int64) (v_o_found : Int32) (v_o_foundViews : Int32) (v_o_foundMany : Int32) (d_o_many : (Nat → Int32)) (d_o_views : (Nat → Int32)) (d_o_aisles : (Nat → Int32)) (d_o_trial : (Nat → Int32)) (x1 : Int32) (x2 : Int32) (x3 : Int32) (res : Int32 × Int32 × Int32 × Int32 × (Nat → Int32)) (hf : fX9_does v_o_rows v_o_found v_o_foundViews v_o_foundMany d_o_many d_o_views d_o_aisles d_o_trial x1 x2 x3 = some res) : Rw l yX9_does wsX9_does ({ frames := 9, cells := 0, slots := 0, locals := 222 } : Room) D (tyL cI cJ cZ cB) [.ref a_o, .int x1, .int x2, .int x3] (WX9_does cI cJ cZ cB a_o a_o_text a_o_many a_o_views a_o_aisles a_o_readMany a_o_readViews a_o_readAisles a_o_readPage a_o_page a_o_trial a_o_book a_o_kept a_o_isKept a_o_seenSeat a_o_seenWas v_o_thrown v_o_textSize v_o_place v_o_rows v_o_readRows v_o_doings v_o_seen v_o_seed v_o_found v_o_foundViews v_o_foundMany d_o_many d_o_views d_o_aisles d_o_trial) (some (.int res.1)) (WX9_does cI cJ cZ cB a_o a_o_text a_o_many a_o_views a_o_aisles a_o_readMany a_o_readViews a_o_readAisles a_o_readPage a_o_page a_o_trial a_o_book a_o_kept a_o_isKept a_o_seenSeat a_o_seenWas v_o_thrown v_o_textSize v_o_place v_o_rows v_o_readRows v_o_doings v_o_seen v_o_seed res.2.1 res.2.2.1 res.2.2.2.1 d_o_many d_o_views d_o_aisles res.2.2.2.2) := by
  refine Rw.of (cc := cX9_does) (maxL := 5) (ret := (some .boolean)) (own := RX9) (by decide) rfl rfl (Nat.le_of_ble_eq_true rfl) ?_
  intro p e s m below meth c A ls C hK hA hP hD hS hl
  obtain ⟨hx, hb, hr, hml, hts, hown, hlk⟩ := id C
  have hl : lv_has ls 5 [(0, .ref a_o), (1, .int x1), (2, .int x2), (3, .int x3)] := hl
  unfold fX9_does at hf
  refine lv_bipush (v := (10 : Int32)) hx hb dX9_does_0 (by decide) ?_
  refine lv_iload_n hx hb dX9_does_2 rfl (lv_at hl 2 rfl) ?_
  refine lv_imul hx hb dX9_does_3 ?_
  refine lv_iload_n hx hb dX9_does_4 rfl (lv_at hl 3 rfl) ?_
  refine lv_iadd hx hb dX9_does_5 ?_
  refine lv_istore (lv' := [(4, .int (((10 : Int32) * x2) + x3)), (0, .ref a_o), (1, .int x1), (2, .int x2), (3, .int x3)]) hx hb dX9_does_6 hl (by decide) rfl (fun ls hl => ?_)
  refine lv_iload_n hx hb dX9_does_8 rfl (lv_at hl 2 rfl) ?_
  by_cases hs1 : x1 = (1 : Int32)
  · have hf := pf_t hs1 hf
    refine lv_tableIn (tgt := 52) (off := 43) hx hb dX9_does_9 (by rw [hs1]; decide) (by rw [hs1]; decide) (by rw [hs1]; rfl) (by decide) ?_
    refine lv_iload_n hx hb dX9_does_52 rfl (lv_at hl 3 rfl) ?_
    refine lv_iload_n hx hb dX9_does_53 rfl (lv_at hl 4 rfl) ?_
    obtain ⟨q2, hq3, hf⟩ := pf_b hf
    have hPc := hP.sub (ws' := ([] : va_W)) [] rfl
    refine cl_roi (va_runS (As := [.int x2, .int x3]) (rest := []) ⟨hx, hb, hml, hown, hts⟩ (kX9_isAsk l D cI cJ cZ cB x2 x3 q2 hq3) (va_cwS 2 hts gX9_does_X9_isAsk rfl rfl rfl (by decide +kernel) ⟨Nat.le_of_ble_eq_true rfl, Nat.le_of_ble_eq_true rfl⟩) ⟨PRo.blind, PRo.at hK hPc⟩ rfl rfl hl.1 rfl (lv_room (Nat.le_of_ble_eq_true rfl)) dX9_does_54 ⟨Nat.zero_le _, Nat.zero_le _⟩) ?_
    refine lv_if_eq (tgt := 80) hx hb dX9_does_57 (by decide) (fun hc => ?_) (fun hc => ?_)
    · have hf := pf_t hc hf
      refine lv_iconst (v := (0 : Int32)) hx hb dX9_does_80 (by decide) ?_
      cases hf
      exact W.zret hx hb hr (nar_b (by decide)) (fun t ht hW => ⟨⟨rfl, by rw [ht]; exact hP, hD⟩, hS.F ht⟩) hS.2.2 dX9_does_81
    · have hf := pf_f hc hf
      refine lv_aload_n hx hb dX9_does_60 rfl (lv_at hl 1 rfl) ?_
      refine lv_aload_n hx hb dX9_does_61 rfl (lv_at hl 1 rfl) ?_
      refine va_get (D := D) (ci := 9) (v := .ref a_o_trial) (C := RX9) (T := TX9) (N := 26) hx hb hts iX9_does_X9 hown hK.1 hP 0 rfl rfl 14 (by decide) (hts (.fieldLink RX9 38 "LoneSeatsModel" "trial" "[I") (by decide +kernel)) (fun _ h9 => h9) rfl dX9_does_62 ?_
      refine lv_iload_n hx hb dX9_does_65 rfl (lv_at hl 3 rfl) ?_
      refine lv_iload_n hx hb dX9_does_66 rfl (lv_at hl 4 rfl) ?_
      obtain ⟨q4, hq5, hf⟩ := pf_b hf
      have hPc := hP.sub (ws' := (WX9_mayAsk cI cJ cZ cB a_o a_o_text a_o_many a_o_views a_o_aisles a_o_readMany a_o_readViews a_o_readAisles a_o_readPage a_o_page a_o_trial a_o_book a_o_kept a_o_isKept a_o_seenSeat a_o_seenWas a_o_trial v_o_thrown v_o_textSize v_o_place v_o_rows v_o_readRows v_o_doings v_o_seen v_o_seed v_o_found v_o_foundViews v_o_foundMany d_o_many d_o_views d_o_aisles d_o_trial)) [0, 1, 2, 3, 4] rfl
      have hDc := hD.sub (ws' := (WX9_mayAsk cI cJ cZ cB a_o a_o_text a_o_many a_o_views a_o_aisles a_o_readMany a_o_readViews a_o_readAisles a_o_readPage a_o_page a_o_trial a_o_book a_o_kept a_o_isKept a_o_seenSeat a_o_seenWas a_o_trial v_o_thrown v_o_textSize v_o_place v_o_rows v_o_readRows v_o_doings v_o_seen v_o_seed v_o_found v_o_foundViews v_o_foundMany d_o_many d_o_views d_o_aisles d_o_trial)) [0, 1, 2, 3, 4] (by decide) rfl
      refine cl_rwi (wr := []) (wsN := (WX9_does cI cJ cZ cB a_o a_o_text a_o_many a_o_views a_o_aisles a_o_readMany a_o_readViews a_o_readAisles a_o_readPage a_o_page a_o_trial a_o_book a_o_kept a_o_isKept a_o_seenSeat a_o_seenWas v_o_thrown v_o_textSize v_o_place v_o_rows v_o_readRows v_o_doings v_o_seen v_o_seed q4.2.1 q4.2.2.1 q4.2.2.2.1 d_o_many d_o_views d_o_aisles q4.2.2.2.2)) (va_runV (As := [.ref a_o_trial, .int x2, .int x3]) (rest := []) ⟨hx, hb, hml, hown, hts⟩ ((kX9_mayAsk l D cI cJ cZ cB a_o a_o_text a_o_many a_o_views a_o_aisles a_o_readMany a_o_readViews a_o_readAisles a_o_readPage a_o_page a_o_trial a_o_book a_o_kept a_o_isKept a_o_seenSeat a_o_seenWas a_o_trial v_o_thrown v_o_textSize v_o_place v_o_rows v_o_readRows v_o_doings v_o_seen v_o_seed v_o_found v_o_foundViews v_o_foundMany d_o_many d_o_views d_o_aisles d_o_trial x2 x3 q4 hq5) _) (cwV 3 hts gX9_does_X9_mayAsk rfl rfl rfl (by decide +kernel) ⟨Nat.le_of_ble_eq_true rfl, Nat.le_of_ble_eq_true rfl⟩) ⟨PRw.blind, va_recv hK.1 hPc (ci := 9) (q0 := 0) rfl rfl, PRw.at hK hPc hDc⟩ rfl rfl hl.1 rfl (lv_room (Nat.le_of_ble_eq_true rfl)) dX9_does_67 ⟨Nat.zero_le _, Nat.zero_le _⟩) hP hD hS hA [0, 1, 2, 3, 4] [] [0, 1, 2, 3, 4] rfl rfl (by decide) (by decide) rfl (by decide) (fun H locs hP hD hS => ?_)
      refine lv_if_eq (tgt := 80) hx hb dX9_does_70 (by decide) (fun hc => ?_) (fun hc => ?_)
      · have hf := pf_t hc hf
        refine lv_iconst (v := (0 : Int32)) hx hb dX9_does_80 (by decide) ?_
        cases hf
        exact W.zret hx hb hr (nar_b (by decide)) (fun t ht hW => ⟨⟨rfl, by rw [ht]; exact hP, hD⟩, hS.F ht⟩) hS.2.2 dX9_does_81
      · have hf := pf_f hc hf
        refine lv_aload_n hx hb dX9_does_73 rfl (lv_at hl 1 rfl) ?_
        refine va_get (D := D) (ci := 9) (v := .int q4.2.2.2.1) (C := RX9) (T := TX9) (N := 26) hx hb hts iX9_does_X9 hown hK.1 hP 0 rfl rfl 25 (by decide) (hts (.fieldLink RX9 137 "LoneSeatsModel" "foundMany" "I") (by decide +kernel)) (fun _ h9 => h9) rfl dX9_does_74 ?_
        refine lv_if_ne (tgt := 82) hx hb dX9_does_77 (by decide) (fun hc => ?_) (fun hc => ?_)
        · have hf := pf_f hc hf
          refine lv_aload_n hx hb dX9_does_82 rfl (lv_at hl 1 rfl) ?_
          refine lv_aload_n hx hb dX9_does_83 rfl (lv_at hl 1 rfl) ?_
          refine va_get (D := D) (ci := 9) (v := .ref a_o_trial) (C := RX9) (T := TX9) (N := 26) hx hb hts iX9_does_X9 hown hK.1 hP 0 rfl rfl 14 (by decide) (hts (.fieldLink RX9 38 "LoneSeatsModel" "trial" "[I") (by decide +kernel)) (fun _ h9 => h9) rfl dX9_does_84 ?_
          refine lv_iload_n hx hb dX9_does_87 rfl (lv_at hl 3 rfl) ?_
          refine lv_iload_n hx hb dX9_does_88 rfl (lv_at hl 4 rfl) ?_
          obtain ⟨q6, hq7, hf⟩ := pf_b hf
          have hPc := hP.sub (ws' := (WX9_askOn cI cJ cZ cB a_o a_o_text a_o_many a_o_views a_o_aisles a_o_readMany a_o_readViews a_o_readAisles a_o_readPage a_o_page a_o_trial a_o_book a_o_kept a_o_isKept a_o_seenSeat a_o_seenWas a_o_trial v_o_thrown v_o_textSize v_o_place v_o_rows v_o_readRows v_o_doings v_o_seen v_o_seed q4.2.1 q4.2.2.1 q4.2.2.2.1 d_o_many d_o_views d_o_aisles q4.2.2.2.2)) [0, 1, 2, 3, 4] rfl
          have hDc := hD.sub (ws' := (WX9_askOn cI cJ cZ cB a_o a_o_text a_o_many a_o_views a_o_aisles a_o_readMany a_o_readViews a_o_readAisles a_o_readPage a_o_page a_o_trial a_o_book a_o_kept a_o_isKept a_o_seenSeat a_o_seenWas a_o_trial v_o_thrown v_o_textSize v_o_place v_o_rows v_o_readRows v_o_doings v_o_seen v_o_seed q4.2.1 q4.2.2.1 q4.2.2.2.1 d_o_many d_o_views d_o_aisles q4.2.2.2.2)) [0, 1, 2, 3, 4] (by decide) rfl
          refine cl_rwv (wr := []) (wsN := (WX9_does cI cJ cZ cB a_o a_o_text a_o_many a_o_views a_o_aisles a_o_readMany a_o_readViews a_o_readAisles a_o_readPage a_o_page a_o_trial a_o_book a_o_kept a_o_isKept a_o_seenSeat a_o_seenWas v_o_thrown v_o_textSize v_o_place v_o_rows v_o_readRows v_o_doings v_o_seen v_o_seed q6.1 q6.2.1 q6.2.2.1 d_o_many d_o_views d_o_aisles q6.2.2.2)) (va_runV (As := [.ref a_o_trial, .int x2, .int x3]) (rest := []) ⟨hx, hb, hml, hown, hts⟩ ((kX9_askOn l D cI cJ cZ cB a_o a_o_text a_o_many a_o_views a_o_aisles a_o_readMany a_o_readViews a_o_readAisles a_o_readPage a_o_page a_o_trial a_o_book a_o_kept a_o_isKept a_o_seenSeat a_o_seenWas a_o_trial v_o_thrown v_o_textSize v_o_place v_o_rows v_o_readRows v_o_doings v_o_seen v_o_seed q4.2.1 q4.2.2.1 q4.2.2.2.1 d_o_many d_o_views d_o_aisles q4.2.2.2.2 x2 x3 q6 hq7) _) (cwV 3 hts gX9_does_X9_askOn rfl rfl rfl (by decide +kernel) ⟨Nat.le_of_ble_eq_true rfl, Nat.le_of_ble_eq_true rfl⟩) ⟨PRw.blind, va_recv hK.1 hPc (ci := 9) (q0 := 0) rfl rfl, PRw.at hK hPc hDc⟩ rfl rfl hl.1 rfl (lv_room (Nat.le_of_ble_eq_true rfl)) dX9_does_89 ⟨Nat.zero_le _, Nat.zero_le _⟩) hP hD hS hA [0, 1, 2, 3, 4] [] [0, 1, 2, 3, 4] rfl rfl (by decide) (by decide) rfl (by decide) (fun H locs hP hD hS => ?_)
          refine lv_iconst (v := (1 : Int32)) hx hb dX9_does_92 (by decide) ?_
          cases hf
          exact W.zret hx hb hr (nar_b (by decide)) (fun t ht hW => ⟨⟨rfl, by rw [ht]; exact hP, hD⟩, hS.F ht⟩) hS.2.2 dX9_does_93
        · have hf := pf_t hc hf
          refine lv_iconst (v := (0 : Int32)) hx hb dX9_does_80 (by decide) ?_
          cases hf
          exact W.zret hx hb hr (nar_b (by decide)) (fun t ht hW => ⟨⟨rfl, by rw [ht]; exact hP, hD⟩, hS.F ht⟩) hS.2.2 dX9_does_81
  · have hf := pf_f hs1 hf
    by_cases hs8 : x1 = (2 : Int32)
    · have hf := pf_t hs8 hf
      refine lv_tableIn (tgt := 94) (off := 85) hx hb dX9_does_9 (by rw [hs8]; decide) (by rw [hs8]; decide) (by rw [hs8]; rfl) (by decide) ?_
      refine lv_aload_n hx hb dX9_does_94 rfl (lv_at hl 1 rfl) ?_
      refine lv_aload_n hx hb dX9_does_95 rfl (lv_at hl 1 rfl) ?_
      refine va_get (D := D) (ci := 9) (v := .ref a_o_trial) (C := RX9) (T := TX9) (N := 26) hx hb hts iX9_does_X9 hown hK.1 hP 0 rfl rfl 14 (by decide) (hts (.fieldLink RX9 38 "LoneSeatsModel" "trial" "[I") (by decide +kernel)) (fun _ h9 => h9) rfl dX9_does_96 ?_
      refine lv_iload hx hb dX9_does_99 (lv_at hl 0 rfl) ?_
      obtain ⟨q9, hq10, hf⟩ := pf_b hf
      have hPc := hP.sub (ws' := (WX9_sits cI cJ cZ cB a_o a_o_text a_o_many a_o_views a_o_aisles a_o_readMany a_o_readViews a_o_readAisles a_o_readPage a_o_page a_o_trial a_o_book a_o_kept a_o_isKept a_o_seenSeat a_o_seenWas a_o_trial v_o_thrown v_o_textSize v_o_place v_o_rows v_o_readRows v_o_doings v_o_seen v_o_seed v_o_found v_o_foundViews v_o_foundMany d_o_trial)) [0, 4] rfl
      refine cl_roi (va_runV (As := [.ref a_o_trial, .int (((10 : Int32) * x2) + x3)]) (rest := []) ⟨hx, hb, hml, hown, hts⟩ (kX9_sits l D cI cJ cZ cB a_o a_o_text a_o_many a_o_views a_o_aisles a_o_readMany a_o_readViews a_o_readAisles a_o_readPage a_o_page a_o_trial a_o_book a_o_kept a_o_isKept a_o_seenSeat a_o_seenWas a_o_trial v_o_thrown v_o_textSize v_o_place v_o_rows v_o_readRows v_o_doings v_o_seen v_o_seed v_o_found v_o_foundViews v_o_foundMany d_o_trial (((10 : Int32) * x2) + x3) q9 hq10) (cwV 2 hts gX9_does_X9_sits rfl rfl rfl (by decide +kernel) ⟨Nat.le_of_ble_eq_true rfl, Nat.le_of_ble_eq_true rfl⟩) ⟨PRo.blind, va_recv hK.1 hPc (ci := 9) (q0 := 0) rfl rfl, PRo.at hK hPc⟩ rfl rfl hl.1 rfl (lv_room (Nat.le_of_ble_eq_true rfl)) dX9_does_101 ⟨Nat.zero_le _, Nat.zero_le _⟩) ?_
      refine lv_if_ne (tgt := 109) hx hb dX9_does_104 (by decide) (fun hc => ?_) (fun hc => ?_)
      · have hf := pf_f hc hf
        refine lv_aload_n hx hb dX9_does_109 rfl (lv_at hl 1 rfl) ?_
        refine lv_aload_n hx hb dX9_does_110 rfl (lv_at hl 1 rfl) ?_
        refine va_get (D := D) (ci := 9) (v := .ref a_o_trial) (C := RX9) (T := TX9) (N := 26) hx hb hts iX9_does_X9 hown hK.1 hP 0 rfl rfl 14 (by decide) (hts (.fieldLink RX9 38 "LoneSeatsModel" "trial" "[I") (by decide +kernel)) (fun _ h9 => h9) rfl dX9_does_111 ?_
        refine lv_iload hx hb dX9_does_114 (lv_at hl 0 rfl) ?_
        obtain ⟨q11, hq12, hf⟩ := pf_b hf
        have hPc := hP.sub (ws' := (WX9_returnOn cI cJ cZ cB a_o a_o_text a_o_many a_o_views a_o_aisles a_o_readMany a_o_readViews a_o_readAisles a_o_readPage a_o_page a_o_trial a_o_book a_o_kept a_o_isKept a_o_seenSeat a_o_seenWas a_o_trial v_o_thrown v_o_textSize v_o_place v_o_rows v_o_readRows v_o_doings v_o_seen v_o_seed v_o_found v_o_foundViews v_o_foundMany d_o_many d_o_views d_o_aisles d_o_trial)) [0, 1, 2, 3, 4] rfl
        have hDc := hD.sub (ws' := (WX9_returnOn cI cJ cZ cB a_o a_o_text a_o_many a_o_views a_o_aisles a_o_readMany a_o_readViews a_o_readAisles a_o_readPage a_o_page a_o_trial a_o_book a_o_kept a_o_isKept a_o_seenSeat a_o_seenWas a_o_trial v_o_thrown v_o_textSize v_o_place v_o_rows v_o_readRows v_o_doings v_o_seen v_o_seed v_o_found v_o_foundViews v_o_foundMany d_o_many d_o_views d_o_aisles d_o_trial)) [0, 1, 2, 3, 4] (by decide) rfl
        refine cl_rwi (wr := []) (wsN := (WX9_does cI cJ cZ cB a_o a_o_text a_o_many a_o_views a_o_aisles a_o_readMany a_o_readViews a_o_readAisles a_o_readPage a_o_page a_o_trial a_o_book a_o_kept a_o_isKept a_o_seenSeat a_o_seenWas v_o_thrown v_o_textSize v_o_place v_o_rows v_o_readRows v_o_doings v_o_seen v_o_seed q11.2.1 q11.2.2.1 q11.2.2.2.1 d_o_many d_o_views d_o_aisles q11.2.2.2.2)) (va_runV (As := [.ref a_o_trial, .int (((10 : Int32) * x2) + x3)]) (rest := []) ⟨hx, hb, hml, hown, hts⟩ ((kX9_returnOn l D cI cJ cZ cB a_o a_o_text a_o_many a_o_views a_o_aisles a_o_readMany a_o_readViews a_o_readAisles a_o_readPage a_o_page a_o_trial a_o_book a_o_kept a_o_isKept a_o_seenSeat a_o_seenWas a_o_trial v_o_thrown v_o_textSize v_o_place v_o_rows v_o_readRows v_o_doings v_o_seen v_o_seed v_o_found v_o_foundViews v_o_foundMany d_o_many d_o_views d_o_aisles d_o_trial (((10 : Int32) * x2) + x3) q11 hq12) _) (cwV 2 hts gX9_does_X9_returnOn rfl rfl rfl (by decide +kernel) ⟨Nat.le_of_ble_eq_true rfl, Nat.le_of_ble_eq_true rfl⟩) ⟨PRw.blind, va_recv hK.1 hPc (ci := 9) (q0 := 0) rfl rfl, PRw.at hK hPc hDc⟩ rfl rfl hl.1 rfl (lv_room (Nat.le_of_ble_eq_true rfl)) dX9_does_116 ⟨Nat.zero_le _, Nat.zero_le _⟩) hP hD hS hA [0, 1, 2, 3, 4] [] [0, 1, 2, 3, 4] rfl rfl (by decide) (by decide) rfl (by decide) (fun H locs hP hD hS => ?_)
        refine lv_pop hx hb dX9_does_119 rfl ?_
        refine lv_iconst (v := (1 : Int32)) hx hb dX9_does_120 (by decide) ?_
        cases hf
        exact W.zret hx hb hr (nar_b (by decide)) (fun t ht hW => ⟨⟨rfl, by rw [ht]; exact hP, hD⟩, hS.F ht⟩) hS.2.2 dX9_does_121
      · have hf := pf_t hc hf
        refine lv_iconst (v := (0 : Int32)) hx hb dX9_does_107 (by decide) ?_
        cases hf
        exact W.zret hx hb hr (nar_b (by decide)) (fun t ht hW => ⟨⟨rfl, by rw [ht]; exact hP, hD⟩, hS.F ht⟩) hS.2.2 dX9_does_108
    · have hf := pf_f hs8 hf
      by_cases hs13 : x1 = (3 : Int32)
      · have hf := pf_t hs13 hf
        refine lv_tableIn (tgt := 122) (off := 113) hx hb dX9_does_9 (by rw [hs13]; decide) (by rw [hs13]; decide) (by rw [hs13]; rfl) (by decide) ?_
        refine lv_aload_n hx hb dX9_does_122 rfl (lv_at hl 1 rfl) ?_
        refine lv_iload_n hx hb dX9_does_123 rfl (lv_at hl 3 rfl) ?_
        obtain ⟨q14, hq15, hf⟩ := pf_b hf
        have hPc := hP.sub (ws' := (WX9_noRow cI cJ cZ cB a_o a_o_text a_o_many a_o_views a_o_aisles a_o_readMany a_o_readViews a_o_readAisles a_o_readPage a_o_page a_o_trial a_o_book a_o_kept a_o_isKept a_o_seenSeat a_o_seenWas v_o_thrown v_o_textSize v_o_place v_o_rows v_o_readRows v_o_doings v_o_seen v_o_seed v_o_found v_o_foundViews v_o_foundMany)) [0] rfl
        refine cl_roi (va_runV (As := [.int x2]) (rest := []) ⟨hx, hb, hml, hown, hts⟩ (kX9_noRow l D cI cJ cZ cB a_o a_o_text a_o_many a_o_views a_o_aisles a_o_readMany a_o_readViews a_o_readAisles a_o_readPage a_o_page a_o_trial a_o_book a_o_kept a_o_isKept a_o_seenSeat a_o_seenWas v_o_thrown v_o_textSize v_o_place v_o_rows v_o_readRows v_o_doings v_o_seen v_o_seed v_o_found v_o_foundViews v_o_foundMany x2 q14 hq15) (cwV 1 hts gX9_does_X9_noRow rfl rfl rfl (by decide +kernel) ⟨Nat.le_of_ble_eq_true rfl, Nat.le_of_ble_eq_true rfl⟩) ⟨PRo.blind, va_recv hK.1 hPc (ci := 9) (q0 := 0) rfl rfl, PRo.at hK hPc⟩ rfl rfl hl.1 rfl (lv_room (Nat.le_of_ble_eq_true rfl)) dX9_does_124 ⟨Nat.zero_le _, Nat.zero_le _⟩) ?_
        refine lv_if_ne (tgt := 134) hx hb dX9_does_127 (by decide) (fun hc => ?_) (fun hc => ?_)
        · have hf := pf_f hc hf
          refine lv_iconst (v := (0 : Int32)) hx hb dX9_does_134 (by decide) ?_
          cases hf
          exact W.zret hx hb hr (nar_b (by decide)) (fun t ht hW => ⟨⟨rfl, by rw [ht]; exact hP, hD⟩, hS.F ht⟩) hS.2.2 dX9_does_135
        · have hf := pf_t hc hf
          refine lv_iload_n hx hb dX9_does_130 rfl (lv_at hl 4 rfl) ?_
          refine lv_if_ne (tgt := 136) hx hb dX9_does_131 (by decide) (fun hc => ?_) (fun hc => ?_)
          · have hf := pf_f hc hf
            refine lv_aload_n hx hb dX9_does_136 rfl (lv_at hl 1 rfl) ?_
            refine va_get (D := D) (ci := 9) (v := .ref a_o_trial) (C := RX9) (T := TX9) (N := 26) hx hb hts iX9_does_X9 hown hK.1 hP 0 rfl rfl 14 (by decide) (hts (.fieldLink RX9 38 "LoneSeatsModel" "trial" "[I") (by decide +kernel)) (fun _ h9 => h9) rfl dX9_does_137 ?_
            refine lv_iconst (v := (0 : Int32)) hx hb dX9_does_140 (by decide) ?_
            refine lv_iload_n hx hb dX9_does_141 rfl (lv_at hl 3 rfl) ?_
            refine lv_iadd hx hb dX9_does_142 ?_
            refine lv_iload_n hx hb dX9_does_143 rfl (lv_at hl 4 rfl) ?_
            obtain ⟨hg16, hf⟩ := pf_x hf
            refine va_iast hx hb hK.1 hP hD hS 4 0 rfl rfl hg16 dX9_does_144 (fun H locs hP hD hS => ?_)
            have hP : va_P D vwCl (WX9_does cI cJ cZ cB a_o a_o_text a_o_many a_o_views a_o_aisles a_o_readMany a_o_readViews a_o_readAisles a_o_readPage a_o_page a_o_trial a_o_book a_o_kept a_o_isKept a_o_seenSeat a_o_seenWas v_o_thrown v_o_textSize v_o_place v_o_rows v_o_readRows v_o_doings v_o_seen v_o_seed v_o_found v_o_foundViews v_o_foundMany d_o_many d_o_views d_o_aisles (upd d_o_trial ((((0 : Int32) + x2)).toNatClampNeg) x3)) H := hP
            have hD : va_D A (WX9_does cI cJ cZ cB a_o a_o_text a_o_many a_o_views a_o_aisles a_o_readMany a_o_readViews a_o_readAisles a_o_readPage a_o_page a_o_trial a_o_book a_o_kept a_o_isKept a_o_seenSeat a_o_seenWas v_o_thrown v_o_textSize v_o_place v_o_rows v_o_readRows v_o_doings v_o_seen v_o_seed v_o_found v_o_foundViews v_o_foundMany d_o_many d_o_views d_o_aisles (upd d_o_trial ((((0 : Int32) + x2)).toNatClampNeg) x3)) := hD
            refine lv_aload_n hx hb dX9_does_145 rfl (lv_at hl 1 rfl) ?_
            refine lv_aload_n hx hb dX9_does_146 rfl (lv_at hl 1 rfl) ?_
            refine va_get (D := D) (ci := 9) (v := .ref a_o_trial) (C := RX9) (T := TX9) (N := 26) hx hb hts iX9_does_X9 hown hK.1 hP 0 rfl rfl 14 (by decide) (hts (.fieldLink RX9 38 "LoneSeatsModel" "trial" "[I") (by decide +kernel)) (fun _ h9 => h9) rfl dX9_does_147 ?_
            obtain ⟨q17, hq18, hf⟩ := pf_b hf
            have hPc := hP.sub (ws' := (WX9_letInOn cI cJ cZ cB a_o a_o_text a_o_many a_o_views a_o_aisles a_o_readMany a_o_readViews a_o_readAisles a_o_readPage a_o_page a_o_trial a_o_book a_o_kept a_o_isKept a_o_seenSeat a_o_seenWas a_o_trial v_o_thrown v_o_textSize v_o_place v_o_rows v_o_readRows v_o_doings v_o_seen v_o_seed v_o_found v_o_foundViews v_o_foundMany d_o_many d_o_views d_o_aisles (upd d_o_trial ((((0 : Int32) + x2)).toNatClampNeg) x3))) [0, 1, 2, 3, 4] rfl
            have hDc := hD.sub (ws' := (WX9_letInOn cI cJ cZ cB a_o a_o_text a_o_many a_o_views a_o_aisles a_o_readMany a_o_readViews a_o_readAisles a_o_readPage a_o_page a_o_trial a_o_book a_o_kept a_o_isKept a_o_seenSeat a_o_seenWas a_o_trial v_o_thrown v_o_textSize v_o_place v_o_rows v_o_readRows v_o_doings v_o_seen v_o_seed v_o_found v_o_foundViews v_o_foundMany d_o_many d_o_views d_o_aisles (upd d_o_trial ((((0 : Int32) + x2)).toNatClampNeg) x3))) [0, 1, 2, 3, 4] (by decide) rfl
            refine cl_rwv (wr := []) (wsN := (WX9_does cI cJ cZ cB a_o a_o_text a_o_many a_o_views a_o_aisles a_o_readMany a_o_readViews a_o_readAisles a_o_readPage a_o_page a_o_trial a_o_book a_o_kept a_o_isKept a_o_seenSeat a_o_seenWas v_o_thrown v_o_textSize v_o_place v_o_rows v_o_readRows v_o_doings v_o_seen v_o_seed q17.1 q17.2.1 q17.2.2.1 d_o_many d_o_views d_o_aisles q17.2.2.2)) (va_runV (As := [.ref a_o_trial]) (rest := []) ⟨hx, hb, hml, hown, hts⟩ ((kX9_letInOn l D cI cJ cZ cB a_o a_o_text a_o_many a_o_views a_o_aisles a_o_readMany a_o_readViews a_o_readAisles a_o_readPage a_o_page a_o_trial a_o_book a_o_kept a_o_isKept a_o_seenSeat a_o_seenWas a_o_trial v_o_thrown v_o_textSize v_o_place v_o_rows v_o_readRows v_o_doings v_o_seen v_o_seed v_o_found v_o_foundViews v_o_foundMany d_o_many d_o_views d_o_aisles (upd d_o_trial ((((0 : Int32) + x2)).toNatClampNeg) x3) q17 hq18) _) (cwV 1 hts gX9_does_X9_letInOn rfl rfl rfl (by decide +kernel) ⟨Nat.le_of_ble_eq_true rfl, Nat.le_of_ble_eq_true rfl⟩) ⟨PRw.blind, va_recv hK.1 hPc (ci := 9) (q0 := 0) rfl rfl, PRw.at hK hPc hDc⟩ rfl rfl hl.1 rfl (lv_room (Nat.le_of_ble_eq_true rfl)) dX9_does_150 ⟨Nat.zero_le _, Nat.zero_le _⟩) hP hD hS hA [0, 1, 2, 3, 4] [] [0, 1, 2, 3, 4] rfl rfl (by decide) (by decide) rfl (by decide) (fun H locs hP hD hS => ?_)
            refine lv_iconst (v := (1 : Int32)) hx hb dX9_does_153 (by decide) ?_
            cases hf
            exact W.zret hx hb hr (nar_b (by decide)) (fun t ht hW => ⟨⟨rfl, by rw [ht]; exact hP, hD⟩, hS.F ht⟩) hS.2.2 dX9_does_154
          · have hf := pf_t hc hf
            refine lv_iconst (v := (0 : Int32)) hx hb dX9_does_134 (by decide) ?_
            cases hf
            exact W.zret hx hb hr (nar_b (by decide)) (fun t ht hW => ⟨⟨rfl, by rw [ht]; exact hP, hD⟩, hS.F ht⟩) hS.2.2 dX9_does_135
      · have hf := pf_f hs13 hf
        by_cases hs19 : x1 = (4 : Int32)
        · have hf := pf_t hs19 hf
          refine lv_tableIn (tgt := 155) (off := 146) hx hb dX9_does_9 (by rw [hs19]; decide) (by rw [hs19]; decide) (by rw [hs19]; rfl) (by decide) ?_
          refine lv_aload_n hx hb dX9_does_155 rfl (lv_at hl 1 rfl) ?_
          refine lv_iload_n hx hb dX9_does_156 rfl (lv_at hl 3 rfl) ?_
          refine lv_iload_n hx hb dX9_does_157 rfl (lv_at hl 4 rfl) ?_
          obtain ⟨q20, hq21, hf⟩ := pf_b hf
          have hPc := hP.sub (ws' := (WX9_noSeat cI cJ cZ cB a_o a_o_text a_o_many a_o_views a_o_aisles a_o_readMany a_o_readViews a_o_readAisles a_o_readPage a_o_page a_o_trial a_o_book a_o_kept a_o_isKept a_o_seenSeat a_o_seenWas v_o_thrown v_o_textSize v_o_place v_o_rows v_o_readRows v_o_doings v_o_seen v_o_seed v_o_found v_o_foundViews v_o_foundMany d_o_many)) [0, 1] rfl
          refine cl_roi (va_runV (As := [.int x2, .int x3]) (rest := []) ⟨hx, hb, hml, hown, hts⟩ (kX9_noSeat l D cI cJ cZ cB a_o a_o_text a_o_many a_o_views a_o_aisles a_o_readMany a_o_readViews a_o_readAisles a_o_readPage a_o_page a_o_trial a_o_book a_o_kept a_o_isKept a_o_seenSeat a_o_seenWas v_o_thrown v_o_textSize v_o_place v_o_rows v_o_readRows v_o_doings v_o_seen v_o_seed v_o_found v_o_foundViews v_o_foundMany d_o_many x2 x3 q20 hq21) (cwV 2 hts gX9_does_X9_noSeat rfl rfl rfl (by decide +kernel) ⟨Nat.le_of_ble_eq_true rfl, Nat.le_of_ble_eq_true rfl⟩) ⟨PRo.blind, va_recv hK.1 hPc (ci := 9) (q0 := 0) rfl rfl, PRo.at hK hPc⟩ rfl rfl hl.1 rfl (lv_room (Nat.le_of_ble_eq_true rfl)) dX9_does_158 ⟨Nat.zero_le _, Nat.zero_le _⟩) ?_
          refine lv_if_ne (tgt := 181) hx hb dX9_does_161 (by decide) (fun hc => ?_) (fun hc => ?_)
          · have hf := pf_f hc hf
            refine lv_iconst (v := (0 : Int32)) hx hb dX9_does_181 (by decide) ?_
            cases hf
            exact W.zret hx hb hr (nar_b (by decide)) (fun t ht hW => ⟨⟨rfl, by rw [ht]; exact hP, hD⟩, hS.F ht⟩) hS.2.2 dX9_does_182
          · have hf := pf_t hc hf
            refine lv_aload_n hx hb dX9_does_164 rfl (lv_at hl 1 rfl) ?_
            refine lv_aload_n hx hb dX9_does_165 rfl (lv_at hl 1 rfl) ?_
            refine va_get (D := D) (ci := 9) (v := .ref a_o_trial) (C := RX9) (T := TX9) (N := 26) hx hb hts iX9_does_X9 hown hK.1 hP 0 rfl rfl 14 (by decide) (hts (.fieldLink RX9 38 "LoneSeatsModel" "trial" "[I") (by decide +kernel)) (fun _ h9 => h9) rfl dX9_does_166 ?_
            refine lv_iload_n hx hb dX9_does_169 rfl (lv_at hl 3 rfl) ?_
            refine lv_iload_n hx hb dX9_does_170 rfl (lv_at hl 4 rfl) ?_
            obtain ⟨q22, hq23, hf⟩ := pf_b hf
            have hPc := hP.sub (ws' := (WX9_isLone cI cJ cZ cB a_o a_o_text a_o_many a_o_views a_o_aisles a_o_readMany a_o_readViews a_o_readAisles a_o_readPage a_o_page a_o_trial a_o_book a_o_kept a_o_isKept a_o_seenSeat a_o_seenWas a_o_trial v_o_thrown v_o_textSize v_o_place v_o_rows v_o_readRows v_o_doings v_o_seen v_o_seed v_o_found v_o_foundViews v_o_foundMany d_o_many d_o_aisles d_o_trial)) [0, 1, 3, 4] rfl
            refine cl_roi (va_runV (As := [.ref a_o_trial, .int x2, .int x3]) (rest := []) ⟨hx, hb, hml, hown, hts⟩ (kX9_isLone l D cI cJ cZ cB a_o a_o_text a_o_many a_o_views a_o_aisles a_o_readMany a_o_readViews a_o_readAisles a_o_readPage a_o_page a_o_trial a_o_book a_o_kept a_o_isKept a_o_seenSeat a_o_seenWas a_o_trial v_o_thrown v_o_textSize v_o_place v_o_rows v_o_readRows v_o_doings v_o_seen v_o_seed v_o_found v_o_foundViews v_o_foundMany d_o_many d_o_aisles d_o_trial x2 x3 q22 hq23) (cwV 3 hts gX9_does_X9_isLone rfl rfl rfl (by decide +kernel) ⟨Nat.le_of_ble_eq_true rfl, Nat.le_of_ble_eq_true rfl⟩) ⟨PRo.blind, va_recv hK.1 hPc (ci := 9) (q0 := 0) rfl rfl, PRo.at hK hPc⟩ rfl rfl hl.1 rfl (lv_room (Nat.le_of_ble_eq_true rfl)) dX9_does_171 ⟨Nat.zero_le _, Nat.zero_le _⟩) ?_
            refine lv_if_eq (tgt := 181) hx hb dX9_does_174 (by decide) (fun hc => ?_) (fun hc => ?_)
            · have hf := pf_t hc hf
              refine lv_iconst (v := (0 : Int32)) hx hb dX9_does_181 (by decide) ?_
              cases hf
              exact W.zret hx hb hr (nar_b (by decide)) (fun t ht hW => ⟨⟨rfl, by rw [ht]; exact hP, hD⟩, hS.F ht⟩) hS.2.2 dX9_does_182
            · have hf := pf_f hc hf
              refine lv_iconst (v := (1 : Int32)) hx hb dX9_does_177 (by decide) ?_
              refine lv_goto (tgt := 182) hx hb dX9_does_178 (by decide) ?_
              cases hf
              exact W.zret hx hb hr (nar_b (by decide)) (fun t ht hW => ⟨⟨rfl, by rw [ht]; exact hP, hD⟩, hS.F ht⟩) hS.2.2 dX9_does_182
        · have hf := pf_f hs19 hf
          by_cases hs24 : x1 = (5 : Int32)
          · have hf := pf_t hs24 hf
            refine lv_tableIn (tgt := 183) (off := 174) hx hb dX9_does_9 (by rw [hs24]; decide) (by rw [hs24]; decide) (by rw [hs24]; rfl) (by decide) ?_
            refine lv_aload_n hx hb dX9_does_183 rfl (lv_at hl 1 rfl) ?_
            refine lv_aload_n hx hb dX9_does_184 rfl (lv_at hl 1 rfl) ?_
            refine va_get (D := D) (ci := 9) (v := .ref a_o_trial) (C := RX9) (T := TX9) (N := 26) hx hb hts iX9_does_X9 hown hK.1 hP 0 rfl rfl 14 (by decide) (hts (.fieldLink RX9 38 "LoneSeatsModel" "trial" "[I") (by decide +kernel)) (fun _ h9 => h9) rfl dX9_does_185 ?_
            obtain ⟨q25, hq26, hf⟩ := pf_b hf
            have hPc := hP.sub (ws' := (WX9_allFree cI cJ cZ cB a_o a_o_text a_o_many a_o_views a_o_aisles a_o_readMany a_o_readViews a_o_readAisles a_o_readPage a_o_page a_o_trial a_o_book a_o_kept a_o_isKept a_o_seenSeat a_o_seenWas a_o_trial v_o_thrown v_o_textSize v_o_place v_o_rows v_o_readRows v_o_doings v_o_seen v_o_seed v_o_found v_o_foundViews v_o_foundMany d_o_many d_o_trial)) [0, 1, 4] rfl
            refine cl_roi (va_runV (As := [.ref a_o_trial]) (rest := []) ⟨hx, hb, hml, hown, hts⟩ (kX9_allFree l D cI cJ cZ cB a_o a_o_text a_o_many a_o_views a_o_aisles a_o_readMany a_o_readViews a_o_readAisles a_o_readPage a_o_page a_o_trial a_o_book a_o_kept a_o_isKept a_o_seenSeat a_o_seenWas a_o_trial v_o_thrown v_o_textSize v_o_place v_o_rows v_o_readRows v_o_doings v_o_seen v_o_seed v_o_found v_o_foundViews v_o_foundMany d_o_many d_o_trial q25 hq26) (cwV 1 hts gX9_does_X9_allFree rfl rfl rfl (by decide +kernel) ⟨Nat.le_of_ble_eq_true rfl, Nat.le_of_ble_eq_true rfl⟩) ⟨PRo.blind, va_recv hK.1 hPc (ci := 9) (q0 := 0) rfl rfl, PRo.at hK hPc⟩ rfl rfl hl.1 rfl (lv_room (Nat.le_of_ble_eq_true rfl)) dX9_does_188 ⟨Nat.zero_le _, Nat.zero_le _⟩) ?_
            refine lv_iload hx hb dX9_does_191 (lv_at hl 0 rfl) ?_
            refine lv_icmp_ne (tgt := 200) hx hb dX9_does_193 (by decide) (fun hc => ?_) (fun hc => ?_)
            · have hf := pf_f hc hf
              refine lv_iconst (v := (0 : Int32)) hx hb dX9_does_200 (by decide) ?_
              cases hf
              exact W.zret hx hb hr (nar_b (by decide)) (fun t ht hW => ⟨⟨rfl, by rw [ht]; exact hP, hD⟩, hS.F ht⟩) hS.2.2 dX9_does_201
            · have hf := pf_t hc hf
              refine lv_iconst (v := (1 : Int32)) hx hb dX9_does_196 (by decide) ?_
              refine lv_goto (tgt := 201) hx hb dX9_does_197 (by decide) ?_
              cases hf
              exact W.zret hx hb hr (nar_b (by decide)) (fun t ht hW => ⟨⟨rfl, by rw [ht]; exact hP, hD⟩, hS.F ht⟩) hS.2.2 dX9_does_201
          · have hf := pf_f hs24 hf
            by_cases hs27 : x1 = (6 : Int32)
            · have hf := pf_t hs27 hf
              refine lv_tableIn (tgt := 202) (off := 193) hx hb dX9_does_9 (by rw [hs27]; decide) (by rw [hs27]; decide) (by rw [hs27]; rfl) (by decide) ?_
              refine lv_aload_n hx hb dX9_does_202 rfl (lv_at hl 1 rfl) ?_
              refine lv_aload_n hx hb dX9_does_203 rfl (lv_at hl 1 rfl) ?_
              refine va_get (D := D) (ci := 9) (v := .ref a_o_trial) (C := RX9) (T := TX9) (N := 26) hx hb hts iX9_does_X9 hown hK.1 hP 0 rfl rfl 14 (by decide) (hts (.fieldLink RX9 38 "LoneSeatsModel" "trial" "[I") (by decide +kernel)) (fun _ h9 => h9) rfl dX9_does_204 ?_
              refine lv_iload hx hb dX9_does_207 (lv_at hl 0 rfl) ?_
              obtain ⟨q28, hq29, hf⟩ := pf_b hf
              have hPc := hP.sub (ws' := (WX9_sits cI cJ cZ cB a_o a_o_text a_o_many a_o_views a_o_aisles a_o_readMany a_o_readViews a_o_readAisles a_o_readPage a_o_page a_o_trial a_o_book a_o_kept a_o_isKept a_o_seenSeat a_o_seenWas a_o_trial v_o_thrown v_o_textSize v_o_place v_o_rows v_o_readRows v_o_doings v_o_seen v_o_seed v_o_found v_o_foundViews v_o_foundMany d_o_trial)) [0, 4] rfl
              refine cl_roi (va_runV (As := [.ref a_o_trial, .int (((10 : Int32) * x2) + x3)]) (rest := []) ⟨hx, hb, hml, hown, hts⟩ (kX9_sits l D cI cJ cZ cB a_o a_o_text a_o_many a_o_views a_o_aisles a_o_readMany a_o_readViews a_o_readAisles a_o_readPage a_o_page a_o_trial a_o_book a_o_kept a_o_isKept a_o_seenSeat a_o_seenWas a_o_trial v_o_thrown v_o_textSize v_o_place v_o_rows v_o_readRows v_o_doings v_o_seen v_o_seed v_o_found v_o_foundViews v_o_foundMany d_o_trial (((10 : Int32) * x2) + x3) q28 hq29) (cwV 2 hts gX9_does_X9_sits rfl rfl rfl (by decide +kernel) ⟨Nat.le_of_ble_eq_true rfl, Nat.le_of_ble_eq_true rfl⟩) ⟨PRo.blind, va_recv hK.1 hPc (ci := 9) (q0 := 0) rfl rfl, PRo.at hK hPc⟩ rfl rfl hl.1 rfl (lv_room (Nat.le_of_ble_eq_true rfl)) dX9_does_209 ⟨Nat.zero_le _, Nat.zero_le _⟩) ?_
              obtain ⟨hz30, hf⟩ := pf_x hf
              cases hf
              exact W.zret hx hb hr (nar_b (Decidable.not_not.mp hz30)) (fun t ht hW => ⟨⟨rfl, by rw [ht]; exact hP, hD⟩, hS.F ht⟩) hS.2.2 dX9_does_212
            · have hf := pf_f hs27 hf
              by_cases hs31 : x1 = (7 : Int32)
              · have hf := pf_t hs31 hf
                refine lv_tableIn (tgt := 213) (off := 204) hx hb dX9_does_9 (by rw [hs31]; decide) (by rw [hs31]; decide) (by rw [hs31]; rfl) (by decide) ?_
                refine lv_iload_n hx hb dX9_does_213 rfl (lv_at hl 3 rfl) ?_
                refine lv_iload_n hx hb dX9_does_214 rfl (lv_at hl 4 rfl) ?_
                obtain ⟨q32, hq33, hf⟩ := pf_b hf
                have hPc := hP.sub (ws' := ([] : va_W)) [] rfl
                refine cl_roi (va_runS (As := [.int x2, .int x3]) (rest := []) ⟨hx, hb, hml, hown, hts⟩ (kX9_isAsk l D cI cJ cZ cB x2 x3 q32 hq33) (va_cwS 2 hts gX9_does_X9_isAsk rfl rfl rfl (by decide +kernel) ⟨Nat.le_of_ble_eq_true rfl, Nat.le_of_ble_eq_true rfl⟩) ⟨PRo.blind, PRo.at hK hPc⟩ rfl rfl hl.1 rfl (lv_room (Nat.le_of_ble_eq_true rfl)) dX9_does_215 ⟨Nat.zero_le _, Nat.zero_le _⟩) ?_
                refine lv_if_ne (tgt := 223) hx hb dX9_does_218 (by decide) (fun hc => ?_) (fun hc => ?_)
                · have hf := pf_f hc hf
                  refine lv_aload_n hx hb dX9_does_223 rfl (lv_at hl 1 rfl) ?_
                  refine lv_aload_n hx hb dX9_does_224 rfl (lv_at hl 1 rfl) ?_
                  refine va_get (D := D) (ci := 9) (v := .ref a_o_trial) (C := RX9) (T := TX9) (N := 26) hx hb hts iX9_does_X9 hown hK.1 hP 0 rfl rfl 14 (by decide) (hts (.fieldLink RX9 38 "LoneSeatsModel" "trial" "[I") (by decide +kernel)) (fun _ h9 => h9) rfl dX9_does_225 ?_
                  refine lv_iload_n hx hb dX9_does_228 rfl (lv_at hl 3 rfl) ?_
                  refine lv_iload_n hx hb dX9_does_229 rfl (lv_at hl 4 rfl) ?_
                  obtain ⟨q34, hq35, hf⟩ := pf_b hf
                  have hPc := hP.sub (ws' := (WX9_findBest cI cJ cZ cB a_o a_o_text a_o_many a_o_views a_o_aisles a_o_readMany a_o_readViews a_o_readAisles a_o_readPage a_o_page a_o_trial a_o_book a_o_kept a_o_isKept a_o_seenSeat a_o_seenWas a_o_trial v_o_thrown v_o_textSize v_o_place v_o_rows v_o_readRows v_o_doings v_o_seen v_o_seed v_o_found v_o_foundViews v_o_foundMany d_o_many d_o_views d_o_aisles d_o_trial)) [0, 1, 2, 3, 4] rfl
                  have hDc := hD.sub (ws' := (WX9_findBest cI cJ cZ cB a_o a_o_text a_o_many a_o_views a_o_aisles a_o_readMany a_o_readViews a_o_readAisles a_o_readPage a_o_page a_o_trial a_o_book a_o_kept a_o_isKept a_o_seenSeat a_o_seenWas a_o_trial v_o_thrown v_o_textSize v_o_place v_o_rows v_o_readRows v_o_doings v_o_seen v_o_seed v_o_found v_o_foundViews v_o_foundMany d_o_many d_o_views d_o_aisles d_o_trial)) [0, 1, 2, 3, 4] (by decide) rfl
                  refine cl_rwv (wr := []) (wsN := (WX9_does cI cJ cZ cB a_o a_o_text a_o_many a_o_views a_o_aisles a_o_readMany a_o_readViews a_o_readAisles a_o_readPage a_o_page a_o_trial a_o_book a_o_kept a_o_isKept a_o_seenSeat a_o_seenWas v_o_thrown v_o_textSize v_o_place v_o_rows v_o_readRows v_o_doings v_o_seen v_o_seed q34.1 q34.2.1 q34.2.2.1 d_o_many d_o_views d_o_aisles q34.2.2.2)) (va_runV (As := [.ref a_o_trial, .int x2, .int x3]) (rest := []) ⟨hx, hb, hml, hown, hts⟩ ((kX9_findBest l D cI cJ cZ cB a_o a_o_text a_o_many a_o_views a_o_aisles a_o_readMany a_o_readViews a_o_readAisles a_o_readPage a_o_page a_o_trial a_o_book a_o_kept a_o_isKept a_o_seenSeat a_o_seenWas a_o_trial v_o_thrown v_o_textSize v_o_place v_o_rows v_o_readRows v_o_doings v_o_seen v_o_seed v_o_found v_o_foundViews v_o_foundMany d_o_many d_o_views d_o_aisles d_o_trial x2 x3 q34 hq35) _) (cwV 3 hts gX9_does_X9_findBest rfl rfl rfl (by decide +kernel) ⟨Nat.le_of_ble_eq_true rfl, Nat.le_of_ble_eq_true rfl⟩) ⟨PRw.blind, va_recv hK.1 hPc (ci := 9) (q0 := 0) rfl rfl, PRw.at hK hPc hDc⟩ rfl rfl hl.1 rfl (lv_room (Nat.le_of_ble_eq_true rfl)) dX9_does_230 ⟨Nat.zero_le _, Nat.zero_le _⟩) hP hD hS hA [0, 1, 2, 3, 4] [] [0, 1, 2, 3, 4] rfl rfl (by decide) (by decide) rfl (by decide) (fun H locs hP hD hS => ?_)
                  refine lv_aload_n hx hb dX9_does_233 rfl (lv_at hl 1 rfl) ?_
                  refine va_get (D := D) (ci := 9) (v := .int q34.2.2.1) (C := RX9) (T := TX9) (N := 26) hx hb hts iX9_does_X9 hown hK.1 hP 0 rfl rfl 25 (by decide) (hts (.fieldLink RX9 137 "LoneSeatsModel" "foundMany" "I") (by decide +kernel)) (fun _ h9 => h9) rfl dX9_does_234 ?_
                  refine lv_if_le (tgt := 244) hx hb dX9_does_237 (by decide) (fun hc => ?_) (fun hc => ?_)
                  · have hf := pf_t hc hf
                    refine lv_iconst (v := (0 : Int32)) hx hb dX9_does_244 (by decide) ?_
                    cases hf
                    exact W.zret hx hb hr (nar_b (by decide)) (fun t ht hW => ⟨⟨rfl, by rw [ht]; exact hP, hD⟩, hS.F ht⟩) hS.2.2 dX9_does_245
                  · have hf := pf_f hc hf
                    refine lv_iconst (v := (1 : Int32)) hx hb dX9_does_240 (by decide) ?_
                    refine lv_goto (tgt := 245) hx hb dX9_does_241 (by decide) ?_
                    cases hf
                    exact W.zret hx hb hr (nar_b (by decide)) (fun t ht hW => ⟨⟨rfl, by rw [ht]; exact hP, hD⟩, hS.F ht⟩) hS.2.2 dX9_does_245
                · have hf := pf_t hc hf
                  refine lv_iconst (v := (0 : Int32)) hx hb dX9_does_221 (by decide) ?_
                  cases hf
                  exact W.zret hx hb hr (nar_b (by decide)) (fun t ht hW => ⟨⟨rfl, by rw [ht]; exact hP, hD⟩, hS.F ht⟩) hS.2.2 dX9_does_222
              · have hf := pf_f hs31 hf
                refine lv_tableOut (tgt := 246) hx hb dX9_does_9 (by have := lv_neT hs1 (show (1 : Int32).toInt = 1 by decide); have := lv_neT hs8 (show (2 : Int32).toInt = 2 by decide); have := lv_neT hs13 (show (3 : Int32).toInt = 3 by decide); have := lv_neT hs19 (show (4 : Int32).toInt = 4 by decide); have := lv_neT hs24 (show (5 : Int32).toInt = 5 by decide); have := lv_neT hs27 (show (6 : Int32).toInt = 6 by decide); have := lv_neT hs31 (show (7 : Int32).toInt = 7 by decide); omega) (by decide) ?_
                refine lv_iconst (v := (0 : Int32)) hx hb dX9_does_246 (by decide) ?_
                cases hf
                exact W.zret hx hb hr (nar_b (by decide)) (fun t ht hW => ⟨⟨rfl, by rw [ht]; exact hP, hD⟩, hS.F ht⟩) hS.2.2 dX9_does_247
def fX9_longPower_5 : Nat → Int64 → Int32 → Int64 → Int32 → Option (Int64)
  | 0, _, _, _, _ => none
  | n + 1, x0, x2, x3, x5 => (if x2 ≤ x5 then some x3 else fX9_longPower_5 n x0 x2 (x3 * x0) (x5 + (1 : Int32)))
set_option maxRecDepth 100000 in
set_option maxHeartbeats 4000000 in
theorem tX9_longPower_5 {p : Program} {l : Launch} {e : Env} {s : State} {m : MethodId} {args : Array Value} {below : List Frame} {meth : Method} {c : Code} {D : va_G} {cI cJ cZ cB : ClassId} (C : Cx p s m args meth c cX9_longPower 6 (some .long) wsX9_longPower RX9) (hK : Kw D (tyL cI cJ cZ cB) s) : ∀ (n : Nat), ∀  (x0 : Int64) (x2 : Int32) (x3 : Int64) (x5 : Int32) (ls : Array Slot) (res : Int64), va_P D vwCl ([] : va_W) s.heap → lv_has ls 6 [(0, .long x0), (2, .int x2), (3, .long x3), (5, .int x5)] → fX9_longPower_5 n x0 x2 x3 x5 = some res → W p l e ({ frames := 0, cells := 0, slots := 0, locals := 0 } : Room) s m args below meth c s.heap [] 0 0 (MQ below (QRo (some (.long res))) args s 0 0 (fun _ => False)) (F0 m 5 ls []) := by
  obtain ⟨hx, hb, hr, hml, hts, hown, hlk⟩ := id C
  intro n
  induction n with
  | zero =>
    intro x0 x2 x3 x5 ls res hP hl hf
    rw [fX9_longPower_5] at hf
    cases hf
  | succ n ih =>
    intro x0 x2 x3 x5 ls res hP hl hf
    rw [fX9_longPower_5] at hf
    refine lv_iload hx hb dX9_longPower_5 (lv_at hl 3 rfl) ?_
    refine lv_iload_n hx hb dX9_longPower_7 rfl (lv_at hl 1 rfl) ?_
    refine lv_icmp_ge (tgt := 21) hx hb dX9_longPower_8 (by decide) (fun hc => ?_) (fun hc => ?_)
    · have hf := pf_t hc hf
      refine lv_lload_n hx hb dX9_longPower_21 rfl (lv_at hl 2 rfl) ?_
      cases hf
      exact W.lret hx hb hr (fun t ht hW => ⟨rfl, ht⟩) (fun _ h => absurd h List.not_mem_nil) dX9_longPower_22
    · have hf := pf_f hc hf
      refine lv_lload_n hx hb dX9_longPower_11 rfl (lv_at hl 2 rfl) ?_
      refine lv_lload_n hx hb dX9_longPower_12 rfl (lv_at hl 0 rfl) ?_
      refine lv_lmul hx hb dX9_longPower_13 ?_
      refine lv_lstore_n (lv' := [(3, .long (x3 * x0)), (0, .long x0), (2, .int x2), (5, .int x5)]) hx hb dX9_longPower_14 rfl hl (by decide) rfl (fun ls hl => ?_)
      refine lv_iinc (v := (x5 + (1 : Int32))) (lv' := [(5, .int (x5 + (1 : Int32))), (3, .long (x3 * x0)), (0, .long x0), (2, .int x2)]) hx hb dX9_longPower_15 hl (k := 3) rfl rfl (by decide) rfl (fun ls hl => ?_)
      refine lv_goto (tgt := 5) hx hb dX9_longPower_18 (by decide) ?_
      exact ih  x0 x2 (x3 * x0) (x5 + (1 : Int32)) ls _ hP (lv_sub hl [2, 3, 1, 0] rfl) hf
def fX9_longPower (x0 : Int64) (x2 : Int32) : Option (Int64) := fX9_longPower_5 FU x0 x2 (1 : Int64) (0 : Int32)
set_option maxRecDepth 100000 in
set_option maxHeartbeats 4000000 in
theorem kX9_longPower (l : Launch) (D : va_G) (cI cJ cZ cB : ClassId) (x0 : Int64) (x2 : Int32) (res : Int64) (hf : fX9_longPower x0 x2 = some res) : Ro l yX9_longPower wsX9_longPower ({ frames := 0, cells := 0, slots := 0, locals := 0 } : Room) D (tyL cI cJ cZ cB) [.long x0, .int x2] ([] : va_W) (some (.long res)) := by
  refine Ro.of (cc := cX9_longPower) (maxL := 6) (ret := (some .long)) (own := RX9) (by decide) rfl rfl (Nat.le_of_ble_eq_true rfl) ?_
  intro p e s m below meth c ls C hK hP hl
  obtain ⟨hx, hb, hr, hml, hts, hown, hlk⟩ := id C
  have hl : lv_has ls 6 [(0, .long x0), (2, .int x2)] := hl
  unfold fX9_longPower at hf
  refine lv_lconst (v := (1 : Int64)) hx hb dX9_longPower_0 (by decide) ?_
  refine lv_lstore_n (lv' := [(3, .long (1 : Int64)), (0, .long x0), (2, .int x2)]) hx hb dX9_longPower_1 rfl hl (by decide) rfl (fun ls hl => ?_)
  refine lv_iconst (v := (0 : Int32)) hx hb dX9_longPower_2 (by decide) ?_
  refine lv_istore (lv' := [(5, .int (0 : Int32)), (3, .long (1 : Int64)), (0, .long x0), (2, .int x2)]) hx hb dX9_longPower_3 hl (by decide) rfl (fun ls hl => ?_)
  exact tX9_longPower_5 C hK  FU  x0 x2 (1 : Int64) (0 : Int32) ls _ hP (lv_sub hl [2, 3, 1, 0] rfl) hf
abbrev WX9_judge (cI cJ cZ cB : ClassId) (a_o : Nat) (a_o_text : Nat) (a_o_many : Nat) (a_o_views : Nat) (a_o_aisles : Nat) (a_o_readMany : Nat) (a_o_readViews : Nat) (a_o_readAisles : Nat) (a_o_readPage : Nat) (a_o_page : Nat) (a_o_trial : Nat) (a_o_book : Nat) (a_o_kept : Nat) (a_o_isKept : Nat) (a_o_seenSeat : Nat) (a_o_seenWas : Nat) (v_o_thrown : Int32) (v_o_textSize : Int32) (v_o_place : Int32) (v_o_rows : Int32) (v_o_readRows : Int32) (v_o_doings : Int32) (v_o_seen : Int32) (v_o_seed : Int64) (v_o_found : Int32) (v_o_foundViews : Int32) (v_o_foundMany : Int32) (d_o_many : (Nat → Int32)) (d_o_views : (Nat → Int32)) (d_o_aisles : (Nat → Int32)) (d_o_page : (Nat → Int32)) (d_o_trial : (Nat → Int32)) : va_W := [(a_o, .inr (9, [.int v_o_thrown, .ref a_o_text, .int v_o_textSize, .int v_o_place, .int v_o_rows, .ref a_o_many, .ref a_o_views, .ref a_o_aisles, .int v_o_readRows, .ref a_o_readMany, .ref a_o_readViews, .ref a_o_readAisles, .ref a_o_readPage, .ref a_o_page, .ref a_o_trial, .ref a_o_book, .int v_o_doings, .ref a_o_kept, .ref a_o_isKept, .int v_o_seen, .ref a_o_seenSeat, .ref a_o_seenWas, .long v_o_seed, .int v_o_found, .int v_o_foundViews, .int v_o_foundMany])), (a_o_many, .inl (cI, (4, .inl d_o_many))), (a_o_views, .inl (cI, (36, .inl d_o_views))), (a_o_aisles, .inl (cZ, (36, .inl d_o_aisles))), (a_o_page, .inl (cI, (229, .inl d_o_page))), (a_o_trial, .inl (cI, (229, .inl d_o_trial)))]
set_option maxRecDepth 20000 in
theorem iX9_judge_X9 : ∀ w ∈ wsX90, w ∈ wsX9_judge := by decide +kernel
def fX9_judge_51 : Nat → Int32 → Int32 → Int32 → Int32 → Int32 → (Nat → Int32) → (Nat → Int32) → (Nat → Int32) → (Nat → Int32) → (Nat → Int32) → Int32 → Int64 → Int32 → Option (Int32 × Int32 × Int32 × Int32 × Int32 × (Nat → Int32))
  | 0, _, _, _, _, _, _, _, _, _, _, _, _, _ => none
  | n + 1, v_o_thrown, v_o_rows, v_o_found, v_o_foundViews, v_o_foundMany, d_o_many, d_o_views, d_o_aisles, d_o_page, d_o_trial, x1, x2, x4 => (if x1 ≤ x4 then some ((-9 : Int32), v_o_thrown, v_o_found, v_o_foundViews, v_o_foundMany, d_o_trial) else ((fX9_longPower (1000 : Int64) ((x1 - (1 : Int32)) - x4)).bind fun q1 => (if q1 = 0 then none else ((fX9_does v_o_rows v_o_found v_o_foundViews v_o_foundMany d_o_many d_o_views d_o_aisles d_o_trial ((((x2 / q1) - (x2 / q1) / (1000 : Int64) * (1000 : Int64))).toInt32 / (100 : Int32)) (((((x2 / q1) - (x2 / q1) / (1000 : Int64) * (1000 : Int64))).toInt32 / (10 : Int32)) - ((((x2 / q1) - (x2 / q1) / (1000 : Int64) * (1000 : Int64))).toInt32 / (10 : Int32)) / (10 : Int32) * (10 : Int32)) ((((x2 / q1) - (x2 / q1) / (1000 : Int64) * (1000 : Int64))).toInt32 - (((x2 / q1) - (x2 / q1) / (1000 : Int64) * (1000 : Int64))).toInt32 / (10 : Int32) * (10 : Int32))).bind fun q4 => (if q4.1 = 0 then some (x4, v_o_thrown, q4.2.1, q4.2.2.1, q4.2.2.2.1, q4.2.2.2.2) else fX9_judge_51 n v_o_thrown v_o_rows q4.2.1 q4.2.2.1 q4.2.2.2.1 d_o_many d_o_views d_o_aisles d_o_page q4.2.2.2.2 x1 x2 (x4 + (1 : Int32)))))))
set_option maxRecDepth 100000 in
set_option maxHeartbeats 4000000 in
theorem tX9_judge_51 {p : Program} {l : Launch} {e : Env} {s : State} {m : MethodId} {args : Array Value} {below : List Frame} {meth : Method} {c : Code} {D : va_G} {cI cJ cZ cB : ClassId} {a_o : Nat} {a_o_text : Nat} {a_o_many : Nat} {a_o_views : Nat} {a_o_aisles : Nat} {a_o_readMany : Nat} {a_o_readViews : Nat} {a_o_readAisles : Nat} {a_o_readPage : Nat} {a_o_page : Nat} {a_o_trial : Nat} {a_o_book : Nat} {a_o_kept : Nat} {a_o_isKept : Nat} {a_o_seenSeat : Nat} {a_o_seenWas : Nat} {A : Nat → Prop} (C : Cx p s m args meth c cX9_judge 6 (some .int) wsX9_judge RX9) (hK : Kw D (tyL cI cJ cZ cB) s) (hA : ∀ q : Nat, s.heap.size ≤ q → A q) : ∀ (n : Nat), ∀ (v_o_thrown : Int32) (v_o_textSize : Int32) (v_o_place : Int32) (v_o_rows : Int32) (v_o_readRows : Int32) (v_o_doings : Int32) (v_o_seen : Int32) (v_o_seed : Int64) (v_o_found : Int32) (v_o_foundViews : Int32) (v_o_foundMany : Int32) (d_o_many : (Nat → Int32)) (d_o_views : (Nat → Int32)) (d_o_aisles : (Nat → Int32)) (d_o_page : (Nat → Int32)) (d_o_trial : (Nat → Int32)) (x1 : Int32) (x2 : Int64) (x4 : Int32) (H : Heap) (locs : List Loc) (ls : Array Slot) (res : Int32 × Int32 × Int32 × Int32 × Int32 × (Nat → Int32)), va_P D vwCl (WX9_judge cI cJ cZ cB a_o a_o_text a_o_many a_o_views a_o_aisles a_o_readMany a_o_readViews a_o_readAisles a_o_readPage a_o_page a_o_trial a_o_book a_o_kept a_o_isKept a_o_seenSeat a_o_seenWas v_o_thrown v_o_textSize v_o_place v_o_rows v_o_readRows v_o_doings v_o_seen v_o_seed v_o_found v_o_foundViews v_o_foundMany d_o_many d_o_views d_o_aisles d_o_page d_o_trial) H → va_D A (WX9_judge cI cJ cZ cB a_o a_o_text a_o_many a_o_views a_o_aisles a_o_readMany a_o_readViews a_o_readAisles a_o_readPage a_o_page a_o_trial a_o_book a_o_kept a_o_isKept a_o_seenSeat a_o_seenWas v_o_thrown v_o_textSize v_o_place v_o_rows v_o_readRows v_o_doings v_o_seen v_o_seed v_o_found v_o_foundViews v_o_foundMany d_o_many d_o_views d_o_aisles d_o_page d_o_trial) → va_S A s.heap H locs → lv_has ls 6 [(0, .ref a_o), (1, .int x1), (2, .long x2), (4, .int x4)] → fX9_judge_51 n v_o_thrown v_o_rows v_o_found v_o_foundViews v_o_foundMany d_o_many d_o_views d_o_aisles d_o_page d_o_trial x1 x2 x4 = some res → W p l e ({ frames := 10, cells := 0, slots := 0, locals := 246 } : Room) s m args below meth c H locs 0 0 (MQ below (QRw D A (WX9_judge cI cJ cZ cB a_o a_o_text a_o_many a_o_views a_o_aisles a_o_readMany a_o_readViews a_o_readAisles a_o_readPage a_o_page a_o_trial a_o_book a_o_kept a_o_isKept a_o_seenSeat a_o_seenWas res.2.1 v_o_textSize v_o_place v_o_rows v_o_readRows v_o_doings v_o_seen v_o_seed res.2.2.1 res.2.2.2.1 res.2.2.2.2.1 d_o_many d_o_views d_o_aisles d_o_page res.2.2.2.2.2) (some (.int res.1))) args s 0 0 A) (F0 m 51 ls []) := by
  obtain ⟨hx, hb, hr, hml, hts, hown, hlk⟩ := id C
  intro n
  induction n with
  | zero =>
    intro v_o_thrown v_o_textSize v_o_place v_o_rows v_o_readRows v_o_doings v_o_seen v_o_seed v_o_found v_o_foundViews v_o_foundMany d_o_many d_o_views d_o_aisles d_o_page d_o_trial x1 x2 x4 H locs ls res hP hD hS hl hf
    rw [fX9_judge_51] at hf
    cases hf
  | succ n ih =>
    intro v_o_thrown v_o_textSize v_o_place v_o_rows v_o_readRows v_o_doings v_o_seen v_o_seed v_o_found v_o_foundViews v_o_foundMany d_o_many d_o_views d_o_aisles d_o_page d_o_trial x1 x2 x4 H locs ls res hP hD hS hl hf
    rw [fX9_judge_51] at hf
    refine lv_iload hx hb dX9_judge_51 (lv_at hl 3 rfl) ?_
    refine lv_iload_n hx hb dX9_judge_53 rfl (lv_at hl 1 rfl) ?_
    refine lv_icmp_ge (tgt := 112) hx hb dX9_judge_54 (by decide) (fun hc => ?_) (fun hc => ?_)
    · have hf := pf_t hc hf
      refine lv_bipush (v := (-9 : Int32)) hx hb dX9_judge_112 (by decide) ?_
      cases hf
      exact W.iret hx hb hr (fun t ht hW => ⟨⟨rfl, by rw [ht]; exact hP, hD⟩, hS.F ht⟩) hS.2.2 dX9_judge_114
    · have hf := pf_f hc hf
      refine lv_lload_n hx hb dX9_judge_57 rfl (lv_at hl 2 rfl) ?_
      refine lv_ldc2 (v := (1000 : Int64)) hx hb hown (hts (.constantLong RX9 211 (1000 : Int64)) (by decide +kernel)) dX9_judge_58 ?_
      refine lv_iload_n hx hb dX9_judge_61 rfl (lv_at hl 1 rfl) ?_
      refine lv_iconst (v := (1 : Int32)) hx hb dX9_judge_62 (by decide) ?_
      refine lv_isub hx hb dX9_judge_63 ?_
      refine lv_iload hx hb dX9_judge_64 (lv_at hl 3 rfl) ?_
      refine lv_isub hx hb dX9_judge_66 ?_
      obtain ⟨q1, hq2, hf⟩ := pf_b hf
      have hPc := hP.sub (ws' := ([] : va_W)) [] rfl
      refine cl_rol (va_runS (As := [.long (1000 : Int64), .int ((x1 - (1 : Int32)) - x4)]) (rest := [.long x2]) ⟨hx, hb, hml, hown, hts⟩ (kX9_longPower l D cI cJ cZ cB (1000 : Int64) ((x1 - (1 : Int32)) - x4) q1 hq2) (va_cwS 2 hts gX9_judge_X9_longPower rfl rfl rfl (by decide +kernel) ⟨Nat.le_of_ble_eq_true rfl, Nat.le_of_ble_eq_true rfl⟩) ⟨PRo.blind, PRo.at hK hPc⟩ rfl rfl hl.1 rfl (lv_room (Nat.le_of_ble_eq_true rfl)) dX9_judge_67 ⟨Nat.zero_le _, Nat.zero_le _⟩) ?_
      obtain ⟨hg3, hf⟩ := pf_x hf
      refine lv_ldiv hx hb dX9_judge_70 hg3 ?_
      refine lv_ldc2 (v := (1000 : Int64)) hx hb hown (hts (.constantLong RX9 211 (1000 : Int64)) (by decide +kernel)) dX9_judge_71 ?_
      refine lv_lrem hx hb dX9_judge_74 (by decide) ?_
      refine lv_l2i (v := (((x2 / q1) - (x2 / q1) / (1000 : Int64) * (1000 : Int64))).toInt32) hx hb dX9_judge_75 rfl ?_
      refine lv_istore (lv' := [(5, .int ((((x2 / q1) - (x2 / q1) / (1000 : Int64) * (1000 : Int64))).toInt32)), (0, .ref a_o), (1, .int x1), (2, .long x2), (4, .int x4)]) hx hb dX9_judge_76 hl (by decide) rfl (fun ls hl => ?_)
      refine lv_aload_n hx hb dX9_judge_78 rfl (lv_at hl 1 rfl) ?_
      refine lv_iload hx hb dX9_judge_79 (lv_at hl 0 rfl) ?_
      refine lv_bipush (v := (100 : Int32)) hx hb dX9_judge_81 (by decide) ?_
      refine lv_idiv hx hb dX9_judge_83 (by decide) ?_
      refine lv_iload hx hb dX9_judge_84 (lv_at hl 0 rfl) ?_
      refine lv_bipush (v := (10 : Int32)) hx hb dX9_judge_86 (by decide) ?_
      refine lv_idiv hx hb dX9_judge_88 (by decide) ?_
      refine lv_bipush (v := (10 : Int32)) hx hb dX9_judge_89 (by decide) ?_
      refine lv_irem hx hb dX9_judge_91 (by decide) ?_
      refine lv_iload hx hb dX9_judge_92 (lv_at hl 0 rfl) ?_
      refine lv_bipush (v := (10 : Int32)) hx hb dX9_judge_94 (by decide) ?_
      refine lv_irem hx hb dX9_judge_96 (by decide) ?_
      obtain ⟨q4, hq5, hf⟩ := pf_b hf
      have hPc := hP.sub (ws' := (WX9_does cI cJ cZ cB a_o a_o_text a_o_many a_o_views a_o_aisles a_o_readMany a_o_readViews a_o_readAisles a_o_readPage a_o_page a_o_trial a_o_book a_o_kept a_o_isKept a_o_seenSeat a_o_seenWas v_o_thrown v_o_textSize v_o_place v_o_rows v_o_readRows v_o_doings v_o_seen v_o_seed v_o_found v_o_foundViews v_o_foundMany d_o_many d_o_views d_o_aisles d_o_trial)) [0, 1, 2, 3, 5] rfl
      have hDc := hD.sub (ws' := (WX9_does cI cJ cZ cB a_o a_o_text a_o_many a_o_views a_o_aisles a_o_readMany a_o_readViews a_o_readAisles a_o_readPage a_o_page a_o_trial a_o_book a_o_kept a_o_isKept a_o_seenSeat a_o_seenWas v_o_thrown v_o_textSize v_o_place v_o_rows v_o_readRows v_o_doings v_o_seen v_o_seed v_o_found v_o_foundViews v_o_foundMany d_o_many d_o_views d_o_aisles d_o_trial)) [0, 1, 2, 3, 5] (by decide) rfl
      refine cl_rwi (wr := [(a_o_page, .inl (cI, (229, .inl d_o_page)))]) (wsN := (WX9_judge cI cJ cZ cB a_o a_o_text a_o_many a_o_views a_o_aisles a_o_readMany a_o_readViews a_o_readAisles a_o_readPage a_o_page a_o_trial a_o_book a_o_kept a_o_isKept a_o_seenSeat a_o_seenWas v_o_thrown v_o_textSize v_o_place v_o_rows v_o_readRows v_o_doings v_o_seen v_o_seed q4.2.1 q4.2.2.1 q4.2.2.2.1 d_o_many d_o_views d_o_aisles d_o_page q4.2.2.2.2)) (va_runV (As := [.int ((((x2 / q1) - (x2 / q1) / (1000 : Int64) * (1000 : Int64))).toInt32 / (100 : Int32)), .int (((((x2 / q1) - (x2 / q1) / (1000 : Int64) * (1000 : Int64))).toInt32 / (10 : Int32)) - ((((x2 / q1) - (x2 / q1) / (1000 : Int64) * (1000 : Int64))).toInt32 / (10 : Int32)) / (10 : Int32) * (10 : Int32)), .int ((((x2 / q1) - (x2 / q1) / (1000 : Int64) * (1000 : Int64))).toInt32 - (((x2 / q1) - (x2 / q1) / (1000 : Int64) * (1000 : Int64))).toInt32 / (10 : Int32) * (10 : Int32))]) (rest := []) ⟨hx, hb, hml, hown, hts⟩ ((kX9_does l D cI cJ cZ cB a_o a_o_text a_o_many a_o_views a_o_aisles a_o_readMany a_o_readViews a_o_readAisles a_o_readPage a_o_page a_o_trial a_o_book a_o_kept a_o_isKept a_o_seenSeat a_o_seenWas v_o_thrown v_o_textSize v_o_place v_o_rows v_o_readRows v_o_doings v_o_seen v_o_seed v_o_found v_o_foundViews v_o_foundMany d_o_many d_o_views d_o_aisles d_o_trial ((((x2 / q1) - (x2 / q1) / (1000 : Int64) * (1000 : Int64))).toInt32 / (100 : Int32)) (((((x2 / q1) - (x2 / q1) / (1000 : Int64) * (1000 : Int64))).toInt32 / (10 : Int32)) - ((((x2 / q1) - (x2 / q1) / (1000 : Int64) * (1000 : Int64))).toInt32 / (10 : Int32)) / (10 : Int32) * (10 : Int32)) ((((x2 / q1) - (x2 / q1) / (1000 : Int64) * (1000 : Int64))).toInt32 - (((x2 / q1) - (x2 / q1) / (1000 : Int64) * (1000 : Int64))).toInt32 / (10 : Int32) * (10 : Int32)) q4 hq5) _) (cwV 3 hts gX9_judge_X9_does rfl rfl rfl (by decide +kernel) ⟨Nat.le_of_ble_eq_true rfl, Nat.le_of_ble_eq_true rfl⟩) ⟨PRw.blind, va_recv hK.1 hPc (ci := 9) (q0 := 0) rfl rfl, PRw.at hK hPc hDc⟩ rfl rfl hl.1 rfl (lv_room (Nat.le_of_ble_eq_true rfl)) dX9_judge_97 ⟨Nat.zero_le _, Nat.zero_le _⟩) hP hD hS hA [0, 1, 2, 3, 5] [4] [1, 2, 3, 4, 0, 5] rfl rfl (by decide) (by decide) rfl (by decide) (fun H locs hP hD hS => ?_)
      refine lv_if_ne (tgt := 106) hx hb dX9_judge_100 (by decide) (fun hc => ?_) (fun hc => ?_)
      · have hf := pf_f hc hf
        refine lv_iinc (v := (x4 + (1 : Int32))) (lv' := [(4, .int (x4 + (1 : Int32))), (5, .int ((((x2 / q1) - (x2 / q1) / (1000 : Int64) * (1000 : Int64))).toInt32)), (0, .ref a_o), (1, .int x1), (2, .long x2)]) hx hb dX9_judge_106 hl (k := 4) rfl rfl (by decide) rfl (fun ls hl => ?_)
        refine lv_goto (tgt := 51) hx hb dX9_judge_109 (by decide) ?_
        exact ih v_o_thrown v_o_textSize v_o_place v_o_rows v_o_readRows v_o_doings v_o_seen v_o_seed q4.2.1 q4.2.2.1 q4.2.2.2.1 d_o_many d_o_views d_o_aisles d_o_page q4.2.2.2.2 x1 x2 (x4 + (1 : Int32)) _ _ ls _ hP hD hS (lv_sub hl [2, 3, 4, 0] rfl) hf
      · have hf := pf_t hc hf
        refine lv_iload hx hb dX9_judge_103 (lv_at hl 4 rfl) ?_
        cases hf
        exact W.iret hx hb hr (fun t ht hW => ⟨⟨rfl, by rw [ht]; exact hP, hD⟩, hS.F ht⟩) hS.2.2 dX9_judge_105
def fX9_judge (v_o_thrown : Int32) (v_o_rows : Int32) (v_o_found : Int32) (v_o_foundViews : Int32) (v_o_foundMany : Int32) (d_o_many : (Nat → Int32)) (d_o_views : (Nat → Int32)) (d_o_aisles : (Nat → Int32)) (d_o_page : (Nat → Int32)) (d_o_trial : (Nat → Int32)) (x1 : Int32) (x2 : Int64) : Option (Int32 × Int32 × Int32 × Int32 × Int32 × (Nat → Int32)) := ((fX9_in ((x1).toInt64) (1 : Int64) (4 : Int64)).bind fun q1 => (if q1 = 0 then some ((-2 : Int32), (0 : Int32), v_o_found, v_o_foundViews, v_o_foundMany, d_o_trial) else ((fX9_longPower (1000 : Int64) x1).bind fun q3 => ((fX9_in x2 (0 : Int64) (q3 - (1 : Int64))).bind fun q5 => (if q5 = 0 then some ((-2 : Int32), (0 : Int32), v_o_found, v_o_foundViews, v_o_foundMany, d_o_trial) else ((fX9_copy d_o_page d_o_trial).bind fun q7 => fX9_judge_51 FU (0 : Int32) v_o_rows v_o_found v_o_foundViews v_o_foundMany d_o_many d_o_views d_o_aisles d_o_page q7 x1 x2 (0 : Int32)))))))
set_option maxRecDepth 100000 in
set_option maxHeartbeats 4000000 in
theorem kX9_judge (l : Launch) (D : va_G) (cI cJ cZ cB : ClassId) (a_o : Nat) (a_o_text : Nat) (a_o_many : Nat) (a_o_views : Nat) (a_o_aisles : Nat) (a_o_readMany : Nat) (a_o_readViews : Nat) (a_o_readAisles : Nat) (a_o_readPage : Nat) (a_o_page : Nat) (a_o_trial : Nat) (a_o_book : Nat) (a_o_kept : Nat) (a_o_isKept : Nat) (a_o_seenSeat : Nat) (a_o_seenWas : Nat) (v_o_thrown : Int32) (v_o_textSize : Int32) (v_o_place : Int32) (v_o_rows : Int32) (v_o_readRows : Int32) (v_o_doings : Int32) (v_o_seen : Int32) (v_o_seed : Int64) (v_o_found : Int32) (v_o_foundViews : Int32) (v_o_foundMany : Int32) (d_o_many : (Nat → Int32)) (d_o_views : (Nat → Int32)) (d_o_aisles : (Nat → Int32)) (d_o_page : (Nat → Int32)) (d_o_trial : (Nat → Int32)) (x1 : Int32) (x2 : Int64) (res : Int32 × Int32 × Int32 × Int32 × Int32 × (Nat → Int32)) (hf : fX9_judge v_o_thrown v_o_rows v_o_found v_o_foundViews v_o_foundMany d_o_many d_o_views d_o_aisles d_o_page d_o_trial x1 x2 = some res) : Rw l yX9_judge wsX9_judge ({ frames := 10, cells := 0, slots := 0, locals := 246 } : Room) D (tyL cI cJ cZ cB) [.ref a_o, .int x1, .long x2] (WX9_judge cI cJ cZ cB a_o a_o_text a_o_many a_o_views a_o_aisles a_o_readMany a_o_readViews a_o_readAisles a_o_readPage a_o_page a_o_trial a_o_book a_o_kept a_o_isKept a_o_seenSeat a_o_seenWas v_o_thrown v_o_textSize v_o_place v_o_rows v_o_readRows v_o_doings v_o_seen v_o_seed v_o_found v_o_foundViews v_o_foundMany d_o_many d_o_views d_o_aisles d_o_page d_o_trial) (some (.int res.1)) (WX9_judge cI cJ cZ cB a_o a_o_text a_o_many a_o_views a_o_aisles a_o_readMany a_o_readViews a_o_readAisles a_o_readPage a_o_page a_o_trial a_o_book a_o_kept a_o_isKept a_o_seenSeat a_o_seenWas res.2.1 v_o_textSize v_o_place v_o_rows v_o_readRows v_o_doings v_o_seen v_o_seed res.2.2.1 res.2.2.2.1 res.2.2.2.2.1 d_o_many d_o_views d_o_aisles d_o_page res.2.2.2.2.2) := by
  refine Rw.of (cc := cX9_judge) (maxL := 6) (ret := (some .int)) (own := RX9) (by decide) rfl rfl (Nat.le_of_ble_eq_true rfl) ?_
  intro p e s m below meth c A ls C hK hA hP hD hS hl
  obtain ⟨hx, hb, hr, hml, hts, hown, hlk⟩ := id C
  have hl : lv_has ls 6 [(0, .ref a_o), (1, .int x1), (2, .long x2)] := hl
  unfold fX9_judge at hf
  refine lv_aload_n hx hb dX9_judge_0 rfl (lv_at hl 0 rfl) ?_
  refine lv_iconst (v := (0 : Int32)) hx hb dX9_judge_1 (by decide) ?_
  refine va_put (D := D) (ci := 9) (v := .int (0 : Int32)) (ty := .int) (C := RX9) (T := TX9) (N := 26) hx hb hts iX9_judge_X9 tyX9 tyX9_ok nmX9 hown hK.1 hP hD hS 0 rfl rfl 0 (by decide) (hts (.fieldLink RX9 60 "LoneSeatsModel" "thrown" "I") (by decide +kernel)) (fun _ h9 => h9) rfl (by decide +kernel) rfl rfl (Nat.le_of_ble_eq_true rfl) dX9_judge_2 (fun H locs hP hD hS => ?_)
  have hP : va_P D vwCl (WX9_judge cI cJ cZ cB a_o a_o_text a_o_many a_o_views a_o_aisles a_o_readMany a_o_readViews a_o_readAisles a_o_readPage a_o_page a_o_trial a_o_book a_o_kept a_o_isKept a_o_seenSeat a_o_seenWas (0 : Int32) v_o_textSize v_o_place v_o_rows v_o_readRows v_o_doings v_o_seen v_o_seed v_o_found v_o_foundViews v_o_foundMany d_o_many d_o_views d_o_aisles d_o_page d_o_trial) H := hP
  have hD : va_D A (WX9_judge cI cJ cZ cB a_o a_o_text a_o_many a_o_views a_o_aisles a_o_readMany a_o_readViews a_o_readAisles a_o_readPage a_o_page a_o_trial a_o_book a_o_kept a_o_isKept a_o_seenSeat a_o_seenWas (0 : Int32) v_o_textSize v_o_place v_o_rows v_o_readRows v_o_doings v_o_seen v_o_seed v_o_found v_o_foundViews v_o_foundMany d_o_many d_o_views d_o_aisles d_o_page d_o_trial) := hD
  refine lv_iload_n hx hb dX9_judge_5 rfl (lv_at hl 1 rfl) ?_
  refine lv_i2l (v := (x1).toInt64) hx hb dX9_judge_6 rfl ?_
  refine lv_lconst (v := (1 : Int64)) hx hb dX9_judge_7 (by decide) ?_
  refine lv_ldc2 (v := (4 : Int64)) hx hb hown (hts (.constantLong RX9 209 (4 : Int64)) (by decide +kernel)) dX9_judge_8 ?_
  obtain ⟨q1, hq2, hf⟩ := pf_b hf
  have hPc := hP.sub (ws' := ([] : va_W)) [] rfl
  refine cl_roi (va_runS (As := [.long ((x1).toInt64), .long (1 : Int64), .long (4 : Int64)]) (rest := []) ⟨hx, hb, hml, hown, hts⟩ (kX9_in l D cI cJ cZ cB ((x1).toInt64) (1 : Int64) (4 : Int64) q1 hq2) (va_cwS 3 hts gX9_judge_X9_in rfl rfl rfl (by decide +kernel) ⟨Nat.le_of_ble_eq_true rfl, Nat.le_of_ble_eq_true rfl⟩) ⟨PRo.blind, PRo.at hK hPc⟩ rfl rfl hl.1 rfl (lv_room (Nat.le_of_ble_eq_true rfl)) dX9_judge_11 ⟨Nat.zero_le _, Nat.zero_le _⟩) ?_
  refine lv_if_eq (tgt := 34) hx hb dX9_judge_14 (by decide) (fun hc => ?_) (fun hc => ?_)
  · have hf := pf_t hc hf
    refine lv_bipush (v := (-2 : Int32)) hx hb dX9_judge_34 (by decide) ?_
    cases hf
    exact W.iret hx hb hr (fun t ht hW => ⟨⟨rfl, by rw [ht]; exact hP, hD⟩, hS.F ht⟩) hS.2.2 dX9_judge_36
  · have hf := pf_f hc hf
    refine lv_lload_n hx hb dX9_judge_17 rfl (lv_at hl 2 rfl) ?_
    refine lv_lconst (v := (0 : Int64)) hx hb dX9_judge_18 (by decide) ?_
    refine lv_ldc2 (v := (1000 : Int64)) hx hb hown (hts (.constantLong RX9 211 (1000 : Int64)) (by decide +kernel)) dX9_judge_19 ?_
    refine lv_iload_n hx hb dX9_judge_22 rfl (lv_at hl 1 rfl) ?_
    obtain ⟨q3, hq4, hf⟩ := pf_b hf
    have hPc := hP.sub (ws' := ([] : va_W)) [] rfl
    refine cl_rol (va_runS (As := [.long (1000 : Int64), .int x1]) (rest := [.long (0 : Int64), .long x2]) ⟨hx, hb, hml, hown, hts⟩ (kX9_longPower l D cI cJ cZ cB (1000 : Int64) x1 q3 hq4) (va_cwS 2 hts gX9_judge_X9_longPower rfl rfl rfl (by decide +kernel) ⟨Nat.le_of_ble_eq_true rfl, Nat.le_of_ble_eq_true rfl⟩) ⟨PRo.blind, PRo.at hK hPc⟩ rfl rfl hl.1 rfl (lv_room (Nat.le_of_ble_eq_true rfl)) dX9_judge_23 ⟨Nat.zero_le _, Nat.zero_le _⟩) ?_
    refine lv_lconst (v := (1 : Int64)) hx hb dX9_judge_26 (by decide) ?_
    refine lv_lsub hx hb dX9_judge_27 ?_
    obtain ⟨q5, hq6, hf⟩ := pf_b hf
    have hPc := hP.sub (ws' := ([] : va_W)) [] rfl
    refine cl_roi (va_runS (As := [.long x2, .long (0 : Int64), .long (q3 - (1 : Int64))]) (rest := []) ⟨hx, hb, hml, hown, hts⟩ (kX9_in l D cI cJ cZ cB x2 (0 : Int64) (q3 - (1 : Int64)) q5 hq6) (va_cwS 3 hts gX9_judge_X9_in rfl rfl rfl (by decide +kernel) ⟨Nat.le_of_ble_eq_true rfl, Nat.le_of_ble_eq_true rfl⟩) ⟨PRo.blind, PRo.at hK hPc⟩ rfl rfl hl.1 rfl (lv_room (Nat.le_of_ble_eq_true rfl)) dX9_judge_28 ⟨Nat.zero_le _, Nat.zero_le _⟩) ?_
    refine lv_if_ne (tgt := 37) hx hb dX9_judge_31 (by decide) (fun hc => ?_) (fun hc => ?_)
    · have hf := pf_f hc hf
      refine lv_aload_n hx hb dX9_judge_37 rfl (lv_at hl 0 rfl) ?_
      refine va_get (D := D) (ci := 9) (v := .ref a_o_page) (C := RX9) (T := TX9) (N := 26) hx hb hts iX9_judge_X9 hown hK.1 hP 0 rfl rfl 13 (by decide) (hts (.fieldLink RX9 35 "LoneSeatsModel" "page" "[I") (by decide +kernel)) (fun _ h9 => h9) rfl dX9_judge_38 ?_
      refine lv_aload_n hx hb dX9_judge_41 rfl (lv_at hl 0 rfl) ?_
      refine va_get (D := D) (ci := 9) (v := .ref a_o_trial) (C := RX9) (T := TX9) (N := 26) hx hb hts iX9_judge_X9 hown hK.1 hP 0 rfl rfl 14 (by decide) (hts (.fieldLink RX9 38 "LoneSeatsModel" "trial" "[I") (by decide +kernel)) (fun _ h9 => h9) rfl dX9_judge_42 ?_
      obtain ⟨q7, hq8, hf⟩ := pf_b hf
      have hPc := hP.sub (ws' := (WX9_copy cI cJ cZ cB a_o_page a_o_trial d_o_page d_o_trial)) [4, 5] rfl
      have hDc := hD.sub (ws' := (WX9_copy cI cJ cZ cB a_o_page a_o_trial d_o_page d_o_trial)) [4, 5] (by decide) rfl
      refine cl_rwv (wr := [(a_o, .inr (9, [.int (0 : Int32), .ref a_o_text, .int v_o_textSize, .int v_o_place, .int v_o_rows, .ref a_o_many, .ref a_o_views, .ref a_o_aisles, .int v_o_readRows, .ref a_o_readMany, .ref a_o_readViews, .ref a_o_readAisles, .ref a_o_readPage, .ref a_o_page, .ref a_o_trial, .ref a_o_book, .int v_o_doings, .ref a_o_kept, .ref a_o_isKept, .int v_o_seen, .ref a_o_seenSeat, .ref a_o_seenWas, .long v_o_seed, .int v_o_found, .int v_o_foundViews, .int v_o_foundMany])), (a_o_many, .inl (cI, (4, .inl d_o_many))), (a_o_views, .inl (cI, (36, .inl d_o_views))), (a_o_aisles, .inl (cZ, (36, .inl d_o_aisles)))]) (wsN := (WX9_judge cI cJ cZ cB a_o a_o_text a_o_many a_o_views a_o_aisles a_o_readMany a_o_readViews a_o_readAisles a_o_readPage a_o_page a_o_trial a_o_book a_o_kept a_o_isKept a_o_seenSeat a_o_seenWas (0 : Int32) v_o_textSize v_o_place v_o_rows v_o_readRows v_o_doings v_o_seen v_o_seed v_o_found v_o_foundViews v_o_foundMany d_o_many d_o_views d_o_aisles d_o_page q7)) (va_runS (As := [.ref a_o_page, .ref a_o_trial]) (rest := []) ⟨hx, hb, hml, hown, hts⟩ ((kX9_copy l D cI cJ cZ cB a_o_page a_o_trial d_o_page d_o_trial q7 hq8) _) (va_cwS 2 hts gX9_judge_X9_copy rfl rfl rfl (by decide +kernel) ⟨Nat.le_of_ble_eq_true rfl, Nat.le_of_ble_eq_true rfl⟩) ⟨PRw.blind, PRw.at hK hPc hDc⟩ rfl rfl hl.1 rfl (lv_room (Nat.le_of_ble_eq_true rfl)) dX9_judge_45 ⟨Nat.zero_le _, Nat.zero_le _⟩) hP hD hS hA [4, 5] [0, 1, 2, 3] [0, 1, 2, 3, 4, 5] rfl rfl (by decide) (by decide) rfl (by decide) (fun H locs hP hD hS => ?_)
      refine lv_iconst (v := (0 : Int32)) hx hb dX9_judge_48 (by decide) ?_
      refine lv_istore (lv' := [(4, .int (0 : Int32)), (0, .ref a_o), (1, .int x1), (2, .long x2)]) hx hb dX9_judge_49 hl (by decide) rfl (fun ls hl => ?_)
      exact tX9_judge_51 C hK hA  FU (0 : Int32) v_o_textSize v_o_place v_o_rows v_o_readRows v_o_doings v_o_seen v_o_seed v_o_found v_o_foundViews v_o_foundMany d_o_many d_o_views d_o_aisles d_o_page q7 x1 x2 (0 : Int32) _ _ ls _ hP hD hS (lv_sub hl [1, 2, 3, 0] rfl) hf
    · have hf := pf_t hc hf
      refine lv_bipush (v := (-2 : Int32)) hx hb dX9_judge_34 (by decide) ?_
      cases hf
      exact W.iret hx hb hr (fun t ht hW => ⟨⟨rfl, by rw [ht]; exact hP, hD⟩, hS.F ht⟩) hS.2.2 dX9_judge_36
abbrev WX9_see (cI cJ cZ cB : ClassId) (a_o : Nat) (a_o_text : Nat) (a_o_many : Nat) (a_o_views : Nat) (a_o_aisles : Nat) (a_o_readMany : Nat) (a_o_readViews : Nat) (a_o_readAisles : Nat) (a_o_readPage : Nat) (a_o_page : Nat) (a_o_trial : Nat) (a_o_book : Nat) (a_o_kept : Nat) (a_o_isKept : Nat) (a_o_seenSeat : Nat) (a_o_seenWas : Nat) (v_o_thrown : Int32) (v_o_textSize : Int32) (v_o_place : Int32) (v_o_rows : Int32) (v_o_readRows : Int32) (v_o_doings : Int32) (v_o_seen : Int32) (v_o_seed : Int64) (v_o_found : Int32) (v_o_foundViews : Int32) (v_o_foundMany : Int32) (d_o_many : (Nat → Int32)) (d_o_seenSeat : (Nat → Int32)) (d_o_seenWas : (Nat → Int32)) : va_W := [(a_o, .inr (9, [.int v_o_thrown, .ref a_o_text, .int v_o_textSize, .int v_o_place, .int v_o_rows, .ref a_o_many, .ref a_o_views, .ref a_o_aisles, .int v_o_readRows, .ref a_o_readMany, .ref a_o_readViews, .ref a_o_readAisles, .ref a_o_readPage, .ref a_o_page, .ref a_o_trial, .ref a_o_book, .int v_o_doings, .ref a_o_kept, .ref a_o_isKept, .int v_o_seen, .ref a_o_seenSeat, .ref a_o_seenWas, .long v_o_seed, .int v_o_found, .int v_o_foundViews, .int v_o_foundMany])), (a_o_many, .inl (cI, (4, .inl d_o_many))), (a_o_seenSeat, .inl (cI, (6, .inl d_o_seenSeat))), (a_o_seenWas, .inl (cI, (6, .inl d_o_seenWas)))]
set_option maxRecDepth 20000 in
theorem iX9_see_X9 : ∀ w ∈ wsX90, w ∈ wsX9_see := by decide +kernel
def fX9_see (v_o_thrown : Int32) (v_o_rows : Int32) (v_o_seen : Int32) (d_o_many : (Nat → Int32)) (d_o_seenSeat : (Nat → Int32)) (d_o_seenWas : (Nat → Int32)) (x1 : Int32) (x2 : Int32) (x3 : Int32) : Option (Int32 × Int32 × Int32 × (Nat → Int32) × (Nat → Int32)) := ((fX9_noSeat v_o_rows d_o_many x1 x2).bind fun q1 => (if q1 = 0 then ((fX9_in ((x3).toInt64) (0 : Int64) (1 : Int64)).bind fun q3 => (if q3 = 0 then some ((-2 : Int32), (0 : Int32), v_o_seen, d_o_seenSeat, d_o_seenWas) else (if v_o_seen = (6 : Int32) then some ((-4 : Int32), (0 : Int32), v_o_seen, d_o_seenSeat, d_o_seenWas) else (if v_o_seen < 0 ∨ 6 ≤ (v_o_seen).toNatClampNeg then none else (if v_o_seen < 0 ∨ 6 ≤ (v_o_seen).toNatClampNeg then none else some ((v_o_seen + (1 : Int32)), (0 : Int32), (v_o_seen + (1 : Int32)), (upd d_o_seenSeat ((v_o_seen).toNatClampNeg) (((9 : Int32) * x1) + x2)), (upd d_o_seenWas ((v_o_seen).toNatClampNeg) x3))))))) else some ((-1 : Int32), (0 : Int32), v_o_seen, d_o_seenSeat, d_o_seenWas)))
set_option maxRecDepth 100000 in
set_option maxHeartbeats 4000000 in
theorem kX9_see (l : Launch) (D : va_G) (cI cJ cZ cB : ClassId) (a_o : Nat) (a_o_text : Nat) (a_o_many : Nat) (a_o_views : Nat) (a_o_aisles : Nat) (a_o_readMany : Nat) (a_o_readViews : Nat) (a_o_readAisles : Nat) (a_o_readPage : Nat) (a_o_page : Nat) (a_o_trial : Nat) (a_o_book : Nat) (a_o_kept : Nat) (a_o_isKept : Nat) (a_o_seenSeat : Nat) (a_o_seenWas : Nat) (v_o_thrown : Int32) (v_o_textSize : Int32) (v_o_place : Int32) (v_o_rows : Int32) (v_o_readRows : Int32) (v_o_doings : Int32) (v_o_seen : Int32) (v_o_seed : Int64) (v_o_found : Int32) (v_o_foundViews : Int32) (v_o_foundMany : Int32) (d_o_many : (Nat → Int32)) (d_o_seenSeat : (Nat → Int32)) (d_o_seenWas : (Nat → Int32)) (x1 : Int32) (x2 : Int32) (x3 : Int32) (res : Int32 × Int32 × Int32 × (Nat → Int32) × (Nat → Int32)) (hf : fX9_see v_o_thrown v_o_rows v_o_seen d_o_many d_o_seenSeat d_o_seenWas x1 x2 x3 = some res) : Rw l yX9_see wsX9_see ({ frames := 3, cells := 0, slots := 0, locals := 68 } : Room) D (tyL cI cJ cZ cB) [.ref a_o, .int x1, .int x2, .int x3] (WX9_see cI cJ cZ cB a_o a_o_text a_o_many a_o_views a_o_aisles a_o_readMany a_o_readViews a_o_readAisles a_o_readPage a_o_page a_o_trial a_o_book a_o_kept a_o_isKept a_o_seenSeat a_o_seenWas v_o_thrown v_o_textSize v_o_place v_o_rows v_o_readRows v_o_doings v_o_seen v_o_seed v_o_found v_o_foundViews v_o_foundMany d_o_many d_o_seenSeat d_o_seenWas) (some (.int res.1)) (WX9_see cI cJ cZ cB a_o a_o_text a_o_many a_o_views a_o_aisles a_o_readMany a_o_readViews a_o_readAisles a_o_readPage a_o_page a_o_trial a_o_book a_o_kept a_o_isKept a_o_seenSeat a_o_seenWas res.2.1 v_o_textSize v_o_place v_o_rows v_o_readRows v_o_doings res.2.2.1 v_o_seed v_o_found v_o_foundViews v_o_foundMany d_o_many res.2.2.2.1 res.2.2.2.2) := by
  refine Rw.of (cc := cX9_see) (maxL := 4) (ret := (some .int)) (own := RX9) (by decide) rfl rfl (Nat.le_of_ble_eq_true rfl) ?_
  intro p e s m below meth c A ls C hK hA hP hD hS hl
  obtain ⟨hx, hb, hr, hml, hts, hown, hlk⟩ := id C
  have hl : lv_has ls 4 [(0, .ref a_o), (1, .int x1), (2, .int x2), (3, .int x3)] := hl
  unfold fX9_see at hf
  refine lv_aload_n hx hb dX9_see_0 rfl (lv_at hl 0 rfl) ?_
  refine lv_iconst (v := (0 : Int32)) hx hb dX9_see_1 (by decide) ?_
  refine va_put (D := D) (ci := 9) (v := .int (0 : Int32)) (ty := .int) (C := RX9) (T := TX9) (N := 26) hx hb hts iX9_see_X9 tyX9 tyX9_ok nmX9 hown hK.1 hP hD hS 0 rfl rfl 0 (by decide) (hts (.fieldLink RX9 60 "LoneSeatsModel" "thrown" "I") (by decide +kernel)) (fun _ h9 => h9) rfl (by decide +kernel) rfl rfl (Nat.le_of_ble_eq_true rfl) dX9_see_2 (fun H locs hP hD hS => ?_)
  have hP : va_P D vwCl (WX9_see cI cJ cZ cB a_o a_o_text a_o_many a_o_views a_o_aisles a_o_readMany a_o_readViews a_o_readAisles a_o_readPage a_o_page a_o_trial a_o_book a_o_kept a_o_isKept a_o_seenSeat a_o_seenWas (0 : Int32) v_o_textSize v_o_place v_o_rows v_o_readRows v_o_doings v_o_seen v_o_seed v_o_found v_o_foundViews v_o_foundMany d_o_many d_o_seenSeat d_o_seenWas) H := hP
  have hD : va_D A (WX9_see cI cJ cZ cB a_o a_o_text a_o_many a_o_views a_o_aisles a_o_readMany a_o_readViews a_o_readAisles a_o_readPage a_o_page a_o_trial a_o_book a_o_kept a_o_isKept a_o_seenSeat a_o_seenWas (0 : Int32) v_o_textSize v_o_place v_o_rows v_o_readRows v_o_doings v_o_seen v_o_seed v_o_found v_o_foundViews v_o_foundMany d_o_many d_o_seenSeat d_o_seenWas) := hD
  refine lv_aload_n hx hb dX9_see_5 rfl (lv_at hl 0 rfl) ?_
  refine lv_iload_n hx hb dX9_see_6 rfl (lv_at hl 1 rfl) ?_
  refine lv_iload_n hx hb dX9_see_7 rfl (lv_at hl 2 rfl) ?_
  obtain ⟨q1, hq2, hf⟩ := pf_b hf
  have hPc := hP.sub (ws' := (WX9_noSeat cI cJ cZ cB a_o a_o_text a_o_many a_o_views a_o_aisles a_o_readMany a_o_readViews a_o_readAisles a_o_readPage a_o_page a_o_trial a_o_book a_o_kept a_o_isKept a_o_seenSeat a_o_seenWas (0 : Int32) v_o_textSize v_o_place v_o_rows v_o_readRows v_o_doings v_o_seen v_o_seed v_o_found v_o_foundViews v_o_foundMany d_o_many)) [0, 1] rfl
  refine cl_roi (va_runV (As := [.int x1, .int x2]) (rest := []) ⟨hx, hb, hml, hown, hts⟩ (kX9_noSeat l D cI cJ cZ cB a_o a_o_text a_o_many a_o_views a_o_aisles a_o_readMany a_o_readViews a_o_readAisles a_o_readPage a_o_page a_o_trial a_o_book a_o_kept a_o_isKept a_o_seenSeat a_o_seenWas (0 : Int32) v_o_textSize v_o_place v_o_rows v_o_readRows v_o_doings v_o_seen v_o_seed v_o_found v_o_foundViews v_o_foundMany d_o_many x1 x2 q1 hq2) (cwV 2 hts gX9_see_X9_noSeat rfl rfl rfl (by decide +kernel) ⟨Nat.le_of_ble_eq_true rfl, Nat.le_of_ble_eq_true rfl⟩) ⟨PRo.blind, va_recv hK.1 hPc (ci := 9) (q0 := 0) rfl rfl, PRo.at hK hPc⟩ rfl rfl hl.1 rfl (lv_room (Nat.le_of_ble_eq_true rfl)) dX9_see_8 ⟨Nat.zero_le _, Nat.zero_le _⟩) ?_
  refine lv_if_eq (tgt := 16) hx hb dX9_see_11 (by decide) (fun hc => ?_) (fun hc => ?_)
  · have hf := pf_t hc hf
    refine lv_iload_n hx hb dX9_see_16 rfl (lv_at hl 3 rfl) ?_
    refine lv_i2l (v := (x3).toInt64) hx hb dX9_see_17 rfl ?_
    refine lv_lconst (v := (0 : Int64)) hx hb dX9_see_18 (by decide) ?_
    refine lv_lconst (v := (1 : Int64)) hx hb dX9_see_19 (by decide) ?_
    obtain ⟨q3, hq4, hf⟩ := pf_b hf
    have hPc := hP.sub (ws' := ([] : va_W)) [] rfl
    refine cl_roi (va_runS (As := [.long ((x3).toInt64), .long (0 : Int64), .long (1 : Int64)]) (rest := []) ⟨hx, hb, hml, hown, hts⟩ (kX9_in l D cI cJ cZ cB ((x3).toInt64) (0 : Int64) (1 : Int64) q3 hq4) (va_cwS 3 hts gX9_see_X9_in rfl rfl rfl (by decide +kernel) ⟨Nat.le_of_ble_eq_true rfl, Nat.le_of_ble_eq_true rfl⟩) ⟨PRo.blind, PRo.at hK hPc⟩ rfl rfl hl.1 rfl (lv_room (Nat.le_of_ble_eq_true rfl)) dX9_see_20 ⟨Nat.zero_le _, Nat.zero_le _⟩) ?_
    refine lv_if_ne (tgt := 29) hx hb dX9_see_23 (by decide) (fun hc => ?_) (fun hc => ?_)
    · have hf := pf_f hc hf
      refine lv_aload_n hx hb dX9_see_29 rfl (lv_at hl 0 rfl) ?_
      refine va_get (D := D) (ci := 9) (v := .int v_o_seen) (C := RX9) (T := TX9) (N := 26) hx hb hts iX9_see_X9 hown hK.1 hP 0 rfl rfl 19 (by decide) (hts (.fieldLink RX9 221 "LoneSeatsModel" "seen" "I") (by decide +kernel)) (fun _ h9 => h9) rfl dX9_see_30 ?_
      refine lv_bipush (v := (6 : Int32)) hx hb dX9_see_33 (by decide) ?_
      refine lv_icmp_ne (tgt := 41) hx hb dX9_see_35 (by decide) (fun hc => ?_) (fun hc => ?_)
      · have hf := pf_f hc hf
        refine lv_aload_n hx hb dX9_see_41 rfl (lv_at hl 0 rfl) ?_
        refine va_get (D := D) (ci := 9) (v := .ref a_o_seenSeat) (C := RX9) (T := TX9) (N := 26) hx hb hts iX9_see_X9 hown hK.1 hP 0 rfl rfl 20 (by decide) (hts (.fieldLink RX9 50 "LoneSeatsModel" "seenSeat" "[I") (by decide +kernel)) (fun _ h9 => h9) rfl dX9_see_42 ?_
        refine lv_aload_n hx hb dX9_see_45 rfl (lv_at hl 0 rfl) ?_
        refine va_get (D := D) (ci := 9) (v := .int v_o_seen) (C := RX9) (T := TX9) (N := 26) hx hb hts iX9_see_X9 hown hK.1 hP 0 rfl rfl 19 (by decide) (hts (.fieldLink RX9 221 "LoneSeatsModel" "seen" "I") (by decide +kernel)) (fun _ h9 => h9) rfl dX9_see_46 ?_
        refine lv_bipush (v := (9 : Int32)) hx hb dX9_see_49 (by decide) ?_
        refine lv_iload_n hx hb dX9_see_51 rfl (lv_at hl 1 rfl) ?_
        refine lv_imul hx hb dX9_see_52 ?_
        refine lv_iload_n hx hb dX9_see_53 rfl (lv_at hl 2 rfl) ?_
        refine lv_iadd hx hb dX9_see_54 ?_
        obtain ⟨hg5, hf⟩ := pf_x hf
        refine va_iast hx hb hK.1 hP hD hS 2 0 rfl rfl hg5 dX9_see_55 (fun H locs hP hD hS => ?_)
        have hP : va_P D vwCl (WX9_see cI cJ cZ cB a_o a_o_text a_o_many a_o_views a_o_aisles a_o_readMany a_o_readViews a_o_readAisles a_o_readPage a_o_page a_o_trial a_o_book a_o_kept a_o_isKept a_o_seenSeat a_o_seenWas (0 : Int32) v_o_textSize v_o_place v_o_rows v_o_readRows v_o_doings v_o_seen v_o_seed v_o_found v_o_foundViews v_o_foundMany d_o_many (upd d_o_seenSeat ((v_o_seen).toNatClampNeg) (((9 : Int32) * x1) + x2)) d_o_seenWas) H := hP
        have hD : va_D A (WX9_see cI cJ cZ cB a_o a_o_text a_o_many a_o_views a_o_aisles a_o_readMany a_o_readViews a_o_readAisles a_o_readPage a_o_page a_o_trial a_o_book a_o_kept a_o_isKept a_o_seenSeat a_o_seenWas (0 : Int32) v_o_textSize v_o_place v_o_rows v_o_readRows v_o_doings v_o_seen v_o_seed v_o_found v_o_foundViews v_o_foundMany d_o_many (upd d_o_seenSeat ((v_o_seen).toNatClampNeg) (((9 : Int32) * x1) + x2)) d_o_seenWas) := hD
        refine lv_aload_n hx hb dX9_see_56 rfl (lv_at hl 0 rfl) ?_
        refine va_get (D := D) (ci := 9) (v := .ref a_o_seenWas) (C := RX9) (T := TX9) (N := 26) hx hb hts iX9_see_X9 hown hK.1 hP 0 rfl rfl 21 (by decide) (hts (.fieldLink RX9 53 "LoneSeatsModel" "seenWas" "[I") (by decide +kernel)) (fun _ h9 => h9) rfl dX9_see_57 ?_
        refine lv_aload_n hx hb dX9_see_60 rfl (lv_at hl 0 rfl) ?_
        refine va_get (D := D) (ci := 9) (v := .int v_o_seen) (C := RX9) (T := TX9) (N := 26) hx hb hts iX9_see_X9 hown hK.1 hP 0 rfl rfl 19 (by decide) (hts (.fieldLink RX9 221 "LoneSeatsModel" "seen" "I") (by decide +kernel)) (fun _ h9 => h9) rfl dX9_see_61 ?_
        refine lv_iload_n hx hb dX9_see_64 rfl (lv_at hl 3 rfl) ?_
        obtain ⟨hg6, hf⟩ := pf_x hf
        refine va_iast hx hb hK.1 hP hD hS 3 0 rfl rfl hg6 dX9_see_65 (fun H locs hP hD hS => ?_)
        have hP : va_P D vwCl (WX9_see cI cJ cZ cB a_o a_o_text a_o_many a_o_views a_o_aisles a_o_readMany a_o_readViews a_o_readAisles a_o_readPage a_o_page a_o_trial a_o_book a_o_kept a_o_isKept a_o_seenSeat a_o_seenWas (0 : Int32) v_o_textSize v_o_place v_o_rows v_o_readRows v_o_doings v_o_seen v_o_seed v_o_found v_o_foundViews v_o_foundMany d_o_many (upd d_o_seenSeat ((v_o_seen).toNatClampNeg) (((9 : Int32) * x1) + x2)) (upd d_o_seenWas ((v_o_seen).toNatClampNeg) x3)) H := hP
        have hD : va_D A (WX9_see cI cJ cZ cB a_o a_o_text a_o_many a_o_views a_o_aisles a_o_readMany a_o_readViews a_o_readAisles a_o_readPage a_o_page a_o_trial a_o_book a_o_kept a_o_isKept a_o_seenSeat a_o_seenWas (0 : Int32) v_o_textSize v_o_place v_o_rows v_o_readRows v_o_doings v_o_seen v_o_seed v_o_found v_o_foundViews v_o_foundMany d_o_many (upd d_o_seenSeat ((v_o_seen).toNatClampNeg) (((9 : Int32) * x1) + x2)) (upd d_o_seenWas ((v_o_seen).toNatClampNeg) x3)) := hD
        refine lv_aload_n hx hb dX9_see_66 rfl (lv_at hl 0 rfl) ?_
        refine lv_dup hx hb dX9_see_67 rfl ?_
        refine va_get (D := D) (ci := 9) (v := .int v_o_seen) (C := RX9) (T := TX9) (N := 26) hx hb hts iX9_see_X9 hown hK.1 hP 0 rfl rfl 19 (by decide) (hts (.fieldLink RX9 221 "LoneSeatsModel" "seen" "I") (by decide +kernel)) (fun _ h9 => h9) rfl dX9_see_68 ?_
        refine lv_iconst (v := (1 : Int32)) hx hb dX9_see_71 (by decide) ?_
        refine lv_iadd hx hb dX9_see_72 ?_
        refine va_put (D := D) (ci := 9) (v := .int (v_o_seen + (1 : Int32))) (ty := .int) (C := RX9) (T := TX9) (N := 26) hx hb hts iX9_see_X9 tyX9 tyX9_ok nmX9 hown hK.1 hP hD hS 0 rfl rfl 19 (by decide) (hts (.fieldLink RX9 221 "LoneSeatsModel" "seen" "I") (by decide +kernel)) (fun _ h9 => h9) rfl (by decide +kernel) rfl rfl (Nat.le_of_ble_eq_true rfl) dX9_see_73 (fun H locs hP hD hS => ?_)
        have hP : va_P D vwCl (WX9_see cI cJ cZ cB a_o a_o_text a_o_many a_o_views a_o_aisles a_o_readMany a_o_readViews a_o_readAisles a_o_readPage a_o_page a_o_trial a_o_book a_o_kept a_o_isKept a_o_seenSeat a_o_seenWas (0 : Int32) v_o_textSize v_o_place v_o_rows v_o_readRows v_o_doings (v_o_seen + (1 : Int32)) v_o_seed v_o_found v_o_foundViews v_o_foundMany d_o_many (upd d_o_seenSeat ((v_o_seen).toNatClampNeg) (((9 : Int32) * x1) + x2)) (upd d_o_seenWas ((v_o_seen).toNatClampNeg) x3)) H := hP
        have hD : va_D A (WX9_see cI cJ cZ cB a_o a_o_text a_o_many a_o_views a_o_aisles a_o_readMany a_o_readViews a_o_readAisles a_o_readPage a_o_page a_o_trial a_o_book a_o_kept a_o_isKept a_o_seenSeat a_o_seenWas (0 : Int32) v_o_textSize v_o_place v_o_rows v_o_readRows v_o_doings (v_o_seen + (1 : Int32)) v_o_seed v_o_found v_o_foundViews v_o_foundMany d_o_many (upd d_o_seenSeat ((v_o_seen).toNatClampNeg) (((9 : Int32) * x1) + x2)) (upd d_o_seenWas ((v_o_seen).toNatClampNeg) x3)) := hD
        refine lv_aload_n hx hb dX9_see_76 rfl (lv_at hl 0 rfl) ?_
        refine va_get (D := D) (ci := 9) (v := .int (v_o_seen + (1 : Int32))) (C := RX9) (T := TX9) (N := 26) hx hb hts iX9_see_X9 hown hK.1 hP 0 rfl rfl 19 (by decide) (hts (.fieldLink RX9 221 "LoneSeatsModel" "seen" "I") (by decide +kernel)) (fun _ h9 => h9) rfl dX9_see_77 ?_
        cases hf
        exact W.iret hx hb hr (fun t ht hW => ⟨⟨rfl, by rw [ht]; exact hP, hD⟩, hS.F ht⟩) hS.2.2 dX9_see_80
      · have hf := pf_t hc hf
        refine lv_bipush (v := (-4 : Int32)) hx hb dX9_see_38 (by decide) ?_
        cases hf
        exact W.iret hx hb hr (fun t ht hW => ⟨⟨rfl, by rw [ht]; exact hP, hD⟩, hS.F ht⟩) hS.2.2 dX9_see_40
    · have hf := pf_t hc hf
      refine lv_bipush (v := (-2 : Int32)) hx hb dX9_see_26 (by decide) ?_
      cases hf
      exact W.iret hx hb hr (fun t ht hW => ⟨⟨rfl, by rw [ht]; exact hP, hD⟩, hS.F ht⟩) hS.2.2 dX9_see_28
  · have hf := pf_f hc hf
    refine lv_iconst (v := (-1 : Int32)) hx hb dX9_see_14 (by decide) ?_
    cases hf
    exact W.iret hx hb hr (fun t ht hW => ⟨⟨rfl, by rw [ht]; exact hP, hD⟩, hS.F ht⟩) hS.2.2 dX9_see_15
abbrev WX9_unsee (cI cJ cZ cB : ClassId) (a_o : Nat) (a_o_text : Nat) (a_o_many : Nat) (a_o_views : Nat) (a_o_aisles : Nat) (a_o_readMany : Nat) (a_o_readViews : Nat) (a_o_readAisles : Nat) (a_o_readPage : Nat) (a_o_page : Nat) (a_o_trial : Nat) (a_o_book : Nat) (a_o_kept : Nat) (a_o_isKept : Nat) (a_o_seenSeat : Nat) (a_o_seenWas : Nat) (v_o_thrown : Int32) (v_o_textSize : Int32) (v_o_place : Int32) (v_o_rows : Int32) (v_o_readRows : Int32) (v_o_doings : Int32) (v_o_seen : Int32) (v_o_seed : Int64) (v_o_found : Int32) (v_o_foundViews : Int32) (v_o_foundMany : Int32) : va_W := [(a_o, .inr (9, [.int v_o_thrown, .ref a_o_text, .int v_o_textSize, .int v_o_place, .int v_o_rows, .ref a_o_many, .ref a_o_views, .ref a_o_aisles, .int v_o_readRows, .ref a_o_readMany, .ref a_o_readViews, .ref a_o_readAisles, .ref a_o_readPage, .ref a_o_page, .ref a_o_trial, .ref a_o_book, .int v_o_doings, .ref a_o_kept, .ref a_o_isKept, .int v_o_seen, .ref a_o_seenSeat, .ref a_o_seenWas, .long v_o_seed, .int v_o_found, .int v_o_foundViews, .int v_o_foundMany]))]
set_option maxRecDepth 20000 in
theorem iX9_unsee_X9 : ∀ w ∈ wsX90, w ∈ wsX9_unsee := by decide +kernel
def fX9_unsee (v_o_thrown : Int32) (v_o_seen : Int32) : Option (Int32 × Int32 × Int32) := some (v_o_seen, (0 : Int32), (0 : Int32))
set_option maxRecDepth 100000 in
set_option maxHeartbeats 4000000 in
theorem kX9_unsee (l : Launch) (D : va_G) (cI cJ cZ cB : ClassId) (a_o : Nat) (a_o_text : Nat) (a_o_many : Nat) (a_o_views : Nat) (a_o_aisles : Nat) (a_o_readMany : Nat) (a_o_readViews : Nat) (a_o_readAisles : Nat) (a_o_readPage : Nat) (a_o_page : Nat) (a_o_trial : Nat) (a_o_book : Nat) (a_o_kept : Nat) (a_o_isKept : Nat) (a_o_seenSeat : Nat) (a_o_seenWas : Nat) (v_o_thrown : Int32) (v_o_textSize : Int32) (v_o_place : Int32) (v_o_rows : Int32) (v_o_readRows : Int32) (v_o_doings : Int32) (v_o_seen : Int32) (v_o_seed : Int64) (v_o_found : Int32) (v_o_foundViews : Int32) (v_o_foundMany : Int32) (res : Int32 × Int32 × Int32) (hf : fX9_unsee v_o_thrown v_o_seen = some res) : Rw l yX9_unsee wsX9_unsee ({ frames := 0, cells := 0, slots := 0, locals := 0 } : Room) D (tyL cI cJ cZ cB) [.ref a_o] (WX9_unsee cI cJ cZ cB a_o a_o_text a_o_many a_o_views a_o_aisles a_o_readMany a_o_readViews a_o_readAisles a_o_readPage a_o_page a_o_trial a_o_book a_o_kept a_o_isKept a_o_seenSeat a_o_seenWas v_o_thrown v_o_textSize v_o_place v_o_rows v_o_readRows v_o_doings v_o_seen v_o_seed v_o_found v_o_foundViews v_o_foundMany) (some (.int res.1)) (WX9_unsee cI cJ cZ cB a_o a_o_text a_o_many a_o_views a_o_aisles a_o_readMany a_o_readViews a_o_readAisles a_o_readPage a_o_page a_o_trial a_o_book a_o_kept a_o_isKept a_o_seenSeat a_o_seenWas res.2.1 v_o_textSize v_o_place v_o_rows v_o_readRows v_o_doings res.2.2 v_o_seed v_o_found v_o_foundViews v_o_foundMany) := by
  refine Rw.of (cc := cX9_unsee) (maxL := 2) (ret := (some .int)) (own := RX9) (by decide) rfl rfl (Nat.le_of_ble_eq_true rfl) ?_
  intro p e s m below meth c A ls C hK hA hP hD hS hl
  obtain ⟨hx, hb, hr, hml, hts, hown, hlk⟩ := id C
  have hl : lv_has ls 2 [(0, .ref a_o)] := hl
  unfold fX9_unsee at hf
  refine lv_aload_n hx hb dX9_unsee_0 rfl (lv_at hl 0 rfl) ?_
  refine lv_iconst (v := (0 : Int32)) hx hb dX9_unsee_1 (by decide) ?_
  refine va_put (D := D) (ci := 9) (v := .int (0 : Int32)) (ty := .int) (C := RX9) (T := TX9) (N := 26) hx hb hts iX9_unsee_X9 tyX9 tyX9_ok nmX9 hown hK.1 hP hD hS 0 rfl rfl 0 (by decide) (hts (.fieldLink RX9 60 "LoneSeatsModel" "thrown" "I") (by decide +kernel)) (fun _ h9 => h9) rfl (by decide +kernel) rfl rfl (Nat.le_of_ble_eq_true rfl) dX9_unsee_2 (fun H locs hP hD hS => ?_)
  have hP : va_P D vwCl (WX9_unsee cI cJ cZ cB a_o a_o_text a_o_many a_o_views a_o_aisles a_o_readMany a_o_readViews a_o_readAisles a_o_readPage a_o_page a_o_trial a_o_book a_o_kept a_o_isKept a_o_seenSeat a_o_seenWas (0 : Int32) v_o_textSize v_o_place v_o_rows v_o_readRows v_o_doings v_o_seen v_o_seed v_o_found v_o_foundViews v_o_foundMany) H := hP
  have hD : va_D A (WX9_unsee cI cJ cZ cB a_o a_o_text a_o_many a_o_views a_o_aisles a_o_readMany a_o_readViews a_o_readAisles a_o_readPage a_o_page a_o_trial a_o_book a_o_kept a_o_isKept a_o_seenSeat a_o_seenWas (0 : Int32) v_o_textSize v_o_place v_o_rows v_o_readRows v_o_doings v_o_seen v_o_seed v_o_found v_o_foundViews v_o_foundMany) := hD
  refine lv_aload_n hx hb dX9_unsee_5 rfl (lv_at hl 0 rfl) ?_
  refine va_get (D := D) (ci := 9) (v := .int v_o_seen) (C := RX9) (T := TX9) (N := 26) hx hb hts iX9_unsee_X9 hown hK.1 hP 0 rfl rfl 19 (by decide) (hts (.fieldLink RX9 221 "LoneSeatsModel" "seen" "I") (by decide +kernel)) (fun _ h9 => h9) rfl dX9_unsee_6 ?_
  refine lv_istore_n (lv' := [(1, .int v_o_seen), (0, .ref a_o)]) hx hb dX9_unsee_9 rfl hl (by decide) rfl (fun ls hl => ?_)
  refine lv_aload_n hx hb dX9_unsee_10 rfl (lv_at hl 1 rfl) ?_
  refine lv_iconst (v := (0 : Int32)) hx hb dX9_unsee_11 (by decide) ?_
  refine va_put (D := D) (ci := 9) (v := .int (0 : Int32)) (ty := .int) (C := RX9) (T := TX9) (N := 26) hx hb hts iX9_unsee_X9 tyX9 tyX9_ok nmX9 hown hK.1 hP hD hS 0 rfl rfl 19 (by decide) (hts (.fieldLink RX9 221 "LoneSeatsModel" "seen" "I") (by decide +kernel)) (fun _ h9 => h9) rfl (by decide +kernel) rfl rfl (Nat.le_of_ble_eq_true rfl) dX9_unsee_12 (fun H locs hP hD hS => ?_)
  have hP : va_P D vwCl (WX9_unsee cI cJ cZ cB a_o a_o_text a_o_many a_o_views a_o_aisles a_o_readMany a_o_readViews a_o_readAisles a_o_readPage a_o_page a_o_trial a_o_book a_o_kept a_o_isKept a_o_seenSeat a_o_seenWas (0 : Int32) v_o_textSize v_o_place v_o_rows v_o_readRows v_o_doings (0 : Int32) v_o_seed v_o_found v_o_foundViews v_o_foundMany) H := hP
  have hD : va_D A (WX9_unsee cI cJ cZ cB a_o a_o_text a_o_many a_o_views a_o_aisles a_o_readMany a_o_readViews a_o_readAisles a_o_readPage a_o_page a_o_trial a_o_book a_o_kept a_o_isKept a_o_seenSeat a_o_seenWas (0 : Int32) v_o_textSize v_o_place v_o_rows v_o_readRows v_o_doings (0 : Int32) v_o_seed v_o_found v_o_foundViews v_o_foundMany) := hD
  refine lv_iload_n hx hb dX9_unsee_15 rfl (lv_at hl 0 rfl) ?_
  cases hf
  exact W.iret hx hb hr (fun t ht hW => ⟨⟨rfl, by rw [ht]; exact hP, hD⟩, hS.F ht⟩) hS.2.2 dX9_unsee_16
abbrev WX9_isSo (cI cJ cZ cB : ClassId) (a_o : Nat) (a_o_text : Nat) (a_o_many : Nat) (a_o_views : Nat) (a_o_aisles : Nat) (a_o_readMany : Nat) (a_o_readViews : Nat) (a_o_readAisles : Nat) (a_o_readPage : Nat) (a_o_page : Nat) (a_o_trial : Nat) (a_o_book : Nat) (a_o_kept : Nat) (a_o_isKept : Nat) (a_o_seenSeat : Nat) (a_o_seenWas : Nat) (v_o_thrown : Int32) (v_o_textSize : Int32) (v_o_place : Int32) (v_o_rows : Int32) (v_o_readRows : Int32) (v_o_doings : Int32) (v_o_seen : Int32) (v_o_seed : Int64) (v_o_found : Int32) (v_o_foundViews : Int32) (v_o_foundMany : Int32) (d_o_many : (Nat → Int32)) (d_o_page : (Nat → Int32)) (d_o_seenSeat : (Nat → Int32)) (d_o_seenWas : (Nat → Int32)) : va_W := [(a_o, .inr (9, [.int v_o_thrown, .ref a_o_text, .int v_o_textSize, .int v_o_place, .int v_o_rows, .ref a_o_many, .ref a_o_views, .ref a_o_aisles, .int v_o_readRows, .ref a_o_readMany, .ref a_o_readViews, .ref a_o_readAisles, .ref a_o_readPage, .ref a_o_page, .ref a_o_trial, .ref a_o_book, .int v_o_doings, .ref a_o_kept, .ref a_o_isKept, .int v_o_seen, .ref a_o_seenSeat, .ref a_o_seenWas, .long v_o_seed, .int v_o_found, .int v_o_foundViews, .int v_o_foundMany])), (a_o_many, .inl (cI, (4, .inl d_o_many))), (a_o_page, .inl (cI, (229, .inl d_o_page))), (a_o_seenSeat, .inl (cI, (6, .inl d_o_seenSeat))), (a_o_seenWas, .inl (cI, (6, .inl d_o_seenWas)))]
set_option maxRecDepth 20000 in
theorem iX9_isSo_X9 : ∀ w ∈ wsX90, w ∈ wsX9_isSo := by decide +kernel
def fX9_isSo_71 (v_o_rows : Int32) (d_o_many : (Nat → Int32)) (d_o_page : (Nat → Int32)) (d_o_seenSeat : (Nat → Int32)) (d_o_seenWas : (Nat → Int32)) (k0 : Int32) (k1 : Int32) : Option (Int32) := (if k0 = k1 then some (1 : Int32) else some (0 : Int32))
set_option maxRecDepth 100000 in
set_option maxHeartbeats 4000000 in
theorem tX9_isSo_71 {p : Program} {l : Launch} {e : Env} {s : State} {m : MethodId} {args : Array Value} {below : List Frame} {meth : Method} {c : Code} {D : va_G} {cI cJ cZ cB : ClassId} {a_o : Nat} {a_o_text : Nat} {a_o_many : Nat} {a_o_views : Nat} {a_o_aisles : Nat} {a_o_readMany : Nat} {a_o_readViews : Nat} {a_o_readAisles : Nat} {a_o_readPage : Nat} {a_o_page : Nat} {a_o_trial : Nat} {a_o_book : Nat} {a_o_kept : Nat} {a_o_isKept : Nat} {a_o_seenSeat : Nat} {a_o_seenWas : Nat} (C : Cx p s m args meth c cX9_isSo 4 (some .boolean) wsX9_isSo RX9) (hK : Kw D (tyL cI cJ cZ cB) s) : ∀ (v_o_thrown : Int32) (v_o_textSize : Int32) (v_o_place : Int32) (v_o_rows : Int32) (v_o_readRows : Int32) (v_o_doings : Int32) (v_o_seen : Int32) (v_o_seed : Int64) (v_o_found : Int32) (v_o_foundViews : Int32) (v_o_foundMany : Int32) (d_o_many : (Nat → Int32)) (d_o_page : (Nat → Int32)) (d_o_seenSeat : (Nat → Int32)) (d_o_seenWas : (Nat → Int32)) (k0 : Int32) (k1 : Int32) (ls : Array Slot) (res : Int32), va_P D vwCl (WX9_isSo cI cJ cZ cB a_o a_o_text a_o_many a_o_views a_o_aisles a_o_readMany a_o_readViews a_o_readAisles a_o_readPage a_o_page a_o_trial a_o_book a_o_kept a_o_isKept a_o_seenSeat a_o_seenWas v_o_thrown v_o_textSize v_o_place v_o_rows v_o_readRows v_o_doings v_o_seen v_o_seed v_o_found v_o_foundViews v_o_foundMany d_o_many d_o_page d_o_seenSeat d_o_seenWas) s.heap → lv_has ls 4 [] → fX9_isSo_71 v_o_rows d_o_many d_o_page d_o_seenSeat d_o_seenWas k0 k1 = some res → W p l e ({ frames := 3, cells := 0, slots := 0, locals := 68 } : Room) s m args below meth c s.heap [] 0 0 (MQ below (QRo (some (.int res))) args s 0 0 (fun _ => False)) (F0 m 71 ls [.int k1, .int k0]) := by
  obtain ⟨hx, hb, hr, hml, hts, hown, hlk⟩ := id C
  intro v_o_thrown v_o_textSize v_o_place v_o_rows v_o_readRows v_o_doings v_o_seen v_o_seed v_o_found v_o_foundViews v_o_foundMany d_o_many d_o_page d_o_seenSeat d_o_seenWas k0 k1 ls res hP hl hf
  unfold fX9_isSo_71 at hf
  refine lv_icmp_ne (tgt := 78) hx hb dX9_isSo_71 (by decide) (fun hc => ?_) (fun hc => ?_)
  · have hf := pf_f hc hf
    refine lv_iconst (v := (0 : Int32)) hx hb dX9_isSo_78 (by decide) ?_
    cases hf
    exact W.zret hx hb hr (nar_b (by decide)) (fun t ht hW => ⟨rfl, ht⟩) (fun _ h => absurd h List.not_mem_nil) dX9_isSo_79
  · have hf := pf_t hc hf
    refine lv_iconst (v := (1 : Int32)) hx hb dX9_isSo_74 (by decide) ?_
    refine lv_goto (tgt := 79) hx hb dX9_isSo_75 (by decide) ?_
    cases hf
    exact W.zret hx hb hr (nar_b (by decide)) (fun t ht hW => ⟨rfl, ht⟩) (fun _ h => absurd h List.not_mem_nil) dX9_isSo_79
def fX9_isSo_56 (v_o_rows : Int32) (d_o_many : (Nat → Int32)) (d_o_page : (Nat → Int32)) (d_o_seenSeat : (Nat → Int32)) (d_o_seenWas : (Nat → Int32)) (x2 : Int32) (k0 : Int32) : Option (Int32) := (if x2 < 0 ∨ 6 ≤ (x2).toNatClampNeg then none else (if (d_o_seenWas (x2).toNatClampNeg) = (1 : Int32) then fX9_isSo_71 v_o_rows d_o_many d_o_page d_o_seenSeat d_o_seenWas k0 (1 : Int32) else fX9_isSo_71 v_o_rows d_o_many d_o_page d_o_seenSeat d_o_seenWas k0 (0 : Int32)))
set_option maxRecDepth 100000 in
set_option maxHeartbeats 4000000 in
theorem tX9_isSo_56 {p : Program} {l : Launch} {e : Env} {s : State} {m : MethodId} {args : Array Value} {below : List Frame} {meth : Method} {c : Code} {D : va_G} {cI cJ cZ cB : ClassId} {a_o : Nat} {a_o_text : Nat} {a_o_many : Nat} {a_o_views : Nat} {a_o_aisles : Nat} {a_o_readMany : Nat} {a_o_readViews : Nat} {a_o_readAisles : Nat} {a_o_readPage : Nat} {a_o_page : Nat} {a_o_trial : Nat} {a_o_book : Nat} {a_o_kept : Nat} {a_o_isKept : Nat} {a_o_seenSeat : Nat} {a_o_seenWas : Nat} (C : Cx p s m args meth c cX9_isSo 4 (some .boolean) wsX9_isSo RX9) (hK : Kw D (tyL cI cJ cZ cB) s) : ∀ (v_o_thrown : Int32) (v_o_textSize : Int32) (v_o_place : Int32) (v_o_rows : Int32) (v_o_readRows : Int32) (v_o_doings : Int32) (v_o_seen : Int32) (v_o_seed : Int64) (v_o_found : Int32) (v_o_foundViews : Int32) (v_o_foundMany : Int32) (d_o_many : (Nat → Int32)) (d_o_page : (Nat → Int32)) (d_o_seenSeat : (Nat → Int32)) (d_o_seenWas : (Nat → Int32)) (x2 : Int32) (k0 : Int32) (ls : Array Slot) (res : Int32), va_P D vwCl (WX9_isSo cI cJ cZ cB a_o a_o_text a_o_many a_o_views a_o_aisles a_o_readMany a_o_readViews a_o_readAisles a_o_readPage a_o_page a_o_trial a_o_book a_o_kept a_o_isKept a_o_seenSeat a_o_seenWas v_o_thrown v_o_textSize v_o_place v_o_rows v_o_readRows v_o_doings v_o_seen v_o_seed v_o_found v_o_foundViews v_o_foundMany d_o_many d_o_page d_o_seenSeat d_o_seenWas) s.heap → lv_has ls 4 [(0, .ref a_o), (2, .int x2)] → fX9_isSo_56 v_o_rows d_o_many d_o_page d_o_seenSeat d_o_seenWas x2 k0 = some res → W p l e ({ frames := 3, cells := 0, slots := 0, locals := 68 } : Room) s m args below meth c s.heap [] 0 0 (MQ below (QRo (some (.int res))) args s 0 0 (fun _ => False)) (F0 m 56 ls [.int k0]) := by
  obtain ⟨hx, hb, hr, hml, hts, hown, hlk⟩ := id C
  intro v_o_thrown v_o_textSize v_o_place v_o_rows v_o_readRows v_o_doings v_o_seen v_o_seed v_o_found v_o_foundViews v_o_foundMany d_o_many d_o_page d_o_seenSeat d_o_seenWas x2 k0 ls res hP hl hf
  unfold fX9_isSo_56 at hf
  refine lv_aload_n hx hb dX9_isSo_56 rfl (lv_at hl 0 rfl) ?_
  refine va_get (D := D) (ci := 9) (v := .ref a_o_seenWas) (C := RX9) (T := TX9) (N := 26) hx hb hts iX9_isSo_X9 hown hK.1 hP 0 rfl rfl 21 (by decide) (hts (.fieldLink RX9 53 "LoneSeatsModel" "seenWas" "[I") (by decide +kernel)) (fun _ h9 => h9) rfl dX9_isSo_57 ?_
  refine lv_iload_n hx hb dX9_isSo_60 rfl (lv_at hl 1 rfl) ?_
  obtain ⟨hg1, hf⟩ := pf_x hf
  refine va_iald hx hb hK.1 hP 4 0 rfl rfl hg1 dX9_isSo_61 ?_
  refine lv_iconst (v := (1 : Int32)) hx hb dX9_isSo_62 (by decide) ?_
  refine lv_icmp_ne (tgt := 70) hx hb dX9_isSo_63 (by decide) (fun hc => ?_) (fun hc => ?_)
  · have hf := pf_f hc hf
    refine lv_iconst (v := (0 : Int32)) hx hb dX9_isSo_70 (by decide) ?_
    exact tX9_isSo_71 C hK  v_o_thrown v_o_textSize v_o_place v_o_rows v_o_readRows v_o_doings v_o_seen v_o_seed v_o_found v_o_foundViews v_o_foundMany d_o_many d_o_page d_o_seenSeat d_o_seenWas k0 (0 : Int32) ls _ hP (lv_sub hl [] rfl) hf
  · have hf := pf_t hc hf
    refine lv_iconst (v := (1 : Int32)) hx hb dX9_isSo_66 (by decide) ?_
    refine lv_goto (tgt := 71) hx hb dX9_isSo_67 (by decide) ?_
    exact tX9_isSo_71 C hK  v_o_thrown v_o_textSize v_o_place v_o_rows v_o_readRows v_o_doings v_o_seen v_o_seed v_o_found v_o_foundViews v_o_foundMany d_o_many d_o_page d_o_seenSeat d_o_seenWas k0 (1 : Int32) ls _ hP (lv_sub hl [] rfl) hf
def fX9_isSo_55 (v_o_rows : Int32) (d_o_many : (Nat → Int32)) (d_o_page : (Nat → Int32)) (d_o_seenSeat : (Nat → Int32)) (d_o_seenWas : (Nat → Int32)) (x2 : Int32) : Option (Int32) := fX9_isSo_56 v_o_rows d_o_many d_o_page d_o_seenSeat d_o_seenWas x2 (0 : Int32)
set_option maxRecDepth 100000 in
set_option maxHeartbeats 4000000 in
theorem tX9_isSo_55 {p : Program} {l : Launch} {e : Env} {s : State} {m : MethodId} {args : Array Value} {below : List Frame} {meth : Method} {c : Code} {D : va_G} {cI cJ cZ cB : ClassId} {a_o : Nat} {a_o_text : Nat} {a_o_many : Nat} {a_o_views : Nat} {a_o_aisles : Nat} {a_o_readMany : Nat} {a_o_readViews : Nat} {a_o_readAisles : Nat} {a_o_readPage : Nat} {a_o_page : Nat} {a_o_trial : Nat} {a_o_book : Nat} {a_o_kept : Nat} {a_o_isKept : Nat} {a_o_seenSeat : Nat} {a_o_seenWas : Nat} (C : Cx p s m args meth c cX9_isSo 4 (some .boolean) wsX9_isSo RX9) (hK : Kw D (tyL cI cJ cZ cB) s) : ∀ (v_o_thrown : Int32) (v_o_textSize : Int32) (v_o_place : Int32) (v_o_rows : Int32) (v_o_readRows : Int32) (v_o_doings : Int32) (v_o_seen : Int32) (v_o_seed : Int64) (v_o_found : Int32) (v_o_foundViews : Int32) (v_o_foundMany : Int32) (d_o_many : (Nat → Int32)) (d_o_page : (Nat → Int32)) (d_o_seenSeat : (Nat → Int32)) (d_o_seenWas : (Nat → Int32)) (x2 : Int32) (ls : Array Slot) (res : Int32), va_P D vwCl (WX9_isSo cI cJ cZ cB a_o a_o_text a_o_many a_o_views a_o_aisles a_o_readMany a_o_readViews a_o_readAisles a_o_readPage a_o_page a_o_trial a_o_book a_o_kept a_o_isKept a_o_seenSeat a_o_seenWas v_o_thrown v_o_textSize v_o_place v_o_rows v_o_readRows v_o_doings v_o_seen v_o_seed v_o_found v_o_foundViews v_o_foundMany d_o_many d_o_page d_o_seenSeat d_o_seenWas) s.heap → lv_has ls 4 [(0, .ref a_o), (2, .int x2)] → fX9_isSo_55 v_o_rows d_o_many d_o_page d_o_seenSeat d_o_seenWas x2 = some res → W p l e ({ frames := 3, cells := 0, slots := 0, locals := 68 } : Room) s m args below meth c s.heap [] 0 0 (MQ below (QRo (some (.int res))) args s 0 0 (fun _ => False)) (F0 m 55 ls []) := by
  obtain ⟨hx, hb, hr, hml, hts, hown, hlk⟩ := id C
  intro v_o_thrown v_o_textSize v_o_place v_o_rows v_o_readRows v_o_doings v_o_seen v_o_seed v_o_found v_o_foundViews v_o_foundMany d_o_many d_o_page d_o_seenSeat d_o_seenWas x2 ls res hP hl hf
  unfold fX9_isSo_55 at hf
  refine lv_iconst (v := (0 : Int32)) hx hb dX9_isSo_55 (by decide) ?_
  exact tX9_isSo_56 C hK  v_o_thrown v_o_textSize v_o_place v_o_rows v_o_readRows v_o_doings v_o_seen v_o_seed v_o_found v_o_foundViews v_o_foundMany d_o_many d_o_page d_o_seenSeat d_o_seenWas x2 (0 : Int32) ls _ hP (lv_sub hl [0, 1] rfl) hf
def fX9_isSo (v_o_rows : Int32) (d_o_many : (Nat → Int32)) (d_o_page : (Nat → Int32)) (d_o_seenSeat : (Nat → Int32)) (d_o_seenWas : (Nat → Int32)) (x1 : Int32) (x2 : Int32) : Option (Int32) := (if x2 < 0 ∨ 6 ≤ (x2).toNatClampNeg then none else (if x2 < 0 ∨ 6 ≤ (x2).toNatClampNeg then none else ((fX9_noSeat v_o_rows d_o_many ((d_o_seenSeat (x2).toNatClampNeg) / (9 : Int32)) ((d_o_seenSeat (x2).toNatClampNeg) - (d_o_seenSeat (x2).toNatClampNeg) / (9 : Int32) * (9 : Int32))).bind fun q3 => (if q3 = 0 then (if x2 < 0 ∨ 6 ≤ (x2).toNatClampNeg then none else (if ((13 : Int32) + (d_o_seenSeat (x2).toNatClampNeg)) < 0 ∨ 229 ≤ (((13 : Int32) + (d_o_seenSeat (x2).toNatClampNeg))).toNatClampNeg then none else (if (d_o_page (((13 : Int32) + (d_o_seenSeat (x2).toNatClampNeg))).toNatClampNeg) = 0 then fX9_isSo_55 v_o_rows d_o_many d_o_page d_o_seenSeat d_o_seenWas x2 else (if (d_o_page (((13 : Int32) + (d_o_seenSeat (x2).toNatClampNeg))).toNatClampNeg) = x1 then fX9_isSo_55 v_o_rows d_o_many d_o_page d_o_seenSeat d_o_seenWas x2 else fX9_isSo_56 v_o_rows d_o_many d_o_page d_o_seenSeat d_o_seenWas x2 (1 : Int32))))) else some (1 : Int32)))))
set_option maxRecDepth 100000 in
set_option maxHeartbeats 4000000 in
theorem kX9_isSo (l : Launch) (D : va_G) (cI cJ cZ cB : ClassId) (a_o : Nat) (a_o_text : Nat) (a_o_many : Nat) (a_o_views : Nat) (a_o_aisles : Nat) (a_o_readMany : Nat) (a_o_readViews : Nat) (a_o_readAisles : Nat) (a_o_readPage : Nat) (a_o_page : Nat) (a_o_trial : Nat) (a_o_book : Nat) (a_o_kept : Nat) (a_o_isKept : Nat) (a_o_seenSeat : Nat) (a_o_seenWas : Nat) (v_o_thrown : Int32) (v_o_textSize : Int32) (v_o_place : Int32) (v_o_rows : Int32) (v_o_readRows : Int32) (v_o_doings : Int32) (v_o_seen : Int32) (v_o_seed : Int64) (v_o_found : Int32) (v_o_foundViews : Int32) (v_o_foundMany : Int32) (d_o_many : (Nat → Int32)) (d_o_page : (Nat → Int32)) (d_o_seenSeat : (Nat → Int32)) (d_o_seenWas : (Nat → Int32)) (x1 : Int32) (x2 : Int32) (res : Int32) (hf : fX9_isSo v_o_rows d_o_many d_o_page d_o_seenSeat d_o_seenWas x1 x2 = some res) : Ro l yX9_isSo wsX9_isSo ({ frames := 3, cells := 0, slots := 0, locals := 68 } : Room) D (tyL cI cJ cZ cB) [.ref a_o, .int x1, .int x2] (WX9_isSo cI cJ cZ cB a_o a_o_text a_o_many a_o_views a_o_aisles a_o_readMany a_o_readViews a_o_readAisles a_o_readPage a_o_page a_o_trial a_o_book a_o_kept a_o_isKept a_o_seenSeat a_o_seenWas v_o_thrown v_o_textSize v_o_place v_o_rows v_o_readRows v_o_doings v_o_seen v_o_seed v_o_found v_o_foundViews v_o_foundMany d_o_many d_o_page d_o_seenSeat d_o_seenWas) (some (.int res)) := by
  refine Ro.of (cc := cX9_isSo) (maxL := 4) (ret := (some .boolean)) (own := RX9) (by decide) rfl rfl (Nat.le_of_ble_eq_true rfl) ?_
  intro p e s m below meth c ls C hK hP hl
  obtain ⟨hx, hb, hr, hml, hts, hown, hlk⟩ := id C
  have hl : lv_has ls 4 [(0, .ref a_o), (1, .int x1), (2, .int x2)] := hl
  unfold fX9_isSo at hf
  refine lv_aload_n hx hb dX9_isSo_0 rfl (lv_at hl 0 rfl) ?_
  refine lv_aload_n hx hb dX9_isSo_1 rfl (lv_at hl 0 rfl) ?_
  refine va_get (D := D) (ci := 9) (v := .ref a_o_seenSeat) (C := RX9) (T := TX9) (N := 26) hx hb hts iX9_isSo_X9 hown hK.1 hP 0 rfl rfl 20 (by decide) (hts (.fieldLink RX9 50 "LoneSeatsModel" "seenSeat" "[I") (by decide +kernel)) (fun _ h9 => h9) rfl dX9_isSo_2 ?_
  refine lv_iload_n hx hb dX9_isSo_5 rfl (lv_at hl 2 rfl) ?_
  obtain ⟨hg1, hf⟩ := pf_x hf
  refine va_iald hx hb hK.1 hP 3 0 rfl rfl hg1 dX9_isSo_6 ?_
  refine lv_bipush (v := (9 : Int32)) hx hb dX9_isSo_7 (by decide) ?_
  refine lv_idiv hx hb dX9_isSo_9 (by decide) ?_
  refine lv_aload_n hx hb dX9_isSo_10 rfl (lv_at hl 0 rfl) ?_
  refine va_get (D := D) (ci := 9) (v := .ref a_o_seenSeat) (C := RX9) (T := TX9) (N := 26) hx hb hts iX9_isSo_X9 hown hK.1 hP 0 rfl rfl 20 (by decide) (hts (.fieldLink RX9 50 "LoneSeatsModel" "seenSeat" "[I") (by decide +kernel)) (fun _ h9 => h9) rfl dX9_isSo_11 ?_
  refine lv_iload_n hx hb dX9_isSo_14 rfl (lv_at hl 2 rfl) ?_
  obtain ⟨hg2, hf⟩ := pf_x hf
  refine va_iald hx hb hK.1 hP 3 0 rfl rfl hg2 dX9_isSo_15 ?_
  refine lv_bipush (v := (9 : Int32)) hx hb dX9_isSo_16 (by decide) ?_
  refine lv_irem hx hb dX9_isSo_18 (by decide) ?_
  obtain ⟨q3, hq4, hf⟩ := pf_b hf
  have hPc := hP.sub (ws' := (WX9_noSeat cI cJ cZ cB a_o a_o_text a_o_many a_o_views a_o_aisles a_o_readMany a_o_readViews a_o_readAisles a_o_readPage a_o_page a_o_trial a_o_book a_o_kept a_o_isKept a_o_seenSeat a_o_seenWas v_o_thrown v_o_textSize v_o_place v_o_rows v_o_readRows v_o_doings v_o_seen v_o_seed v_o_found v_o_foundViews v_o_foundMany d_o_many)) [0, 1] rfl
  refine cl_roi (va_runV (As := [.int ((d_o_seenSeat (x2).toNatClampNeg) / (9 : Int32)), .int ((d_o_seenSeat (x2).toNatClampNeg) - (d_o_seenSeat (x2).toNatClampNeg) / (9 : Int32) * (9 : Int32))]) (rest := []) ⟨hx, hb, hml, hown, hts⟩ (kX9_noSeat l D cI cJ cZ cB a_o a_o_text a_o_many a_o_views a_o_aisles a_o_readMany a_o_readViews a_o_readAisles a_o_readPage a_o_page a_o_trial a_o_book a_o_kept a_o_isKept a_o_seenSeat a_o_seenWas v_o_thrown v_o_textSize v_o_place v_o_rows v_o_readRows v_o_doings v_o_seen v_o_seed v_o_found v_o_foundViews v_o_foundMany d_o_many ((d_o_seenSeat (x2).toNatClampNeg) / (9 : Int32)) ((d_o_seenSeat (x2).toNatClampNeg) - (d_o_seenSeat (x2).toNatClampNeg) / (9 : Int32) * (9 : Int32)) q3 hq4) (cwV 2 hts gX9_isSo_X9_noSeat rfl rfl rfl (by decide +kernel) ⟨Nat.le_of_ble_eq_true rfl, Nat.le_of_ble_eq_true rfl⟩) ⟨PRo.blind, va_recv hK.1 hPc (ci := 9) (q0 := 0) rfl rfl, PRo.at hK hPc⟩ rfl rfl hl.1 rfl (lv_room (Nat.le_of_ble_eq_true rfl)) dX9_isSo_19 ⟨Nat.zero_le _, Nat.zero_le _⟩) ?_
  refine lv_if_eq (tgt := 27) hx hb dX9_isSo_22 (by decide) (fun hc => ?_) (fun hc => ?_)
  · have hf := pf_t hc hf
    refine lv_aload_n hx hb dX9_isSo_27 rfl (lv_at hl 0 rfl) ?_
    refine va_get (D := D) (ci := 9) (v := .ref a_o_page) (C := RX9) (T := TX9) (N := 26) hx hb hts iX9_isSo_X9 hown hK.1 hP 0 rfl rfl 13 (by decide) (hts (.fieldLink RX9 35 "LoneSeatsModel" "page" "[I") (by decide +kernel)) (fun _ h9 => h9) rfl dX9_isSo_28 ?_
    refine lv_bipush (v := (13 : Int32)) hx hb dX9_isSo_31 (by decide) ?_
    refine lv_aload_n hx hb dX9_isSo_33 rfl (lv_at hl 0 rfl) ?_
    refine va_get (D := D) (ci := 9) (v := .ref a_o_seenSeat) (C := RX9) (T := TX9) (N := 26) hx hb hts iX9_isSo_X9 hown hK.1 hP 0 rfl rfl 20 (by decide) (hts (.fieldLink RX9 50 "LoneSeatsModel" "seenSeat" "[I") (by decide +kernel)) (fun _ h9 => h9) rfl dX9_isSo_34 ?_
    refine lv_iload_n hx hb dX9_isSo_37 rfl (lv_at hl 2 rfl) ?_
    obtain ⟨hg5, hf⟩ := pf_x hf
    refine va_iald hx hb hK.1 hP 3 0 rfl rfl hg5 dX9_isSo_38 ?_
    refine lv_iadd hx hb dX9_isSo_39 ?_
    obtain ⟨hg6, hf⟩ := pf_x hf
    refine va_iald hx hb hK.1 hP 2 0 rfl rfl hg6 dX9_isSo_40 ?_
    refine lv_istore_n (lv' := [(3, .int (d_o_page (((13 : Int32) + (d_o_seenSeat (x2).toNatClampNeg))).toNatClampNeg)), (0, .ref a_o), (1, .int x1), (2, .int x2)]) hx hb dX9_isSo_41 rfl hl (by decide) rfl (fun ls hl => ?_)
    refine lv_iload_n hx hb dX9_isSo_42 rfl (lv_at hl 0 rfl) ?_
    refine lv_if_eq (tgt := 55) hx hb dX9_isSo_43 (by decide) (fun hc => ?_) (fun hc => ?_)
    · have hf := pf_t hc hf
      exact tX9_isSo_55 C hK  v_o_thrown v_o_textSize v_o_place v_o_rows v_o_readRows v_o_doings v_o_seen v_o_seed v_o_found v_o_foundViews v_o_foundMany d_o_many d_o_page d_o_seenSeat d_o_seenWas x2 ls _ hP (lv_sub hl [1, 3] rfl) hf
    · have hf := pf_f hc hf
      refine lv_iload_n hx hb dX9_isSo_46 rfl (lv_at hl 0 rfl) ?_
      refine lv_iload_n hx hb dX9_isSo_47 rfl (lv_at hl 2 rfl) ?_
      refine lv_icmp_eq (tgt := 55) hx hb dX9_isSo_48 (by decide) (fun hc => ?_) (fun hc => ?_)
      · have hf := pf_t hc hf
        exact tX9_isSo_55 C hK  v_o_thrown v_o_textSize v_o_place v_o_rows v_o_readRows v_o_doings v_o_seen v_o_seed v_o_found v_o_foundViews v_o_foundMany d_o_many d_o_page d_o_seenSeat d_o_seenWas x2 ls _ hP (lv_sub hl [1, 3] rfl) hf
      · have hf := pf_f hc hf
        refine lv_iconst (v := (1 : Int32)) hx hb dX9_isSo_51 (by decide) ?_
        refine lv_goto (tgt := 56) hx hb dX9_isSo_52 (by decide) ?_
        exact tX9_isSo_56 C hK  v_o_thrown v_o_textSize v_o_place v_o_rows v_o_readRows v_o_doings v_o_seen v_o_seed v_o_found v_o_foundViews v_o_foundMany d_o_many d_o_page d_o_seenSeat d_o_seenWas x2 (1 : Int32) ls _ hP (lv_sub hl [1, 3] rfl) hf
  · have hf := pf_f hc hf
    refine lv_iconst (v := (1 : Int32)) hx hb dX9_isSo_25 (by decide) ?_
    cases hf
    exact W.zret hx hb hr (nar_b (by decide)) (fun t ht hW => ⟨rfl, ht⟩) (fun _ h => absurd h List.not_mem_nil) dX9_isSo_26
abbrev WX9_which (cI cJ cZ cB : ClassId) (a_o : Nat) (a_o_text : Nat) (a_o_many : Nat) (a_o_views : Nat) (a_o_aisles : Nat) (a_o_readMany : Nat) (a_o_readViews : Nat) (a_o_readAisles : Nat) (a_o_readPage : Nat) (a_o_page : Nat) (a_o_trial : Nat) (a_o_book : Nat) (a_o_kept : Nat) (a_o_isKept : Nat) (a_o_seenSeat : Nat) (a_o_seenWas : Nat) (v_o_thrown : Int32) (v_o_textSize : Int32) (v_o_place : Int32) (v_o_rows : Int32) (v_o_readRows : Int32) (v_o_doings : Int32) (v_o_seen : Int32) (v_o_seed : Int64) (v_o_found : Int32) (v_o_foundViews : Int32) (v_o_foundMany : Int32) (d_o_many : (Nat → Int32)) (d_o_page : (Nat → Int32)) (d_o_seenSeat : (Nat → Int32)) (d_o_seenWas : (Nat → Int32)) : va_W := [(a_o, .inr (9, [.int v_o_thrown, .ref a_o_text, .int v_o_textSize, .int v_o_place, .int v_o_rows, .ref a_o_many, .ref a_o_views, .ref a_o_aisles, .int v_o_readRows, .ref a_o_readMany, .ref a_o_readViews, .ref a_o_readAisles, .ref a_o_readPage, .ref a_o_page, .ref a_o_trial, .ref a_o_book, .int v_o_doings, .ref a_o_kept, .ref a_o_isKept, .int v_o_seen, .ref a_o_seenSeat, .ref a_o_seenWas, .long v_o_seed, .int v_o_found, .int v_o_foundViews, .int v_o_foundMany])), (a_o_many, .inl (cI, (4, .inl d_o_many))), (a_o_page, .inl (cI, (229, .inl d_o_page))), (a_o_seenSeat, .inl (cI, (6, .inl d_o_seenSeat))), (a_o_seenWas, .inl (cI, (6, .inl d_o_seenWas)))]
set_option maxRecDepth 20000 in
theorem iX9_which_X9 : ∀ w ∈ wsX90, w ∈ wsX9_which := by decide +kernel
def fX9_which_33 (k_9 : Int32 → Int32 → Int32 → (Nat → Int32) → (Nat → Int32) → (Nat → Int32) → (Nat → Int32) → Int32 → Int32 → Option (Int32 × Int32)) : Nat → Int32 → Int32 → Int32 → (Nat → Int32) → (Nat → Int32) → (Nat → Int32) → (Nat → Int32) → Int32 → Int32 → Int32 → Int32 → Option (Int32 × Int32)
  | 0, _, _, _, _, _, _, _, _, _, _, _ => none
  | n + 1, v_o_thrown, v_o_rows, v_o_seen, d_o_many, d_o_page, d_o_seenSeat, d_o_seenWas, x1, x2, x3, x4 => (if v_o_seen ≤ x4 then (if x3 = 0 then k_9 v_o_thrown v_o_rows v_o_seen d_o_many d_o_page d_o_seenSeat d_o_seenWas (x1 ||| (0 : Int32)) (x2 + (1 : Int32)) else k_9 v_o_thrown v_o_rows v_o_seen d_o_many d_o_page d_o_seenSeat d_o_seenWas (x1 ||| ((1 : Int32) <<< (x2 &&& 31))) (x2 + (1 : Int32))) else (if x3 = 0 then fX9_which_33 k_9 n v_o_thrown v_o_rows v_o_seen d_o_many d_o_page d_o_seenSeat d_o_seenWas x1 x2 (0 : Int32) (x4 + (1 : Int32)) else ((fX9_isSo v_o_rows d_o_many d_o_page d_o_seenSeat d_o_seenWas x2 x4).bind fun q1 => (if q1 = 0 then fX9_which_33 k_9 n v_o_thrown v_o_rows v_o_seen d_o_many d_o_page d_o_seenSeat d_o_seenWas x1 x2 (0 : Int32) (x4 + (1 : Int32)) else fX9_which_33 k_9 n v_o_thrown v_o_rows v_o_seen d_o_many d_o_page d_o_seenSeat d_o_seenWas x1 x2 (1 : Int32) (x4 + (1 : Int32))))))
set_option maxRecDepth 100000 in
set_option maxHeartbeats 4000000 in
theorem tX9_which_33 {p : Program} {l : Launch} {e : Env} {s : State} {m : MethodId} {args : Array Value} {below : List Frame} {meth : Method} {c : Code} {D : va_G} {cI cJ cZ cB : ClassId} {a_o : Nat} {a_o_text : Nat} {a_o_many : Nat} {a_o_views : Nat} {a_o_aisles : Nat} {a_o_readMany : Nat} {a_o_readViews : Nat} {a_o_readAisles : Nat} {a_o_readPage : Nat} {a_o_page : Nat} {a_o_trial : Nat} {a_o_book : Nat} {a_o_kept : Nat} {a_o_isKept : Nat} {a_o_seenSeat : Nat} {a_o_seenWas : Nat} {A : Nat → Prop} (C : Cx p s m args meth c cX9_which 5 (some .int) wsX9_which RX9) (hK : Kw D (tyL cI cJ cZ cB) s) (hA : ∀ q : Nat, s.heap.size ≤ q → A q) {k_9 : Int32 → Int32 → Int32 → (Nat → Int32) → (Nat → Int32) → (Nat → Int32) → (Nat → Int32) → Int32 → Int32 → Option (Int32 × Int32)} (hk9 : ∀ (v_o_thrown : Int32) (v_o_textSize : Int32) (v_o_place : Int32) (v_o_rows : Int32) (v_o_readRows : Int32) (v_o_doings : Int32) (v_o_seen : Int32) (v_o_seed : Int64) (v_o_found : Int32) (v_o_foundViews : Int32) (v_o_foundMany : Int32) (d_o_many : (Nat → Int32)) (d_o_page : (Nat → Int32)) (d_o_seenSeat : (Nat → Int32)) (d_o_seenWas : (Nat → Int32)) (x1 : Int32) (x2 : Int32) (H : Heap) (locs : List Loc) (ls : Array Slot) (res : Int32 × Int32), va_P D vwCl (WX9_which cI cJ cZ cB a_o a_o_text a_o_many a_o_views a_o_aisles a_o_readMany a_o_readViews a_o_readAisles a_o_readPage a_o_page a_o_trial a_o_book a_o_kept a_o_isKept a_o_seenSeat a_o_seenWas v_o_thrown v_o_textSize v_o_place v_o_rows v_o_readRows v_o_doings v_o_seen v_o_seed v_o_found v_o_foundViews v_o_foundMany d_o_many d_o_page d_o_seenSeat d_o_seenWas) H → va_D A (WX9_which cI cJ cZ cB a_o a_o_text a_o_many a_o_views a_o_aisles a_o_readMany a_o_readViews a_o_readAisles a_o_readPage a_o_page a_o_trial a_o_book a_o_kept a_o_isKept a_o_seenSeat a_o_seenWas v_o_thrown v_o_textSize v_o_place v_o_rows v_o_readRows v_o_doings v_o_seen v_o_seed v_o_found v_o_foundViews v_o_foundMany d_o_many d_o_page d_o_seenSeat d_o_seenWas) → va_S A s.heap H locs → lv_has ls 5 [(0, .ref a_o), (1, .int x1), (2, .int x2)] → k_9 v_o_thrown v_o_rows v_o_seen d_o_many d_o_page d_o_seenSeat d_o_seenWas x1 x2 = some res → W p l e ({ frames := 4, cells := 0, slots := 0, locals := 91 } : Room) s m args below meth c H locs 0 0 (MQ below (QRw D A (WX9_which cI cJ cZ cB a_o a_o_text a_o_many a_o_views a_o_aisles a_o_readMany a_o_readViews a_o_readAisles a_o_readPage a_o_page a_o_trial a_o_book a_o_kept a_o_isKept a_o_seenSeat a_o_seenWas res.2 v_o_textSize v_o_place v_o_rows v_o_readRows v_o_doings v_o_seen v_o_seed v_o_found v_o_foundViews v_o_foundMany d_o_many d_o_page d_o_seenSeat d_o_seenWas) (some (.int res.1))) args s 0 0 A) (F0 m 9 ls [])) : ∀ (n : Nat), ∀ (v_o_thrown : Int32) (v_o_textSize : Int32) (v_o_place : Int32) (v_o_rows : Int32) (v_o_readRows : Int32) (v_o_doings : Int32) (v_o_seen : Int32) (v_o_seed : Int64) (v_o_found : Int32) (v_o_foundViews : Int32) (v_o_foundMany : Int32) (d_o_many : (Nat → Int32)) (d_o_page : (Nat → Int32)) (d_o_seenSeat : (Nat → Int32)) (d_o_seenWas : (Nat → Int32)) (x1 : Int32) (x2 : Int32) (x3 : Int32) (x4 : Int32) (H : Heap) (locs : List Loc) (ls : Array Slot) (res : Int32 × Int32), va_P D vwCl (WX9_which cI cJ cZ cB a_o a_o_text a_o_many a_o_views a_o_aisles a_o_readMany a_o_readViews a_o_readAisles a_o_readPage a_o_page a_o_trial a_o_book a_o_kept a_o_isKept a_o_seenSeat a_o_seenWas v_o_thrown v_o_textSize v_o_place v_o_rows v_o_readRows v_o_doings v_o_seen v_o_seed v_o_found v_o_foundViews v_o_foundMany d_o_many d_o_page d_o_seenSeat d_o_seenWas) H → va_D A (WX9_which cI cJ cZ cB a_o a_o_text a_o_many a_o_views a_o_aisles a_o_readMany a_o_readViews a_o_readAisles a_o_readPage a_o_page a_o_trial a_o_book a_o_kept a_o_isKept a_o_seenSeat a_o_seenWas v_o_thrown v_o_textSize v_o_place v_o_rows v_o_readRows v_o_doings v_o_seen v_o_seed v_o_found v_o_foundViews v_o_foundMany d_o_many d_o_page d_o_seenSeat d_o_seenWas) → va_S A s.heap H locs → lv_has ls 5 [(0, .ref a_o), (1, .int x1), (2, .int x2), (3, .int x3), (4, .int x4)] → fX9_which_33 k_9 n v_o_thrown v_o_rows v_o_seen d_o_many d_o_page d_o_seenSeat d_o_seenWas x1 x2 x3 x4 = some res → W p l e ({ frames := 4, cells := 0, slots := 0, locals := 91 } : Room) s m args below meth c H locs 0 0 (MQ below (QRw D A (WX9_which cI cJ cZ cB a_o a_o_text a_o_many a_o_views a_o_aisles a_o_readMany a_o_readViews a_o_readAisles a_o_readPage a_o_page a_o_trial a_o_book a_o_kept a_o_isKept a_o_seenSeat a_o_seenWas res.2 v_o_textSize v_o_place v_o_rows v_o_readRows v_o_doings v_o_seen v_o_seed v_o_found v_o_foundViews v_o_foundMany d_o_many d_o_page d_o_seenSeat d_o_seenWas) (some (.int res.1))) args s 0 0 A) (F0 m 33 ls []) := by
  obtain ⟨hx, hb, hr, hml, hts, hown, hlk⟩ := id C
  intro n
  induction n with
  | zero =>
    intro v_o_thrown v_o_textSize v_o_place v_o_rows v_o_readRows v_o_doings v_o_seen v_o_seed v_o_found v_o_foundViews v_o_foundMany d_o_many d_o_page d_o_seenSeat d_o_seenWas x1 x2 x3 x4 H locs ls res hP hD hS hl hf
    rw [fX9_which_33] at hf
    cases hf
  | succ n ih =>
    intro v_o_thrown v_o_textSize v_o_place v_o_rows v_o_readRows v_o_doings v_o_seen v_o_seed v_o_found v_o_foundViews v_o_foundMany d_o_many d_o_page d_o_seenSeat d_o_seenWas x1 x2 x3 x4 H locs ls res hP hD hS hl hf
    rw [fX9_which_33] at hf
    refine lv_iload hx hb dX9_which_33 (lv_at hl 4 rfl) ?_
    refine lv_aload_n hx hb dX9_which_35 rfl (lv_at hl 0 rfl) ?_
    refine va_get (D := D) (ci := 9) (v := .int v_o_seen) (C := RX9) (T := TX9) (N := 26) hx hb hts iX9_which_X9 hown hK.1 hP 0 rfl rfl 19 (by decide) (hts (.fieldLink RX9 221 "LoneSeatsModel" "seen" "I") (by decide +kernel)) (fun _ h9 => h9) rfl dX9_which_36 ?_
    refine lv_icmp_ge (tgt := 68) hx hb dX9_which_39 (by decide) (fun hc => ?_) (fun hc => ?_)
    · have hf := pf_t hc hf
      refine lv_iload_n hx hb dX9_which_68 rfl (lv_at hl 1 rfl) ?_
      refine lv_iload_n hx hb dX9_which_69 rfl (lv_at hl 3 rfl) ?_
      refine lv_if_eq (tgt := 79) hx hb dX9_which_70 (by decide) (fun hc => ?_) (fun hc => ?_)
      · have hf := pf_t hc hf
        refine lv_iconst (v := (0 : Int32)) hx hb dX9_which_79 (by decide) ?_
        refine lv_ior hx hb dX9_which_80 ?_
        refine lv_istore_n (lv' := [(1, .int (x1 ||| (0 : Int32))), (0, .ref a_o), (2, .int x2), (3, .int x3), (4, .int x4)]) hx hb dX9_which_81 rfl hl (by decide) rfl (fun ls hl => ?_)
        refine lv_iinc (v := (x2 + (1 : Int32))) (lv' := [(2, .int (x2 + (1 : Int32))), (1, .int (x1 ||| (0 : Int32))), (0, .ref a_o), (3, .int x3), (4, .int x4)]) hx hb dX9_which_82 hl (k := 2) rfl rfl (by decide) rfl (fun ls hl => ?_)
        refine lv_goto (tgt := 9) hx hb dX9_which_85 (by decide) ?_
        exact hk9 v_o_thrown v_o_textSize v_o_place v_o_rows v_o_readRows v_o_doings v_o_seen v_o_seed v_o_found v_o_foundViews v_o_foundMany d_o_many d_o_page d_o_seenSeat d_o_seenWas (x1 ||| (0 : Int32)) (x2 + (1 : Int32)) _ _ ls _ hP hD hS (lv_sub hl [2, 1, 0] rfl) hf
      · have hf := pf_f hc hf
        refine lv_iconst (v := (1 : Int32)) hx hb dX9_which_73 (by decide) ?_
        refine lv_iload_n hx hb dX9_which_74 rfl (lv_at hl 2 rfl) ?_
        refine lv_ishl hx hb dX9_which_75 ?_
        refine lv_goto (tgt := 80) hx hb dX9_which_76 (by decide) ?_
        refine lv_ior hx hb dX9_which_80 ?_
        refine lv_istore_n (lv' := [(1, .int (x1 ||| ((1 : Int32) <<< (x2 &&& 31)))), (0, .ref a_o), (2, .int x2), (3, .int x3), (4, .int x4)]) hx hb dX9_which_81 rfl hl (by decide) rfl (fun ls hl => ?_)
        refine lv_iinc (v := (x2 + (1 : Int32))) (lv' := [(2, .int (x2 + (1 : Int32))), (1, .int (x1 ||| ((1 : Int32) <<< (x2 &&& 31)))), (0, .ref a_o), (3, .int x3), (4, .int x4)]) hx hb dX9_which_82 hl (k := 2) rfl rfl (by decide) rfl (fun ls hl => ?_)
        refine lv_goto (tgt := 9) hx hb dX9_which_85 (by decide) ?_
        exact hk9 v_o_thrown v_o_textSize v_o_place v_o_rows v_o_readRows v_o_doings v_o_seen v_o_seed v_o_found v_o_foundViews v_o_foundMany d_o_many d_o_page d_o_seenSeat d_o_seenWas (x1 ||| ((1 : Int32) <<< (x2 &&& 31))) (x2 + (1 : Int32)) _ _ ls _ hP hD hS (lv_sub hl [2, 1, 0] rfl) hf
    · have hf := pf_f hc hf
      refine lv_iload_n hx hb dX9_which_42 rfl (lv_at hl 3 rfl) ?_
      refine lv_if_eq (tgt := 60) hx hb dX9_which_43 (by decide) (fun hc => ?_) (fun hc => ?_)
      · have hf := pf_t hc hf
        refine lv_iconst (v := (0 : Int32)) hx hb dX9_which_60 (by decide) ?_
        refine lv_istore_n (lv' := [(3, .int (0 : Int32)), (0, .ref a_o), (1, .int x1), (2, .int x2), (4, .int x4)]) hx hb dX9_which_61 rfl hl (by decide) rfl (fun ls hl => ?_)
        refine lv_iinc (v := (x4 + (1 : Int32))) (lv' := [(4, .int (x4 + (1 : Int32))), (3, .int (0 : Int32)), (0, .ref a_o), (1, .int x1), (2, .int x2)]) hx hb dX9_which_62 hl (k := 4) rfl rfl (by decide) rfl (fun ls hl => ?_)
        refine lv_goto (tgt := 33) hx hb dX9_which_65 (by decide) ?_
        exact ih v_o_thrown v_o_textSize v_o_place v_o_rows v_o_readRows v_o_doings v_o_seen v_o_seed v_o_found v_o_foundViews v_o_foundMany d_o_many d_o_page d_o_seenSeat d_o_seenWas x1 x2 (0 : Int32) (x4 + (1 : Int32)) _ _ ls _ hP hD hS (lv_sub hl [2, 3, 4, 1, 0] rfl) hf
      · have hf := pf_f hc hf
        refine lv_aload_n hx hb dX9_which_46 rfl (lv_at hl 0 rfl) ?_
        refine lv_iload_n hx hb dX9_which_47 rfl (lv_at hl 2 rfl) ?_
        refine lv_iload hx hb dX9_which_48 (lv_at hl 4 rfl) ?_
        obtain ⟨q1, hq2, hf⟩ := pf_b hf
        have hPc := hP.sub (ws' := (WX9_isSo cI cJ cZ cB a_o a_o_text a_o_many a_o_views a_o_aisles a_o_readMany a_o_readViews a_o_readAisles a_o_readPage a_o_page a_o_trial a_o_book a_o_kept a_o_isKept a_o_seenSeat a_o_seenWas v_o_thrown v_o_textSize v_o_place v_o_rows v_o_readRows v_o_doings v_o_seen v_o_seed v_o_found v_o_foundViews v_o_foundMany d_o_many d_o_page d_o_seenSeat d_o_seenWas)) [0, 1, 2, 3, 4] rfl
        refine cl_roi (va_runV (As := [.int x2, .int x4]) (rest := []) ⟨hx, hb, hml, hown, hts⟩ (kX9_isSo l D cI cJ cZ cB a_o a_o_text a_o_many a_o_views a_o_aisles a_o_readMany a_o_readViews a_o_readAisles a_o_readPage a_o_page a_o_trial a_o_book a_o_kept a_o_isKept a_o_seenSeat a_o_seenWas v_o_thrown v_o_textSize v_o_place v_o_rows v_o_readRows v_o_doings v_o_seen v_o_seed v_o_found v_o_foundViews v_o_foundMany d_o_many d_o_page d_o_seenSeat d_o_seenWas x2 x4 q1 hq2) (cwV 2 hts gX9_which_X9_isSo rfl rfl rfl (by decide +kernel) ⟨Nat.le_of_ble_eq_true rfl, Nat.le_of_ble_eq_true rfl⟩) ⟨PRo.blind, va_recv hK.1 hPc (ci := 9) (q0 := 0) rfl rfl, PRo.at hK hPc⟩ rfl rfl hl.1 rfl (lv_room (Nat.le_of_ble_eq_true rfl)) dX9_which_50 ⟨Nat.zero_le _, Nat.zero_le _⟩) ?_
        refine lv_if_eq (tgt := 60) hx hb dX9_which_53 (by decide) (fun hc => ?_) (fun hc => ?_)
        · have hf := pf_t hc hf
          refine lv_iconst (v := (0 : Int32)) hx hb dX9_which_60 (by decide) ?_
          refine lv_istore_n (lv' := [(3, .int (0 : Int32)), (0, .ref a_o), (1, .int x1), (2, .int x2), (4, .int x4)]) hx hb dX9_which_61 rfl hl (by decide) rfl (fun ls hl => ?_)
          refine lv_iinc (v := (x4 + (1 : Int32))) (lv' := [(4, .int (x4 + (1 : Int32))), (3, .int (0 : Int32)), (0, .ref a_o), (1, .int x1), (2, .int x2)]) hx hb dX9_which_62 hl (k := 4) rfl rfl (by decide) rfl (fun ls hl => ?_)
          refine lv_goto (tgt := 33) hx hb dX9_which_65 (by decide) ?_
          exact ih v_o_thrown v_o_textSize v_o_place v_o_rows v_o_readRows v_o_doings v_o_seen v_o_seed v_o_found v_o_foundViews v_o_foundMany d_o_many d_o_page d_o_seenSeat d_o_seenWas x1 x2 (0 : Int32) (x4 + (1 : Int32)) _ _ ls _ hP hD hS (lv_sub hl [2, 3, 4, 1, 0] rfl) hf
        · have hf := pf_f hc hf
          refine lv_iconst (v := (1 : Int32)) hx hb dX9_which_56 (by decide) ?_
          refine lv_goto (tgt := 61) hx hb dX9_which_57 (by decide) ?_
          refine lv_istore_n (lv' := [(3, .int (1 : Int32)), (0, .ref a_o), (1, .int x1), (2, .int x2), (4, .int x4)]) hx hb dX9_which_61 rfl hl (by decide) rfl (fun ls hl => ?_)
          refine lv_iinc (v := (x4 + (1 : Int32))) (lv' := [(4, .int (x4 + (1 : Int32))), (3, .int (1 : Int32)), (0, .ref a_o), (1, .int x1), (2, .int x2)]) hx hb dX9_which_62 hl (k := 4) rfl rfl (by decide) rfl (fun ls hl => ?_)
          refine lv_goto (tgt := 33) hx hb dX9_which_65 (by decide) ?_
          exact ih v_o_thrown v_o_textSize v_o_place v_o_rows v_o_readRows v_o_doings v_o_seen v_o_seed v_o_found v_o_foundViews v_o_foundMany d_o_many d_o_page d_o_seenSeat d_o_seenWas x1 x2 (1 : Int32) (x4 + (1 : Int32)) _ _ ls _ hP hD hS (lv_sub hl [2, 3, 4, 1, 0] rfl) hf
def fX9_which_9 : Nat → Int32 → Int32 → Int32 → (Nat → Int32) → (Nat → Int32) → (Nat → Int32) → (Nat → Int32) → Int32 → Int32 → Option (Int32 × Int32)
  | 0, _, _, _, _, _, _, _, _, _ => none
  | n + 1, v_o_thrown, v_o_rows, v_o_seen, d_o_many, d_o_page, d_o_seenSeat, d_o_seenWas, x1, x2 => (if (d_o_page ((6 : Int32)).toNatClampNeg) < x2 then some (x1, v_o_thrown) else ((fX9_sits d_o_page x2).bind fun q1 => fX9_which_33 (fX9_which_9 n) FU v_o_thrown v_o_rows v_o_seen d_o_many d_o_page d_o_seenSeat d_o_seenWas x1 x2 q1 (0 : Int32)))
set_option maxRecDepth 100000 in
set_option maxHeartbeats 4000000 in
theorem tX9_which_9 {p : Program} {l : Launch} {e : Env} {s : State} {m : MethodId} {args : Array Value} {below : List Frame} {meth : Method} {c : Code} {D : va_G} {cI cJ cZ cB : ClassId} {a_o : Nat} {a_o_text : Nat} {a_o_many : Nat} {a_o_views : Nat} {a_o_aisles : Nat} {a_o_readMany : Nat} {a_o_readViews : Nat} {a_o_readAisles : Nat} {a_o_readPage : Nat} {a_o_page : Nat} {a_o_trial : Nat} {a_o_book : Nat} {a_o_kept : Nat} {a_o_isKept : Nat} {a_o_seenSeat : Nat} {a_o_seenWas : Nat} {A : Nat → Prop} (C : Cx p s m args meth c cX9_which 5 (some .int) wsX9_which RX9) (hK : Kw D (tyL cI cJ cZ cB) s) (hA : ∀ q : Nat, s.heap.size ≤ q → A q) : ∀ (n : Nat), ∀ (v_o_thrown : Int32) (v_o_textSize : Int32) (v_o_place : Int32) (v_o_rows : Int32) (v_o_readRows : Int32) (v_o_doings : Int32) (v_o_seen : Int32) (v_o_seed : Int64) (v_o_found : Int32) (v_o_foundViews : Int32) (v_o_foundMany : Int32) (d_o_many : (Nat → Int32)) (d_o_page : (Nat → Int32)) (d_o_seenSeat : (Nat → Int32)) (d_o_seenWas : (Nat → Int32)) (x1 : Int32) (x2 : Int32) (H : Heap) (locs : List Loc) (ls : Array Slot) (res : Int32 × Int32), va_P D vwCl (WX9_which cI cJ cZ cB a_o a_o_text a_o_many a_o_views a_o_aisles a_o_readMany a_o_readViews a_o_readAisles a_o_readPage a_o_page a_o_trial a_o_book a_o_kept a_o_isKept a_o_seenSeat a_o_seenWas v_o_thrown v_o_textSize v_o_place v_o_rows v_o_readRows v_o_doings v_o_seen v_o_seed v_o_found v_o_foundViews v_o_foundMany d_o_many d_o_page d_o_seenSeat d_o_seenWas) H → va_D A (WX9_which cI cJ cZ cB a_o a_o_text a_o_many a_o_views a_o_aisles a_o_readMany a_o_readViews a_o_readAisles a_o_readPage a_o_page a_o_trial a_o_book a_o_kept a_o_isKept a_o_seenSeat a_o_seenWas v_o_thrown v_o_textSize v_o_place v_o_rows v_o_readRows v_o_doings v_o_seen v_o_seed v_o_found v_o_foundViews v_o_foundMany d_o_many d_o_page d_o_seenSeat d_o_seenWas) → va_S A s.heap H locs → lv_has ls 5 [(0, .ref a_o), (1, .int x1), (2, .int x2)] → fX9_which_9 n v_o_thrown v_o_rows v_o_seen d_o_many d_o_page d_o_seenSeat d_o_seenWas x1 x2 = some res → W p l e ({ frames := 4, cells := 0, slots := 0, locals := 91 } : Room) s m args below meth c H locs 0 0 (MQ below (QRw D A (WX9_which cI cJ cZ cB a_o a_o_text a_o_many a_o_views a_o_aisles a_o_readMany a_o_readViews a_o_readAisles a_o_readPage a_o_page a_o_trial a_o_book a_o_kept a_o_isKept a_o_seenSeat a_o_seenWas res.2 v_o_textSize v_o_place v_o_rows v_o_readRows v_o_doings v_o_seen v_o_seed v_o_found v_o_foundViews v_o_foundMany d_o_many d_o_page d_o_seenSeat d_o_seenWas) (some (.int res.1))) args s 0 0 A) (F0 m 9 ls []) := by
  obtain ⟨hx, hb, hr, hml, hts, hown, hlk⟩ := id C
  intro n
  induction n with
  | zero =>
    intro v_o_thrown v_o_textSize v_o_place v_o_rows v_o_readRows v_o_doings v_o_seen v_o_seed v_o_found v_o_foundViews v_o_foundMany d_o_many d_o_page d_o_seenSeat d_o_seenWas x1 x2 H locs ls res hP hD hS hl hf
    rw [fX9_which_9] at hf
    cases hf
  | succ n ih =>
    intro v_o_thrown v_o_textSize v_o_place v_o_rows v_o_readRows v_o_doings v_o_seen v_o_seed v_o_found v_o_foundViews v_o_foundMany d_o_many d_o_page d_o_seenSeat d_o_seenWas x1 x2 H locs ls res hP hD hS hl hf
    rw [fX9_which_9] at hf
    refine lv_iload_n hx hb dX9_which_9 rfl (lv_at hl 2 rfl) ?_
    refine lv_aload_n hx hb dX9_which_10 rfl (lv_at hl 0 rfl) ?_
    refine va_get (D := D) (ci := 9) (v := .ref a_o_page) (C := RX9) (T := TX9) (N := 26) hx hb hts iX9_which_X9 hown hK.1 hP 0 rfl rfl 13 (by decide) (hts (.fieldLink RX9 35 "LoneSeatsModel" "page" "[I") (by decide +kernel)) (fun _ h9 => h9) rfl dX9_which_11 ?_
    refine lv_bipush (v := (6 : Int32)) hx hb dX9_which_14 (by decide) ?_
    refine va_iald hx hb hK.1 hP 2 0 rfl rfl (show ¬ ((6 : Int32) < 0 ∨ 229 ≤ ((6 : Int32)).toNatClampNeg) by decide) dX9_which_16 ?_
    refine lv_icmp_gt (tgt := 88) hx hb dX9_which_17 (by decide) (fun hc => ?_) (fun hc => ?_)
    · have hf := pf_t hc hf
      refine lv_iload_n hx hb dX9_which_88 rfl (lv_at hl 1 rfl) ?_
      cases hf
      exact W.iret hx hb hr (fun t ht hW => ⟨⟨rfl, by rw [ht]; exact hP, hD⟩, hS.F ht⟩) hS.2.2 dX9_which_89
    · have hf := pf_f hc hf
      refine lv_aload_n hx hb dX9_which_20 rfl (lv_at hl 0 rfl) ?_
      refine lv_aload_n hx hb dX9_which_21 rfl (lv_at hl 0 rfl) ?_
      refine va_get (D := D) (ci := 9) (v := .ref a_o_page) (C := RX9) (T := TX9) (N := 26) hx hb hts iX9_which_X9 hown hK.1 hP 0 rfl rfl 13 (by decide) (hts (.fieldLink RX9 35 "LoneSeatsModel" "page" "[I") (by decide +kernel)) (fun _ h9 => h9) rfl dX9_which_22 ?_
      refine lv_iload_n hx hb dX9_which_25 rfl (lv_at hl 2 rfl) ?_
      obtain ⟨q1, hq2, hf⟩ := pf_b hf
      have hPc := hP.sub (ws' := (WX9_sits cI cJ cZ cB a_o a_o_text a_o_many a_o_views a_o_aisles a_o_readMany a_o_readViews a_o_readAisles a_o_readPage a_o_page a_o_trial a_o_book a_o_kept a_o_isKept a_o_seenSeat a_o_seenWas a_o_page v_o_thrown v_o_textSize v_o_place v_o_rows v_o_readRows v_o_doings v_o_seen v_o_seed v_o_found v_o_foundViews v_o_foundMany d_o_page)) [0, 2] rfl
      refine cl_roi (va_runV (As := [.ref a_o_page, .int x2]) (rest := []) ⟨hx, hb, hml, hown, hts⟩ (kX9_sits l D cI cJ cZ cB a_o a_o_text a_o_many a_o_views a_o_aisles a_o_readMany a_o_readViews a_o_readAisles a_o_readPage a_o_page a_o_trial a_o_book a_o_kept a_o_isKept a_o_seenSeat a_o_seenWas a_o_page v_o_thrown v_o_textSize v_o_place v_o_rows v_o_readRows v_o_doings v_o_seen v_o_seed v_o_found v_o_foundViews v_o_foundMany d_o_page x2 q1 hq2) (cwV 2 hts gX9_which_X9_sits rfl rfl rfl (by decide +kernel) ⟨Nat.le_of_ble_eq_true rfl, Nat.le_of_ble_eq_true rfl⟩) ⟨PRo.blind, va_recv hK.1 hPc (ci := 9) (q0 := 0) rfl rfl, PRo.at hK hPc⟩ rfl rfl hl.1 rfl (lv_room (Nat.le_of_ble_eq_true rfl)) dX9_which_26 ⟨Nat.zero_le _, Nat.zero_le _⟩) ?_
      refine lv_istore_n (lv' := [(3, .int q1), (0, .ref a_o), (1, .int x1), (2, .int x2)]) hx hb dX9_which_29 rfl hl (by decide) rfl (fun ls hl => ?_)
      refine lv_iconst (v := (0 : Int32)) hx hb dX9_which_30 (by decide) ?_
      refine lv_istore (lv' := [(4, .int (0 : Int32)), (3, .int q1), (0, .ref a_o), (1, .int x1), (2, .int x2)]) hx hb dX9_which_31 hl (by decide) rfl (fun ls hl => ?_)
      exact tX9_which_33 C hK hA ih FU v_o_thrown v_o_textSize v_o_place v_o_rows v_o_readRows v_o_doings v_o_seen v_o_seed v_o_found v_o_foundViews v_o_foundMany d_o_many d_o_page d_o_seenSeat d_o_seenWas x1 x2 q1 (0 : Int32) _ _ ls _ hP hD hS (lv_sub hl [2, 3, 4, 1, 0] rfl) hf
def fX9_which (v_o_thrown : Int32) (v_o_rows : Int32) (v_o_seen : Int32) (d_o_many : (Nat → Int32)) (d_o_page : (Nat → Int32)) (d_o_seenSeat : (Nat → Int32)) (d_o_seenWas : (Nat → Int32)) : Option (Int32 × Int32) := fX9_which_9 FU (0 : Int32) v_o_rows v_o_seen d_o_many d_o_page d_o_seenSeat d_o_seenWas (0 : Int32) (1 : Int32)
set_option maxRecDepth 100000 in
set_option maxHeartbeats 4000000 in
theorem kX9_which (l : Launch) (D : va_G) (cI cJ cZ cB : ClassId) (a_o : Nat) (a_o_text : Nat) (a_o_many : Nat) (a_o_views : Nat) (a_o_aisles : Nat) (a_o_readMany : Nat) (a_o_readViews : Nat) (a_o_readAisles : Nat) (a_o_readPage : Nat) (a_o_page : Nat) (a_o_trial : Nat) (a_o_book : Nat) (a_o_kept : Nat) (a_o_isKept : Nat) (a_o_seenSeat : Nat) (a_o_seenWas : Nat) (v_o_thrown : Int32) (v_o_textSize : Int32) (v_o_place : Int32) (v_o_rows : Int32) (v_o_readRows : Int32) (v_o_doings : Int32) (v_o_seen : Int32) (v_o_seed : Int64) (v_o_found : Int32) (v_o_foundViews : Int32) (v_o_foundMany : Int32) (d_o_many : (Nat → Int32)) (d_o_page : (Nat → Int32)) (d_o_seenSeat : (Nat → Int32)) (d_o_seenWas : (Nat → Int32)) (res : Int32 × Int32) (hf : fX9_which v_o_thrown v_o_rows v_o_seen d_o_many d_o_page d_o_seenSeat d_o_seenWas = some res) : Rw l yX9_which wsX9_which ({ frames := 4, cells := 0, slots := 0, locals := 91 } : Room) D (tyL cI cJ cZ cB) [.ref a_o] (WX9_which cI cJ cZ cB a_o a_o_text a_o_many a_o_views a_o_aisles a_o_readMany a_o_readViews a_o_readAisles a_o_readPage a_o_page a_o_trial a_o_book a_o_kept a_o_isKept a_o_seenSeat a_o_seenWas v_o_thrown v_o_textSize v_o_place v_o_rows v_o_readRows v_o_doings v_o_seen v_o_seed v_o_found v_o_foundViews v_o_foundMany d_o_many d_o_page d_o_seenSeat d_o_seenWas) (some (.int res.1)) (WX9_which cI cJ cZ cB a_o a_o_text a_o_many a_o_views a_o_aisles a_o_readMany a_o_readViews a_o_readAisles a_o_readPage a_o_page a_o_trial a_o_book a_o_kept a_o_isKept a_o_seenSeat a_o_seenWas res.2 v_o_textSize v_o_place v_o_rows v_o_readRows v_o_doings v_o_seen v_o_seed v_o_found v_o_foundViews v_o_foundMany d_o_many d_o_page d_o_seenSeat d_o_seenWas) := by
  refine Rw.of (cc := cX9_which) (maxL := 5) (ret := (some .int)) (own := RX9) (by decide) rfl rfl (Nat.le_of_ble_eq_true rfl) ?_
  intro p e s m below meth c A ls C hK hA hP hD hS hl
  obtain ⟨hx, hb, hr, hml, hts, hown, hlk⟩ := id C
  have hl : lv_has ls 5 [(0, .ref a_o)] := hl
  unfold fX9_which at hf
  refine lv_aload_n hx hb dX9_which_0 rfl (lv_at hl 0 rfl) ?_
  refine lv_iconst (v := (0 : Int32)) hx hb dX9_which_1 (by decide) ?_
  refine va_put (D := D) (ci := 9) (v := .int (0 : Int32)) (ty := .int) (C := RX9) (T := TX9) (N := 26) hx hb hts iX9_which_X9 tyX9 tyX9_ok nmX9 hown hK.1 hP hD hS 0 rfl rfl 0 (by decide) (hts (.fieldLink RX9 60 "LoneSeatsModel" "thrown" "I") (by decide +kernel)) (fun _ h9 => h9) rfl (by decide +kernel) rfl rfl (Nat.le_of_ble_eq_true rfl) dX9_which_2 (fun H locs hP hD hS => ?_)
  have hP : va_P D vwCl (WX9_which cI cJ cZ cB a_o a_o_text a_o_many a_o_views a_o_aisles a_o_readMany a_o_readViews a_o_readAisles a_o_readPage a_o_page a_o_trial a_o_book a_o_kept a_o_isKept a_o_seenSeat a_o_seenWas (0 : Int32) v_o_textSize v_o_place v_o_rows v_o_readRows v_o_doings v_o_seen v_o_seed v_o_found v_o_foundViews v_o_foundMany d_o_many d_o_page d_o_seenSeat d_o_seenWas) H := hP
  have hD : va_D A (WX9_which cI cJ cZ cB a_o a_o_text a_o_many a_o_views a_o_aisles a_o_readMany a_o_readViews a_o_readAisles a_o_readPage a_o_page a_o_trial a_o_book a_o_kept a_o_isKept a_o_seenSeat a_o_seenWas (0 : Int32) v_o_textSize v_o_place v_o_rows v_o_readRows v_o_doings v_o_seen v_o_seed v_o_found v_o_foundViews v_o_foundMany d_o_many d_o_page d_o_seenSeat d_o_seenWas) := hD
  refine lv_iconst (v := (0 : Int32)) hx hb dX9_which_5 (by decide) ?_
  refine lv_istore_n (lv' := [(1, .int (0 : Int32)), (0, .ref a_o)]) hx hb dX9_which_6 rfl hl (by decide) rfl (fun ls hl => ?_)
  refine lv_iconst (v := (1 : Int32)) hx hb dX9_which_7 (by decide) ?_
  refine lv_istore_n (lv' := [(2, .int (1 : Int32)), (1, .int (0 : Int32)), (0, .ref a_o)]) hx hb dX9_which_8 rfl hl (by decide) rfl (fun ls hl => ?_)
  exact tX9_which_9 C hK hA  FU (0 : Int32) v_o_textSize v_o_place v_o_rows v_o_readRows v_o_doings v_o_seen v_o_seed v_o_found v_o_foundViews v_o_foundMany d_o_many d_o_page d_o_seenSeat d_o_seenWas (0 : Int32) (1 : Int32) _ _ ls _ hP hD hS (lv_sub hl [2, 1, 0] rfl) hf
def fX9_divisor_13 : Nat → Int32 → Int32 → Option (Int32)
  | 0, _, _ => none
  | n + 1, x2, x3 => (if x3 = 0 then some x2 else (if x3 = 0 then none else fX9_divisor_13 n x3 (x2 - x2 / x3 * x3)))
set_option maxRecDepth 100000 in
set_option maxHeartbeats 4000000 in
theorem tX9_divisor_13 {p : Program} {l : Launch} {e : Env} {s : State} {m : MethodId} {args : Array Value} {below : List Frame} {meth : Method} {c : Code} {D : va_G} {cI cJ cZ cB : ClassId} (C : Cx p s m args meth c cX9_divisor 5 (some .int) wsX9_divisor RX9) (hK : Kw D (tyL cI cJ cZ cB) s) : ∀ (n : Nat), ∀  (x2 : Int32) (x3 : Int32) (ls : Array Slot) (res : Int32), va_P D vwCl ([] : va_W) s.heap → lv_has ls 5 [(2, .int x2), (3, .int x3)] → fX9_divisor_13 n x2 x3 = some res → W p l e ({ frames := 0, cells := 0, slots := 0, locals := 0 } : Room) s m args below meth c s.heap [] 0 0 (MQ below (QRo (some (.int res))) args s 0 0 (fun _ => False)) (F0 m 13 ls []) := by
  obtain ⟨hx, hb, hr, hml, hts, hown, hlk⟩ := id C
  intro n
  induction n with
  | zero =>
    intro x2 x3 ls res hP hl hf
    rw [fX9_divisor_13] at hf
    cases hf
  | succ n ih =>
    intro x2 x3 ls res hP hl hf
    rw [fX9_divisor_13] at hf
    refine lv_iload_n hx hb dX9_divisor_13 rfl (lv_at hl 1 rfl) ?_
    refine lv_if_eq (tgt := 30) hx hb dX9_divisor_14 (by decide) (fun hc => ?_) (fun hc => ?_)
    · have hf := pf_t hc hf
      refine lv_iload_n hx hb dX9_divisor_30 rfl (lv_at hl 0 rfl) ?_
      cases hf
      exact W.iret hx hb hr (fun t ht hW => ⟨rfl, ht⟩) (fun _ h => absurd h List.not_mem_nil) dX9_divisor_31
    · have hf := pf_f hc hf
      refine lv_iload_n hx hb dX9_divisor_17 rfl (lv_at hl 0 rfl) ?_
      refine lv_iload_n hx hb dX9_divisor_18 rfl (lv_at hl 1 rfl) ?_
      obtain ⟨hg1, hf⟩ := pf_x hf
      refine lv_irem hx hb dX9_divisor_19 hg1 ?_
      refine lv_istore (lv' := [(4, .int (x2 - x2 / x3 * x3)), (2, .int x2), (3, .int x3)]) hx hb dX9_divisor_20 hl (by decide) rfl (fun ls hl => ?_)
      refine lv_iload_n hx hb dX9_divisor_22 rfl (lv_at hl 2 rfl) ?_
      refine lv_istore_n (lv' := [(2, .int x3), (4, .int (x2 - x2 / x3 * x3)), (3, .int x3)]) hx hb dX9_divisor_23 rfl hl (by decide) rfl (fun ls hl => ?_)
      refine lv_iload hx hb dX9_divisor_24 (lv_at hl 1 rfl) ?_
      refine lv_istore_n (lv' := [(3, .int (x2 - x2 / x3 * x3)), (2, .int x3), (4, .int (x2 - x2 / x3 * x3))]) hx hb dX9_divisor_26 rfl hl (by decide) rfl (fun ls hl => ?_)
      refine lv_goto (tgt := 13) hx hb dX9_divisor_27 (by decide) ?_
      exact ih  x3 (x2 - x2 / x3 * x3) ls _ hP (lv_sub hl [1, 0] rfl) hf
def fX9_divisor (x0 : Int32) (x1 : Int32) : Option (Int32) := (if 0 ≤ x0 then fX9_divisor_13 FU x0 x1 else fX9_divisor_13 FU (-x0) x1)
set_option maxRecDepth 100000 in
set_option maxHeartbeats 4000000 in
theorem kX9_divisor (l : Launch) (D : va_G) (cI cJ cZ cB : ClassId) (x0 : Int32) (x1 : Int32) (res : Int32) (hf : fX9_divisor x0 x1 = some res) : Ro l yX9_divisor wsX9_divisor ({ frames := 0, cells := 0, slots := 0, locals := 0 } : Room) D (tyL cI cJ cZ cB) [.int x0, .int x1] ([] : va_W) (some (.int res)) := by
  refine Ro.of (cc := cX9_divisor) (maxL := 5) (ret := (some .int)) (own := RX9) (by decide) rfl rfl (Nat.le_of_ble_eq_true rfl) ?_
  intro p e s m below meth c ls C hK hP hl
  obtain ⟨hx, hb, hr, hml, hts, hown, hlk⟩ := id C
  have hl : lv_has ls 5 [(0, .int x0), (1, .int x1)] := hl
  unfold fX9_divisor at hf
  refine lv_iload_n hx hb dX9_divisor_0 rfl (lv_at hl 0 rfl) ?_
  refine lv_if_ge (tgt := 9) hx hb dX9_divisor_1 (by decide) (fun hc => ?_) (fun hc => ?_)
  · have hf := pf_t hc hf
    refine lv_iload_n hx hb dX9_divisor_9 rfl (lv_at hl 0 rfl) ?_
    refine lv_istore_n (lv' := [(2, .int x0), (0, .int x0), (1, .int x1)]) hx hb dX9_divisor_10 rfl hl (by decide) rfl (fun ls hl => ?_)
    refine lv_iload_n hx hb dX9_divisor_11 rfl (lv_at hl 2 rfl) ?_
    refine lv_istore_n (lv' := [(3, .int x1), (2, .int x0), (0, .int x0), (1, .int x1)]) hx hb dX9_divisor_12 rfl hl (by decide) rfl (fun ls hl => ?_)
    exact tX9_divisor_13 C hK  FU  x0 x1 ls _ hP (lv_sub hl [1, 0] rfl) hf
  · have hf := pf_f hc hf
    refine lv_iload_n hx hb dX9_divisor_4 rfl (lv_at hl 0 rfl) ?_
    refine lv_ineg hx hb dX9_divisor_5 ?_
    refine lv_goto (tgt := 10) hx hb dX9_divisor_6 (by decide) ?_
    refine lv_istore_n (lv' := [(2, .int (-x0)), (0, .int x0), (1, .int x1)]) hx hb dX9_divisor_10 rfl hl (by decide) rfl (fun ls hl => ?_)
    refine lv_iload_n hx hb dX9_divisor_11 rfl (lv_at hl 2 rfl) ?_
    refine lv_istore_n (lv' := [(3, .int x1), (2, .int (-x0)), (0, .int x0), (1, .int x1)]) hx hb dX9_divisor_12 rfl hl (by decide) rfl (fun ls hl => ?_)
    exact tX9_divisor_13 C hK  FU  (-x0) x1 ls _ hP (lv_sub hl [1, 0] rfl) hf
def fX9_fraction (x0 : Int32) (x1 : Int32) (x2 : Int32) : Option (Int32) := ((fX9_divisor x0 x1).bind fun q1 => (if x2 = 0 then (if q1 = 0 then none else some (x1 / q1)) else (if q1 = 0 then none else some (x0 / q1))))
set_option maxRecDepth 100000 in
set_option maxHeartbeats 4000000 in
theorem kX9_fraction (l : Launch) (D : va_G) (cI cJ cZ cB : ClassId) (x0 : Int32) (x1 : Int32) (x2 : Int32) (res : Int32) (hf : fX9_fraction x0 x1 x2 = some res) : Ro l yX9_fraction wsX9_fraction ({ frames := 1, cells := 0, slots := 0, locals := 24 } : Room) D (tyL cI cJ cZ cB) [.int x0, .int x1, .int x2] ([] : va_W) (some (.int res)) := by
  refine Ro.of (cc := cX9_fraction) (maxL := 4) (ret := (some .int)) (own := RX9) (by decide) rfl rfl (Nat.le_of_ble_eq_true rfl) ?_
  intro p e s m below meth c ls C hK hP hl
  obtain ⟨hx, hb, hr, hml, hts, hown, hlk⟩ := id C
  have hl : lv_has ls 4 [(0, .int x0), (1, .int x1), (2, .int x2)] := hl
  unfold fX9_fraction at hf
  refine lv_iload_n hx hb dX9_fraction_0 rfl (lv_at hl 0 rfl) ?_
  refine lv_iload_n hx hb dX9_fraction_1 rfl (lv_at hl 1 rfl) ?_
  obtain ⟨q1, hq2, hf⟩ := pf_b hf
  have hPc := hP.sub (ws' := ([] : va_W)) [] rfl
  refine cl_roi (va_runS (As := [.int x0, .int x1]) (rest := []) ⟨hx, hb, hml, hown, hts⟩ (kX9_divisor l D cI cJ cZ cB x0 x1 q1 hq2) (va_cwS 2 hts gX9_fraction_X9_divisor rfl rfl rfl (by decide +kernel) ⟨Nat.le_of_ble_eq_true rfl, Nat.le_of_ble_eq_true rfl⟩) ⟨PRo.blind, PRo.at hK hPc⟩ rfl rfl hl.1 rfl (lv_room (Nat.le_of_ble_eq_true rfl)) dX9_fraction_2 ⟨Nat.zero_le _, Nat.zero_le _⟩) ?_
  refine lv_istore_n (lv' := [(3, .int q1), (0, .int x0), (1, .int x1), (2, .int x2)]) hx hb dX9_fraction_5 rfl hl (by decide) rfl (fun ls hl => ?_)
  refine lv_iload_n hx hb dX9_fraction_6 rfl (lv_at hl 3 rfl) ?_
  refine lv_if_eq (tgt := 16) hx hb dX9_fraction_7 (by decide) (fun hc => ?_) (fun hc => ?_)
  · have hf := pf_t hc hf
    refine lv_iload_n hx hb dX9_fraction_16 rfl (lv_at hl 2 rfl) ?_
    refine lv_iload_n hx hb dX9_fraction_17 rfl (lv_at hl 0 rfl) ?_
    obtain ⟨hg3, hf⟩ := pf_x hf
    refine lv_idiv hx hb dX9_fraction_18 hg3 ?_
    cases hf
    exact W.iret hx hb hr (fun t ht hW => ⟨rfl, ht⟩) (fun _ h => absurd h List.not_mem_nil) dX9_fraction_19
  · have hf := pf_f hc hf
    refine lv_iload_n hx hb dX9_fraction_10 rfl (lv_at hl 1 rfl) ?_
    refine lv_iload_n hx hb dX9_fraction_11 rfl (lv_at hl 0 rfl) ?_
    obtain ⟨hg4, hf⟩ := pf_x hf
    refine lv_idiv hx hb dX9_fraction_12 hg4 ?_
    refine lv_goto (tgt := 19) hx hb dX9_fraction_13 (by decide) ?_
    cases hf
    exact W.iret hx hb hr (fun t ht hW => ⟨rfl, ht⟩) (fun _ h => absurd h List.not_mem_nil) dX9_fraction_19
def fX9_factorial_4 : Nat → Int32 → Int32 → Int32 → Option (Int32)
  | 0, _, _, _ => none
  | n + 1, x0, x1, x2 => (if x0 < x2 then some x1 else fX9_factorial_4 n x0 (x1 * x2) (x2 + (1 : Int32)))
set_option maxRecDepth 100000 in
set_option maxHeartbeats 4000000 in
theorem tX9_factorial_4 {p : Program} {l : Launch} {e : Env} {s : State} {m : MethodId} {args : Array Value} {below : List Frame} {meth : Method} {c : Code} {D : va_G} {cI cJ cZ cB : ClassId} (C : Cx p s m args meth c cX9_factorial 3 (some .int) wsX9_factorial RX9) (hK : Kw D (tyL cI cJ cZ cB) s) : ∀ (n : Nat), ∀  (x0 : Int32) (x1 : Int32) (x2 : Int32) (ls : Array Slot) (res : Int32), va_P D vwCl ([] : va_W) s.heap → lv_has ls 3 [(0, .int x0), (1, .int x1), (2, .int x2)] → fX9_factorial_4 n x0 x1 x2 = some res → W p l e ({ frames := 0, cells := 0, slots := 0, locals := 0 } : Room) s m args below meth c s.heap [] 0 0 (MQ below (QRo (some (.int res))) args s 0 0 (fun _ => False)) (F0 m 4 ls []) := by
  obtain ⟨hx, hb, hr, hml, hts, hown, hlk⟩ := id C
  intro n
  induction n with
  | zero =>
    intro x0 x1 x2 ls res hP hl hf
    rw [fX9_factorial_4] at hf
    cases hf
  | succ n ih =>
    intro x0 x1 x2 ls res hP hl hf
    rw [fX9_factorial_4] at hf
    refine lv_iload_n hx hb dX9_factorial_4 rfl (lv_at hl 2 rfl) ?_
    refine lv_iload_n hx hb dX9_factorial_5 rfl (lv_at hl 0 rfl) ?_
    refine lv_icmp_gt (tgt := 19) hx hb dX9_factorial_6 (by decide) (fun hc => ?_) (fun hc => ?_)
    · have hf := pf_t hc hf
      refine lv_iload_n hx hb dX9_factorial_19 rfl (lv_at hl 1 rfl) ?_
      cases hf
      exact W.iret hx hb hr (fun t ht hW => ⟨rfl, ht⟩) (fun _ h => absurd h List.not_mem_nil) dX9_factorial_20
    · have hf := pf_f hc hf
      refine lv_iload_n hx hb dX9_factorial_9 rfl (lv_at hl 1 rfl) ?_
      refine lv_iload_n hx hb dX9_factorial_10 rfl (lv_at hl 2 rfl) ?_
      refine lv_imul hx hb dX9_factorial_11 ?_
      refine lv_istore_n (lv' := [(1, .int (x1 * x2)), (0, .int x0), (2, .int x2)]) hx hb dX9_factorial_12 rfl hl (by decide) rfl (fun ls hl => ?_)
      refine lv_iinc (v := (x2 + (1 : Int32))) (lv' := [(2, .int (x2 + (1 : Int32))), (1, .int (x1 * x2)), (0, .int x0)]) hx hb dX9_factorial_13 hl (k := 2) rfl rfl (by decide) rfl (fun ls hl => ?_)
      refine lv_goto (tgt := 4) hx hb dX9_factorial_16 (by decide) ?_
      exact ih  x0 (x1 * x2) (x2 + (1 : Int32)) ls _ hP (lv_sub hl [2, 1, 0] rfl) hf
def fX9_factorial (x0 : Int32) : Option (Int32) := fX9_factorial_4 FU x0 (1 : Int32) (2 : Int32)
set_option maxRecDepth 100000 in
set_option maxHeartbeats 4000000 in
theorem kX9_factorial (l : Launch) (D : va_G) (cI cJ cZ cB : ClassId) (x0 : Int32) (res : Int32) (hf : fX9_factorial x0 = some res) : Ro l yX9_factorial wsX9_factorial ({ frames := 0, cells := 0, slots := 0, locals := 0 } : Room) D (tyL cI cJ cZ cB) [.int x0] ([] : va_W) (some (.int res)) := by
  refine Ro.of (cc := cX9_factorial) (maxL := 3) (ret := (some .int)) (own := RX9) (by decide) rfl rfl (Nat.le_of_ble_eq_true rfl) ?_
  intro p e s m below meth c ls C hK hP hl
  obtain ⟨hx, hb, hr, hml, hts, hown, hlk⟩ := id C
  have hl : lv_has ls 3 [(0, .int x0)] := hl
  unfold fX9_factorial at hf
  refine lv_iconst (v := (1 : Int32)) hx hb dX9_factorial_0 (by decide) ?_
  refine lv_istore_n (lv' := [(1, .int (1 : Int32)), (0, .int x0)]) hx hb dX9_factorial_1 rfl hl (by decide) rfl (fun ls hl => ?_)
  refine lv_iconst (v := (2 : Int32)) hx hb dX9_factorial_2 (by decide) ?_
  refine lv_istore_n (lv' := [(2, .int (2 : Int32)), (1, .int (1 : Int32)), (0, .int x0)]) hx hb dX9_factorial_3 rfl hl (by decide) rfl (fun ls hl => ?_)
  exact tX9_factorial_4 C hK  FU  x0 (1 : Int32) (2 : Int32) ls _ hP (lv_sub hl [2, 1, 0] rfl) hf
abbrev WX9_viewsBy (cI cJ cZ cB : ClassId) (a_o : Nat) (a_o_text : Nat) (a_o_many : Nat) (a_o_views : Nat) (a_o_aisles : Nat) (a_o_readMany : Nat) (a_o_readViews : Nat) (a_o_readAisles : Nat) (a_o_readPage : Nat) (a_o_page : Nat) (a_o_trial : Nat) (a_o_book : Nat) (a_o_kept : Nat) (a_o_isKept : Nat) (a_o_seenSeat : Nat) (a_o_seenWas : Nat) (v_o_thrown : Int32) (v_o_textSize : Int32) (v_o_place : Int32) (v_o_rows : Int32) (v_o_readRows : Int32) (v_o_doings : Int32) (v_o_seen : Int32) (v_o_seed : Int64) (v_o_found : Int32) (v_o_foundViews : Int32) (v_o_foundMany : Int32) (d_o_many : (Nat → Int32)) (d_o_views : (Nat → Int32)) (d_o_aisles : (Nat → Int32)) (d_o_page : (Nat → Int32)) : va_W := [(a_o, .inr (9, [.int v_o_thrown, .ref a_o_text, .int v_o_textSize, .int v_o_place, .int v_o_rows, .ref a_o_many, .ref a_o_views, .ref a_o_aisles, .int v_o_readRows, .ref a_o_readMany, .ref a_o_readViews, .ref a_o_readAisles, .ref a_o_readPage, .ref a_o_page, .ref a_o_trial, .ref a_o_book, .int v_o_doings, .ref a_o_kept, .ref a_o_isKept, .int v_o_seen, .ref a_o_seenSeat, .ref a_o_seenWas, .long v_o_seed, .int v_o_found, .int v_o_foundViews, .int v_o_foundMany])), (a_o_many, .inl (cI, (4, .inl d_o_many))), (a_o_views, .inl (cI, (36, .inl d_o_views))), (a_o_aisles, .inl (cZ, (36, .inl d_o_aisles))), (a_o_page, .inl (cI, (229, .inl d_o_page)))]
set_option maxRecDepth 20000 in
theorem iX9_viewsBy_X9 : ∀ w ∈ wsX90, w ∈ wsX9_viewsBy := by decide +kernel
def fX9_viewsBy (v_o_rows : Int32) (v_o_found : Int32) (v_o_foundViews : Int32) (v_o_foundMany : Int32) (d_o_many : (Nat → Int32)) (d_o_views : (Nat → Int32)) (d_o_aisles : (Nat → Int32)) (d_o_page : (Nat → Int32)) (x1 : Int32) (x2 : Int32) : Option (Int32 × Int32 × Int32 × Int32 × (Nat → Int32)) := ((fX9_allLone v_o_rows d_o_many d_o_aisles d_o_page).bind fun q1 => ((fX9_findPlace v_o_rows v_o_found v_o_foundViews v_o_foundMany d_o_many d_o_views d_o_aisles d_o_page x2 (9 : Int32) x1 q1).bind fun q3 => (if q3.2.2.1 ≤ 0 then some ((0 : Int32), q3.1, q3.2.1, q3.2.2.1, q3.2.2.2) else some (q3.2.1, q3.1, q3.2.1, q3.2.2.1, q3.2.2.2))))
set_option maxRecDepth 100000 in
set_option maxHeartbeats 4000000 in
theorem kX9_viewsBy (l : Launch) (D : va_G) (cI cJ cZ cB : ClassId) (a_o : Nat) (a_o_text : Nat) (a_o_many : Nat) (a_o_views : Nat) (a_o_aisles : Nat) (a_o_readMany : Nat) (a_o_readViews : Nat) (a_o_readAisles : Nat) (a_o_readPage : Nat) (a_o_page : Nat) (a_o_trial : Nat) (a_o_book : Nat) (a_o_kept : Nat) (a_o_isKept : Nat) (a_o_seenSeat : Nat) (a_o_seenWas : Nat) (v_o_thrown : Int32) (v_o_textSize : Int32) (v_o_place : Int32) (v_o_rows : Int32) (v_o_readRows : Int32) (v_o_doings : Int32) (v_o_seen : Int32) (v_o_seed : Int64) (v_o_found : Int32) (v_o_foundViews : Int32) (v_o_foundMany : Int32) (d_o_many : (Nat → Int32)) (d_o_views : (Nat → Int32)) (d_o_aisles : (Nat → Int32)) (d_o_page : (Nat → Int32)) (x1 : Int32) (x2 : Int32) (res : Int32 × Int32 × Int32 × Int32 × (Nat → Int32)) (hf : fX9_viewsBy v_o_rows v_o_found v_o_foundViews v_o_foundMany d_o_many d_o_views d_o_aisles d_o_page x1 x2 = some res) : Rw l yX9_viewsBy wsX9_viewsBy ({ frames := 6, cells := 0, slots := 0, locals := 151 } : Room) D (tyL cI cJ cZ cB) [.ref a_o, .int x1, .int x2] (WX9_viewsBy cI cJ cZ cB a_o a_o_text a_o_many a_o_views a_o_aisles a_o_readMany a_o_readViews a_o_readAisles a_o_readPage a_o_page a_o_trial a_o_book a_o_kept a_o_isKept a_o_seenSeat a_o_seenWas v_o_thrown v_o_textSize v_o_place v_o_rows v_o_readRows v_o_doings v_o_seen v_o_seed v_o_found v_o_foundViews v_o_foundMany d_o_many d_o_views d_o_aisles d_o_page) (some (.int res.1)) (WX9_viewsBy cI cJ cZ cB a_o a_o_text a_o_many a_o_views a_o_aisles a_o_readMany a_o_readViews a_o_readAisles a_o_readPage a_o_page a_o_trial a_o_book a_o_kept a_o_isKept a_o_seenSeat a_o_seenWas v_o_thrown v_o_textSize v_o_place v_o_rows v_o_readRows v_o_doings v_o_seen v_o_seed res.2.1 res.2.2.1 res.2.2.2.1 d_o_many d_o_views d_o_aisles res.2.2.2.2) := by
  refine Rw.of (cc := cX9_viewsBy) (maxL := 3) (ret := (some .int)) (own := RX9) (by decide) rfl rfl (Nat.le_of_ble_eq_true rfl) ?_
  intro p e s m below meth c A ls C hK hA hP hD hS hl
  obtain ⟨hx, hb, hr, hml, hts, hown, hlk⟩ := id C
  have hl : lv_has ls 3 [(0, .ref a_o), (1, .int x1), (2, .int x2)] := hl
  unfold fX9_viewsBy at hf
  refine lv_aload_n hx hb dX9_viewsBy_0 rfl (lv_at hl 0 rfl) ?_
  refine lv_aload_n hx hb dX9_viewsBy_1 rfl (lv_at hl 0 rfl) ?_
  refine va_get (D := D) (ci := 9) (v := .ref a_o_page) (C := RX9) (T := TX9) (N := 26) hx hb hts iX9_viewsBy_X9 hown hK.1 hP 0 rfl rfl 13 (by decide) (hts (.fieldLink RX9 35 "LoneSeatsModel" "page" "[I") (by decide +kernel)) (fun _ h9 => h9) rfl dX9_viewsBy_2 ?_
  refine lv_iload_n hx hb dX9_viewsBy_5 rfl (lv_at hl 2 rfl) ?_
  refine lv_bipush (v := (9 : Int32)) hx hb dX9_viewsBy_6 (by decide) ?_
  refine lv_iload_n hx hb dX9_viewsBy_8 rfl (lv_at hl 1 rfl) ?_
  refine lv_aload_n hx hb dX9_viewsBy_9 rfl (lv_at hl 0 rfl) ?_
  refine lv_aload_n hx hb dX9_viewsBy_10 rfl (lv_at hl 0 rfl) ?_
  refine va_get (D := D) (ci := 9) (v := .ref a_o_page) (C := RX9) (T := TX9) (N := 26) hx hb hts iX9_viewsBy_X9 hown hK.1 hP 0 rfl rfl 13 (by decide) (hts (.fieldLink RX9 35 "LoneSeatsModel" "page" "[I") (by decide +kernel)) (fun _ h9 => h9) rfl dX9_viewsBy_11 ?_
  obtain ⟨q1, hq2, hf⟩ := pf_b hf
  have hPc := hP.sub (ws' := (WX9_allLone cI cJ cZ cB a_o a_o_text a_o_many a_o_views a_o_aisles a_o_readMany a_o_readViews a_o_readAisles a_o_readPage a_o_page a_o_trial a_o_book a_o_kept a_o_isKept a_o_seenSeat a_o_seenWas a_o_page v_o_thrown v_o_textSize v_o_place v_o_rows v_o_readRows v_o_doings v_o_seen v_o_seed v_o_found v_o_foundViews v_o_foundMany d_o_many d_o_aisles d_o_page)) [0, 1, 3, 4] rfl
  refine cl_roi (va_runV (As := [.ref a_o_page]) (rest := [.int x1, .int (9 : Int32), .int x2, .ref a_o_page, .ref a_o]) ⟨hx, hb, hml, hown, hts⟩ (kX9_allLone l D cI cJ cZ cB a_o a_o_text a_o_many a_o_views a_o_aisles a_o_readMany a_o_readViews a_o_readAisles a_o_readPage a_o_page a_o_trial a_o_book a_o_kept a_o_isKept a_o_seenSeat a_o_seenWas a_o_page v_o_thrown v_o_textSize v_o_place v_o_rows v_o_readRows v_o_doings v_o_seen v_o_seed v_o_found v_o_foundViews v_o_foundMany d_o_many d_o_aisles d_o_page q1 hq2) (cwV 1 hts gX9_viewsBy_X9_allLone rfl rfl rfl (by decide +kernel) ⟨Nat.le_of_ble_eq_true rfl, Nat.le_of_ble_eq_true rfl⟩) ⟨PRo.blind, va_recv hK.1 hPc (ci := 9) (q0 := 0) rfl rfl, PRo.at hK hPc⟩ rfl rfl hl.1 rfl (lv_room (Nat.le_of_ble_eq_true rfl)) dX9_viewsBy_14 ⟨Nat.zero_le _, Nat.zero_le _⟩) ?_
  obtain ⟨q3, hq4, hf⟩ := pf_b hf
  have hPc := hP.sub (ws' := (WX9_findPlace cI cJ cZ cB a_o a_o_text a_o_many a_o_views a_o_aisles a_o_readMany a_o_readViews a_o_readAisles a_o_readPage a_o_page a_o_trial a_o_book a_o_kept a_o_isKept a_o_seenSeat a_o_seenWas a_o_page v_o_thrown v_o_textSize v_o_place v_o_rows v_o_readRows v_o_doings v_o_seen v_o_seed v_o_found v_o_foundViews v_o_foundMany d_o_many d_o_views d_o_aisles d_o_page)) [0, 1, 2, 3, 4] rfl
  have hDc := hD.sub (ws' := (WX9_findPlace cI cJ cZ cB a_o a_o_text a_o_many a_o_views a_o_aisles a_o_readMany a_o_readViews a_o_readAisles a_o_readPage a_o_page a_o_trial a_o_book a_o_kept a_o_isKept a_o_seenSeat a_o_seenWas a_o_page v_o_thrown v_o_textSize v_o_place v_o_rows v_o_readRows v_o_doings v_o_seen v_o_seed v_o_found v_o_foundViews v_o_foundMany d_o_many d_o_views d_o_aisles d_o_page)) [0, 1, 2, 3, 4] (by decide) rfl
  refine cl_rwv (wr := []) (wsN := (WX9_viewsBy cI cJ cZ cB a_o a_o_text a_o_many a_o_views a_o_aisles a_o_readMany a_o_readViews a_o_readAisles a_o_readPage a_o_page a_o_trial a_o_book a_o_kept a_o_isKept a_o_seenSeat a_o_seenWas v_o_thrown v_o_textSize v_o_place v_o_rows v_o_readRows v_o_doings v_o_seen v_o_seed q3.1 q3.2.1 q3.2.2.1 d_o_many d_o_views d_o_aisles q3.2.2.2)) (va_runV (As := [.ref a_o_page, .int x2, .int (9 : Int32), .int x1, .int q1]) (rest := []) ⟨hx, hb, hml, hown, hts⟩ ((kX9_findPlace l D cI cJ cZ cB a_o a_o_text a_o_many a_o_views a_o_aisles a_o_readMany a_o_readViews a_o_readAisles a_o_readPage a_o_page a_o_trial a_o_book a_o_kept a_o_isKept a_o_seenSeat a_o_seenWas a_o_page v_o_thrown v_o_textSize v_o_place v_o_rows v_o_readRows v_o_doings v_o_seen v_o_seed v_o_found v_o_foundViews v_o_foundMany d_o_many d_o_views d_o_aisles d_o_page x2 (9 : Int32) x1 q1 q3 hq4) _) (cwV 5 hts gX9_viewsBy_X9_findPlace rfl rfl rfl (by decide +kernel) ⟨Nat.le_of_ble_eq_true rfl, Nat.le_of_ble_eq_true rfl⟩) ⟨PRw.blind, va_recv hK.1 hPc (ci := 9) (q0 := 0) rfl rfl, PRw.at hK hPc hDc⟩ rfl rfl hl.1 rfl (lv_room (Nat.le_of_ble_eq_true rfl)) dX9_viewsBy_17 ⟨Nat.zero_le _, Nat.zero_le _⟩) hP hD hS hA [0, 1, 2, 3, 4] [] [0, 1, 2, 3, 4] rfl rfl (by decide) (by decide) rfl (by decide) (fun H locs hP hD hS => ?_)
  refine lv_aload_n hx hb dX9_viewsBy_20 rfl (lv_at hl 0 rfl) ?_
  refine va_get (D := D) (ci := 9) (v := .int q3.2.2.1) (C := RX9) (T := TX9) (N := 26) hx hb hts iX9_viewsBy_X9 hown hK.1 hP 0 rfl rfl 25 (by decide) (hts (.fieldLink RX9 137 "LoneSeatsModel" "foundMany" "I") (by decide +kernel)) (fun _ h9 => h9) rfl dX9_viewsBy_21 ?_
  refine lv_if_le (tgt := 34) hx hb dX9_viewsBy_24 (by decide) (fun hc => ?_) (fun hc => ?_)
  · have hf := pf_t hc hf
    refine lv_iconst (v := (0 : Int32)) hx hb dX9_viewsBy_34 (by decide) ?_
    cases hf
    exact W.iret hx hb hr (fun t ht hW => ⟨⟨rfl, by rw [ht]; exact hP, hD⟩, hS.F ht⟩) hS.2.2 dX9_viewsBy_35
  · have hf := pf_f hc hf
    refine lv_aload_n hx hb dX9_viewsBy_27 rfl (lv_at hl 0 rfl) ?_
    refine va_get (D := D) (ci := 9) (v := .int q3.2.1) (C := RX9) (T := TX9) (N := 26) hx hb hts iX9_viewsBy_X9 hown hK.1 hP 0 rfl rfl 24 (by decide) (hts (.fieldLink RX9 134 "LoneSeatsModel" "foundViews" "I") (by decide +kernel)) (fun _ h9 => h9) rfl dX9_viewsBy_28 ?_
    refine lv_goto (tgt := 35) hx hb dX9_viewsBy_31 (by decide) ?_
    cases hf
    exact W.iret hx hb hr (fun t ht hW => ⟨⟨rfl, by rw [ht]; exact hP, hD⟩, hS.F ht⟩) hS.2.2 dX9_viewsBy_35
