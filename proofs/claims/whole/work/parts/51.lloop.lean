/-! the law: its loop -/
theorem l_and31 (x : Int32) : ∃ k, k < 32 ∧ x &&& (31 : Int32) = nI k := by
  have h : x = nI x.toBitVec.toNat := by
    refine Int32.toBitVec_inj.mp ?_
    show x.toBitVec = (Int32.ofNat x.toBitVec.toNat).toBitVec
    rw [Int32.toBitVec_ofNat']
    simp
  refine ⟨x.toBitVec.toNat % 2 ^ 5, Nat.mod_lt _ (by decide), ?_⟩
  rw [← fa_mask, ← h]
  rfl
theorem l_end {L i : Nat} (hL : L ≤ 2560) (hi : i ≤ L) (hc : ¬ Int32.ofNat L - (5 : Int32) < nI i) : i + 5 ≤ L := by
  rcases Nat.lt_or_ge L (i + 5) with h | h
  · refine absurd ?_ hc
    rw [fa_lt]
    have e1 := subI_toInt (a := L) (b := 5) (by omega) (by decide)
    have e2 := toInt_nI (n := i) (by omega)
    have e3 : (Int32.ofNat L - (5 : Int32)).toInt = (L : Int) - 5 := e1
    rw [e3, e2]
    omega
  · exact h
set_option maxRecDepth 100000 in
set_option maxHeartbeats 4000000 in
theorem l_loop {p : Program} {l : Launch} {e : Env} {s : State} {m : MethodId} {below : List Frame} {meth : Method} {c : Code} {b L : Nat} {xs : Nat → Int32} {D : va_G} {cI cJ cZ cB : ClassId} {A : Nat → Prop} {tF : Nat} {ad : Nat → Nat} {pa : Nat → Nat → Nat} (C : LawC p s m meth c b L xs D cI cJ cZ cB A tF) (hAs : ∀ q : Nat, A q → s.heap.size ≤ q) : ∀ (n i : Nat), i ≤ L → L + 1 ≤ i + n → ∀ (H : Heap) (locs : List Loc) (ls : Array Slot), LawS D cI cJ cZ cB A s.heap ad pa H locs → lv_has ls 4 [(3, .int (nI i)), (2, .ref (ad 41)), (1, .ref (ad 0)), (0, .ref b)] → W p l e room_1 s m #[Value.ref b] below meth c H locs 600000 7302250 (lw_Z below #[Value.ref b] s) (F0 m 18 ls []) := by
  intro n
  induction n with
  | zero => intro i h1 h2; omega
  | succ n ih =>
    intro i hi hn H locs ls h0 hl
    obtain ⟨⟨hx, hb, hr, hml, hts, hown, hlk⟩, hK, hA, hbA, hX, hbl, hZ, hT, hL⟩ := id C
    obtain ⟨t, R, x, u, o, sd, d_p1_text_letters, v_p1_sketch_rows, v_p1_sketch_awaited, d_p1_sketch_prices, d_p1_sketch_seats, d_p1_sketch_joined, d_p1_sketch_views, v_p1_plan_awaited, d_p1_plan_prices, d_p1_plan_seats, d_p1_plan_joined, d_p1_plan_views, v_p1_now_asked, v_p1_now_waiting, v_p1_now_fee, v_p1_now_takings, d_p1_now_prices, d_p1_now_free, d_p1_now_sizes, d_p1_now_limits, d_p1_now_places, d_p1_now_paid, d_p1_now_queue, v_p1_copy_asked, v_p1_copy_waiting, v_p1_copy_fee, v_p1_copy_takings, d_p1_copy_prices, d_p1_copy_free, d_p1_copy_sizes, d_p1_copy_limits, d_p1_copy_places, d_p1_copy_paid, d_p1_copy_queue, d_p1_slots_filled, d_p1_sights_rows, d_p1_sights_seats, d_p1_sights_occupied, v_p1_finder_places, v_p1_finder_place, v_p1_finder_quality, v_p1_finder_price, v_p1_odds_whole, d_p1_odds_weights, v_p2_thrown, v_p2_place, v_p2_readRows, v_p2_found, v_p2_foundViews, v_p2_foundMany, d_p2_text, d_p2_many, d_p2_views, d_p2_aisles, d_p2_readMany, d_p2_readViews, d_p2_readAisles, d_p2_readPage, d_p2_page, d_p2_trial, d_p2_book, d_p2_kept, d_p2_isKept, d_p2_seenSeat, d_p2_seenWas, pA, pV, hTx, hI, hSi, hP, hD, hS⟩ := id h0
    refine lv_iload_n hx hb dL_law_18 rfl (lv_at hl 0 rfl) ?_
    refine lv_aload_n hx hb dL_law_19 rfl (lv_at hl 3 rfl) ?_
    refine va_slen hx hb hX hbl hbA hS dL_law_20 ?_
    refine lv_iconst (v := (5 : Int32)) hx hb dL_law_21 (by decide) ?_
    refine lv_isub hx hb dL_law_22 ?_
    refine lv_icmp_gt (tgt := 1003) hx hb dL_law_23 (by decide) (fun hc => ?_) (fun hc => ?_)
    · refine lv_iconst (v := 1) hx hb dL_law_1003 (by decide) ?_
      refine va_forget (fun q hq => hAs _ (hS.2.2 q hq)) ?_
      exact lw_ret hx hb hr hlk dL_law_1004
    · have h5 : i + 5 ≤ L := l_end hL hi hc
      have kk : ∀ (H : Heap) (locs : List Loc), LawS D cI cJ cZ cB A s.heap ad pa H locs → W p l e room_1 s m #[Value.ref b] below meth c H locs 600000 7302250 (lw_Z below #[Value.ref b] s) (F0 m 997 ls []) := fun H locs h => by
        refine lv_iinc (v := nI (i + 5)) (lv' := [(3, .int (nI (i + 5))), (2, .ref (ad 41)), (1, .ref (ad 0)), (0, .ref b)]) hx hb dL_law_997 hl (k := 0) rfl (pl5 i) (by decide) rfl (fun ls hl => ?_)
        refine lv_goto (tgt := 18) hx hb dL_law_1000 (by decide) ?_
        exact ih (i + 5) (by omega) (by omega) H locs ls h hl
      refine lv_aload_n hx hb dL_law_26 rfl (lv_at hl 3 rfl) ?_
      refine lv_iload_n hx hb dL_law_27 rfl (lv_at hl 0 rfl) ?_
      refine va_sld hx hb hX hbl hbA hS (vp_in_nI (show i < L by omega) (by omega)) dL_law_28 ?_
      refine lv_bipush (v := (31 : Int32)) hx hb dL_law_29 (by decide) ?_
      refine lv_iand hx hb dL_law_31 ?_
      obtain ⟨k, hk, hv⟩ := l_and31 (xs (nI i).toNatClampNeg)
      rw [hv]
      rcases (show k = 0 ∨ k = 1 ∨ k = 2 ∨ k = 3 ∨ k = 4 ∨ k = 5 ∨ k = 6 ∨ k = 7 ∨ k = 8 ∨ k = 9 ∨ k = 10 ∨ k = 11 ∨ k = 12 ∨ k = 13 ∨ k = 14 ∨ k = 15 ∨ k = 16 ∨ k = 17 ∨ k = 18 ∨ k = 19 ∨ k = 20 ∨ k = 21 ∨ k = 22 ∨ k = 23 ∨ k = 24 ∨ k = 25 ∨ k = 26 ∨ k = 27 ∨ 28 ≤ k by omega) with rfl | rfl | rfl | rfl | rfl | rfl | rfl | rfl | rfl | rfl | rfl | rfl | rfl | rfl | rfl | rfl | rfl | rfl | rfl | rfl | rfl | rfl | rfl | rfl | rfl | rfl | rfl | rfl | h28
      · refine lv_tableIn (tgt := 160) (off := 128) hx hb dL_law_32 (by decide) (by decide) (by decide) (by decide) ?_
        exact lo_write C h5 hTx hI hSi hP hD hS hl kk
      · refine lv_tableIn (tgt := 183) (off := 151) hx hb dL_law_32 (by decide) (by decide) (by decide) (by decide) ?_
        exact lo_wipe C h5 hTx hI hSi hP hD hS hl kk
      · refine lv_tableIn (tgt := 196) (off := 164) hx hb dL_law_32 (by decide) (by decide) (by decide) (by decide) ?_
        exact lo_fault C h5 hTx hI hSi hP hD hS hl kk
      · refine lv_tableIn (tgt := 209) (off := 177) hx hb dL_law_32 (by decide) (by decide) (by decide) (by decide) ?_
        exact lo_hall C h5 hTx hI hSi hP hD hS hl kk
      · refine lv_tableIn (tgt := 222) (off := 190) hx hb dL_law_32 (by decide) (by decide) (by decide) (by decide) ?_
        exact lo_row C h5 hTx hI hSi hP hD hS hl kk
      · refine lv_tableIn (tgt := 255) (off := 223) hx hb dL_law_32 (by decide) (by decide) (by decide) (by decide) ?_
        exact lo_seat C h5 hTx hI hSi hP hD hS hl kk
      · refine lv_tableIn (tgt := 298) (off := 266) hx hb dL_law_32 (by decide) (by decide) (by decide) (by decide) ?_
        exact lo_party C h5 hTx hI hSi hP hD hS hl kk
      · refine lv_tableIn (tgt := 331) (off := 299) hx hb dL_law_32 (by decide) (by decide) (by decide) (by decide) ?_
        exact lo_ask C h5 hTx hI hSi hP hD hS hl kk
      · refine lv_tableIn (tgt := 364) (off := 332) hx hb dL_law_32 (by decide) (by decide) (by decide) (by decide) ?_
        exact lo_giveBack C h5 hTx hI hSi hP hD hS hl kk
      · refine lv_tableIn (tgt := 387) (off := 355) hx hb dL_law_32 (by decide) (by decide) (by decide) (by decide) ?_
        exact lo_leave C h5 hTx hI hSi hP hD hS hl kk
      · refine lv_tableIn (tgt := 410) (off := 378) hx hb dL_law_32 (by decide) (by decide) (by decide) (by decide) ?_
        exact lo_shift C h5 hTx hI hSi hP hD hS hl kk
      · refine lv_tableIn (tgt := 433) (off := 401) hx hb dL_law_32 (by decide) (by decide) (by decide) (by decide) ?_
        exact lo_price C h5 hTx hI hSi hP hD hS hl kk
      · refine lv_tableIn (tgt := 466) (off := 434) hx hb dL_law_32 (by decide) (by decide) (by decide) (by decide) ?_
        exact lo_fee C h5 hTx hI hSi hP hD hS hl kk
      · refine lv_tableIn (tgt := 489) (off := 457) hx hb dL_law_32 (by decide) (by decide) (by decide) (by decide) ?_
        exact lo_undo C h5 hTx hI hSi hP hD hS hl kk
      · refine lv_tableIn (tgt := 502) (off := 470) hx hb dL_law_32 (by decide) (by decide) (by decide) (by decide) ?_
        exact lo_best C h5 hTx hI hSi hP hD hS hl kk
      · refine lv_tableIn (tgt := 545) (off := 513) hx hb dL_law_32 (by decide) (by decide) (by decide) (by decide) ?_
        exact lo_room C h5 hTx hI hSi hP hD hS hl kk
      · refine lv_tableIn (tgt := 568) (off := 536) hx hb dL_law_32 (by decide) (by decide) (by decide) (by decide) ?_
        exact lo_waits C h5 hTx hI hSi hP hD hS hl kk
      · refine lv_tableIn (tgt := 591) (off := 559) hx hb dL_law_32 (by decide) (by decide) (by decide) (by decide) ?_
        exact lo_judge C h5 hTx hI hSi hP hD hS hl kk
      · refine lv_tableIn (tgt := 654) (off := 622) hx hb dL_law_32 (by decide) (by decide) (by decide) (by decide) ?_
        exact lo_see C h5 hTx hI hSi hP hD hS hl kk
      · refine lv_tableIn (tgt := 697) (off := 665) hx hb dL_law_32 (by decide) (by decide) (by decide) (by decide) ?_
        exact lo_unsee C h5 hTx hI hSi hP hD hS hl kk
      · refine lv_tableIn (tgt := 710) (off := 678) hx hb dL_law_32 (by decide) (by decide) (by decide) (by decide) ?_
        exact lo_which C h5 hTx hI hSi hP hD hS hl kk
      · refine lv_tableIn (tgt := 723) (off := 691) hx hb dL_law_32 (by decide) (by decide) (by decide) (by decide) ?_
        exact lo_share C h5 hTx hI hSi hP hD hS hl kk
      · refine lv_tableIn (tgt := 782) (off := 750) hx hb dL_law_32 (by decide) (by decide) (by decide) (by decide) ?_
        exact lo_away C h5 hTx hI hSi hP hD hS hl kk
      · refine lv_tableIn (tgt := 851) (off := 819) hx hb dL_law_32 (by decide) (by decide) (by decide) (by decide) ?_
        exact lo_seed C h5 hTx hI hSi hP hD hS hl kk
      · refine lv_tableIn (tgt := 905) (off := 873) hx hb dL_law_32 (by decide) (by decide) (by decide) (by decide) ?_
        exact lo_drawn C h5 hTx hI hSi hP hD hS hl kk
      · refine lv_tableIn (tgt := 928) (off := 896) hx hb dL_law_32 (by decide) (by decide) (by decide) (by decide) ?_
        exact lo_keep C h5 hTx hI hSi hP hD hS hl kk
      · refine lv_tableIn (tgt := 951) (off := 919) hx hb dL_law_32 (by decide) (by decide) (by decide) (by decide) ?_
        exact lo_again C h5 hTx hI hSi hP hD hS hl kk
      · refine lv_tableIn (tgt := 974) (off := 942) hx hb dL_law_32 (by decide) (by decide) (by decide) (by decide) ?_
        exact lo_count C h5 hTx hI hSi hP hD hS hl kk
      · refine lv_tableOut (tgt := 997) hx hb dL_law_32 (Or.inr (by rw [toInt_nI (by omega)]; omega)) (by decide) ?_
        exact kk H locs h0
