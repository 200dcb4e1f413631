abbrev WX9_share (cI cJ cZ cB : ClassId) (a_o : Nat) (a_o_text : Nat) (a_o_many : Nat) (a_o_views : Nat) (a_o_aisles : Nat) (a_o_readMany : Nat) (a_o_readViews : Nat) (a_o_readAisles : Nat) (a_o_readPage : Nat) (a_o_page : Nat) (a_o_trial : Nat) (a_o_book : Nat) (a_o_kept : Nat) (a_o_isKept : Nat) (a_o_seenSeat : Nat) (a_o_seenWas : Nat) (v_o_thrown : Int32) (v_o_textSize : Int32) (v_o_place : Int32) (v_o_rows : Int32) (v_o_readRows : Int32) (v_o_doings : Int32) (v_o_seen : Int32) (v_o_seed : Int64) (v_o_found : Int32) (v_o_foundViews : Int32) (v_o_foundMany : Int32) (d_o_many : (Nat → Int32)) (d_o_views : (Nat → Int32)) (d_o_aisles : (Nat → Int32)) (d_o_page : (Nat → Int32)) : va_W := [(a_o, .inr (9, [.int v_o_thrown, .ref a_o_text, .int v_o_textSize, .int v_o_place, .int v_o_rows, .ref a_o_many, .ref a_o_views, .ref a_o_aisles, .int v_o_readRows, .ref a_o_readMany, .ref a_o_readViews, .ref a_o_readAisles, .ref a_o_readPage, .ref a_o_page, .ref a_o_trial, .ref a_o_book, .int v_o_doings, .ref a_o_kept, .ref a_o_isKept, .int v_o_seen, .ref a_o_seenSeat, .ref a_o_seenWas, .long v_o_seed, .int v_o_found, .int v_o_foundViews, .int v_o_foundMany])), (a_o_many, .inl (cI, (4, .inl d_o_many))), (a_o_views, .inl (cI, (36, .inl d_o_views))), (a_o_aisles, .inl (cZ, (36, .inl d_o_aisles))), (a_o_page, .inl (cI, (229, .inl d_o_page)))]
set_option maxRecDepth 20000 in
theorem iX9_share_X9 : ∀ w ∈ wsX90, w ∈ wsX9_share := by decide +kernel
def fX9_share_36 : Nat → Int32 → Int32 → Int32 → Int32 → Int32 → (Nat → Int32) → (Nat → Int32) → (Nat → Int32) → (Nat → Int32) → Int32 → Int32 → Int32 → Int32 → Int32 → Option (Int32 × Int32 × Int32 × Int32 × Int32 × (Nat → Int32))
  | 0, _, _, _, _, _, _, _, _, _, _, _, _, _, _ => none
  | n + 1, v_o_thrown, v_o_rows, v_o_found, v_o_foundViews, v_o_foundMany, d_o_many, d_o_views, d_o_aisles, d_o_page, x1, x2, x3, x4, x5 => (if ((1 : Int32) <<< (v_o_rows &&& 31)) ≤ x5 then ((fX9_factorial v_o_rows).bind fun q1 => ((fX9_fraction x4 q1 x3).bind fun q3 => some (q3, v_o_thrown, v_o_found, v_o_foundViews, v_o_foundMany, d_o_page))) else ((fX9_ones x5).bind fun q5 => ((fX9_has x5 x1).bind fun q7 => (if q7 = 0 then ((fX9_factorial q5).bind fun q9 => ((fX9_factorial ((v_o_rows - (1 : Int32)) - q5)).bind fun q11 => ((fX9_viewsBy v_o_rows v_o_found v_o_foundViews v_o_foundMany d_o_many d_o_views d_o_aisles d_o_page (x5 ||| ((1 : Int32) <<< (x1 &&& 31))) x2).bind fun q13 => ((fX9_viewsBy v_o_rows q13.2.1 q13.2.2.1 q13.2.2.2.1 d_o_many d_o_views d_o_aisles q13.2.2.2.2 x5 x2).bind fun q15 => fX9_share_36 n v_o_thrown v_o_rows q15.2.1 q15.2.2.1 q15.2.2.2.1 d_o_many d_o_views d_o_aisles q15.2.2.2.2 x1 x2 x3 (x4 + ((q9 * q11) * (q13.1 - q15.1))) (x5 + (1 : Int32)))))) else fX9_share_36 n v_o_thrown v_o_rows v_o_found v_o_foundViews v_o_foundMany d_o_many d_o_views d_o_aisles d_o_page x1 x2 x3 (x4 + (0 : Int32)) (x5 + (1 : Int32))))))
set_option maxRecDepth 100000 in
set_option maxHeartbeats 4000000 in
theorem tX9_share_36 {p : Program} {l : Launch} {e : Env} {s : State} {m : MethodId} {args : Array Value} {below : List Frame} {meth : Method} {c : Code} {D : va_G} {cI cJ cZ cB : ClassId} {a_o : Nat} {a_o_text : Nat} {a_o_many : Nat} {a_o_views : Nat} {a_o_aisles : Nat} {a_o_readMany : Nat} {a_o_readViews : Nat} {a_o_readAisles : Nat} {a_o_readPage : Nat} {a_o_page : Nat} {a_o_trial : Nat} {a_o_book : Nat} {a_o_kept : Nat} {a_o_isKept : Nat} {a_o_seenSeat : Nat} {a_o_seenWas : Nat} {A : Nat → Prop} (C : Cx p s m args meth c cX9_share 7 (some .int) wsX9_share RX9) (hK : Kw D (tyL cI cJ cZ cB) s) (hA : ∀ q : Nat, s.heap.size ≤ q → A q) : ∀ (n : Nat), ∀ (v_o_thrown : Int32) (v_o_textSize : Int32) (v_o_place : Int32) (v_o_rows : Int32) (v_o_readRows : Int32) (v_o_doings : Int32) (v_o_seen : Int32) (v_o_seed : Int64) (v_o_found : Int32) (v_o_foundViews : Int32) (v_o_foundMany : Int32) (d_o_many : (Nat → Int32)) (d_o_views : (Nat → Int32)) (d_o_aisles : (Nat → Int32)) (d_o_page : (Nat → Int32)) (x1 : Int32) (x2 : Int32) (x3 : Int32) (x4 : Int32) (x5 : Int32) (H : Heap) (locs : List Loc) (ls : Array Slot) (res : Int32 × Int32 × Int32 × Int32 × Int32 × (Nat → Int32)), va_P D vwCl (WX9_share cI cJ cZ cB a_o a_o_text a_o_many a_o_views a_o_aisles a_o_readMany a_o_readViews a_o_readAisles a_o_readPage a_o_page a_o_trial a_o_book a_o_kept a_o_isKept a_o_seenSeat a_o_seenWas v_o_thrown v_o_textSize v_o_place v_o_rows v_o_readRows v_o_doings v_o_seen v_o_seed v_o_found v_o_foundViews v_o_foundMany d_o_many d_o_views d_o_aisles d_o_page) H → va_D A (WX9_share cI cJ cZ cB a_o a_o_text a_o_many a_o_views a_o_aisles a_o_readMany a_o_readViews a_o_readAisles a_o_readPage a_o_page a_o_trial a_o_book a_o_kept a_o_isKept a_o_seenSeat a_o_seenWas v_o_thrown v_o_textSize v_o_place v_o_rows v_o_readRows v_o_doings v_o_seen v_o_seed v_o_found v_o_foundViews v_o_foundMany d_o_many d_o_views d_o_aisles d_o_page) → va_S A s.heap H locs → lv_has ls 7 [(0, .ref a_o), (1, .int x1), (2, .int x2), (3, .int x3), (4, .int x4), (5, .int x5)] → fX9_share_36 n v_o_thrown v_o_rows v_o_found v_o_foundViews v_o_foundMany d_o_many d_o_views d_o_aisles d_o_page x1 x2 x3 x4 x5 = some res → W p l e ({ frames := 7, cells := 0, slots := 0, locals := 173 } : Room) s m args below meth c H locs 0 0 (MQ below (QRw D A (WX9_share cI cJ cZ cB a_o a_o_text a_o_many a_o_views a_o_aisles a_o_readMany a_o_readViews a_o_readAisles a_o_readPage a_o_page a_o_trial a_o_book a_o_kept a_o_isKept a_o_seenSeat a_o_seenWas res.2.1 v_o_textSize v_o_place v_o_rows v_o_readRows v_o_doings v_o_seen v_o_seed res.2.2.1 res.2.2.2.1 res.2.2.2.2.1 d_o_many d_o_views d_o_aisles res.2.2.2.2.2) (some (.int res.1))) args s 0 0 A) (F0 m 36 ls []) := by
  obtain ⟨hx, hb, hr, hml, hts, hown, hlk⟩ := id C
  intro n
  induction n with
  | zero =>
    intro v_o_thrown v_o_textSize v_o_place v_o_rows v_o_readRows v_o_doings v_o_seen v_o_seed v_o_found v_o_foundViews v_o_foundMany d_o_many d_o_views d_o_aisles d_o_page x1 x2 x3 x4 x5 H locs ls res hP hD hS hl hf
    rw [fX9_share_36] at hf
    cases hf
  | succ n ih =>
    intro v_o_thrown v_o_textSize v_o_place v_o_rows v_o_readRows v_o_doings v_o_seen v_o_seed v_o_found v_o_foundViews v_o_foundMany d_o_many d_o_views d_o_aisles d_o_page x1 x2 x3 x4 x5 H locs ls res hP hD hS hl hf
    rw [fX9_share_36] at hf
    refine lv_iload hx hb dX9_share_36 (lv_at hl 5 rfl) ?_
    refine lv_iconst (v := (1 : Int32)) hx hb dX9_share_38 (by decide) ?_
    refine lv_aload_n hx hb dX9_share_39 rfl (lv_at hl 0 rfl) ?_
    refine va_get (D := D) (ci := 9) (v := .int v_o_rows) (C := RX9) (T := TX9) (N := 26) hx hb hts iX9_share_X9 hown hK.1 hP 0 rfl rfl 4 (by decide) (hts (.fieldLink RX9 63 "LoneSeatsModel" "rows" "I") (by decide +kernel)) (fun _ h9 => h9) rfl dX9_share_40 ?_
    refine lv_ishl hx hb dX9_share_43 ?_
    refine lv_icmp_ge (tgt := 116) hx hb dX9_share_44 (by decide) (fun hc => ?_) (fun hc => ?_)
    · have hf := pf_t hc hf
      refine lv_iload hx hb dX9_share_116 (lv_at hl 4 rfl) ?_
      refine lv_aload_n hx hb dX9_share_118 rfl (lv_at hl 0 rfl) ?_
      refine va_get (D := D) (ci := 9) (v := .int v_o_rows) (C := RX9) (T := TX9) (N := 26) hx hb hts iX9_share_X9 hown hK.1 hP 0 rfl rfl 4 (by decide) (hts (.fieldLink RX9 63 "LoneSeatsModel" "rows" "I") (by decide +kernel)) (fun _ h9 => h9) rfl dX9_share_119 ?_
      obtain ⟨q1, hq2, hf⟩ := pf_b hf
      have hPc := hP.sub (ws' := ([] : va_W)) [] rfl
      refine cl_roi (va_runS (As := [.int v_o_rows]) (rest := [.int x4]) ⟨hx, hb, hml, hown, hts⟩ (kX9_factorial l D cI cJ cZ cB v_o_rows q1 hq2) (va_cwS 1 hts gX9_share_X9_factorial rfl rfl rfl (by decide +kernel) ⟨Nat.le_of_ble_eq_true rfl, Nat.le_of_ble_eq_true rfl⟩) ⟨PRo.blind, PRo.at hK hPc⟩ rfl rfl hl.1 rfl (lv_room (Nat.le_of_ble_eq_true rfl)) dX9_share_122 ⟨Nat.zero_le _, Nat.zero_le _⟩) ?_
      refine lv_iload_n hx hb dX9_share_125 rfl (lv_at hl 3 rfl) ?_
      obtain ⟨q3, hq4, hf⟩ := pf_b hf
      have hPc := hP.sub (ws' := ([] : va_W)) [] rfl
      refine cl_roi (va_runS (As := [.int x4, .int q1, .int x3]) (rest := []) ⟨hx, hb, hml, hown, hts⟩ (kX9_fraction l D cI cJ cZ cB x4 q1 x3 q3 hq4) (va_cwS 3 hts gX9_share_X9_fraction rfl rfl rfl (by decide +kernel) ⟨Nat.le_of_ble_eq_true rfl, Nat.le_of_ble_eq_true rfl⟩) ⟨PRo.blind, PRo.at hK hPc⟩ rfl rfl hl.1 rfl (lv_room (Nat.le_of_ble_eq_true rfl)) dX9_share_126 ⟨Nat.zero_le _, Nat.zero_le _⟩) ?_
      cases hf
      exact W.iret hx hb hr (fun t ht hW => ⟨⟨rfl, by rw [ht]; exact hP, hD⟩, hS.F ht⟩) hS.2.2 dX9_share_129
    · have hf := pf_f hc hf
      refine lv_iload hx hb dX9_share_47 (lv_at hl 5 rfl) ?_
      obtain ⟨q5, hq6, hf⟩ := pf_b hf
      have hPc := hP.sub (ws' := ([] : va_W)) [] rfl
      refine cl_roi (va_runS (As := [.int x5]) (rest := []) ⟨hx, hb, hml, hown, hts⟩ (kX9_ones l D cI cJ cZ cB x5 q5 hq6) (va_cwS 1 hts gX9_share_X9_ones rfl rfl rfl (by decide +kernel) ⟨Nat.le_of_ble_eq_true rfl, Nat.le_of_ble_eq_true rfl⟩) ⟨PRo.blind, PRo.at hK hPc⟩ rfl rfl hl.1 rfl (lv_room (Nat.le_of_ble_eq_true rfl)) dX9_share_49 ⟨Nat.zero_le _, Nat.zero_le _⟩) ?_
      refine lv_istore (lv' := [(6, .int q5), (0, .ref a_o), (1, .int x1), (2, .int x2), (3, .int x3), (4, .int x4), (5, .int x5)]) hx hb dX9_share_52 hl (by decide) rfl (fun ls hl => ?_)
      refine lv_iload hx hb dX9_share_54 (lv_at hl 5 rfl) ?_
      refine lv_iload hx hb dX9_share_56 (lv_at hl 6 rfl) ?_
      refine lv_iload_n hx hb dX9_share_58 rfl (lv_at hl 2 rfl) ?_
      obtain ⟨q7, hq8, hf⟩ := pf_b hf
      have hPc := hP.sub (ws' := ([] : va_W)) [] rfl
      refine cl_roi (va_runS (As := [.int x5, .int x1]) (rest := [.int x4]) ⟨hx, hb, hml, hown, hts⟩ (kX9_has l D cI cJ cZ cB x5 x1 q7 hq8) (va_cwS 2 hts gX9_share_X9_has rfl rfl rfl (by decide +kernel) ⟨Nat.le_of_ble_eq_true rfl, Nat.le_of_ble_eq_true rfl⟩) ⟨PRo.blind, PRo.at hK hPc⟩ rfl rfl hl.1 rfl (lv_room (Nat.le_of_ble_eq_true rfl)) dX9_share_59 ⟨Nat.zero_le _, Nat.zero_le _⟩) ?_
      refine lv_if_eq (tgt := 69) hx hb dX9_share_62 (by decide) (fun hc => ?_) (fun hc => ?_)
      · have hf := pf_t hc hf
        refine lv_iload hx hb dX9_share_69 (lv_at hl 0 rfl) ?_
        obtain ⟨q9, hq10, hf⟩ := pf_b hf
        have hPc := hP.sub (ws' := ([] : va_W)) [] rfl
        refine cl_roi (va_runS (As := [.int q5]) (rest := [.int x4]) ⟨hx, hb, hml, hown, hts⟩ (kX9_factorial l D cI cJ cZ cB q5 q9 hq10) (va_cwS 1 hts gX9_share_X9_factorial rfl rfl rfl (by decide +kernel) ⟨Nat.le_of_ble_eq_true rfl, Nat.le_of_ble_eq_true rfl⟩) ⟨PRo.blind, PRo.at hK hPc⟩ rfl rfl hl.1 rfl (lv_room (Nat.le_of_ble_eq_true rfl)) dX9_share_71 ⟨Nat.zero_le _, Nat.zero_le _⟩) ?_
        refine lv_aload_n hx hb dX9_share_74 rfl (lv_at hl 1 rfl) ?_
        refine va_get (D := D) (ci := 9) (v := .int v_o_rows) (C := RX9) (T := TX9) (N := 26) hx hb hts iX9_share_X9 hown hK.1 hP 0 rfl rfl 4 (by decide) (hts (.fieldLink RX9 63 "LoneSeatsModel" "rows" "I") (by decide +kernel)) (fun _ h9 => h9) rfl dX9_share_75 ?_
        refine lv_iconst (v := (1 : Int32)) hx hb dX9_share_78 (by decide) ?_
        refine lv_isub hx hb dX9_share_79 ?_
        refine lv_iload hx hb dX9_share_80 (lv_at hl 0 rfl) ?_
        refine lv_isub hx hb dX9_share_82 ?_
        obtain ⟨q11, hq12, hf⟩ := pf_b hf
        have hPc := hP.sub (ws' := ([] : va_W)) [] rfl
        refine cl_roi (va_runS (As := [.int ((v_o_rows - (1 : Int32)) - q5)]) (rest := [.int q9, .int x4]) ⟨hx, hb, hml, hown, hts⟩ (kX9_factorial l D cI cJ cZ cB ((v_o_rows - (1 : Int32)) - q5) q11 hq12) (va_cwS 1 hts gX9_share_X9_factorial rfl rfl rfl (by decide +kernel) ⟨Nat.le_of_ble_eq_true rfl, Nat.le_of_ble_eq_true rfl⟩) ⟨PRo.blind, PRo.at hK hPc⟩ rfl rfl hl.1 rfl (lv_room (Nat.le_of_ble_eq_true rfl)) dX9_share_83 ⟨Nat.zero_le _, Nat.zero_le _⟩) ?_
        refine lv_imul hx hb dX9_share_86 ?_
        refine lv_aload_n hx hb dX9_share_87 rfl (lv_at hl 1 rfl) ?_
        refine lv_iload hx hb dX9_share_88 (lv_at hl 6 rfl) ?_
        refine lv_iconst (v := (1 : Int32)) hx hb dX9_share_90 (by decide) ?_
        refine lv_iload_n hx hb dX9_share_91 rfl (lv_at hl 2 rfl) ?_
        refine lv_ishl hx hb dX9_share_92 ?_
        refine lv_ior hx hb dX9_share_93 ?_
        refine lv_iload_n hx hb dX9_share_94 rfl (lv_at hl 3 rfl) ?_
        obtain ⟨q13, hq14, hf⟩ := pf_b hf
        have hPc := hP.sub (ws' := (WX9_viewsBy cI cJ cZ cB a_o a_o_text a_o_many a_o_views a_o_aisles a_o_readMany a_o_readViews a_o_readAisles a_o_readPage a_o_page a_o_trial a_o_book a_o_kept a_o_isKept a_o_seenSeat a_o_seenWas v_o_thrown v_o_textSize v_o_place v_o_rows v_o_readRows v_o_doings v_o_seen v_o_seed v_o_found v_o_foundViews v_o_foundMany d_o_many d_o_views d_o_aisles d_o_page)) [0, 1, 2, 3, 4] rfl
        have hDc := hD.sub (ws' := (WX9_viewsBy cI cJ cZ cB a_o a_o_text a_o_many a_o_views a_o_aisles a_o_readMany a_o_readViews a_o_readAisles a_o_readPage a_o_page a_o_trial a_o_book a_o_kept a_o_isKept a_o_seenSeat a_o_seenWas v_o_thrown v_o_textSize v_o_place v_o_rows v_o_readRows v_o_doings v_o_seen v_o_seed v_o_found v_o_foundViews v_o_foundMany d_o_many d_o_views d_o_aisles d_o_page)) [0, 1, 2, 3, 4] (by decide) rfl
        refine cl_rwi (wr := []) (wsN := (WX9_share cI cJ cZ cB a_o a_o_text a_o_many a_o_views a_o_aisles a_o_readMany a_o_readViews a_o_readAisles a_o_readPage a_o_page a_o_trial a_o_book a_o_kept a_o_isKept a_o_seenSeat a_o_seenWas v_o_thrown v_o_textSize v_o_place v_o_rows v_o_readRows v_o_doings v_o_seen v_o_seed q13.2.1 q13.2.2.1 q13.2.2.2.1 d_o_many d_o_views d_o_aisles q13.2.2.2.2)) (va_runV (As := [.int (x5 ||| ((1 : Int32) <<< (x1 &&& 31))), .int x2]) (rest := [.int (q9 * q11), .int x4]) ⟨hx, hb, hml, hown, hts⟩ ((kX9_viewsBy l D cI cJ cZ cB a_o a_o_text a_o_many a_o_views a_o_aisles a_o_readMany a_o_readViews a_o_readAisles a_o_readPage a_o_page a_o_trial a_o_book a_o_kept a_o_isKept a_o_seenSeat a_o_seenWas v_o_thrown v_o_textSize v_o_place v_o_rows v_o_readRows v_o_doings v_o_seen v_o_seed v_o_found v_o_foundViews v_o_foundMany d_o_many d_o_views d_o_aisles d_o_page (x5 ||| ((1 : Int32) <<< (x1 &&& 31))) x2 q13 hq14) _) (cwV 2 hts gX9_share_X9_viewsBy rfl rfl rfl (by decide +kernel) ⟨Nat.le_of_ble_eq_true rfl, Nat.le_of_ble_eq_true rfl⟩) ⟨PRw.blind, va_recv hK.1 hPc (ci := 9) (q0 := 0) rfl rfl, PRw.at hK hPc hDc⟩ rfl rfl hl.1 rfl (lv_room (Nat.le_of_ble_eq_true rfl)) dX9_share_95 ⟨Nat.zero_le _, Nat.zero_le _⟩) hP hD hS hA [0, 1, 2, 3, 4] [] [0, 1, 2, 3, 4] rfl rfl (by decide) (by decide) rfl (by decide) (fun H locs hP hD hS => ?_)
        refine lv_aload_n hx hb dX9_share_98 rfl (lv_at hl 1 rfl) ?_
        refine lv_iload hx hb dX9_share_99 (lv_at hl 6 rfl) ?_
        refine lv_iload_n hx hb dX9_share_101 rfl (lv_at hl 3 rfl) ?_
        obtain ⟨q15, hq16, hf⟩ := pf_b hf
        have hPc := hP.sub (ws' := (WX9_viewsBy cI cJ cZ cB a_o a_o_text a_o_many a_o_views a_o_aisles a_o_readMany a_o_readViews a_o_readAisles a_o_readPage a_o_page a_o_trial a_o_book a_o_kept a_o_isKept a_o_seenSeat a_o_seenWas v_o_thrown v_o_textSize v_o_place v_o_rows v_o_readRows v_o_doings v_o_seen v_o_seed q13.2.1 q13.2.2.1 q13.2.2.2.1 d_o_many d_o_views d_o_aisles q13.2.2.2.2)) [0, 1, 2, 3, 4] rfl
        have hDc := hD.sub (ws' := (WX9_viewsBy cI cJ cZ cB a_o a_o_text a_o_many a_o_views a_o_aisles a_o_readMany a_o_readViews a_o_readAisles a_o_readPage a_o_page a_o_trial a_o_book a_o_kept a_o_isKept a_o_seenSeat a_o_seenWas v_o_thrown v_o_textSize v_o_place v_o_rows v_o_readRows v_o_doings v_o_seen v_o_seed q13.2.1 q13.2.2.1 q13.2.2.2.1 d_o_many d_o_views d_o_aisles q13.2.2.2.2)) [0, 1, 2, 3, 4] (by decide) rfl
        refine cl_rwi (wr := []) (wsN := (WX9_share cI cJ cZ cB a_o a_o_text a_o_many a_o_views a_o_aisles a_o_readMany a_o_readViews a_o_readAisles a_o_readPage a_o_page a_o_trial a_o_book a_o_kept a_o_isKept a_o_seenSeat a_o_seenWas v_o_thrown v_o_textSize v_o_place v_o_rows v_o_readRows v_o_doings v_o_seen v_o_seed q15.2.1 q15.2.2.1 q15.2.2.2.1 d_o_many d_o_views d_o_aisles q15.2.2.2.2)) (va_runV (As := [.int x5, .int x2]) (rest := [.int q13.1, .int (q9 * q11), .int x4]) ⟨hx, hb, hml, hown, hts⟩ ((kX9_viewsBy l D cI cJ cZ cB a_o a_o_text a_o_many a_o_views a_o_aisles a_o_readMany a_o_readViews a_o_readAisles a_o_readPage a_o_page a_o_trial a_o_book a_o_kept a_o_isKept a_o_seenSeat a_o_seenWas v_o_thrown v_o_textSize v_o_place v_o_rows v_o_readRows v_o_doings v_o_seen v_o_seed q13.2.1 q13.2.2.1 q13.2.2.2.1 d_o_many d_o_views d_o_aisles q13.2.2.2.2 x5 x2 q15 hq16) _) (cwV 2 hts gX9_share_X9_viewsBy rfl rfl rfl (by decide +kernel) ⟨Nat.le_of_ble_eq_true rfl, Nat.le_of_ble_eq_true rfl⟩) ⟨PRw.blind, va_recv hK.1 hPc (ci := 9) (q0 := 0) rfl rfl, PRw.at hK hPc hDc⟩ rfl rfl hl.1 rfl (lv_room (Nat.le_of_ble_eq_true rfl)) dX9_share_102 ⟨Nat.zero_le _, Nat.zero_le _⟩) hP hD hS hA [0, 1, 2, 3, 4] [] [0, 1, 2, 3, 4] rfl rfl (by decide) (by decide) rfl (by decide) (fun H locs hP hD hS => ?_)
        refine lv_isub hx hb dX9_share_105 ?_
        refine lv_imul hx hb dX9_share_106 ?_
        refine lv_iadd hx hb dX9_share_107 ?_
        refine lv_istore (lv' := [(4, .int (x4 + ((q9 * q11) * (q13.1 - q15.1)))), (6, .int q5), (0, .ref a_o), (1, .int x1), (2, .int x2), (3, .int x3), (5, .int x5)]) hx hb dX9_share_108 hl (by decide) rfl (fun ls hl => ?_)
        refine lv_iinc (v := (x5 + (1 : Int32))) (lv' := [(5, .int (x5 + (1 : Int32))), (4, .int (x4 + ((q9 * q11) * (q13.1 - q15.1)))), (6, .int q5), (0, .ref a_o), (1, .int x1), (2, .int x2), (3, .int x3)]) hx hb dX9_share_110 hl (k := 6) rfl rfl (by decide) rfl (fun ls hl => ?_)
        refine lv_goto (tgt := 36) hx hb dX9_share_113 (by decide) ?_
        exact ih v_o_thrown v_o_textSize v_o_place v_o_rows v_o_readRows v_o_doings v_o_seen v_o_seed q15.2.1 q15.2.2.1 q15.2.2.2.1 d_o_many d_o_views d_o_aisles q15.2.2.2.2 x1 x2 x3 (x4 + ((q9 * q11) * (q13.1 - q15.1))) (x5 + (1 : Int32)) _ _ ls _ hP hD hS (lv_sub hl [3, 4, 5, 6, 1, 0] rfl) hf
      · have hf := pf_f hc hf
        refine lv_iconst (v := (0 : Int32)) hx hb dX9_share_65 (by decide) ?_
        refine lv_goto (tgt := 107) hx hb dX9_share_66 (by decide) ?_
        refine lv_iadd hx hb dX9_share_107 ?_
        refine lv_istore (lv' := [(4, .int (x4 + (0 : Int32))), (6, .int q5), (0, .ref a_o), (1, .int x1), (2, .int x2), (3, .int x3), (5, .int x5)]) hx hb dX9_share_108 hl (by decide) rfl (fun ls hl => ?_)
        refine lv_iinc (v := (x5 + (1 : Int32))) (lv' := [(5, .int (x5 + (1 : Int32))), (4, .int (x4 + (0 : Int32))), (6, .int q5), (0, .ref a_o), (1, .int x1), (2, .int x2), (3, .int x3)]) hx hb dX9_share_110 hl (k := 6) rfl rfl (by decide) rfl (fun ls hl => ?_)
        refine lv_goto (tgt := 36) hx hb dX9_share_113 (by decide) ?_
        exact ih v_o_thrown v_o_textSize v_o_place v_o_rows v_o_readRows v_o_doings v_o_seen v_o_seed v_o_found v_o_foundViews v_o_foundMany d_o_many d_o_views d_o_aisles d_o_page x1 x2 x3 (x4 + (0 : Int32)) (x5 + (1 : Int32)) _ _ ls _ hP hD hS (lv_sub hl [3, 4, 5, 6, 1, 0] rfl) hf
def fX9_share (v_o_thrown : Int32) (v_o_rows : Int32) (v_o_found : Int32) (v_o_foundViews : Int32) (v_o_foundMany : Int32) (d_o_many : (Nat → Int32)) (d_o_views : (Nat → Int32)) (d_o_aisles : (Nat → Int32)) (d_o_page : (Nat → Int32)) (x1 : Int32) (x2 : Int32) (x3 : Int32) : Option (Int32 × Int32 × Int32 × Int32 × Int32 × (Nat → Int32)) := ((fX9_noRow v_o_rows x1).bind fun q1 => (if q1 = 0 then ((fX9_in ((x2).toInt64) (1 : Int64) (6 : Int64)).bind fun q3 => (if q3 = 0 then some ((-2 : Int32), (0 : Int32), v_o_found, v_o_foundViews, v_o_foundMany, d_o_page) else fX9_share_36 FU (0 : Int32) v_o_rows v_o_found v_o_foundViews v_o_foundMany d_o_many d_o_views d_o_aisles d_o_page x1 x2 x3 (0 : Int32) (0 : Int32))) else some ((-1 : Int32), (0 : Int32), v_o_found, v_o_foundViews, v_o_foundMany, d_o_page)))
set_option maxRecDepth 100000 in
set_option maxHeartbeats 4000000 in
theorem kX9_share (l : Launch) (D : va_G) (cI cJ cZ cB : ClassId) (a_o : Nat) (a_o_text : Nat) (a_o_many : Nat) (a_o_views : Nat) (a_o_aisles : Nat) (a_o_readMany : Nat) (a_o_readViews : Nat) (a_o_readAisles : Nat) (a_o_readPage : Nat) (a_o_page : Nat) (a_o_trial : Nat) (a_o_book : Nat) (a_o_kept : Nat) (a_o_isKept : Nat) (a_o_seenSeat : Nat) (a_o_seenWas : Nat) (v_o_thrown : Int32) (v_o_textSize : Int32) (v_o_place : Int32) (v_o_rows : Int32) (v_o_readRows : Int32) (v_o_doings : Int32) (v_o_seen : Int32) (v_o_seed : Int64) (v_o_found : Int32) (v_o_foundViews : Int32) (v_o_foundMany : Int32) (d_o_many : (Nat → Int32)) (d_o_views : (Nat → Int32)) (d_o_aisles : (Nat → Int32)) (d_o_page : (Nat → Int32)) (x1 : Int32) (x2 : Int32) (x3 : Int32) (res : Int32 × Int32 × Int32 × Int32 × Int32 × (Nat → Int32)) (hf : fX9_share v_o_thrown v_o_rows v_o_found v_o_foundViews v_o_foundMany d_o_many d_o_views d_o_aisles d_o_page x1 x2 x3 = some res) : Rw l yX9_share wsX9_share ({ frames := 7, cells := 0, slots := 0, locals := 173 } : Room) D (tyL cI cJ cZ cB) [.ref a_o, .int x1, .int x2, .int x3] (WX9_share cI cJ cZ cB a_o a_o_text a_o_many a_o_views a_o_aisles a_o_readMany a_o_readViews a_o_readAisles a_o_readPage a_o_page a_o_trial a_o_book a_o_kept a_o_isKept a_o_seenSeat a_o_seenWas v_o_thrown v_o_textSize v_o_place v_o_rows v_o_readRows v_o_doings v_o_seen v_o_seed v_o_found v_o_foundViews v_o_foundMany d_o_many d_o_views d_o_aisles d_o_page) (some (.int res.1)) (WX9_share cI cJ cZ cB a_o a_o_text a_o_many a_o_views a_o_aisles a_o_readMany a_o_readViews a_o_readAisles a_o_readPage a_o_page a_o_trial a_o_book a_o_kept a_o_isKept a_o_seenSeat a_o_seenWas res.2.1 v_o_textSize v_o_place v_o_rows v_o_readRows v_o_doings v_o_seen v_o_seed res.2.2.1 res.2.2.2.1 res.2.2.2.2.1 d_o_many d_o_views d_o_aisles res.2.2.2.2.2) := by
  refine Rw.of (cc := cX9_share) (maxL := 7) (ret := (some .int)) (own := RX9) (by decide) rfl rfl (Nat.le_of_ble_eq_true rfl) ?_
  intro p e s m below meth c A ls C hK hA hP hD hS hl
  obtain ⟨hx, hb, hr, hml, hts, hown, hlk⟩ := id C
  have hl : lv_has ls 7 [(0, .ref a_o), (1, .int x1), (2, .int x2), (3, .int x3)] := hl
  unfold fX9_share at hf
  refine lv_aload_n hx hb dX9_share_0 rfl (lv_at hl 0 rfl) ?_
  refine lv_iconst (v := (0 : Int32)) hx hb dX9_share_1 (by decide) ?_
  refine va_put (D := D) (ci := 9) (v := .int (0 : Int32)) (ty := .int) (C := RX9) (T := TX9) (N := 26) hx hb hts iX9_share_X9 tyX9 tyX9_ok nmX9 hown hK.1 hP hD hS 0 rfl rfl 0 (by decide) (hts (.fieldLink RX9 60 "LoneSeatsModel" "thrown" "I") (by decide +kernel)) (fun _ h9 => h9) rfl (by decide +kernel) rfl rfl (Nat.le_of_ble_eq_true rfl) dX9_share_2 (fun H locs hP hD hS => ?_)
  have hP : va_P D vwCl (WX9_share cI cJ cZ cB a_o a_o_text a_o_many a_o_views a_o_aisles a_o_readMany a_o_readViews a_o_readAisles a_o_readPage a_o_page a_o_trial a_o_book a_o_kept a_o_isKept a_o_seenSeat a_o_seenWas (0 : Int32) v_o_textSize v_o_place v_o_rows v_o_readRows v_o_doings v_o_seen v_o_seed v_o_found v_o_foundViews v_o_foundMany d_o_many d_o_views d_o_aisles d_o_page) H := hP
  have hD : va_D A (WX9_share cI cJ cZ cB a_o a_o_text a_o_many a_o_views a_o_aisles a_o_readMany a_o_readViews a_o_readAisles a_o_readPage a_o_page a_o_trial a_o_book a_o_kept a_o_isKept a_o_seenSeat a_o_seenWas (0 : Int32) v_o_textSize v_o_place v_o_rows v_o_readRows v_o_doings v_o_seen v_o_seed v_o_found v_o_foundViews v_o_foundMany d_o_many d_o_views d_o_aisles d_o_page) := hD
  refine lv_aload_n hx hb dX9_share_5 rfl (lv_at hl 0 rfl) ?_
  refine lv_iload_n hx hb dX9_share_6 rfl (lv_at hl 1 rfl) ?_
  obtain ⟨q1, hq2, hf⟩ := pf_b hf
  have hPc := hP.sub (ws' := (WX9_noRow cI cJ cZ cB a_o a_o_text a_o_many a_o_views a_o_aisles a_o_readMany a_o_readViews a_o_readAisles a_o_readPage a_o_page a_o_trial a_o_book a_o_kept a_o_isKept a_o_seenSeat a_o_seenWas (0 : Int32) v_o_textSize v_o_place v_o_rows v_o_readRows v_o_doings v_o_seen v_o_seed v_o_found v_o_foundViews v_o_foundMany)) [0] rfl
  refine cl_roi (va_runV (As := [.int x1]) (rest := []) ⟨hx, hb, hml, hown, hts⟩ (kX9_noRow l D cI cJ cZ cB a_o a_o_text a_o_many a_o_views a_o_aisles a_o_readMany a_o_readViews a_o_readAisles a_o_readPage a_o_page a_o_trial a_o_book a_o_kept a_o_isKept a_o_seenSeat a_o_seenWas (0 : Int32) v_o_textSize v_o_place v_o_rows v_o_readRows v_o_doings v_o_seen v_o_seed v_o_found v_o_foundViews v_o_foundMany x1 q1 hq2) (cwV 1 hts gX9_share_X9_noRow rfl rfl rfl (by decide +kernel) ⟨Nat.le_of_ble_eq_true rfl, Nat.le_of_ble_eq_true rfl⟩) ⟨PRo.blind, va_recv hK.1 hPc (ci := 9) (q0 := 0) rfl rfl, PRo.at hK hPc⟩ rfl rfl hl.1 rfl (lv_room (Nat.le_of_ble_eq_true rfl)) dX9_share_7 ⟨Nat.zero_le _, Nat.zero_le _⟩) ?_
  refine lv_if_eq (tgt := 15) hx hb dX9_share_10 (by decide) (fun hc => ?_) (fun hc => ?_)
  · have hf := pf_t hc hf
    refine lv_iload_n hx hb dX9_share_15 rfl (lv_at hl 2 rfl) ?_
    refine lv_i2l (v := (x2).toInt64) hx hb dX9_share_16 rfl ?_
    refine lv_lconst (v := (1 : Int64)) hx hb dX9_share_17 (by decide) ?_
    refine lv_ldc2 (v := (6 : Int64)) hx hb hown (hts (.constantLong RX9 181 (6 : Int64)) (by decide +kernel)) dX9_share_18 ?_
    obtain ⟨q3, hq4, hf⟩ := pf_b hf
    have hPc := hP.sub (ws' := ([] : va_W)) [] rfl
    refine cl_roi (va_runS (As := [.long ((x2).toInt64), .long (1 : Int64), .long (6 : Int64)]) (rest := []) ⟨hx, hb, hml, hown, hts⟩ (kX9_in l D cI cJ cZ cB ((x2).toInt64) (1 : Int64) (6 : Int64) q3 hq4) (va_cwS 3 hts gX9_share_X9_in rfl rfl rfl (by decide +kernel) ⟨Nat.le_of_ble_eq_true rfl, Nat.le_of_ble_eq_true rfl⟩) ⟨PRo.blind, PRo.at hK hPc⟩ rfl rfl hl.1 rfl (lv_room (Nat.le_of_ble_eq_true rfl)) dX9_share_21 ⟨Nat.zero_le _, Nat.zero_le _⟩) ?_
    refine lv_if_ne (tgt := 30) hx hb dX9_share_24 (by decide) (fun hc => ?_) (fun hc => ?_)
    · have hf := pf_f hc hf
      refine lv_iconst (v := (0 : Int32)) hx hb dX9_share_30 (by decide) ?_
      refine lv_istore (lv' := [(4, .int (0 : Int32)), (0, .ref a_o), (1, .int x1), (2, .int x2), (3, .int x3)]) hx hb dX9_share_31 hl (by decide) rfl (fun ls hl => ?_)
      refine lv_iconst (v := (0 : Int32)) hx hb dX9_share_33 (by decide) ?_
      refine lv_istore (lv' := [(5, .int (0 : Int32)), (4, .int (0 : Int32)), (0, .ref a_o), (1, .int x1), (2, .int x2), (3, .int x3)]) hx hb dX9_share_34 hl (by decide) rfl (fun ls hl => ?_)
      exact tX9_share_36 C hK hA  FU (0 : Int32) v_o_textSize v_o_place v_o_rows v_o_readRows v_o_doings v_o_seen v_o_seed v_o_found v_o_foundViews v_o_foundMany d_o_many d_o_views d_o_aisles d_o_page x1 x2 x3 (0 : Int32) (0 : Int32) _ _ ls _ hP hD hS (lv_sub hl [2, 3, 4, 5, 1, 0] rfl) hf
    · have hf := pf_t hc hf
      refine lv_bipush (v := (-2 : Int32)) hx hb dX9_share_27 (by decide) ?_
      cases hf
      exact W.iret hx hb hr (fun t ht hW => ⟨⟨rfl, by rw [ht]; exact hP, hD⟩, hS.F ht⟩) hS.2.2 dX9_share_29
  · have hf := pf_f hc hf
    refine lv_iconst (v := (-1 : Int32)) hx hb dX9_share_13 (by decide) ?_
    cases hf
    exact W.iret hx hb hr (fun t ht hW => ⟨⟨rfl, by rw [ht]; exact hP, hD⟩, hS.F ht⟩) hS.2.2 dX9_share_14
abbrev WX9_partyIn (cI cJ cZ cB : ClassId) (a_o : Nat) (a_o_text : Nat) (a_o_many : Nat) (a_o_views : Nat) (a_o_aisles : Nat) (a_o_readMany : Nat) (a_o_readViews : Nat) (a_o_readAisles : Nat) (a_o_readPage : Nat) (a_o_page : Nat) (a_o_trial : Nat) (a_o_book : Nat) (a_o_kept : Nat) (a_o_isKept : Nat) (a_o_seenSeat : Nat) (a_o_seenWas : Nat) (v_o_thrown : Int32) (v_o_textSize : Int32) (v_o_place : Int32) (v_o_rows : Int32) (v_o_readRows : Int32) (v_o_doings : Int32) (v_o_seen : Int32) (v_o_seed : Int64) (v_o_found : Int32) (v_o_foundViews : Int32) (v_o_foundMany : Int32) (d_o_page : (Nat → Int32)) : va_W := [(a_o, .inr (9, [.int v_o_thrown, .ref a_o_text, .int v_o_textSize, .int v_o_place, .int v_o_rows, .ref a_o_many, .ref a_o_views, .ref a_o_aisles, .int v_o_readRows, .ref a_o_readMany, .ref a_o_readViews, .ref a_o_readAisles, .ref a_o_readPage, .ref a_o_page, .ref a_o_trial, .ref a_o_book, .int v_o_doings, .ref a_o_kept, .ref a_o_isKept, .int v_o_seen, .ref a_o_seenSeat, .ref a_o_seenWas, .long v_o_seed, .int v_o_found, .int v_o_foundViews, .int v_o_foundMany])), (a_o_page, .inl (cI, (229, .inl d_o_page)))]
set_option maxRecDepth 20000 in
theorem iX9_partyIn_X9 : ∀ w ∈ wsX90, w ∈ wsX9_partyIn := by decide +kernel
def fX9_partyIn_5 : Nat → (Nat → Int32) → Int32 → Int32 → Int32 → Int32 → Option (Int32)
  | 0, _, _, _, _, _ => none
  | n + 1, d_o_page, x1, x2, x3, x4 => (if (d_o_page ((6 : Int32)).toNatClampNeg) < x4 then some (-9 : Int32) else ((fX9_sits d_o_page x4).bind fun q1 => (if q1 = 0 then fX9_partyIn_5 n d_o_page x1 x2 x3 (x4 + (1 : Int32)) else ((fX9_at x4).bind fun q3 => (if (q3 + (3 : Int32)) < 0 ∨ 229 ≤ ((q3 + (3 : Int32))).toNatClampNeg then none else (if (d_o_page ((q3 + (3 : Int32))).toNatClampNeg) = x1 then (if x3 = x2 then some x4 else fX9_partyIn_5 n d_o_page x1 x2 (x3 + (1 : Int32)) (x4 + (1 : Int32))) else fX9_partyIn_5 n d_o_page x1 x2 x3 (x4 + (1 : Int32))))))))
set_option maxRecDepth 100000 in
set_option maxHeartbeats 4000000 in
theorem tX9_partyIn_5 {p : Program} {l : Launch} {e : Env} {s : State} {m : MethodId} {args : Array Value} {below : List Frame} {meth : Method} {c : Code} {D : va_G} {cI cJ cZ cB : ClassId} {a_o : Nat} {a_o_text : Nat} {a_o_many : Nat} {a_o_views : Nat} {a_o_aisles : Nat} {a_o_readMany : Nat} {a_o_readViews : Nat} {a_o_readAisles : Nat} {a_o_readPage : Nat} {a_o_page : Nat} {a_o_trial : Nat} {a_o_book : Nat} {a_o_kept : Nat} {a_o_isKept : Nat} {a_o_seenSeat : Nat} {a_o_seenWas : Nat} (C : Cx p s m args meth c cX9_partyIn 5 (some .int) wsX9_partyIn RX9) (hK : Kw D (tyL cI cJ cZ cB) s) : ∀ (n : Nat), ∀ (v_o_thrown : Int32) (v_o_textSize : Int32) (v_o_place : Int32) (v_o_rows : Int32) (v_o_readRows : Int32) (v_o_doings : Int32) (v_o_seen : Int32) (v_o_seed : Int64) (v_o_found : Int32) (v_o_foundViews : Int32) (v_o_foundMany : Int32) (d_o_page : (Nat → Int32)) (x1 : Int32) (x2 : Int32) (x3 : Int32) (x4 : Int32) (ls : Array Slot) (res : Int32), va_P D vwCl (WX9_partyIn cI cJ cZ cB a_o a_o_text a_o_many a_o_views a_o_aisles a_o_readMany a_o_readViews a_o_readAisles a_o_readPage a_o_page a_o_trial a_o_book a_o_kept a_o_isKept a_o_seenSeat a_o_seenWas v_o_thrown v_o_textSize v_o_place v_o_rows v_o_readRows v_o_doings v_o_seen v_o_seed v_o_found v_o_foundViews v_o_foundMany d_o_page) s.heap → lv_has ls 5 [(0, .ref a_o), (1, .int x1), (2, .int x2), (3, .int x3), (4, .int x4)] → fX9_partyIn_5 n d_o_page x1 x2 x3 x4 = some res → W p l e ({ frames := 2, cells := 0, slots := 0, locals := 47 } : Room) s m args below meth c s.heap [] 0 0 (MQ below (QRo (some (.int res))) args s 0 0 (fun _ => False)) (F0 m 5 ls []) := by
  obtain ⟨hx, hb, hr, hml, hts, hown, hlk⟩ := id C
  intro n
  induction n with
  | zero =>
    intro v_o_thrown v_o_textSize v_o_place v_o_rows v_o_readRows v_o_doings v_o_seen v_o_seed v_o_found v_o_foundViews v_o_foundMany d_o_page x1 x2 x3 x4 ls res hP hl hf
    rw [fX9_partyIn_5] at hf
    cases hf
  | succ n ih =>
    intro v_o_thrown v_o_textSize v_o_place v_o_rows v_o_readRows v_o_doings v_o_seen v_o_seed v_o_found v_o_foundViews v_o_foundMany d_o_page x1 x2 x3 x4 ls res hP hl hf
    rw [fX9_partyIn_5] at hf
    refine lv_iload hx hb dX9_partyIn_5 (lv_at hl 4 rfl) ?_
    refine lv_aload_n hx hb dX9_partyIn_7 rfl (lv_at hl 0 rfl) ?_
    refine va_get (D := D) (ci := 9) (v := .ref a_o_page) (C := RX9) (T := TX9) (N := 26) hx hb hts iX9_partyIn_X9 hown hK.1 hP 0 rfl rfl 13 (by decide) (hts (.fieldLink RX9 35 "LoneSeatsModel" "page" "[I") (by decide +kernel)) (fun _ h9 => h9) rfl dX9_partyIn_8 ?_
    refine lv_bipush (v := (6 : Int32)) hx hb dX9_partyIn_11 (by decide) ?_
    refine va_iald hx hb hK.1 hP 1 0 rfl rfl (show ¬ ((6 : Int32) < 0 ∨ 229 ≤ ((6 : Int32)).toNatClampNeg) by decide) dX9_partyIn_13 ?_
    refine lv_icmp_gt (tgt := 63) hx hb dX9_partyIn_14 (by decide) (fun hc => ?_) (fun hc => ?_)
    · have hf := pf_t hc hf
      refine lv_bipush (v := (-9 : Int32)) hx hb dX9_partyIn_63 (by decide) ?_
      cases hf
      exact W.iret hx hb hr (fun t ht hW => ⟨rfl, ht⟩) (fun _ h => absurd h List.not_mem_nil) dX9_partyIn_65
    · have hf := pf_f hc hf
      refine lv_aload_n hx hb dX9_partyIn_17 rfl (lv_at hl 0 rfl) ?_
      refine lv_aload_n hx hb dX9_partyIn_18 rfl (lv_at hl 0 rfl) ?_
      refine va_get (D := D) (ci := 9) (v := .ref a_o_page) (C := RX9) (T := TX9) (N := 26) hx hb hts iX9_partyIn_X9 hown hK.1 hP 0 rfl rfl 13 (by decide) (hts (.fieldLink RX9 35 "LoneSeatsModel" "page" "[I") (by decide +kernel)) (fun _ h9 => h9) rfl dX9_partyIn_19 ?_
      refine lv_iload hx hb dX9_partyIn_22 (lv_at hl 4 rfl) ?_
      obtain ⟨q1, hq2, hf⟩ := pf_b hf
      have hPc := hP.sub (ws' := (WX9_sits cI cJ cZ cB a_o a_o_text a_o_many a_o_views a_o_aisles a_o_readMany a_o_readViews a_o_readAisles a_o_readPage a_o_page a_o_trial a_o_book a_o_kept a_o_isKept a_o_seenSeat a_o_seenWas a_o_page v_o_thrown v_o_textSize v_o_place v_o_rows v_o_readRows v_o_doings v_o_seen v_o_seed v_o_found v_o_foundViews v_o_foundMany d_o_page)) [0, 1] rfl
      refine cl_roi (va_runV (As := [.ref a_o_page, .int x4]) (rest := []) ⟨hx, hb, hml, hown, hts⟩ (kX9_sits l D cI cJ cZ cB a_o a_o_text a_o_many a_o_views a_o_aisles a_o_readMany a_o_readViews a_o_readAisles a_o_readPage a_o_page a_o_trial a_o_book a_o_kept a_o_isKept a_o_seenSeat a_o_seenWas a_o_page v_o_thrown v_o_textSize v_o_place v_o_rows v_o_readRows v_o_doings v_o_seen v_o_seed v_o_found v_o_foundViews v_o_foundMany d_o_page x4 q1 hq2) (cwV 2 hts gX9_partyIn_X9_sits rfl rfl rfl (by decide +kernel) ⟨Nat.le_of_ble_eq_true rfl, Nat.le_of_ble_eq_true rfl⟩) ⟨PRo.blind, va_recv hK.1 hPc (ci := 9) (q0 := 0) rfl rfl, PRo.at hK hPc⟩ rfl rfl hl.1 rfl (lv_room (Nat.le_of_ble_eq_true rfl)) dX9_partyIn_24 ⟨Nat.zero_le _, Nat.zero_le _⟩) ?_
      refine lv_if_eq (tgt := 57) hx hb dX9_partyIn_27 (by decide) (fun hc => ?_) (fun hc => ?_)
      · have hf := pf_t hc hf
        refine lv_iinc (v := (x4 + (1 : Int32))) (lv' := [(4, .int (x4 + (1 : Int32))), (0, .ref a_o), (1, .int x1), (2, .int x2), (3, .int x3)]) hx hb dX9_partyIn_57 hl (k := 4) rfl rfl (by decide) rfl (fun ls hl => ?_)
        refine lv_goto (tgt := 5) hx hb dX9_partyIn_60 (by decide) ?_
        exact ih v_o_thrown v_o_textSize v_o_place v_o_rows v_o_readRows v_o_doings v_o_seen v_o_seed v_o_found v_o_foundViews v_o_foundMany d_o_page x1 x2 x3 (x4 + (1 : Int32)) ls _ hP (lv_sub hl [1, 2, 3, 4, 0] rfl) hf
      · have hf := pf_f hc hf
        refine lv_aload_n hx hb dX9_partyIn_30 rfl (lv_at hl 0 rfl) ?_
        refine va_get (D := D) (ci := 9) (v := .ref a_o_page) (C := RX9) (T := TX9) (N := 26) hx hb hts iX9_partyIn_X9 hown hK.1 hP 0 rfl rfl 13 (by decide) (hts (.fieldLink RX9 35 "LoneSeatsModel" "page" "[I") (by decide +kernel)) (fun _ h9 => h9) rfl dX9_partyIn_31 ?_
        refine lv_iload hx hb dX9_partyIn_34 (lv_at hl 4 rfl) ?_
        obtain ⟨q3, hq4, hf⟩ := pf_b hf
        have hPc := hP.sub (ws' := ([] : va_W)) [] rfl
        refine cl_roi (va_runS (As := [.int x4]) (rest := [.ref a_o_page]) ⟨hx, hb, hml, hown, hts⟩ (kX9_at l D cI cJ cZ cB x4 q3 hq4) (va_cwS 1 hts gX9_partyIn_X9_at rfl rfl rfl (by decide +kernel) ⟨Nat.le_of_ble_eq_true rfl, Nat.le_of_ble_eq_true rfl⟩) ⟨PRo.blind, PRo.at hK hPc⟩ rfl rfl hl.1 rfl (lv_room (Nat.le_of_ble_eq_true rfl)) dX9_partyIn_36 ⟨Nat.zero_le _, Nat.zero_le _⟩) ?_
        refine lv_iconst (v := (3 : Int32)) hx hb dX9_partyIn_39 (by decide) ?_
        refine lv_iadd hx hb dX9_partyIn_40 ?_
        obtain ⟨hg5, hf⟩ := pf_x hf
        refine va_iald hx hb hK.1 hP 1 0 rfl rfl hg5 dX9_partyIn_41 ?_
        refine lv_iload_n hx hb dX9_partyIn_42 rfl (lv_at hl 1 rfl) ?_
        refine lv_icmp_ne (tgt := 57) hx hb dX9_partyIn_43 (by decide) (fun hc => ?_) (fun hc => ?_)
        · have hf := pf_f hc hf
          refine lv_iinc (v := (x4 + (1 : Int32))) (lv' := [(4, .int (x4 + (1 : Int32))), (0, .ref a_o), (1, .int x1), (2, .int x2), (3, .int x3)]) hx hb dX9_partyIn_57 hl (k := 4) rfl rfl (by decide) rfl (fun ls hl => ?_)
          refine lv_goto (tgt := 5) hx hb dX9_partyIn_60 (by decide) ?_
          exact ih v_o_thrown v_o_textSize v_o_place v_o_rows v_o_readRows v_o_doings v_o_seen v_o_seed v_o_found v_o_foundViews v_o_foundMany d_o_page x1 x2 x3 (x4 + (1 : Int32)) ls _ hP (lv_sub hl [1, 2, 3, 4, 0] rfl) hf
        · have hf := pf_t hc hf
          refine lv_iload_n hx hb dX9_partyIn_46 rfl (lv_at hl 3 rfl) ?_
          refine lv_iload_n hx hb dX9_partyIn_47 rfl (lv_at hl 2 rfl) ?_
          refine lv_icmp_ne (tgt := 54) hx hb dX9_partyIn_48 (by decide) (fun hc => ?_) (fun hc => ?_)
          · have hf := pf_f hc hf
            refine lv_iinc (v := (x3 + (1 : Int32))) (lv' := [(3, .int (x3 + (1 : Int32))), (0, .ref a_o), (1, .int x1), (2, .int x2), (4, .int x4)]) hx hb dX9_partyIn_54 hl (k := 3) rfl rfl (by decide) rfl (fun ls hl => ?_)
            refine lv_iinc (v := (x4 + (1 : Int32))) (lv' := [(4, .int (x4 + (1 : Int32))), (3, .int (x3 + (1 : Int32))), (0, .ref a_o), (1, .int x1), (2, .int x2)]) hx hb dX9_partyIn_57 hl (k := 4) rfl rfl (by decide) rfl (fun ls hl => ?_)
            refine lv_goto (tgt := 5) hx hb dX9_partyIn_60 (by decide) ?_
            exact ih v_o_thrown v_o_textSize v_o_place v_o_rows v_o_readRows v_o_doings v_o_seen v_o_seed v_o_found v_o_foundViews v_o_foundMany d_o_page x1 x2 (x3 + (1 : Int32)) (x4 + (1 : Int32)) ls _ hP (lv_sub hl [2, 3, 4, 1, 0] rfl) hf
          · have hf := pf_t hc hf
            refine lv_iload hx hb dX9_partyIn_51 (lv_at hl 4 rfl) ?_
            cases hf
            exact W.iret hx hb hr (fun t ht hW => ⟨rfl, ht⟩) (fun _ h => absurd h List.not_mem_nil) dX9_partyIn_53
def fX9_partyIn (d_o_page : (Nat → Int32)) (x1 : Int32) (x2 : Int32) : Option (Int32) := fX9_partyIn_5 FU d_o_page x1 x2 (0 : Int32) (1 : Int32)
set_option maxRecDepth 100000 in
set_option maxHeartbeats 4000000 in
theorem kX9_partyIn (l : Launch) (D : va_G) (cI cJ cZ cB : ClassId) (a_o : Nat) (a_o_text : Nat) (a_o_many : Nat) (a_o_views : Nat) (a_o_aisles : Nat) (a_o_readMany : Nat) (a_o_readViews : Nat) (a_o_readAisles : Nat) (a_o_readPage : Nat) (a_o_page : Nat) (a_o_trial : Nat) (a_o_book : Nat) (a_o_kept : Nat) (a_o_isKept : Nat) (a_o_seenSeat : Nat) (a_o_seenWas : Nat) (v_o_thrown : Int32) (v_o_textSize : Int32) (v_o_place : Int32) (v_o_rows : Int32) (v_o_readRows : Int32) (v_o_doings : Int32) (v_o_seen : Int32) (v_o_seed : Int64) (v_o_found : Int32) (v_o_foundViews : Int32) (v_o_foundMany : Int32) (d_o_page : (Nat → Int32)) (x1 : Int32) (x2 : Int32) (res : Int32) (hf : fX9_partyIn d_o_page x1 x2 = some res) : Ro l yX9_partyIn wsX9_partyIn ({ frames := 2, cells := 0, slots := 0, locals := 47 } : Room) D (tyL cI cJ cZ cB) [.ref a_o, .int x1, .int x2] (WX9_partyIn cI cJ cZ cB a_o a_o_text a_o_many a_o_views a_o_aisles a_o_readMany a_o_readViews a_o_readAisles a_o_readPage a_o_page a_o_trial a_o_book a_o_kept a_o_isKept a_o_seenSeat a_o_seenWas v_o_thrown v_o_textSize v_o_place v_o_rows v_o_readRows v_o_doings v_o_seen v_o_seed v_o_found v_o_foundViews v_o_foundMany d_o_page) (some (.int res)) := by
  refine Ro.of (cc := cX9_partyIn) (maxL := 5) (ret := (some .int)) (own := RX9) (by decide) rfl rfl (Nat.le_of_ble_eq_true rfl) ?_
  intro p e s m below meth c ls C hK hP hl
  obtain ⟨hx, hb, hr, hml, hts, hown, hlk⟩ := id C
  have hl : lv_has ls 5 [(0, .ref a_o), (1, .int x1), (2, .int x2)] := hl
  unfold fX9_partyIn at hf
  refine lv_iconst (v := (0 : Int32)) hx hb dX9_partyIn_0 (by decide) ?_
  refine lv_istore_n (lv' := [(3, .int (0 : Int32)), (0, .ref a_o), (1, .int x1), (2, .int x2)]) hx hb dX9_partyIn_1 rfl hl (by decide) rfl (fun ls hl => ?_)
  refine lv_iconst (v := (1 : Int32)) hx hb dX9_partyIn_2 (by decide) ?_
  refine lv_istore (lv' := [(4, .int (1 : Int32)), (3, .int (0 : Int32)), (0, .ref a_o), (1, .int x1), (2, .int x2)]) hx hb dX9_partyIn_3 hl (by decide) rfl (fun ls hl => ?_)
  exact tX9_partyIn_5 C hK  FU v_o_thrown v_o_textSize v_o_place v_o_rows v_o_readRows v_o_doings v_o_seen v_o_seed v_o_found v_o_foundViews v_o_foundMany d_o_page x1 x2 (0 : Int32) (1 : Int32) ls _ hP (lv_sub hl [2, 3, 4, 1, 0] rfl) hf
abbrev WX9_away (cI cJ cZ cB : ClassId) (a_o : Nat) (a_o_text : Nat) (a_o_many : Nat) (a_o_views : Nat) (a_o_aisles : Nat) (a_o_readMany : Nat) (a_o_readViews : Nat) (a_o_readAisles : Nat) (a_o_readPage : Nat) (a_o_page : Nat) (a_o_trial : Nat) (a_o_book : Nat) (a_o_kept : Nat) (a_o_isKept : Nat) (a_o_seenSeat : Nat) (a_o_seenWas : Nat) (v_o_thrown : Int32) (v_o_textSize : Int32) (v_o_place : Int32) (v_o_rows : Int32) (v_o_readRows : Int32) (v_o_doings : Int32) (v_o_seen : Int32) (v_o_seed : Int64) (v_o_found : Int32) (v_o_foundViews : Int32) (v_o_foundMany : Int32) (d_o_page : (Nat → Int32)) : va_W := [(a_o, .inr (9, [.int v_o_thrown, .ref a_o_text, .int v_o_textSize, .int v_o_place, .int v_o_rows, .ref a_o_many, .ref a_o_views, .ref a_o_aisles, .int v_o_readRows, .ref a_o_readMany, .ref a_o_readViews, .ref a_o_readAisles, .ref a_o_readPage, .ref a_o_page, .ref a_o_trial, .ref a_o_book, .int v_o_doings, .ref a_o_kept, .ref a_o_isKept, .int v_o_seen, .ref a_o_seenSeat, .ref a_o_seenWas, .long v_o_seed, .int v_o_found, .int v_o_foundViews, .int v_o_foundMany])), (a_o_page, .inl (cI, (229, .inl d_o_page)))]
set_option maxRecDepth 20000 in
theorem iX9_away_X9 : ∀ w ∈ wsX90, w ∈ wsX9_away := by decide +kernel
def fX9_away_84 (k_69 : Int32 → Int32 → (Nat → Int32) → Int32 → Int32 → Int32 → Int32 → Int32 → Int32 → Int32 → Option (Int32 × Int32)) : Nat → Int32 → Int32 → (Nat → Int32) → Int32 → Int32 → Int32 → Int32 → Int32 → Int32 → Int32 → Int32 → Int32 → Option (Int32 × Int32)
  | 0, _, _, _, _, _, _, _, _, _, _, _, _ => none
  | n + 1, v_o_thrown, v_o_rows, d_o_page, x1, x2, x3, x4, x5, x6, x7, x8, x9 => (if x5 ≤ x9 then (if x8 < x2 then k_69 v_o_thrown v_o_rows d_o_page x1 x2 x3 x4 x5 (x6 + (0 : Int32)) (x7 + (1 : Int32)) else ((fX9_ones x7).bind fun q1 => ((fX9_power ((10 : Int32) - x3) q1).bind fun q3 => ((fX9_ones x7).bind fun q5 => ((fX9_power x3 (x5 - q5)).bind fun q7 => k_69 v_o_thrown v_o_rows d_o_page x1 x2 x3 x4 x5 (x6 + (q3 * q7)) (x7 + (1 : Int32))))))) else ((fX9_has x7 x9).bind fun q9 => (if q9 = 0 then fX9_away_84 k_69 n v_o_thrown v_o_rows d_o_page x1 x2 x3 x4 x5 x6 x7 (x8 + (0 : Int32)) (x9 + (1 : Int32)) else ((fX9_partyIn d_o_page x1 x9).bind fun q11 => ((fX9_at q11).bind fun q13 => (if (q13 + (0 : Int32)) < 0 ∨ 229 ≤ ((q13 + (0 : Int32))).toNatClampNeg then none else fX9_away_84 k_69 n v_o_thrown v_o_rows d_o_page x1 x2 x3 x4 x5 x6 x7 (x8 + (d_o_page ((q13 + (0 : Int32))).toNatClampNeg)) (x9 + (1 : Int32))))))))
set_option maxRecDepth 100000 in
set_option maxHeartbeats 4000000 in
theorem tX9_away_84 {p : Program} {l : Launch} {e : Env} {s : State} {m : MethodId} {args : Array Value} {below : List Frame} {meth : Method} {c : Code} {D : va_G} {cI cJ cZ cB : ClassId} {a_o : Nat} {a_o_text : Nat} {a_o_many : Nat} {a_o_views : Nat} {a_o_aisles : Nat} {a_o_readMany : Nat} {a_o_readViews : Nat} {a_o_readAisles : Nat} {a_o_readPage : Nat} {a_o_page : Nat} {a_o_trial : Nat} {a_o_book : Nat} {a_o_kept : Nat} {a_o_isKept : Nat} {a_o_seenSeat : Nat} {a_o_seenWas : Nat} {A : Nat → Prop} (C : Cx p s m args meth c cX9_away 10 (some .int) wsX9_away RX9) (hK : Kw D (tyL cI cJ cZ cB) s) (hA : ∀ q : Nat, s.heap.size ≤ q → A q) {k_69 : Int32 → Int32 → (Nat → Int32) → Int32 → Int32 → Int32 → Int32 → Int32 → Int32 → Int32 → Option (Int32 × Int32)} (hk69 : ∀ (v_o_thrown : Int32) (v_o_textSize : Int32) (v_o_place : Int32) (v_o_rows : Int32) (v_o_readRows : Int32) (v_o_doings : Int32) (v_o_seen : Int32) (v_o_seed : Int64) (v_o_found : Int32) (v_o_foundViews : Int32) (v_o_foundMany : Int32) (d_o_page : (Nat → Int32)) (x1 : Int32) (x2 : Int32) (x3 : Int32) (x4 : Int32) (x5 : Int32) (x6 : Int32) (x7 : Int32) (H : Heap) (locs : List Loc) (ls : Array Slot) (res : Int32 × Int32), va_P D vwCl (WX9_away cI cJ cZ cB a_o a_o_text a_o_many a_o_views a_o_aisles a_o_readMany a_o_readViews a_o_readAisles a_o_readPage a_o_page a_o_trial a_o_book a_o_kept a_o_isKept a_o_seenSeat a_o_seenWas v_o_thrown v_o_textSize v_o_place v_o_rows v_o_readRows v_o_doings v_o_seen v_o_seed v_o_found v_o_foundViews v_o_foundMany d_o_page) H → va_D A (WX9_away cI cJ cZ cB a_o a_o_text a_o_many a_o_views a_o_aisles a_o_readMany a_o_readViews a_o_readAisles a_o_readPage a_o_page a_o_trial a_o_book a_o_kept a_o_isKept a_o_seenSeat a_o_seenWas v_o_thrown v_o_textSize v_o_place v_o_rows v_o_readRows v_o_doings v_o_seen v_o_seed v_o_found v_o_foundViews v_o_foundMany d_o_page) → va_S A s.heap H locs → lv_has ls 10 [(0, .ref a_o), (1, .int x1), (2, .int x2), (3, .int x3), (4, .int x4), (5, .int x5), (6, .int x6), (7, .int x7)] → k_69 v_o_thrown v_o_rows d_o_page x1 x2 x3 x4 x5 x6 x7 = some res → W p l e ({ frames := 3, cells := 0, slots := 0, locals := 71 } : Room) s m args below meth c H locs 0 0 (MQ below (QRw D A (WX9_away cI cJ cZ cB a_o a_o_text a_o_many a_o_views a_o_aisles a_o_readMany a_o_readViews a_o_readAisles a_o_readPage a_o_page a_o_trial a_o_book a_o_kept a_o_isKept a_o_seenSeat a_o_seenWas res.2 v_o_textSize v_o_place v_o_rows v_o_readRows v_o_doings v_o_seen v_o_seed v_o_found v_o_foundViews v_o_foundMany d_o_page) (some (.int res.1))) args s 0 0 A) (F0 m 69 ls [])) : ∀ (n : Nat), ∀ (v_o_thrown : Int32) (v_o_textSize : Int32) (v_o_place : Int32) (v_o_rows : Int32) (v_o_readRows : Int32) (v_o_doings : Int32) (v_o_seen : Int32) (v_o_seed : Int64) (v_o_found : Int32) (v_o_foundViews : Int32) (v_o_foundMany : Int32) (d_o_page : (Nat → Int32)) (x1 : Int32) (x2 : Int32) (x3 : Int32) (x4 : Int32) (x5 : Int32) (x6 : Int32) (x7 : Int32) (x8 : Int32) (x9 : Int32) (H : Heap) (locs : List Loc) (ls : Array Slot) (res : Int32 × Int32), va_P D vwCl (WX9_away cI cJ cZ cB a_o a_o_text a_o_many a_o_views a_o_aisles a_o_readMany a_o_readViews a_o_readAisles a_o_readPage a_o_page a_o_trial a_o_book a_o_kept a_o_isKept a_o_seenSeat a_o_seenWas v_o_thrown v_o_textSize v_o_place v_o_rows v_o_readRows v_o_doings v_o_seen v_o_seed v_o_found v_o_foundViews v_o_foundMany d_o_page) H → va_D A (WX9_away cI cJ cZ cB a_o a_o_text a_o_many a_o_views a_o_aisles a_o_readMany a_o_readViews a_o_readAisles a_o_readPage a_o_page a_o_trial a_o_book a_o_kept a_o_isKept a_o_seenSeat a_o_seenWas v_o_thrown v_o_textSize v_o_place v_o_rows v_o_readRows v_o_doings v_o_seen v_o_seed v_o_found v_o_foundViews v_o_foundMany d_o_page) → va_S A s.heap H locs → lv_has ls 10 [(0, .ref a_o), (1, .int x1), (2, .int x2), (3, .int x3), (4, .int x4), (5, .int x5), (6, .int x6), (7, .int x7), (8, .int x8), (9, .int x9)] → fX9_away_84 k_69 n v_o_thrown v_o_rows d_o_page x1 x2 x3 x4 x5 x6 x7 x8 x9 = some res → W p l e ({ frames := 3, cells := 0, slots := 0, locals := 71 } : Room) s m args below meth c H locs 0 0 (MQ below (QRw D A (WX9_away cI cJ cZ cB a_o a_o_text a_o_many a_o_views a_o_aisles a_o_readMany a_o_readViews a_o_readAisles a_o_readPage a_o_page a_o_trial a_o_book a_o_kept a_o_isKept a_o_seenSeat a_o_seenWas res.2 v_o_textSize v_o_place v_o_rows v_o_readRows v_o_doings v_o_seen v_o_seed v_o_found v_o_foundViews v_o_foundMany d_o_page) (some (.int res.1))) args s 0 0 A) (F0 m 84 ls []) := by
  obtain ⟨hx, hb, hr, hml, hts, hown, hlk⟩ := id C
  intro n
  induction n with
  | zero =>
    intro v_o_thrown v_o_textSize v_o_place v_o_rows v_o_readRows v_o_doings v_o_seen v_o_seed v_o_found v_o_foundViews v_o_foundMany d_o_page x1 x2 x3 x4 x5 x6 x7 x8 x9 H locs ls res hP hD hS hl hf
    rw [fX9_away_84] at hf
    cases hf
  | succ n ih =>
    intro v_o_thrown v_o_textSize v_o_place v_o_rows v_o_readRows v_o_doings v_o_seen v_o_seed v_o_found v_o_foundViews v_o_foundMany d_o_page x1 x2 x3 x4 x5 x6 x7 x8 x9 H locs ls res hP hD hS hl hf
    rw [fX9_away_84] at hf
    refine lv_iload hx hb dX9_away_84 (lv_at hl 9 rfl) ?_
    refine lv_iload hx hb dX9_away_86 (lv_at hl 5 rfl) ?_
    refine lv_icmp_ge (tgt := 133) hx hb dX9_away_88 (by decide) (fun hc => ?_) (fun hc => ?_)
    · have hf := pf_t hc hf
      refine lv_iload hx hb dX9_away_133 (lv_at hl 6 rfl) ?_
      refine lv_iload hx hb dX9_away_135 (lv_at hl 8 rfl) ?_
      refine lv_iload_n hx hb dX9_away_137 rfl (lv_at hl 2 rfl) ?_
      refine lv_icmp_lt (tgt := 169) hx hb dX9_away_138 (by decide) (fun hc => ?_) (fun hc => ?_)
      · have hf := pf_t hc hf
        refine lv_iconst (v := (0 : Int32)) hx hb dX9_away_169 (by decide) ?_
        refine lv_iadd hx hb dX9_away_170 ?_
        refine lv_istore (lv' := [(6, .int (x6 + (0 : Int32))), (0, .ref a_o), (1, .int x1), (2, .int x2), (3, .int x3), (4, .int x4), (5, .int x5), (7, .int x7), (8, .int x8), (9, .int x9)]) hx hb dX9_away_171 hl (by decide) rfl (fun ls hl => ?_)
        refine lv_iinc (v := (x7 + (1 : Int32))) (lv' := [(7, .int (x7 + (1 : Int32))), (6, .int (x6 + (0 : Int32))), (0, .ref a_o), (1, .int x1), (2, .int x2), (3, .int x3), (4, .int x4), (5, .int x5), (8, .int x8), (9, .int x9)]) hx hb dX9_away_173 hl (k := 7) rfl rfl (by decide) rfl (fun ls hl => ?_)
        refine lv_goto (tgt := 69) hx hb dX9_away_176 (by decide) ?_
        exact hk69 v_o_thrown v_o_textSize v_o_place v_o_rows v_o_readRows v_o_doings v_o_seen v_o_seed v_o_found v_o_foundViews v_o_foundMany d_o_page x1 x2 x3 x4 x5 (x6 + (0 : Int32)) (x7 + (1 : Int32)) _ _ ls _ hP hD hS (lv_sub hl [2, 3, 4, 5, 6, 7, 1, 0] rfl) hf
      · have hf := pf_f hc hf
        refine lv_bipush (v := (10 : Int32)) hx hb dX9_away_141 (by decide) ?_
        refine lv_iload_n hx hb dX9_away_143 rfl (lv_at hl 3 rfl) ?_
        refine lv_isub hx hb dX9_away_144 ?_
        refine lv_iload hx hb dX9_away_145 (lv_at hl 7 rfl) ?_
        obtain ⟨q1, hq2, hf⟩ := pf_b hf
        have hPc := hP.sub (ws' := ([] : va_W)) [] rfl
        refine cl_roi (va_runS (As := [.int x7]) (rest := [.int ((10 : Int32) - x3), .int x6]) ⟨hx, hb, hml, hown, hts⟩ (kX9_ones l D cI cJ cZ cB x7 q1 hq2) (va_cwS 1 hts gX9_away_X9_ones rfl rfl rfl (by decide +kernel) ⟨Nat.le_of_ble_eq_true rfl, Nat.le_of_ble_eq_true rfl⟩) ⟨PRo.blind, PRo.at hK hPc⟩ rfl rfl hl.1 rfl (lv_room (Nat.le_of_ble_eq_true rfl)) dX9_away_147 ⟨Nat.zero_le _, Nat.zero_le _⟩) ?_
        obtain ⟨q3, hq4, hf⟩ := pf_b hf
        have hPc := hP.sub (ws' := ([] : va_W)) [] rfl
        refine cl_roi (va_runS (As := [.int ((10 : Int32) - x3), .int q1]) (rest := [.int x6]) ⟨hx, hb, hml, hown, hts⟩ (kX9_power l D cI cJ cZ cB ((10 : Int32) - x3) q1 q3 hq4) (va_cwS 2 hts gX9_away_X9_power rfl rfl rfl (by decide +kernel) ⟨Nat.le_of_ble_eq_true rfl, Nat.le_of_ble_eq_true rfl⟩) ⟨PRo.blind, PRo.at hK hPc⟩ rfl rfl hl.1 rfl (lv_room (Nat.le_of_ble_eq_true rfl)) dX9_away_150 ⟨Nat.zero_le _, Nat.zero_le _⟩) ?_
        refine lv_iload_n hx hb dX9_away_153 rfl (lv_at hl 3 rfl) ?_
        refine lv_iload hx hb dX9_away_154 (lv_at hl 5 rfl) ?_
        refine lv_iload hx hb dX9_away_156 (lv_at hl 7 rfl) ?_
        obtain ⟨q5, hq6, hf⟩ := pf_b hf
        have hPc := hP.sub (ws' := ([] : va_W)) [] rfl
        refine cl_roi (va_runS (As := [.int x7]) (rest := [.int x5, .int x3, .int q3, .int x6]) ⟨hx, hb, hml, hown, hts⟩ (kX9_ones l D cI cJ cZ cB x7 q5 hq6) (va_cwS 1 hts gX9_away_X9_ones rfl rfl rfl (by decide +kernel) ⟨Nat.le_of_ble_eq_true rfl, Nat.le_of_ble_eq_true rfl⟩) ⟨PRo.blind, PRo.at hK hPc⟩ rfl rfl hl.1 rfl (lv_room (Nat.le_of_ble_eq_true rfl)) dX9_away_158 ⟨Nat.zero_le _, Nat.zero_le _⟩) ?_
        refine lv_isub hx hb dX9_away_161 ?_
        obtain ⟨q7, hq8, hf⟩ := pf_b hf
        have hPc := hP.sub (ws' := ([] : va_W)) [] rfl
        refine cl_roi (va_runS (As := [.int x3, .int (x5 - q5)]) (rest := [.int q3, .int x6]) ⟨hx, hb, hml, hown, hts⟩ (kX9_power l D cI cJ cZ cB x3 (x5 - q5) q7 hq8) (va_cwS 2 hts gX9_away_X9_power rfl rfl rfl (by decide +kernel) ⟨Nat.le_of_ble_eq_true rfl, Nat.le_of_ble_eq_true rfl⟩) ⟨PRo.blind, PRo.at hK hPc⟩ rfl rfl hl.1 rfl (lv_room (Nat.le_of_ble_eq_true rfl)) dX9_away_162 ⟨Nat.zero_le _, Nat.zero_le _⟩) ?_
        refine lv_imul hx hb dX9_away_165 ?_
        refine lv_goto (tgt := 170) hx hb dX9_away_166 (by decide) ?_
        refine lv_iadd hx hb dX9_away_170 ?_
        refine lv_istore (lv' := [(6, .int (x6 + (q3 * q7))), (0, .ref a_o), (1, .int x1), (2, .int x2), (3, .int x3), (4, .int x4), (5, .int x5), (7, .int x7), (8, .int x8), (9, .int x9)]) hx hb dX9_away_171 hl (by decide) rfl (fun ls hl => ?_)
        refine lv_iinc (v := (x7 + (1 : Int32))) (lv' := [(7, .int (x7 + (1 : Int32))), (6, .int (x6 + (q3 * q7))), (0, .ref a_o), (1, .int x1), (2, .int x2), (3, .int x3), (4, .int x4), (5, .int x5), (8, .int x8), (9, .int x9)]) hx hb dX9_away_173 hl (k := 7) rfl rfl (by decide) rfl (fun ls hl => ?_)
        refine lv_goto (tgt := 69) hx hb dX9_away_176 (by decide) ?_
        exact hk69 v_o_thrown v_o_textSize v_o_place v_o_rows v_o_readRows v_o_doings v_o_seen v_o_seed v_o_found v_o_foundViews v_o_foundMany d_o_page x1 x2 x3 x4 x5 (x6 + (q3 * q7)) (x7 + (1 : Int32)) _ _ ls _ hP hD hS (lv_sub hl [2, 3, 4, 5, 6, 7, 1, 0] rfl) hf
    · have hf := pf_f hc hf
      refine lv_iload hx hb dX9_away_91 (lv_at hl 8 rfl) ?_
      refine lv_iload hx hb dX9_away_93 (lv_at hl 7 rfl) ?_
      refine lv_iload hx hb dX9_away_95 (lv_at hl 9 rfl) ?_
      obtain ⟨q9, hq10, hf⟩ := pf_b hf
      have hPc := hP.sub (ws' := ([] : va_W)) [] rfl
      refine cl_roi (va_runS (As := [.int x7, .int x9]) (rest := [.int x8]) ⟨hx, hb, hml, hown, hts⟩ (kX9_has l D cI cJ cZ cB x7 x9 q9 hq10) (va_cwS 2 hts gX9_away_X9_has rfl rfl rfl (by decide +kernel) ⟨Nat.le_of_ble_eq_true rfl, Nat.le_of_ble_eq_true rfl⟩) ⟨PRo.blind, PRo.at hK hPc⟩ rfl rfl hl.1 rfl (lv_room (Nat.le_of_ble_eq_true rfl)) dX9_away_97 ⟨Nat.zero_le _, Nat.zero_le _⟩) ?_
      refine lv_if_eq (tgt := 123) hx hb dX9_away_100 (by decide) (fun hc => ?_) (fun hc => ?_)
      · have hf := pf_t hc hf
        refine lv_iconst (v := (0 : Int32)) hx hb dX9_away_123 (by decide) ?_
        refine lv_iadd hx hb dX9_away_124 ?_
        refine lv_istore (lv' := [(8, .int (x8 + (0 : Int32))), (0, .ref a_o), (1, .int x1), (2, .int x2), (3, .int x3), (4, .int x4), (5, .int x5), (6, .int x6), (7, .int x7), (9, .int x9)]) hx hb dX9_away_125 hl (by decide) rfl (fun ls hl => ?_)
        refine lv_iinc (v := (x9 + (1 : Int32))) (lv' := [(9, .int (x9 + (1 : Int32))), (8, .int (x8 + (0 : Int32))), (0, .ref a_o), (1, .int x1), (2, .int x2), (3, .int x3), (4, .int x4), (5, .int x5), (6, .int x6), (7, .int x7)]) hx hb dX9_away_127 hl (k := 9) rfl rfl (by decide) rfl (fun ls hl => ?_)
        refine lv_goto (tgt := 84) hx hb dX9_away_130 (by decide) ?_
        exact ih v_o_thrown v_o_textSize v_o_place v_o_rows v_o_readRows v_o_doings v_o_seen v_o_seed v_o_found v_o_foundViews v_o_foundMany d_o_page x1 x2 x3 x4 x5 x6 x7 (x8 + (0 : Int32)) (x9 + (1 : Int32)) _ _ ls _ hP hD hS (lv_sub hl [2, 3, 4, 5, 6, 7, 8, 9, 1, 0] rfl) hf
      · have hf := pf_f hc hf
        refine lv_aload_n hx hb dX9_away_103 rfl (lv_at hl 0 rfl) ?_
        refine va_get (D := D) (ci := 9) (v := .ref a_o_page) (C := RX9) (T := TX9) (N := 26) hx hb hts iX9_away_X9 hown hK.1 hP 0 rfl rfl 13 (by decide) (hts (.fieldLink RX9 35 "LoneSeatsModel" "page" "[I") (by decide +kernel)) (fun _ h9 => h9) rfl dX9_away_104 ?_
        refine lv_aload_n hx hb dX9_away_107 rfl (lv_at hl 0 rfl) ?_
        refine lv_iload_n hx hb dX9_away_108 rfl (lv_at hl 1 rfl) ?_
        refine lv_iload hx hb dX9_away_109 (lv_at hl 9 rfl) ?_
        obtain ⟨q11, hq12, hf⟩ := pf_b hf
        have hPc := hP.sub (ws' := (WX9_partyIn cI cJ cZ cB a_o a_o_text a_o_many a_o_views a_o_aisles a_o_readMany a_o_readViews a_o_readAisles a_o_readPage a_o_page a_o_trial a_o_book a_o_kept a_o_isKept a_o_seenSeat a_o_seenWas v_o_thrown v_o_textSize v_o_place v_o_rows v_o_readRows v_o_doings v_o_seen v_o_seed v_o_found v_o_foundViews v_o_foundMany d_o_page)) [0, 1] rfl
        refine cl_roi (va_runV (As := [.int x1, .int x9]) (rest := [.ref a_o_page, .int x8]) ⟨hx, hb, hml, hown, hts⟩ (kX9_partyIn l D cI cJ cZ cB a_o a_o_text a_o_many a_o_views a_o_aisles a_o_readMany a_o_readViews a_o_readAisles a_o_readPage a_o_page a_o_trial a_o_book a_o_kept a_o_isKept a_o_seenSeat a_o_seenWas v_o_thrown v_o_textSize v_o_place v_o_rows v_o_readRows v_o_doings v_o_seen v_o_seed v_o_found v_o_foundViews v_o_foundMany d_o_page x1 x9 q11 hq12) (cwV 2 hts gX9_away_X9_partyIn rfl rfl rfl (by decide +kernel) ⟨Nat.le_of_ble_eq_true rfl, Nat.le_of_ble_eq_true rfl⟩) ⟨PRo.blind, va_recv hK.1 hPc (ci := 9) (q0 := 0) rfl rfl, PRo.at hK hPc⟩ rfl rfl hl.1 rfl (lv_room (Nat.le_of_ble_eq_true rfl)) dX9_away_111 ⟨Nat.zero_le _, Nat.zero_le _⟩) ?_
        obtain ⟨q13, hq14, hf⟩ := pf_b hf
        have hPc := hP.sub (ws' := ([] : va_W)) [] rfl
        refine cl_roi (va_runS (As := [.int q11]) (rest := [.ref a_o_page, .int x8]) ⟨hx, hb, hml, hown, hts⟩ (kX9_at l D cI cJ cZ cB q11 q13 hq14) (va_cwS 1 hts gX9_away_X9_at rfl rfl rfl (by decide +kernel) ⟨Nat.le_of_ble_eq_true rfl, Nat.le_of_ble_eq_true rfl⟩) ⟨PRo.blind, PRo.at hK hPc⟩ rfl rfl hl.1 rfl (lv_room (Nat.le_of_ble_eq_true rfl)) dX9_away_114 ⟨Nat.zero_le _, Nat.zero_le _⟩) ?_
        refine lv_iconst (v := (0 : Int32)) hx hb dX9_away_117 (by decide) ?_
        refine lv_iadd hx hb dX9_away_118 ?_
        obtain ⟨hg15, hf⟩ := pf_x hf
        refine va_iald hx hb hK.1 hP 1 0 rfl rfl hg15 dX9_away_119 ?_
        refine lv_goto (tgt := 124) hx hb dX9_away_120 (by decide) ?_
        refine lv_iadd hx hb dX9_away_124 ?_
        refine lv_istore (lv' := [(8, .int (x8 + (d_o_page ((q13 + (0 : Int32))).toNatClampNeg))), (0, .ref a_o), (1, .int x1), (2, .int x2), (3, .int x3), (4, .int x4), (5, .int x5), (6, .int x6), (7, .int x7), (9, .int x9)]) hx hb dX9_away_125 hl (by decide) rfl (fun ls hl => ?_)
        refine lv_iinc (v := (x9 + (1 : Int32))) (lv' := [(9, .int (x9 + (1 : Int32))), (8, .int (x8 + (d_o_page ((q13 + (0 : Int32))).toNatClampNeg))), (0, .ref a_o), (1, .int x1), (2, .int x2), (3, .int x3), (4, .int x4), (5, .int x5), (6, .int x6), (7, .int x7)]) hx hb dX9_away_127 hl (k := 9) rfl rfl (by decide) rfl (fun ls hl => ?_)
        refine lv_goto (tgt := 84) hx hb dX9_away_130 (by decide) ?_
        exact ih v_o_thrown v_o_textSize v_o_place v_o_rows v_o_readRows v_o_doings v_o_seen v_o_seed v_o_found v_o_foundViews v_o_foundMany d_o_page x1 x2 x3 x4 x5 x6 x7 (x8 + (d_o_page ((q13 + (0 : Int32))).toNatClampNeg)) (x9 + (1 : Int32)) _ _ ls _ hP hD hS (lv_sub hl [2, 3, 4, 5, 6, 7, 8, 9, 1, 0] rfl) hf
def fX9_away_69 : Nat → Int32 → Int32 → (Nat → Int32) → Int32 → Int32 → Int32 → Int32 → Int32 → Int32 → Int32 → Option (Int32 × Int32)
  | 0, _, _, _, _, _, _, _, _, _, _ => none
  | n + 1, v_o_thrown, v_o_rows, d_o_page, x1, x2, x3, x4, x5, x6, x7 => (if ((1 : Int32) <<< (x5 &&& 31)) ≤ x7 then ((fX9_power (10 : Int32) x5).bind fun q1 => ((fX9_fraction x6 q1 x4).bind fun q3 => some (q3, v_o_thrown))) else fX9_away_84 (fX9_away_69 n) FU v_o_thrown v_o_rows d_o_page x1 x2 x3 x4 x5 x6 x7 (0 : Int32) (0 : Int32))
set_option maxRecDepth 100000 in
set_option maxHeartbeats 4000000 in
theorem tX9_away_69 {p : Program} {l : Launch} {e : Env} {s : State} {m : MethodId} {args : Array Value} {below : List Frame} {meth : Method} {c : Code} {D : va_G} {cI cJ cZ cB : ClassId} {a_o : Nat} {a_o_text : Nat} {a_o_many : Nat} {a_o_views : Nat} {a_o_aisles : Nat} {a_o_readMany : Nat} {a_o_readViews : Nat} {a_o_readAisles : Nat} {a_o_readPage : Nat} {a_o_page : Nat} {a_o_trial : Nat} {a_o_book : Nat} {a_o_kept : Nat} {a_o_isKept : Nat} {a_o_seenSeat : Nat} {a_o_seenWas : Nat} {A : Nat → Prop} (C : Cx p s m args meth c cX9_away 10 (some .int) wsX9_away RX9) (hK : Kw D (tyL cI cJ cZ cB) s) (hA : ∀ q : Nat, s.heap.size ≤ q → A q) : ∀ (n : Nat), ∀ (v_o_thrown : Int32) (v_o_textSize : Int32) (v_o_place : Int32) (v_o_rows : Int32) (v_o_readRows : Int32) (v_o_doings : Int32) (v_o_seen : Int32) (v_o_seed : Int64) (v_o_found : Int32) (v_o_foundViews : Int32) (v_o_foundMany : Int32) (d_o_page : (Nat → Int32)) (x1 : Int32) (x2 : Int32) (x3 : Int32) (x4 : Int32) (x5 : Int32) (x6 : Int32) (x7 : Int32) (H : Heap) (locs : List Loc) (ls : Array Slot) (res : Int32 × Int32), va_P D vwCl (WX9_away cI cJ cZ cB a_o a_o_text a_o_many a_o_views a_o_aisles a_o_readMany a_o_readViews a_o_readAisles a_o_readPage a_o_page a_o_trial a_o_book a_o_kept a_o_isKept a_o_seenSeat a_o_seenWas v_o_thrown v_o_textSize v_o_place v_o_rows v_o_readRows v_o_doings v_o_seen v_o_seed v_o_found v_o_foundViews v_o_foundMany d_o_page) H → va_D A (WX9_away cI cJ cZ cB a_o a_o_text a_o_many a_o_views a_o_aisles a_o_readMany a_o_readViews a_o_readAisles a_o_readPage a_o_page a_o_trial a_o_book a_o_kept a_o_isKept a_o_seenSeat a_o_seenWas v_o_thrown v_o_textSize v_o_place v_o_rows v_o_readRows v_o_doings v_o_seen v_o_seed v_o_found v_o_foundViews v_o_foundMany d_o_page) → va_S A s.heap H locs → lv_has ls 10 [(0, .ref a_o), (1, .int x1), (2, .int x2), (3, .int x3), (4, .int x4), (5, .int x5), (6, .int x6), (7, .int x7)] → fX9_away_69 n v_o_thrown v_o_rows d_o_page x1 x2 x3 x4 x5 x6 x7 = some res → W p l e ({ frames := 3, cells := 0, slots := 0, locals := 71 } : Room) s m args below meth c H locs 0 0 (MQ below (QRw D A (WX9_away cI cJ cZ cB a_o a_o_text a_o_many a_o_views a_o_aisles a_o_readMany a_o_readViews a_o_readAisles a_o_readPage a_o_page a_o_trial a_o_book a_o_kept a_o_isKept a_o_seenSeat a_o_seenWas res.2 v_o_textSize v_o_place v_o_rows v_o_readRows v_o_doings v_o_seen v_o_seed v_o_found v_o_foundViews v_o_foundMany d_o_page) (some (.int res.1))) args s 0 0 A) (F0 m 69 ls []) := by
  obtain ⟨hx, hb, hr, hml, hts, hown, hlk⟩ := id C
  intro n
  induction n with
  | zero =>
    intro v_o_thrown v_o_textSize v_o_place v_o_rows v_o_readRows v_o_doings v_o_seen v_o_seed v_o_found v_o_foundViews v_o_foundMany d_o_page x1 x2 x3 x4 x5 x6 x7 H locs ls res hP hD hS hl hf
    rw [fX9_away_69] at hf
    cases hf
  | succ n ih =>
    intro v_o_thrown v_o_textSize v_o_place v_o_rows v_o_readRows v_o_doings v_o_seen v_o_seed v_o_found v_o_foundViews v_o_foundMany d_o_page x1 x2 x3 x4 x5 x6 x7 H locs ls res hP hD hS hl hf
    rw [fX9_away_69] at hf
    refine lv_iload hx hb dX9_away_69 (lv_at hl 7 rfl) ?_
    refine lv_iconst (v := (1 : Int32)) hx hb dX9_away_71 (by decide) ?_
    refine lv_iload hx hb dX9_away_72 (lv_at hl 5 rfl) ?_
    refine lv_ishl hx hb dX9_away_74 ?_
    refine lv_icmp_ge (tgt := 179) hx hb dX9_away_75 (by decide) (fun hc => ?_) (fun hc => ?_)
    · have hf := pf_t hc hf
      refine lv_iload hx hb dX9_away_179 (lv_at hl 6 rfl) ?_
      refine lv_bipush (v := (10 : Int32)) hx hb dX9_away_181 (by decide) ?_
      refine lv_iload hx hb dX9_away_183 (lv_at hl 5 rfl) ?_
      obtain ⟨q1, hq2, hf⟩ := pf_b hf
      have hPc := hP.sub (ws' := ([] : va_W)) [] rfl
      refine cl_roi (va_runS (As := [.int (10 : Int32), .int x5]) (rest := [.int x6]) ⟨hx, hb, hml, hown, hts⟩ (kX9_power l D cI cJ cZ cB (10 : Int32) x5 q1 hq2) (va_cwS 2 hts gX9_away_X9_power rfl rfl rfl (by decide +kernel) ⟨Nat.le_of_ble_eq_true rfl, Nat.le_of_ble_eq_true rfl⟩) ⟨PRo.blind, PRo.at hK hPc⟩ rfl rfl hl.1 rfl (lv_room (Nat.le_of_ble_eq_true rfl)) dX9_away_185 ⟨Nat.zero_le _, Nat.zero_le _⟩) ?_
      refine lv_iload hx hb dX9_away_188 (lv_at hl 4 rfl) ?_
      obtain ⟨q3, hq4, hf⟩ := pf_b hf
      have hPc := hP.sub (ws' := ([] : va_W)) [] rfl
      refine cl_roi (va_runS (As := [.int x6, .int q1, .int x4]) (rest := []) ⟨hx, hb, hml, hown, hts⟩ (kX9_fraction l D cI cJ cZ cB x6 q1 x4 q3 hq4) (va_cwS 3 hts gX9_away_X9_fraction rfl rfl rfl (by decide +kernel) ⟨Nat.le_of_ble_eq_true rfl, Nat.le_of_ble_eq_true rfl⟩) ⟨PRo.blind, PRo.at hK hPc⟩ rfl rfl hl.1 rfl (lv_room (Nat.le_of_ble_eq_true rfl)) dX9_away_190 ⟨Nat.zero_le _, Nat.zero_le _⟩) ?_
      cases hf
      exact W.iret hx hb hr (fun t ht hW => ⟨⟨rfl, by rw [ht]; exact hP, hD⟩, hS.F ht⟩) hS.2.2 dX9_away_193
    · have hf := pf_f hc hf
      refine lv_iconst (v := (0 : Int32)) hx hb dX9_away_78 (by decide) ?_
      refine lv_istore (lv' := [(8, .int (0 : Int32)), (0, .ref a_o), (1, .int x1), (2, .int x2), (3, .int x3), (4, .int x4), (5, .int x5), (6, .int x6), (7, .int x7)]) hx hb dX9_away_79 hl (by decide) rfl (fun ls hl => ?_)
      refine lv_iconst (v := (0 : Int32)) hx hb dX9_away_81 (by decide) ?_
      refine lv_istore (lv' := [(9, .int (0 : Int32)), (8, .int (0 : Int32)), (0, .ref a_o), (1, .int x1), (2, .int x2), (3, .int x3), (4, .int x4), (5, .int x5), (6, .int x6), (7, .int x7)]) hx hb dX9_away_82 hl (by decide) rfl (fun ls hl => ?_)
      exact tX9_away_84 C hK hA ih FU v_o_thrown v_o_textSize v_o_place v_o_rows v_o_readRows v_o_doings v_o_seen v_o_seed v_o_found v_o_foundViews v_o_foundMany d_o_page x1 x2 x3 x4 x5 x6 x7 (0 : Int32) (0 : Int32) _ _ ls _ hP hD hS (lv_sub hl [2, 3, 4, 5, 6, 7, 8, 9, 1, 0] rfl) hf
def fX9_away_45 : Nat → Int32 → Int32 → (Nat → Int32) → Int32 → Int32 → Int32 → Int32 → Int32 → Option (Int32 × Int32)
  | 0, _, _, _, _, _, _, _, _ => none
  | n + 1, v_o_thrown, v_o_rows, d_o_page, x1, x2, x3, x4, x5 => ((fX9_partyIn d_o_page x1 x5).bind fun q1 => (if q1 = (-9 : Int32) then fX9_away_69 FU v_o_thrown v_o_rows d_o_page x1 x2 x3 x4 x5 (0 : Int32) (0 : Int32) else fX9_away_45 n v_o_thrown v_o_rows d_o_page x1 x2 x3 x4 (x5 + (1 : Int32))))
set_option maxRecDepth 100000 in
set_option maxHeartbeats 4000000 in
theorem tX9_away_45 {p : Program} {l : Launch} {e : Env} {s : State} {m : MethodId} {args : Array Value} {below : List Frame} {meth : Method} {c : Code} {D : va_G} {cI cJ cZ cB : ClassId} {a_o : Nat} {a_o_text : Nat} {a_o_many : Nat} {a_o_views : Nat} {a_o_aisles : Nat} {a_o_readMany : Nat} {a_o_readViews : Nat} {a_o_readAisles : Nat} {a_o_readPage : Nat} {a_o_page : Nat} {a_o_trial : Nat} {a_o_book : Nat} {a_o_kept : Nat} {a_o_isKept : Nat} {a_o_seenSeat : Nat} {a_o_seenWas : Nat} {A : Nat → Prop} (C : Cx p s m args meth c cX9_away 10 (some .int) wsX9_away RX9) (hK : Kw D (tyL cI cJ cZ cB) s) (hA : ∀ q : Nat, s.heap.size ≤ q → A q) : ∀ (n : Nat), ∀ (v_o_thrown : Int32) (v_o_textSize : Int32) (v_o_place : Int32) (v_o_rows : Int32) (v_o_readRows : Int32) (v_o_doings : Int32) (v_o_seen : Int32) (v_o_seed : Int64) (v_o_found : Int32) (v_o_foundViews : Int32) (v_o_foundMany : Int32) (d_o_page : (Nat → Int32)) (x1 : Int32) (x2 : Int32) (x3 : Int32) (x4 : Int32) (x5 : Int32) (H : Heap) (locs : List Loc) (ls : Array Slot) (res : Int32 × Int32), va_P D vwCl (WX9_away cI cJ cZ cB a_o a_o_text a_o_many a_o_views a_o_aisles a_o_readMany a_o_readViews a_o_readAisles a_o_readPage a_o_page a_o_trial a_o_book a_o_kept a_o_isKept a_o_seenSeat a_o_seenWas v_o_thrown v_o_textSize v_o_place v_o_rows v_o_readRows v_o_doings v_o_seen v_o_seed v_o_found v_o_foundViews v_o_foundMany d_o_page) H → va_D A (WX9_away cI cJ cZ cB a_o a_o_text a_o_many a_o_views a_o_aisles a_o_readMany a_o_readViews a_o_readAisles a_o_readPage a_o_page a_o_trial a_o_book a_o_kept a_o_isKept a_o_seenSeat a_o_seenWas v_o_thrown v_o_textSize v_o_place v_o_rows v_o_readRows v_o_doings v_o_seen v_o_seed v_o_found v_o_foundViews v_o_foundMany d_o_page) → va_S A s.heap H locs → lv_has ls 10 [(0, .ref a_o), (1, .int x1), (2, .int x2), (3, .int x3), (4, .int x4), (5, .int x5)] → fX9_away_45 n v_o_thrown v_o_rows d_o_page x1 x2 x3 x4 x5 = some res → W p l e ({ frames := 3, cells := 0, slots := 0, locals := 71 } : Room) s m args below meth c H locs 0 0 (MQ below (QRw D A (WX9_away cI cJ cZ cB a_o a_o_text a_o_many a_o_views a_o_aisles a_o_readMany a_o_readViews a_o_readAisles a_o_readPage a_o_page a_o_trial a_o_book a_o_kept a_o_isKept a_o_seenSeat a_o_seenWas res.2 v_o_textSize v_o_place v_o_rows v_o_readRows v_o_doings v_o_seen v_o_seed v_o_found v_o_foundViews v_o_foundMany d_o_page) (some (.int res.1))) args s 0 0 A) (F0 m 45 ls []) := by
  obtain ⟨hx, hb, hr, hml, hts, hown, hlk⟩ := id C
  intro n
  induction n with
  | zero =>
    intro v_o_thrown v_o_textSize v_o_place v_o_rows v_o_readRows v_o_doings v_o_seen v_o_seed v_o_found v_o_foundViews v_o_foundMany d_o_page x1 x2 x3 x4 x5 H locs ls res hP hD hS hl hf
    rw [fX9_away_45] at hf
    cases hf
  | succ n ih =>
    intro v_o_thrown v_o_textSize v_o_place v_o_rows v_o_readRows v_o_doings v_o_seen v_o_seed v_o_found v_o_foundViews v_o_foundMany d_o_page x1 x2 x3 x4 x5 H locs ls res hP hD hS hl hf
    rw [fX9_away_45] at hf
    refine lv_aload_n hx hb dX9_away_45 rfl (lv_at hl 0 rfl) ?_
    refine lv_iload_n hx hb dX9_away_46 rfl (lv_at hl 1 rfl) ?_
    refine lv_iload hx hb dX9_away_47 (lv_at hl 5 rfl) ?_
    obtain ⟨q1, hq2, hf⟩ := pf_b hf
    have hPc := hP.sub (ws' := (WX9_partyIn cI cJ cZ cB a_o a_o_text a_o_many a_o_views a_o_aisles a_o_readMany a_o_readViews a_o_readAisles a_o_readPage a_o_page a_o_trial a_o_book a_o_kept a_o_isKept a_o_seenSeat a_o_seenWas v_o_thrown v_o_textSize v_o_place v_o_rows v_o_readRows v_o_doings v_o_seen v_o_seed v_o_found v_o_foundViews v_o_foundMany d_o_page)) [0, 1] rfl
    refine cl_roi (va_runV (As := [.int x1, .int x5]) (rest := []) ⟨hx, hb, hml, hown, hts⟩ (kX9_partyIn l D cI cJ cZ cB a_o a_o_text a_o_many a_o_views a_o_aisles a_o_readMany a_o_readViews a_o_readAisles a_o_readPage a_o_page a_o_trial a_o_book a_o_kept a_o_isKept a_o_seenSeat a_o_seenWas v_o_thrown v_o_textSize v_o_place v_o_rows v_o_readRows v_o_doings v_o_seen v_o_seed v_o_found v_o_foundViews v_o_foundMany d_o_page x1 x5 q1 hq2) (cwV 2 hts gX9_away_X9_partyIn rfl rfl rfl (by decide +kernel) ⟨Nat.le_of_ble_eq_true rfl, Nat.le_of_ble_eq_true rfl⟩) ⟨PRo.blind, va_recv hK.1 hPc (ci := 9) (q0 := 0) rfl rfl, PRo.at hK hPc⟩ rfl rfl hl.1 rfl (lv_room (Nat.le_of_ble_eq_true rfl)) dX9_away_49 ⟨Nat.zero_le _, Nat.zero_le _⟩) ?_
    refine lv_bipush (v := (-9 : Int32)) hx hb dX9_away_52 (by decide) ?_
    refine lv_icmp_eq (tgt := 63) hx hb dX9_away_54 (by decide) (fun hc => ?_) (fun hc => ?_)
    · have hf := pf_t hc hf
      refine lv_iconst (v := (0 : Int32)) hx hb dX9_away_63 (by decide) ?_
      refine lv_istore (lv' := [(6, .int (0 : Int32)), (0, .ref a_o), (1, .int x1), (2, .int x2), (3, .int x3), (4, .int x4), (5, .int x5)]) hx hb dX9_away_64 hl (by decide) rfl (fun ls hl => ?_)
      refine lv_iconst (v := (0 : Int32)) hx hb dX9_away_66 (by decide) ?_
      refine lv_istore (lv' := [(7, .int (0 : Int32)), (6, .int (0 : Int32)), (0, .ref a_o), (1, .int x1), (2, .int x2), (3, .int x3), (4, .int x4), (5, .int x5)]) hx hb dX9_away_67 hl (by decide) rfl (fun ls hl => ?_)
      exact tX9_away_69 C hK hA  FU v_o_thrown v_o_textSize v_o_place v_o_rows v_o_readRows v_o_doings v_o_seen v_o_seed v_o_found v_o_foundViews v_o_foundMany d_o_page x1 x2 x3 x4 x5 (0 : Int32) (0 : Int32) _ _ ls _ hP hD hS (lv_sub hl [2, 3, 4, 5, 6, 7, 1, 0] rfl) hf
    · have hf := pf_f hc hf
      refine lv_iinc (v := (x5 + (1 : Int32))) (lv' := [(5, .int (x5 + (1 : Int32))), (0, .ref a_o), (1, .int x1), (2, .int x2), (3, .int x3), (4, .int x4)]) hx hb dX9_away_57 hl (k := 5) rfl rfl (by decide) rfl (fun ls hl => ?_)
      refine lv_goto (tgt := 45) hx hb dX9_away_60 (by decide) ?_
      exact ih v_o_thrown v_o_textSize v_o_place v_o_rows v_o_readRows v_o_doings v_o_seen v_o_seed v_o_found v_o_foundViews v_o_foundMany d_o_page x1 x2 x3 x4 (x5 + (1 : Int32)) _ _ ls _ hP hD hS (lv_sub hl [1, 2, 3, 4, 5, 0] rfl) hf
def fX9_away (v_o_thrown : Int32) (v_o_rows : Int32) (d_o_page : (Nat → Int32)) (x1 : Int32) (x2 : Int32) (x3 : Int32) (x4 : Int32) : Option (Int32 × Int32) := ((fX9_noRow v_o_rows x1).bind fun q1 => (if q1 = 0 then ((fX9_in ((x2).toInt64) (0 : Int64) (9 : Int64)).bind fun q3 => (if q3 = 0 then some ((-2 : Int32), (0 : Int32)) else ((fX9_in ((x3).toInt64) (0 : Int64) (10 : Int64)).bind fun q5 => (if q5 = 0 then some ((-2 : Int32), (0 : Int32)) else fX9_away_45 FU (0 : Int32) v_o_rows d_o_page x1 x2 x3 x4 (0 : Int32))))) else some ((-1 : Int32), (0 : Int32))))
set_option maxRecDepth 100000 in
set_option maxHeartbeats 4000000 in
theorem kX9_away (l : Launch) (D : va_G) (cI cJ cZ cB : ClassId) (a_o : Nat) (a_o_text : Nat) (a_o_many : Nat) (a_o_views : Nat) (a_o_aisles : Nat) (a_o_readMany : Nat) (a_o_readViews : Nat) (a_o_readAisles : Nat) (a_o_readPage : Nat) (a_o_page : Nat) (a_o_trial : Nat) (a_o_book : Nat) (a_o_kept : Nat) (a_o_isKept : Nat) (a_o_seenSeat : Nat) (a_o_seenWas : Nat) (v_o_thrown : Int32) (v_o_textSize : Int32) (v_o_place : Int32) (v_o_rows : Int32) (v_o_readRows : Int32) (v_o_doings : Int32) (v_o_seen : Int32) (v_o_seed : Int64) (v_o_found : Int32) (v_o_foundViews : Int32) (v_o_foundMany : Int32) (d_o_page : (Nat → Int32)) (x1 : Int32) (x2 : Int32) (x3 : Int32) (x4 : Int32) (res : Int32 × Int32) (hf : fX9_away v_o_thrown v_o_rows d_o_page x1 x2 x3 x4 = some res) : Rw l yX9_away wsX9_away ({ frames := 3, cells := 0, slots := 0, locals := 71 } : Room) D (tyL cI cJ cZ cB) [.ref a_o, .int x1, .int x2, .int x3, .int x4] (WX9_away cI cJ cZ cB a_o a_o_text a_o_many a_o_views a_o_aisles a_o_readMany a_o_readViews a_o_readAisles a_o_readPage a_o_page a_o_trial a_o_book a_o_kept a_o_isKept a_o_seenSeat a_o_seenWas v_o_thrown v_o_textSize v_o_place v_o_rows v_o_readRows v_o_doings v_o_seen v_o_seed v_o_found v_o_foundViews v_o_foundMany d_o_page) (some (.int res.1)) (WX9_away cI cJ cZ cB a_o a_o_text a_o_many a_o_views a_o_aisles a_o_readMany a_o_readViews a_o_readAisles a_o_readPage a_o_page a_o_trial a_o_book a_o_kept a_o_isKept a_o_seenSeat a_o_seenWas res.2 v_o_textSize v_o_place v_o_rows v_o_readRows v_o_doings v_o_seen v_o_seed v_o_found v_o_foundViews v_o_foundMany d_o_page) := by
  refine Rw.of (cc := cX9_away) (maxL := 10) (ret := (some .int)) (own := RX9) (by decide) rfl rfl (Nat.le_of_ble_eq_true rfl) ?_
  intro p e s m below meth c A ls C hK hA hP hD hS hl
  obtain ⟨hx, hb, hr, hml, hts, hown, hlk⟩ := id C
  have hl : lv_has ls 10 [(0, .ref a_o), (1, .int x1), (2, .int x2), (3, .int x3), (4, .int x4)] := hl
  unfold fX9_away at hf
  refine lv_aload_n hx hb dX9_away_0 rfl (lv_at hl 0 rfl) ?_
  refine lv_iconst (v := (0 : Int32)) hx hb dX9_away_1 (by decide) ?_
  refine va_put (D := D) (ci := 9) (v := .int (0 : Int32)) (ty := .int) (C := RX9) (T := TX9) (N := 26) hx hb hts iX9_away_X9 tyX9 tyX9_ok nmX9 hown hK.1 hP hD hS 0 rfl rfl 0 (by decide) (hts (.fieldLink RX9 60 "LoneSeatsModel" "thrown" "I") (by decide +kernel)) (fun _ h9 => h9) rfl (by decide +kernel) rfl rfl (Nat.le_of_ble_eq_true rfl) dX9_away_2 (fun H locs hP hD hS => ?_)
  have hP : va_P D vwCl (WX9_away cI cJ cZ cB a_o a_o_text a_o_many a_o_views a_o_aisles a_o_readMany a_o_readViews a_o_readAisles a_o_readPage a_o_page a_o_trial a_o_book a_o_kept a_o_isKept a_o_seenSeat a_o_seenWas (0 : Int32) v_o_textSize v_o_place v_o_rows v_o_readRows v_o_doings v_o_seen v_o_seed v_o_found v_o_foundViews v_o_foundMany d_o_page) H := hP
  have hD : va_D A (WX9_away cI cJ cZ cB a_o a_o_text a_o_many a_o_views a_o_aisles a_o_readMany a_o_readViews a_o_readAisles a_o_readPage a_o_page a_o_trial a_o_book a_o_kept a_o_isKept a_o_seenSeat a_o_seenWas (0 : Int32) v_o_textSize v_o_place v_o_rows v_o_readRows v_o_doings v_o_seen v_o_seed v_o_found v_o_foundViews v_o_foundMany d_o_page) := hD
  refine lv_aload_n hx hb dX9_away_5 rfl (lv_at hl 0 rfl) ?_
  refine lv_iload_n hx hb dX9_away_6 rfl (lv_at hl 1 rfl) ?_
  obtain ⟨q1, hq2, hf⟩ := pf_b hf
  have hPc := hP.sub (ws' := (WX9_noRow cI cJ cZ cB a_o a_o_text a_o_many a_o_views a_o_aisles a_o_readMany a_o_readViews a_o_readAisles a_o_readPage a_o_page a_o_trial a_o_book a_o_kept a_o_isKept a_o_seenSeat a_o_seenWas (0 : Int32) v_o_textSize v_o_place v_o_rows v_o_readRows v_o_doings v_o_seen v_o_seed v_o_found v_o_foundViews v_o_foundMany)) [0] rfl
  refine cl_roi (va_runV (As := [.int x1]) (rest := []) ⟨hx, hb, hml, hown, hts⟩ (kX9_noRow l D cI cJ cZ cB a_o a_o_text a_o_many a_o_views a_o_aisles a_o_readMany a_o_readViews a_o_readAisles a_o_readPage a_o_page a_o_trial a_o_book a_o_kept a_o_isKept a_o_seenSeat a_o_seenWas (0 : Int32) v_o_textSize v_o_place v_o_rows v_o_readRows v_o_doings v_o_seen v_o_seed v_o_found v_o_foundViews v_o_foundMany x1 q1 hq2) (cwV 1 hts gX9_away_X9_noRow rfl rfl rfl (by decide +kernel) ⟨Nat.le_of_ble_eq_true rfl, Nat.le_of_ble_eq_true rfl⟩) ⟨PRo.blind, va_recv hK.1 hPc (ci := 9) (q0 := 0) rfl rfl, PRo.at hK hPc⟩ rfl rfl hl.1 rfl (lv_room (Nat.le_of_ble_eq_true rfl)) dX9_away_7 ⟨Nat.zero_le _, Nat.zero_le _⟩) ?_
  refine lv_if_eq (tgt := 15) hx hb dX9_away_10 (by decide) (fun hc => ?_) (fun hc => ?_)
  · have hf := pf_t hc hf
    refine lv_iload_n hx hb dX9_away_15 rfl (lv_at hl 2 rfl) ?_
    refine lv_i2l (v := (x2).toInt64) hx hb dX9_away_16 rfl ?_
    refine lv_lconst (v := (0 : Int64)) hx hb dX9_away_17 (by decide) ?_
    refine lv_ldc2 (v := (9 : Int64)) hx hb hown (hts (.constantLong RX9 183 (9 : Int64)) (by decide +kernel)) dX9_away_18 ?_
    obtain ⟨q3, hq4, hf⟩ := pf_b hf
    have hPc := hP.sub (ws' := ([] : va_W)) [] rfl
    refine cl_roi (va_runS (As := [.long ((x2).toInt64), .long (0 : Int64), .long (9 : Int64)]) (rest := []) ⟨hx, hb, hml, hown, hts⟩ (kX9_in l D cI cJ cZ cB ((x2).toInt64) (0 : Int64) (9 : Int64) q3 hq4) (va_cwS 3 hts gX9_away_X9_in rfl rfl rfl (by decide +kernel) ⟨Nat.le_of_ble_eq_true rfl, Nat.le_of_ble_eq_true rfl⟩) ⟨PRo.blind, PRo.at hK hPc⟩ rfl rfl hl.1 rfl (lv_room (Nat.le_of_ble_eq_true rfl)) dX9_away_21 ⟨Nat.zero_le _, Nat.zero_le _⟩) ?_
    refine lv_if_eq (tgt := 39) hx hb dX9_away_24 (by decide) (fun hc => ?_) (fun hc => ?_)
    · have hf := pf_t hc hf
      refine lv_bipush (v := (-2 : Int32)) hx hb dX9_away_39 (by decide) ?_
      cases hf
      exact W.iret hx hb hr (fun t ht hW => ⟨⟨rfl, by rw [ht]; exact hP, hD⟩, hS.F ht⟩) hS.2.2 dX9_away_41
    · have hf := pf_f hc hf
      refine lv_iload_n hx hb dX9_away_27 rfl (lv_at hl 3 rfl) ?_
      refine lv_i2l (v := (x3).toInt64) hx hb dX9_away_28 rfl ?_
      refine lv_lconst (v := (0 : Int64)) hx hb dX9_away_29 (by decide) ?_
      refine lv_ldc2 (v := (10 : Int64)) hx hb hown (hts (.constantLong RX9 240 (10 : Int64)) (by decide +kernel)) dX9_away_30 ?_
      obtain ⟨q5, hq6, hf⟩ := pf_b hf
      have hPc := hP.sub (ws' := ([] : va_W)) [] rfl
      refine cl_roi (va_runS (As := [.long ((x3).toInt64), .long (0 : Int64), .long (10 : Int64)]) (rest := []) ⟨hx, hb, hml, hown, hts⟩ (kX9_in l D cI cJ cZ cB ((x3).toInt64) (0 : Int64) (10 : Int64) q5 hq6) (va_cwS 3 hts gX9_away_X9_in rfl rfl rfl (by decide +kernel) ⟨Nat.le_of_ble_eq_true rfl, Nat.le_of_ble_eq_true rfl⟩) ⟨PRo.blind, PRo.at hK hPc⟩ rfl rfl hl.1 rfl (lv_room (Nat.le_of_ble_eq_true rfl)) dX9_away_33 ⟨Nat.zero_le _, Nat.zero_le _⟩) ?_
      refine lv_if_ne (tgt := 42) hx hb dX9_away_36 (by decide) (fun hc => ?_) (fun hc => ?_)
      · have hf := pf_f hc hf
        refine lv_iconst (v := (0 : Int32)) hx hb dX9_away_42 (by decide) ?_
        refine lv_istore (lv' := [(5, .int (0 : Int32)), (0, .ref a_o), (1, .int x1), (2, .int x2), (3, .int x3), (4, .int x4)]) hx hb dX9_away_43 hl (by decide) rfl (fun ls hl => ?_)
        exact tX9_away_45 C hK hA  FU (0 : Int32) v_o_textSize v_o_place v_o_rows v_o_readRows v_o_doings v_o_seen v_o_seed v_o_found v_o_foundViews v_o_foundMany d_o_page x1 x2 x3 x4 (0 : Int32) _ _ ls _ hP hD hS (lv_sub hl [1, 2, 3, 4, 5, 0] rfl) hf
      · have hf := pf_t hc hf
        refine lv_bipush (v := (-2 : Int32)) hx hb dX9_away_39 (by decide) ?_
        cases hf
        exact W.iret hx hb hr (fun t ht hW => ⟨⟨rfl, by rw [ht]; exact hP, hD⟩, hS.F ht⟩) hS.2.2 dX9_away_41
  · have hf := pf_f hc hf
    refine lv_iconst (v := (-1 : Int32)) hx hb dX9_away_13 (by decide) ?_
    cases hf
    exact W.iret hx hb hr (fun t ht hW => ⟨⟨rfl, by rw [ht]; exact hP, hD⟩, hS.F ht⟩) hS.2.2 dX9_away_14
abbrev WX9_seed (cI cJ cZ cB : ClassId) (a_o : Nat) (a_o_text : Nat) (a_o_many : Nat) (a_o_views : Nat) (a_o_aisles : Nat) (a_o_readMany : Nat) (a_o_readViews : Nat) (a_o_readAisles : Nat) (a_o_readPage : Nat) (a_o_page : Nat) (a_o_trial : Nat) (a_o_book : Nat) (a_o_kept : Nat) (a_o_isKept : Nat) (a_o_seenSeat : Nat) (a_o_seenWas : Nat) (v_o_thrown : Int32) (v_o_textSize : Int32) (v_o_place : Int32) (v_o_rows : Int32) (v_o_readRows : Int32) (v_o_doings : Int32) (v_o_seen : Int32) (v_o_seed : Int64) (v_o_found : Int32) (v_o_foundViews : Int32) (v_o_foundMany : Int32) : va_W := [(a_o, .inr (9, [.int v_o_thrown, .ref a_o_text, .int v_o_textSize, .int v_o_place, .int v_o_rows, .ref a_o_many, .ref a_o_views, .ref a_o_aisles, .int v_o_readRows, .ref a_o_readMany, .ref a_o_readViews, .ref a_o_readAisles, .ref a_o_readPage, .ref a_o_page, .ref a_o_trial, .ref a_o_book, .int v_o_doings, .ref a_o_kept, .ref a_o_isKept, .int v_o_seen, .ref a_o_seenSeat, .ref a_o_seenWas, .long v_o_seed, .int v_o_found, .int v_o_foundViews, .int v_o_foundMany]))]
set_option maxRecDepth 20000 in
theorem iX9_seed_X9 : ∀ w ∈ wsX90, w ∈ wsX9_seed := by decide +kernel
def fX9_seed (v_o_thrown : Int32) (v_o_seed : Int64) (x1 : Int64) : Option (Int64 × Int32 × Int64) := some (v_o_seed, (0 : Int32), x1)
set_option maxRecDepth 100000 in
set_option maxHeartbeats 4000000 in
theorem kX9_seed (l : Launch) (D : va_G) (cI cJ cZ cB : ClassId) (a_o : Nat) (a_o_text : Nat) (a_o_many : Nat) (a_o_views : Nat) (a_o_aisles : Nat) (a_o_readMany : Nat) (a_o_readViews : Nat) (a_o_readAisles : Nat) (a_o_readPage : Nat) (a_o_page : Nat) (a_o_trial : Nat) (a_o_book : Nat) (a_o_kept : Nat) (a_o_isKept : Nat) (a_o_seenSeat : Nat) (a_o_seenWas : Nat) (v_o_thrown : Int32) (v_o_textSize : Int32) (v_o_place : Int32) (v_o_rows : Int32) (v_o_readRows : Int32) (v_o_doings : Int32) (v_o_seen : Int32) (v_o_seed : Int64) (v_o_found : Int32) (v_o_foundViews : Int32) (v_o_foundMany : Int32) (x1 : Int64) (res : Int64 × Int32 × Int64) (hf : fX9_seed v_o_thrown v_o_seed x1 = some res) : Rw l yX9_seed wsX9_seed ({ frames := 0, cells := 0, slots := 0, locals := 0 } : Room) D (tyL cI cJ cZ cB) [.ref a_o, .long x1] (WX9_seed cI cJ cZ cB a_o a_o_text a_o_many a_o_views a_o_aisles a_o_readMany a_o_readViews a_o_readAisles a_o_readPage a_o_page a_o_trial a_o_book a_o_kept a_o_isKept a_o_seenSeat a_o_seenWas v_o_thrown v_o_textSize v_o_place v_o_rows v_o_readRows v_o_doings v_o_seen v_o_seed v_o_found v_o_foundViews v_o_foundMany) (some (.long res.1)) (WX9_seed cI cJ cZ cB a_o a_o_text a_o_many a_o_views a_o_aisles a_o_readMany a_o_readViews a_o_readAisles a_o_readPage a_o_page a_o_trial a_o_book a_o_kept a_o_isKept a_o_seenSeat a_o_seenWas res.2.1 v_o_textSize v_o_place v_o_rows v_o_readRows v_o_doings v_o_seen res.2.2 v_o_found v_o_foundViews v_o_foundMany) := by
  refine Rw.of (cc := cX9_seed) (maxL := 5) (ret := (some .long)) (own := RX9) (by decide) rfl rfl (Nat.le_of_ble_eq_true rfl) ?_
  intro p e s m below meth c A ls C hK hA hP hD hS hl
  obtain ⟨hx, hb, hr, hml, hts, hown, hlk⟩ := id C
  have hl : lv_has ls 5 [(0, .ref a_o), (1, .long x1)] := hl
  unfold fX9_seed at hf
  refine lv_aload_n hx hb dX9_seed_0 rfl (lv_at hl 0 rfl) ?_
  refine lv_iconst (v := (0 : Int32)) hx hb dX9_seed_1 (by decide) ?_
  refine va_put (D := D) (ci := 9) (v := .int (0 : Int32)) (ty := .int) (C := RX9) (T := TX9) (N := 26) hx hb hts iX9_seed_X9 tyX9 tyX9_ok nmX9 hown hK.1 hP hD hS 0 rfl rfl 0 (by decide) (hts (.fieldLink RX9 60 "LoneSeatsModel" "thrown" "I") (by decide +kernel)) (fun _ h9 => h9) rfl (by decide +kernel) rfl rfl (Nat.le_of_ble_eq_true rfl) dX9_seed_2 (fun H locs hP hD hS => ?_)
  have hP : va_P D vwCl (WX9_seed cI cJ cZ cB a_o a_o_text a_o_many a_o_views a_o_aisles a_o_readMany a_o_readViews a_o_readAisles a_o_readPage a_o_page a_o_trial a_o_book a_o_kept a_o_isKept a_o_seenSeat a_o_seenWas (0 : Int32) v_o_textSize v_o_place v_o_rows v_o_readRows v_o_doings v_o_seen v_o_seed v_o_found v_o_foundViews v_o_foundMany) H := hP
  have hD : va_D A (WX9_seed cI cJ cZ cB a_o a_o_text a_o_many a_o_views a_o_aisles a_o_readMany a_o_readViews a_o_readAisles a_o_readPage a_o_page a_o_trial a_o_book a_o_kept a_o_isKept a_o_seenSeat a_o_seenWas (0 : Int32) v_o_textSize v_o_place v_o_rows v_o_readRows v_o_doings v_o_seen v_o_seed v_o_found v_o_foundViews v_o_foundMany) := hD
  refine lv_aload_n hx hb dX9_seed_5 rfl (lv_at hl 0 rfl) ?_
  refine va_get (D := D) (ci := 9) (v := .long v_o_seed) (C := RX9) (T := TX9) (N := 26) hx hb hts iX9_seed_X9 hown hK.1 hP 0 rfl rfl 22 (by decide) (hts (.fieldLink RX9 248 "LoneSeatsModel" "seed" "J") (by decide +kernel)) (fun _ h9 => h9) rfl dX9_seed_6 ?_
  refine lv_lstore_n (lv' := [(3, .long v_o_seed), (0, .ref a_o), (1, .long x1)]) hx hb dX9_seed_9 rfl hl (by decide) rfl (fun ls hl => ?_)
  refine lv_aload_n hx hb dX9_seed_10 rfl (lv_at hl 1 rfl) ?_
  refine lv_lload_n hx hb dX9_seed_11 rfl (lv_at hl 2 rfl) ?_
  refine va_put (D := D) (ci := 9) (v := .long x1) (ty := .long) (C := RX9) (T := TX9) (N := 26) hx hb hts iX9_seed_X9 tyX9 tyX9_ok nmX9 hown hK.1 hP hD hS 0 rfl rfl 22 (by decide) (hts (.fieldLink RX9 248 "LoneSeatsModel" "seed" "J") (by decide +kernel)) (fun _ h9 => h9) rfl (by decide +kernel) rfl rfl (Nat.le_of_ble_eq_true rfl) dX9_seed_12 (fun H locs hP hD hS => ?_)
  have hP : va_P D vwCl (WX9_seed cI cJ cZ cB a_o a_o_text a_o_many a_o_views a_o_aisles a_o_readMany a_o_readViews a_o_readAisles a_o_readPage a_o_page a_o_trial a_o_book a_o_kept a_o_isKept a_o_seenSeat a_o_seenWas (0 : Int32) v_o_textSize v_o_place v_o_rows v_o_readRows v_o_doings v_o_seen x1 v_o_found v_o_foundViews v_o_foundMany) H := hP
  have hD : va_D A (WX9_seed cI cJ cZ cB a_o a_o_text a_o_many a_o_views a_o_aisles a_o_readMany a_o_readViews a_o_readAisles a_o_readPage a_o_page a_o_trial a_o_book a_o_kept a_o_isKept a_o_seenSeat a_o_seenWas (0 : Int32) v_o_textSize v_o_place v_o_rows v_o_readRows v_o_doings v_o_seen x1 v_o_found v_o_foundViews v_o_foundMany) := hD
  refine lv_lload_n hx hb dX9_seed_15 rfl (lv_at hl 0 rfl) ?_
  cases hf
  exact W.lret hx hb hr (fun t ht hW => ⟨⟨rfl, by rw [ht]; exact hP, hD⟩, hS.F ht⟩) hS.2.2 dX9_seed_16
abbrev WX9_returnAt (cI cJ cZ cB : ClassId) (a_o : Nat) (a_o_text : Nat) (a_o_many : Nat) (a_o_views : Nat) (a_o_aisles : Nat) (a_o_readMany : Nat) (a_o_readViews : Nat) (a_o_readAisles : Nat) (a_o_readPage : Nat) (a_o_page : Nat) (a_o_trial : Nat) (a_o_book : Nat) (a_o_kept : Nat) (a_o_isKept : Nat) (a_o_seenSeat : Nat) (a_o_seenWas : Nat) (v_o_thrown : Int32) (v_o_textSize : Int32) (v_o_place : Int32) (v_o_rows : Int32) (v_o_readRows : Int32) (v_o_doings : Int32) (v_o_seen : Int32) (v_o_seed : Int64) (v_o_found : Int32) (v_o_foundViews : Int32) (v_o_foundMany : Int32) (d_o_many : (Nat → Int32)) (d_o_views : (Nat → Int32)) (d_o_aisles : (Nat → Int32)) (d_o_trial : (Nat → Int32)) : va_W := [(a_o, .inr (9, [.int v_o_thrown, .ref a_o_text, .int v_o_textSize, .int v_o_place, .int v_o_rows, .ref a_o_many, .ref a_o_views, .ref a_o_aisles, .int v_o_readRows, .ref a_o_readMany, .ref a_o_readViews, .ref a_o_readAisles, .ref a_o_readPage, .ref a_o_page, .ref a_o_trial, .ref a_o_book, .int v_o_doings, .ref a_o_kept, .ref a_o_isKept, .int v_o_seen, .ref a_o_seenSeat, .ref a_o_seenWas, .long v_o_seed, .int v_o_found, .int v_o_foundViews, .int v_o_foundMany])), (a_o_many, .inl (cI, (4, .inl d_o_many))), (a_o_views, .inl (cI, (36, .inl d_o_views))), (a_o_aisles, .inl (cZ, (36, .inl d_o_aisles))), (a_o_trial, .inl (cI, (229, .inl d_o_trial)))]
set_option maxRecDepth 20000 in
theorem iX9_returnAt_X9 : ∀ w ∈ wsX90, w ∈ wsX9_returnAt := by decide +kernel
def fX9_returnAt_4 : Nat → Int32 → Int32 → Int32 → Int32 → (Nat → Int32) → (Nat → Int32) → (Nat → Int32) → (Nat → Int32) → Int32 → Int32 → Option (Int32 × Int32 × Int32 × (Nat → Int32))
  | 0, _, _, _, _, _, _, _, _, _, _ => none
  | n + 1, v_o_rows, v_o_found, v_o_foundViews, v_o_foundMany, d_o_many, d_o_views, d_o_aisles, d_o_trial, x2, x3 => (if (d_o_trial ((6 : Int32)).toNatClampNeg) < x3 then some (v_o_found, v_o_foundViews, v_o_foundMany, d_o_trial) else ((fX9_at x3).bind fun q1 => (if (q1 + (2 : Int32)) < 0 ∨ 229 ≤ ((q1 + (2 : Int32))).toNatClampNeg then none else (if (d_o_trial ((q1 + (2 : Int32))).toNatClampNeg) = (1 : Int32) then (if x2 = 0 then ((fX9_returnOn v_o_rows v_o_found v_o_foundViews v_o_foundMany d_o_many d_o_views d_o_aisles d_o_trial x3).bind fun q4 => some (q4.2.1, q4.2.2.1, q4.2.2.2.1, q4.2.2.2.2)) else fX9_returnAt_4 n v_o_rows v_o_found v_o_foundViews v_o_foundMany d_o_many d_o_views d_o_aisles d_o_trial (x2 + (-1 : Int32)) (x3 + (1 : Int32))) else fX9_returnAt_4 n v_o_rows v_o_found v_o_foundViews v_o_foundMany d_o_many d_o_views d_o_aisles d_o_trial x2 (x3 + (1 : Int32))))))
set_option maxRecDepth 100000 in
set_option maxHeartbeats 4000000 in
theorem tX9_returnAt_4 {p : Program} {l : Launch} {e : Env} {s : State} {m : MethodId} {args : Array Value} {below : List Frame} {meth : Method} {c : Code} {D : va_G} {cI cJ cZ cB : ClassId} {a_o : Nat} {a_o_text : Nat} {a_o_many : Nat} {a_o_views : Nat} {a_o_aisles : Nat} {a_o_readMany : Nat} {a_o_readViews : Nat} {a_o_readAisles : Nat} {a_o_readPage : Nat} {a_o_page : Nat} {a_o_trial : Nat} {a_o_book : Nat} {a_o_kept : Nat} {a_o_isKept : Nat} {a_o_seenSeat : Nat} {a_o_seenWas : Nat} {A : Nat → Prop} (C : Cx p s m args meth c cX9_returnAt 4 none wsX9_returnAt RX9) (hK : Kw D (tyL cI cJ cZ cB) s) (hA : ∀ q : Nat, s.heap.size ≤ q → A q) : ∀ (n : Nat), ∀ (v_o_thrown : Int32) (v_o_textSize : Int32) (v_o_place : Int32) (v_o_rows : Int32) (v_o_readRows : Int32) (v_o_doings : Int32) (v_o_seen : Int32) (v_o_seed : Int64) (v_o_found : Int32) (v_o_foundViews : Int32) (v_o_foundMany : Int32) (d_o_many : (Nat → Int32)) (d_o_views : (Nat → Int32)) (d_o_aisles : (Nat → Int32)) (d_o_trial : (Nat → Int32)) (x2 : Int32) (x3 : Int32) (H : Heap) (locs : List Loc) (ls : Array Slot) (res : Int32 × Int32 × Int32 × (Nat → Int32)), va_P D vwCl (WX9_returnAt cI cJ cZ cB a_o a_o_text a_o_many a_o_views a_o_aisles a_o_readMany a_o_readViews a_o_readAisles a_o_readPage a_o_page a_o_trial a_o_book a_o_kept a_o_isKept a_o_seenSeat a_o_seenWas v_o_thrown v_o_textSize v_o_place v_o_rows v_o_readRows v_o_doings v_o_seen v_o_seed v_o_found v_o_foundViews v_o_foundMany d_o_many d_o_views d_o_aisles d_o_trial) H → va_D A (WX9_returnAt cI cJ cZ cB a_o a_o_text a_o_many a_o_views a_o_aisles a_o_readMany a_o_readViews a_o_readAisles a_o_readPage a_o_page a_o_trial a_o_book a_o_kept a_o_isKept a_o_seenSeat a_o_seenWas v_o_thrown v_o_textSize v_o_place v_o_rows v_o_readRows v_o_doings v_o_seen v_o_seed v_o_found v_o_foundViews v_o_foundMany d_o_many d_o_views d_o_aisles d_o_trial) → va_S A s.heap H locs → lv_has ls 4 [(0, .ref a_o), (2, .int x2), (3, .int x3)] → fX9_returnAt_4 n v_o_rows v_o_found v_o_foundViews v_o_foundMany d_o_many d_o_views d_o_aisles d_o_trial x2 x3 = some res → W p l e ({ frames := 9, cells := 0, slots := 0, locals := 222 } : Room) s m args below meth c H locs 0 0 (MQ below (QRw D A (WX9_returnAt cI cJ cZ cB a_o a_o_text a_o_many a_o_views a_o_aisles a_o_readMany a_o_readViews a_o_readAisles a_o_readPage a_o_page a_o_trial a_o_book a_o_kept a_o_isKept a_o_seenSeat a_o_seenWas v_o_thrown v_o_textSize v_o_place v_o_rows v_o_readRows v_o_doings v_o_seen v_o_seed res.1 res.2.1 res.2.2.1 d_o_many d_o_views d_o_aisles res.2.2.2) none) args s 0 0 A) (F0 m 4 ls []) := by
  obtain ⟨hx, hb, hr, hml, hts, hown, hlk⟩ := id C
  intro n
  induction n with
  | zero =>
    intro v_o_thrown v_o_textSize v_o_place v_o_rows v_o_readRows v_o_doings v_o_seen v_o_seed v_o_found v_o_foundViews v_o_foundMany d_o_many d_o_views d_o_aisles d_o_trial x2 x3 H locs ls res hP hD hS hl hf
    rw [fX9_returnAt_4] at hf
    cases hf
  | succ n ih =>
    intro v_o_thrown v_o_textSize v_o_place v_o_rows v_o_readRows v_o_doings v_o_seen v_o_seed v_o_found v_o_foundViews v_o_foundMany d_o_many d_o_views d_o_aisles d_o_trial x2 x3 H locs ls res hP hD hS hl hf
    rw [fX9_returnAt_4] at hf
    refine lv_iload_n hx hb dX9_returnAt_4 rfl (lv_at hl 2 rfl) ?_
    refine lv_aload_n hx hb dX9_returnAt_5 rfl (lv_at hl 0 rfl) ?_
    refine va_get (D := D) (ci := 9) (v := .ref a_o_trial) (C := RX9) (T := TX9) (N := 26) hx hb hts iX9_returnAt_X9 hown hK.1 hP 0 rfl rfl 14 (by decide) (hts (.fieldLink RX9 38 "LoneSeatsModel" "trial" "[I") (by decide +kernel)) (fun _ h9 => h9) rfl dX9_returnAt_6 ?_
    refine lv_bipush (v := (6 : Int32)) hx hb dX9_returnAt_9 (by decide) ?_
    refine va_iald hx hb hK.1 hP 4 0 rfl rfl (show ¬ ((6 : Int32) < 0 ∨ 229 ≤ ((6 : Int32)).toNatClampNeg) by decide) dX9_returnAt_11 ?_
    refine lv_icmp_gt (tgt := 54) hx hb dX9_returnAt_12 (by decide) (fun hc => ?_) (fun hc => ?_)
    · have hf := pf_t hc hf
      cases hf
      exact W.vret hx hb hr (fun t ht hW => ⟨⟨rfl, by rw [ht]; exact hP, hD⟩, hS.F ht⟩) hS.2.2 dX9_returnAt_54
    · have hf := pf_f hc hf
      refine lv_aload_n hx hb dX9_returnAt_15 rfl (lv_at hl 0 rfl) ?_
      refine va_get (D := D) (ci := 9) (v := .ref a_o_trial) (C := RX9) (T := TX9) (N := 26) hx hb hts iX9_returnAt_X9 hown hK.1 hP 0 rfl rfl 14 (by decide) (hts (.fieldLink RX9 38 "LoneSeatsModel" "trial" "[I") (by decide +kernel)) (fun _ h9 => h9) rfl dX9_returnAt_16 ?_
      refine lv_iload_n hx hb dX9_returnAt_19 rfl (lv_at hl 2 rfl) ?_
      obtain ⟨q1, hq2, hf⟩ := pf_b hf
      have hPc := hP.sub (ws' := ([] : va_W)) [] rfl
      refine cl_roi (va_runS (As := [.int x3]) (rest := [.ref a_o_trial]) ⟨hx, hb, hml, hown, hts⟩ (kX9_at l D cI cJ cZ cB x3 q1 hq2) (va_cwS 1 hts gX9_returnAt_X9_at rfl rfl rfl (by decide +kernel) ⟨Nat.le_of_ble_eq_true rfl, Nat.le_of_ble_eq_true rfl⟩) ⟨PRo.blind, PRo.at hK hPc⟩ rfl rfl hl.1 rfl (lv_room (Nat.le_of_ble_eq_true rfl)) dX9_returnAt_20 ⟨Nat.zero_le _, Nat.zero_le _⟩) ?_
      refine lv_iconst (v := (2 : Int32)) hx hb dX9_returnAt_23 (by decide) ?_
      refine lv_iadd hx hb dX9_returnAt_24 ?_
      obtain ⟨hg3, hf⟩ := pf_x hf
      refine va_iald hx hb hK.1 hP 4 0 rfl rfl hg3 dX9_returnAt_25 ?_
      refine lv_iconst (v := (1 : Int32)) hx hb dX9_returnAt_26 (by decide) ?_
      refine lv_icmp_ne (tgt := 48) hx hb dX9_returnAt_27 (by decide) (fun hc => ?_) (fun hc => ?_)
      · have hf := pf_f hc hf
        refine lv_iinc (v := (x3 + (1 : Int32))) (lv' := [(3, .int (x3 + (1 : Int32))), (0, .ref a_o), (2, .int x2)]) hx hb dX9_returnAt_48 hl (k := 2) rfl rfl (by decide) rfl (fun ls hl => ?_)
        refine lv_goto (tgt := 4) hx hb dX9_returnAt_51 (by decide) ?_
        exact ih v_o_thrown v_o_textSize v_o_place v_o_rows v_o_readRows v_o_doings v_o_seen v_o_seed v_o_found v_o_foundViews v_o_foundMany d_o_many d_o_views d_o_aisles d_o_trial x2 (x3 + (1 : Int32)) _ _ ls _ hP hD hS (lv_sub hl [1, 2, 0] rfl) hf
      · have hf := pf_t hc hf
        refine lv_iload_n hx hb dX9_returnAt_30 rfl (lv_at hl 1 rfl) ?_
        refine lv_if_ne (tgt := 45) hx hb dX9_returnAt_31 (by decide) (fun hc => ?_) (fun hc => ?_)
        · have hf := pf_f hc hf
          refine lv_iinc (v := (x2 + (-1 : Int32))) (lv' := [(2, .int (x2 + (-1 : Int32))), (0, .ref a_o), (3, .int x3)]) hx hb dX9_returnAt_45 hl (k := 1) rfl rfl (by decide) rfl (fun ls hl => ?_)
          refine lv_iinc (v := (x3 + (1 : Int32))) (lv' := [(3, .int (x3 + (1 : Int32))), (2, .int (x2 + (-1 : Int32))), (0, .ref a_o)]) hx hb dX9_returnAt_48 hl (k := 2) rfl rfl (by decide) rfl (fun ls hl => ?_)
          refine lv_goto (tgt := 4) hx hb dX9_returnAt_51 (by decide) ?_
          exact ih v_o_thrown v_o_textSize v_o_place v_o_rows v_o_readRows v_o_doings v_o_seen v_o_seed v_o_found v_o_foundViews v_o_foundMany d_o_many d_o_views d_o_aisles d_o_trial (x2 + (-1 : Int32)) (x3 + (1 : Int32)) _ _ ls _ hP hD hS (lv_sub hl [2, 1, 0] rfl) hf
        · have hf := pf_t hc hf
          refine lv_aload_n hx hb dX9_returnAt_34 rfl (lv_at hl 0 rfl) ?_
          refine lv_aload_n hx hb dX9_returnAt_35 rfl (lv_at hl 0 rfl) ?_
          refine va_get (D := D) (ci := 9) (v := .ref a_o_trial) (C := RX9) (T := TX9) (N := 26) hx hb hts iX9_returnAt_X9 hown hK.1 hP 0 rfl rfl 14 (by decide) (hts (.fieldLink RX9 38 "LoneSeatsModel" "trial" "[I") (by decide +kernel)) (fun _ h9 => h9) rfl dX9_returnAt_36 ?_
          refine lv_iload_n hx hb dX9_returnAt_39 rfl (lv_at hl 2 rfl) ?_
          obtain ⟨q4, hq5, hf⟩ := pf_b hf
          have hPc := hP.sub (ws' := (WX9_returnOn cI cJ cZ cB a_o a_o_text a_o_many a_o_views a_o_aisles a_o_readMany a_o_readViews a_o_readAisles a_o_readPage a_o_page a_o_trial a_o_book a_o_kept a_o_isKept a_o_seenSeat a_o_seenWas a_o_trial v_o_thrown v_o_textSize v_o_place v_o_rows v_o_readRows v_o_doings v_o_seen v_o_seed v_o_found v_o_foundViews v_o_foundMany d_o_many d_o_views d_o_aisles d_o_trial)) [0, 1, 2, 3, 4] rfl
          have hDc := hD.sub (ws' := (WX9_returnOn cI cJ cZ cB a_o a_o_text a_o_many a_o_views a_o_aisles a_o_readMany a_o_readViews a_o_readAisles a_o_readPage a_o_page a_o_trial a_o_book a_o_kept a_o_isKept a_o_seenSeat a_o_seenWas a_o_trial v_o_thrown v_o_textSize v_o_place v_o_rows v_o_readRows v_o_doings v_o_seen v_o_seed v_o_found v_o_foundViews v_o_foundMany d_o_many d_o_views d_o_aisles d_o_trial)) [0, 1, 2, 3, 4] (by decide) rfl
          refine cl_rwi (wr := []) (wsN := (WX9_returnAt cI cJ cZ cB a_o a_o_text a_o_many a_o_views a_o_aisles a_o_readMany a_o_readViews a_o_readAisles a_o_readPage a_o_page a_o_trial a_o_book a_o_kept a_o_isKept a_o_seenSeat a_o_seenWas v_o_thrown v_o_textSize v_o_place v_o_rows v_o_readRows v_o_doings v_o_seen v_o_seed q4.2.1 q4.2.2.1 q4.2.2.2.1 d_o_many d_o_views d_o_aisles q4.2.2.2.2)) (va_runV (As := [.ref a_o_trial, .int x3]) (rest := []) ⟨hx, hb, hml, hown, hts⟩ ((kX9_returnOn l D cI cJ cZ cB a_o a_o_text a_o_many a_o_views a_o_aisles a_o_readMany a_o_readViews a_o_readAisles a_o_readPage a_o_page a_o_trial a_o_book a_o_kept a_o_isKept a_o_seenSeat a_o_seenWas a_o_trial v_o_thrown v_o_textSize v_o_place v_o_rows v_o_readRows v_o_doings v_o_seen v_o_seed v_o_found v_o_foundViews v_o_foundMany d_o_many d_o_views d_o_aisles d_o_trial x3 q4 hq5) _) (cwV 2 hts gX9_returnAt_X9_returnOn rfl rfl rfl (by decide +kernel) ⟨Nat.le_of_ble_eq_true rfl, Nat.le_of_ble_eq_true rfl⟩) ⟨PRw.blind, va_recv hK.1 hPc (ci := 9) (q0 := 0) rfl rfl, PRw.at hK hPc hDc⟩ rfl rfl hl.1 rfl (lv_room (Nat.le_of_ble_eq_true rfl)) dX9_returnAt_40 ⟨Nat.zero_le _, Nat.zero_le _⟩) hP hD hS hA [0, 1, 2, 3, 4] [] [0, 1, 2, 3, 4] rfl rfl (by decide) (by decide) rfl (by decide) (fun H locs hP hD hS => ?_)
          refine lv_pop hx hb dX9_returnAt_43 rfl ?_
          cases hf
          exact W.vret hx hb hr (fun t ht hW => ⟨⟨rfl, by rw [ht]; exact hP, hD⟩, hS.F ht⟩) hS.2.2 dX9_returnAt_44
def fX9_returnAt (v_o_rows : Int32) (v_o_found : Int32) (v_o_foundViews : Int32) (v_o_foundMany : Int32) (d_o_many : (Nat → Int32)) (d_o_views : (Nat → Int32)) (d_o_aisles : (Nat → Int32)) (d_o_trial : (Nat → Int32)) (x1 : Int32) : Option (Int32 × Int32 × Int32 × (Nat → Int32)) := fX9_returnAt_4 FU v_o_rows v_o_found v_o_foundViews v_o_foundMany d_o_many d_o_views d_o_aisles d_o_trial x1 (1 : Int32)
set_option maxRecDepth 100000 in
set_option maxHeartbeats 4000000 in
theorem kX9_returnAt (l : Launch) (D : va_G) (cI cJ cZ cB : ClassId) (a_o : Nat) (a_o_text : Nat) (a_o_many : Nat) (a_o_views : Nat) (a_o_aisles : Nat) (a_o_readMany : Nat) (a_o_readViews : Nat) (a_o_readAisles : Nat) (a_o_readPage : Nat) (a_o_page : Nat) (a_o_trial : Nat) (a_o_book : Nat) (a_o_kept : Nat) (a_o_isKept : Nat) (a_o_seenSeat : Nat) (a_o_seenWas : Nat) (v_o_thrown : Int32) (v_o_textSize : Int32) (v_o_place : Int32) (v_o_rows : Int32) (v_o_readRows : Int32) (v_o_doings : Int32) (v_o_seen : Int32) (v_o_seed : Int64) (v_o_found : Int32) (v_o_foundViews : Int32) (v_o_foundMany : Int32) (d_o_many : (Nat → Int32)) (d_o_views : (Nat → Int32)) (d_o_aisles : (Nat → Int32)) (d_o_trial : (Nat → Int32)) (x1 : Int32) (res : Int32 × Int32 × Int32 × (Nat → Int32)) (hf : fX9_returnAt v_o_rows v_o_found v_o_foundViews v_o_foundMany d_o_many d_o_views d_o_aisles d_o_trial x1 = some res) : Rw l yX9_returnAt wsX9_returnAt ({ frames := 9, cells := 0, slots := 0, locals := 222 } : Room) D (tyL cI cJ cZ cB) [.ref a_o, .int x1] (WX9_returnAt cI cJ cZ cB a_o a_o_text a_o_many a_o_views a_o_aisles a_o_readMany a_o_readViews a_o_readAisles a_o_readPage a_o_page a_o_trial a_o_book a_o_kept a_o_isKept a_o_seenSeat a_o_seenWas v_o_thrown v_o_textSize v_o_place v_o_rows v_o_readRows v_o_doings v_o_seen v_o_seed v_o_found v_o_foundViews v_o_foundMany d_o_many d_o_views d_o_aisles d_o_trial) none (WX9_returnAt cI cJ cZ cB a_o a_o_text a_o_many a_o_views a_o_aisles a_o_readMany a_o_readViews a_o_readAisles a_o_readPage a_o_page a_o_trial a_o_book a_o_kept a_o_isKept a_o_seenSeat a_o_seenWas v_o_thrown v_o_textSize v_o_place v_o_rows v_o_readRows v_o_doings v_o_seen v_o_seed res.1 res.2.1 res.2.2.1 d_o_many d_o_views d_o_aisles res.2.2.2) := by
  refine Rw.of (cc := cX9_returnAt) (maxL := 4) (ret := none) (own := RX9) (by decide) rfl rfl (Nat.le_of_ble_eq_true rfl) ?_
  intro p e s m below meth c A ls C hK hA hP hD hS hl
  obtain ⟨hx, hb, hr, hml, hts, hown, hlk⟩ := id C
  have hl : lv_has ls 4 [(0, .ref a_o), (1, .int x1)] := hl
  unfold fX9_returnAt at hf
  refine lv_iload_n hx hb dX9_returnAt_0 rfl (lv_at hl 1 rfl) ?_
  refine lv_istore_n (lv' := [(2, .int x1), (0, .ref a_o), (1, .int x1)]) hx hb dX9_returnAt_1 rfl hl (by decide) rfl (fun ls hl => ?_)
  refine lv_iconst (v := (1 : Int32)) hx hb dX9_returnAt_2 (by decide) ?_
  refine lv_istore_n (lv' := [(3, .int (1 : Int32)), (2, .int x1), (0, .ref a_o), (1, .int x1)]) hx hb dX9_returnAt_3 rfl hl (by decide) rfl (fun ls hl => ?_)
  exact tX9_returnAt_4 C hK hA  FU v_o_thrown v_o_textSize v_o_place v_o_rows v_o_readRows v_o_doings v_o_seen v_o_seed v_o_found v_o_foundViews v_o_foundMany d_o_many d_o_views d_o_aisles d_o_trial x1 (1 : Int32) _ _ ls _ hP hD hS (lv_sub hl [2, 1, 0] rfl) hf
abbrev WX9_drawn (cI cJ cZ cB : ClassId) (a_o : Nat) (a_o_text : Nat) (a_o_many : Nat) (a_o_views : Nat) (a_o_aisles : Nat) (a_o_readMany : Nat) (a_o_readViews : Nat) (a_o_readAisles : Nat) (a_o_readPage : Nat) (a_o_page : Nat) (a_o_trial : Nat) (a_o_book : Nat) (a_o_kept : Nat) (a_o_isKept : Nat) (a_o_seenSeat : Nat) (a_o_seenWas : Nat) (v_o_thrown : Int32) (v_o_textSize : Int32) (v_o_place : Int32) (v_o_rows : Int32) (v_o_readRows : Int32) (v_o_doings : Int32) (v_o_seen : Int32) (v_o_seed : Int64) (v_o_found : Int32) (v_o_foundViews : Int32) (v_o_foundMany : Int32) (d_o_many : (Nat → Int32)) (d_o_views : (Nat → Int32)) (d_o_aisles : (Nat → Int32)) (d_o_page : (Nat → Int32)) (d_o_trial : (Nat → Int32)) : va_W := [(a_o, .inr (9, [.int v_o_thrown, .ref a_o_text, .int v_o_textSize, .int v_o_place, .int v_o_rows, .ref a_o_many, .ref a_o_views, .ref a_o_aisles, .int v_o_readRows, .ref a_o_readMany, .ref a_o_readViews, .ref a_o_readAisles, .ref a_o_readPage, .ref a_o_page, .ref a_o_trial, .ref a_o_book, .int v_o_doings, .ref a_o_kept, .ref a_o_isKept, .int v_o_seen, .ref a_o_seenSeat, .ref a_o_seenWas, .long v_o_seed, .int v_o_found, .int v_o_foundViews, .int v_o_foundMany])), (a_o_many, .inl (cI, (4, .inl d_o_many))), (a_o_views, .inl (cI, (36, .inl d_o_views))), (a_o_aisles, .inl (cZ, (36, .inl d_o_aisles))), (a_o_page, .inl (cI, (229, .inl d_o_page))), (a_o_trial, .inl (cI, (229, .inl d_o_trial)))]
set_option maxRecDepth 20000 in
theorem iX9_drawn_X9 : ∀ w ∈ wsX90, w ∈ wsX9_drawn := by decide +kernel
def fX9_drawn_33 : Nat → Int32 → Int32 → Int64 → Int32 → Int32 → Int32 → (Nat → Int32) → (Nat → Int32) → (Nat → Int32) → (Nat → Int32) → (Nat → Int32) → Int32 → Int32 → Option (Int32 × Int32 × Int64 × Int32 × Int32 × Int32 × (Nat → Int32))
  | 0, _, _, _, _, _, _, _, _, _, _, _, _, _ => none
  | n + 1, v_o_thrown, v_o_rows, v_o_seed, v_o_found, v_o_foundViews, v_o_foundMany, d_o_many, d_o_views, d_o_aisles, d_o_page, d_o_trial, x1, x2 => (if x1 ≤ x2 then some (((d_o_trial ((5 : Int32)).toNatClampNeg) - (d_o_page ((5 : Int32)).toNatClampNeg)), v_o_thrown, v_o_seed, v_o_found, v_o_foundViews, v_o_foundMany, d_o_trial) else ((fX9_seated d_o_trial).bind fun q1 => (if ((((((v_o_seed * (6364136223846793005 : Int64)) + (1442695040888963407 : Int64))).toUInt64 >>> (((33 : Int32)).toInt64.toUInt64 &&& Int64.toUInt64 63)).toInt64).toInt32 - (((((v_o_seed * (6364136223846793005 : Int64)) + (1442695040888963407 : Int64))).toUInt64 >>> (((33 : Int32)).toInt64.toUInt64 &&& Int64.toUInt64 63)).toInt64).toInt32 / (4 : Int32) * (4 : Int32)) = (3 : Int32) then (if q1 ≤ 0 then fX9_drawn_33 n v_o_thrown v_o_rows ((v_o_seed * (6364136223846793005 : Int64)) + (1442695040888963407 : Int64)) v_o_found v_o_foundViews v_o_foundMany d_o_many d_o_views d_o_aisles d_o_page d_o_trial x1 (x2 + (1 : Int32)) else (if q1 = 0 then none else ((fX9_returnAt v_o_rows v_o_found v_o_foundViews v_o_foundMany d_o_many d_o_views d_o_aisles d_o_trial (((((((v_o_seed * (6364136223846793005 : Int64)) + (1442695040888963407 : Int64))).toUInt64 >>> (((33 : Int32)).toInt64.toUInt64 &&& Int64.toUInt64 63)).toInt64).toInt32 / (4 : Int32)) - ((((((v_o_seed * (6364136223846793005 : Int64)) + (1442695040888963407 : Int64))).toUInt64 >>> (((33 : Int32)).toInt64.toUInt64 &&& Int64.toUInt64 63)).toInt64).toInt32 / (4 : Int32)) / q1 * q1)).bind fun q4 => fX9_drawn_33 n v_o_thrown v_o_rows ((v_o_seed * (6364136223846793005 : Int64)) + (1442695040888963407 : Int64)) q4.1 q4.2.1 q4.2.2.1 d_o_many d_o_views d_o_aisles d_o_page q4.2.2.2 x1 (x2 + (1 : Int32))))) else ((fX9_mayAsk v_o_rows v_o_found v_o_foundViews v_o_foundMany d_o_many d_o_views d_o_aisles d_o_trial ((1 : Int32) + (((((((v_o_seed * (6364136223846793005 : Int64)) + (1442695040888963407 : Int64))).toUInt64 >>> (((33 : Int32)).toInt64.toUInt64 &&& Int64.toUInt64 63)).toInt64).toInt32 / (4 : Int32)) - ((((((v_o_seed * (6364136223846793005 : Int64)) + (1442695040888963407 : Int64))).toUInt64 >>> (((33 : Int32)).toInt64.toUInt64 &&& Int64.toUInt64 63)).toInt64).toInt32 / (4 : Int32)) / (6 : Int32) * (6 : Int32))) ((1 : Int32) + (((((((v_o_seed * (6364136223846793005 : Int64)) + (1442695040888963407 : Int64))).toUInt64 >>> (((33 : Int32)).toInt64.toUInt64 &&& Int64.toUInt64 63)).toInt64).toInt32 / (24 : Int32)) - ((((((v_o_seed * (6364136223846793005 : Int64)) + (1442695040888963407 : Int64))).toUInt64 >>> (((33 : Int32)).toInt64.toUInt64 &&& Int64.toUInt64 63)).toInt64).toInt32 / (24 : Int32)) / (9 : Int32) * (9 : Int32)))).bind fun q6 => (if q6.1 = 0 then fX9_drawn_33 n v_o_thrown v_o_rows ((v_o_seed * (6364136223846793005 : Int64)) + (1442695040888963407 : Int64)) q6.2.1 q6.2.2.1 q6.2.2.2.1 d_o_many d_o_views d_o_aisles d_o_page q6.2.2.2.2 x1 (x2 + (1 : Int32)) else ((fX9_askOn v_o_rows q6.2.1 q6.2.2.1 q6.2.2.2.1 d_o_many d_o_views d_o_aisles q6.2.2.2.2 ((1 : Int32) + (((((((v_o_seed * (6364136223846793005 : Int64)) + (1442695040888963407 : Int64))).toUInt64 >>> (((33 : Int32)).toInt64.toUInt64 &&& Int64.toUInt64 63)).toInt64).toInt32 / (4 : Int32)) - ((((((v_o_seed * (6364136223846793005 : Int64)) + (1442695040888963407 : Int64))).toUInt64 >>> (((33 : Int32)).toInt64.toUInt64 &&& Int64.toUInt64 63)).toInt64).toInt32 / (4 : Int32)) / (6 : Int32) * (6 : Int32))) ((1 : Int32) + (((((((v_o_seed * (6364136223846793005 : Int64)) + (1442695040888963407 : Int64))).toUInt64 >>> (((33 : Int32)).toInt64.toUInt64 &&& Int64.toUInt64 63)).toInt64).toInt32 / (24 : Int32)) - ((((((v_o_seed * (6364136223846793005 : Int64)) + (1442695040888963407 : Int64))).toUInt64 >>> (((33 : Int32)).toInt64.toUInt64 &&& Int64.toUInt64 63)).toInt64).toInt32 / (24 : Int32)) / (9 : Int32) * (9 : Int32)))).bind fun q8 => fX9_drawn_33 n v_o_thrown v_o_rows ((v_o_seed * (6364136223846793005 : Int64)) + (1442695040888963407 : Int64)) q8.1 q8.2.1 q8.2.2.1 d_o_many d_o_views d_o_aisles d_o_page q8.2.2.2 x1 (x2 + (1 : Int32))))))))
set_option maxRecDepth 100000 in
set_option maxHeartbeats 4000000 in
theorem tX9_drawn_33 {p : Program} {l : Launch} {e : Env} {s : State} {m : MethodId} {args : Array Value} {below : List Frame} {meth : Method} {c : Code} {D : va_G} {cI cJ cZ cB : ClassId} {a_o : Nat} {a_o_text : Nat} {a_o_many : Nat} {a_o_views : Nat} {a_o_aisles : Nat} {a_o_readMany : Nat} {a_o_readViews : Nat} {a_o_readAisles : Nat} {a_o_readPage : Nat} {a_o_page : Nat} {a_o_trial : Nat} {a_o_book : Nat} {a_o_kept : Nat} {a_o_isKept : Nat} {a_o_seenSeat : Nat} {a_o_seenWas : Nat} {A : Nat → Prop} (C : Cx p s m args meth c cX9_drawn 7 (some .int) wsX9_drawn RX9) (hK : Kw D (tyL cI cJ cZ cB) s) (hA : ∀ q : Nat, s.heap.size ≤ q → A q) : ∀ (n : Nat), ∀ (v_o_thrown : Int32) (v_o_textSize : Int32) (v_o_place : Int32) (v_o_rows : Int32) (v_o_readRows : Int32) (v_o_doings : Int32) (v_o_seen : Int32) (v_o_seed : Int64) (v_o_found : Int32) (v_o_foundViews : Int32) (v_o_foundMany : Int32) (d_o_many : (Nat → Int32)) (d_o_views : (Nat → Int32)) (d_o_aisles : (Nat → Int32)) (d_o_page : (Nat → Int32)) (d_o_trial : (Nat → Int32)) (x1 : Int32) (x2 : Int32) (H : Heap) (locs : List Loc) (ls : Array Slot) (res : Int32 × Int32 × Int64 × Int32 × Int32 × Int32 × (Nat → Int32)), va_P D vwCl (WX9_drawn cI cJ cZ cB a_o a_o_text a_o_many a_o_views a_o_aisles a_o_readMany a_o_readViews a_o_readAisles a_o_readPage a_o_page a_o_trial a_o_book a_o_kept a_o_isKept a_o_seenSeat a_o_seenWas v_o_thrown v_o_textSize v_o_place v_o_rows v_o_readRows v_o_doings v_o_seen v_o_seed v_o_found v_o_foundViews v_o_foundMany d_o_many d_o_views d_o_aisles d_o_page d_o_trial) H → va_D A (WX9_drawn cI cJ cZ cB a_o a_o_text a_o_many a_o_views a_o_aisles a_o_readMany a_o_readViews a_o_readAisles a_o_readPage a_o_page a_o_trial a_o_book a_o_kept a_o_isKept a_o_seenSeat a_o_seenWas v_o_thrown v_o_textSize v_o_place v_o_rows v_o_readRows v_o_doings v_o_seen v_o_seed v_o_found v_o_foundViews v_o_foundMany d_o_many d_o_views d_o_aisles d_o_page d_o_trial) → va_S A s.heap H locs → lv_has ls 7 [(0, .ref a_o), (1, .int x1), (2, .int x2)] → fX9_drawn_33 n v_o_thrown v_o_rows v_o_seed v_o_found v_o_foundViews v_o_foundMany d_o_many d_o_views d_o_aisles d_o_page d_o_trial x1 x2 = some res → W p l e ({ frames := 10, cells := 0, slots := 0, locals := 245 } : Room) s m args below meth c H locs 0 0 (MQ below (QRw D A (WX9_drawn cI cJ cZ cB a_o a_o_text a_o_many a_o_views a_o_aisles a_o_readMany a_o_readViews a_o_readAisles a_o_readPage a_o_page a_o_trial a_o_book a_o_kept a_o_isKept a_o_seenSeat a_o_seenWas res.2.1 v_o_textSize v_o_place v_o_rows v_o_readRows v_o_doings v_o_seen res.2.2.1 res.2.2.2.1 res.2.2.2.2.1 res.2.2.2.2.2.1 d_o_many d_o_views d_o_aisles d_o_page res.2.2.2.2.2.2) (some (.int res.1))) args s 0 0 A) (F0 m 33 ls []) := by
  obtain ⟨hx, hb, hr, hml, hts, hown, hlk⟩ := id C
  intro n
  induction n with
  | zero =>
    intro v_o_thrown v_o_textSize v_o_place v_o_rows v_o_readRows v_o_doings v_o_seen v_o_seed v_o_found v_o_foundViews v_o_foundMany d_o_many d_o_views d_o_aisles d_o_page d_o_trial x1 x2 H locs ls res hP hD hS hl hf
    rw [fX9_drawn_33] at hf
    cases hf
  | succ n ih =>
    intro v_o_thrown v_o_textSize v_o_place v_o_rows v_o_readRows v_o_doings v_o_seen v_o_seed v_o_found v_o_foundViews v_o_foundMany d_o_many d_o_views d_o_aisles d_o_page d_o_trial x1 x2 H locs ls res hP hD hS hl hf
    rw [fX9_drawn_33] at hf
    refine lv_iload_n hx hb dX9_drawn_33 rfl (lv_at hl 2 rfl) ?_
    refine lv_iload_n hx hb dX9_drawn_34 rfl (lv_at hl 1 rfl) ?_
    refine lv_icmp_ge (tgt := 151) hx hb dX9_drawn_35 (by decide) (fun hc => ?_) (fun hc => ?_)
    · have hf := pf_t hc hf
      refine lv_aload_n hx hb dX9_drawn_151 rfl (lv_at hl 0 rfl) ?_
      refine va_get (D := D) (ci := 9) (v := .ref a_o_trial) (C := RX9) (T := TX9) (N := 26) hx hb hts iX9_drawn_X9 hown hK.1 hP 0 rfl rfl 14 (by decide) (hts (.fieldLink RX9 38 "LoneSeatsModel" "trial" "[I") (by decide +kernel)) (fun _ h9 => h9) rfl dX9_drawn_152 ?_
      refine lv_iconst (v := (5 : Int32)) hx hb dX9_drawn_155 (by decide) ?_
      refine va_iald hx hb hK.1 hP 5 0 rfl rfl (show ¬ ((5 : Int32) < 0 ∨ 229 ≤ ((5 : Int32)).toNatClampNeg) by decide) dX9_drawn_156 ?_
      refine lv_aload_n hx hb dX9_drawn_157 rfl (lv_at hl 0 rfl) ?_
      refine va_get (D := D) (ci := 9) (v := .ref a_o_page) (C := RX9) (T := TX9) (N := 26) hx hb hts iX9_drawn_X9 hown hK.1 hP 0 rfl rfl 13 (by decide) (hts (.fieldLink RX9 35 "LoneSeatsModel" "page" "[I") (by decide +kernel)) (fun _ h9 => h9) rfl dX9_drawn_158 ?_
      refine lv_iconst (v := (5 : Int32)) hx hb dX9_drawn_161 (by decide) ?_
      refine va_iald hx hb hK.1 hP 4 0 rfl rfl (show ¬ ((5 : Int32) < 0 ∨ 229 ≤ ((5 : Int32)).toNatClampNeg) by decide) dX9_drawn_162 ?_
      refine lv_isub hx hb dX9_drawn_163 ?_
      cases hf
      exact W.iret hx hb hr (fun t ht hW => ⟨⟨rfl, by rw [ht]; exact hP, hD⟩, hS.F ht⟩) hS.2.2 dX9_drawn_164
    · have hf := pf_f hc hf
      refine lv_aload_n hx hb dX9_drawn_38 rfl (lv_at hl 0 rfl) ?_
      refine lv_aload_n hx hb dX9_drawn_39 rfl (lv_at hl 0 rfl) ?_
      refine va_get (D := D) (ci := 9) (v := .long v_o_seed) (C := RX9) (T := TX9) (N := 26) hx hb hts iX9_drawn_X9 hown hK.1 hP 0 rfl rfl 22 (by decide) (hts (.fieldLink RX9 248 "LoneSeatsModel" "seed" "J") (by decide +kernel)) (fun _ h9 => h9) rfl dX9_drawn_40 ?_
      refine lv_ldc2 (v := (6364136223846793005 : Int64)) hx hb hown (hts (.constantLong RX9 254 (6364136223846793005 : Int64)) (by decide +kernel)) dX9_drawn_43 ?_
      refine lv_lmul hx hb dX9_drawn_46 ?_
      refine lv_ldc2 (v := (1442695040888963407 : Int64)) hx hb hown (hts (.constantLong RX9 256 (1442695040888963407 : Int64)) (by decide +kernel)) dX9_drawn_47 ?_
      refine lv_ladd hx hb dX9_drawn_50 ?_
      refine va_put (D := D) (ci := 9) (v := .long ((v_o_seed * (6364136223846793005 : Int64)) + (1442695040888963407 : Int64))) (ty := .long) (C := RX9) (T := TX9) (N := 26) hx hb hts iX9_drawn_X9 tyX9 tyX9_ok nmX9 hown hK.1 hP hD hS 0 rfl rfl 22 (by decide) (hts (.fieldLink RX9 248 "LoneSeatsModel" "seed" "J") (by decide +kernel)) (fun _ h9 => h9) rfl (by decide +kernel) rfl rfl (Nat.le_of_ble_eq_true rfl) dX9_drawn_51 (fun H locs hP hD hS => ?_)
      have hP : va_P D vwCl (WX9_drawn cI cJ cZ cB a_o a_o_text a_o_many a_o_views a_o_aisles a_o_readMany a_o_readViews a_o_readAisles a_o_readPage a_o_page a_o_trial a_o_book a_o_kept a_o_isKept a_o_seenSeat a_o_seenWas v_o_thrown v_o_textSize v_o_place v_o_rows v_o_readRows v_o_doings v_o_seen ((v_o_seed * (6364136223846793005 : Int64)) + (1442695040888963407 : Int64)) v_o_found v_o_foundViews v_o_foundMany d_o_many d_o_views d_o_aisles d_o_page d_o_trial) H := hP
      have hD : va_D A (WX9_drawn cI cJ cZ cB a_o a_o_text a_o_many a_o_views a_o_aisles a_o_readMany a_o_readViews a_o_readAisles a_o_readPage a_o_page a_o_trial a_o_book a_o_kept a_o_isKept a_o_seenSeat a_o_seenWas v_o_thrown v_o_textSize v_o_place v_o_rows v_o_readRows v_o_doings v_o_seen ((v_o_seed * (6364136223846793005 : Int64)) + (1442695040888963407 : Int64)) v_o_found v_o_foundViews v_o_foundMany d_o_many d_o_views d_o_aisles d_o_page d_o_trial) := hD
      refine lv_aload_n hx hb dX9_drawn_54 rfl (lv_at hl 0 rfl) ?_
      refine va_get (D := D) (ci := 9) (v := .long ((v_o_seed * (6364136223846793005 : Int64)) + (1442695040888963407 : Int64))) (C := RX9) (T := TX9) (N := 26) hx hb hts iX9_drawn_X9 hown hK.1 hP 0 rfl rfl 22 (by decide) (hts (.fieldLink RX9 248 "LoneSeatsModel" "seed" "J") (by decide +kernel)) (fun _ h9 => h9) rfl dX9_drawn_55 ?_
      refine lv_bipush (v := (33 : Int32)) hx hb dX9_drawn_58 (by decide) ?_
      refine lv_lushr hx hb dX9_drawn_60 rfl ?_
      refine lv_l2i (v := (((((v_o_seed * (6364136223846793005 : Int64)) + (1442695040888963407 : Int64))).toUInt64 >>> (((33 : Int32)).toInt64.toUInt64 &&& Int64.toUInt64 63)).toInt64).toInt32) hx hb dX9_drawn_61 rfl ?_
      refine lv_istore_n (lv' := [(3, .int ((((((v_o_seed * (6364136223846793005 : Int64)) + (1442695040888963407 : Int64))).toUInt64 >>> (((33 : Int32)).toInt64.toUInt64 &&& Int64.toUInt64 63)).toInt64).toInt32)), (0, .ref a_o), (1, .int x1), (2, .int x2)]) hx hb dX9_drawn_62 rfl hl (by decide) rfl (fun ls hl => ?_)
      refine lv_iconst (v := (1 : Int32)) hx hb dX9_drawn_63 (by decide) ?_
      refine lv_iload_n hx hb dX9_drawn_64 rfl (lv_at hl 0 rfl) ?_
      refine lv_iconst (v := (4 : Int32)) hx hb dX9_drawn_65 (by decide) ?_
      refine lv_idiv hx hb dX9_drawn_66 (by decide) ?_
      refine lv_bipush (v := (6 : Int32)) hx hb dX9_drawn_67 (by decide) ?_
      refine lv_irem hx hb dX9_drawn_69 (by decide) ?_
      refine lv_iadd hx hb dX9_drawn_70 ?_
      refine lv_istore (lv' := [(4, .int ((1 : Int32) + (((((((v_o_seed * (6364136223846793005 : Int64)) + (1442695040888963407 : Int64))).toUInt64 >>> (((33 : Int32)).toInt64.toUInt64 &&& Int64.toUInt64 63)).toInt64).toInt32 / (4 : Int32)) - ((((((v_o_seed * (6364136223846793005 : Int64)) + (1442695040888963407 : Int64))).toUInt64 >>> (((33 : Int32)).toInt64.toUInt64 &&& Int64.toUInt64 63)).toInt64).toInt32 / (4 : Int32)) / (6 : Int32) * (6 : Int32)))), (3, .int ((((((v_o_seed * (6364136223846793005 : Int64)) + (1442695040888963407 : Int64))).toUInt64 >>> (((33 : Int32)).toInt64.toUInt64 &&& Int64.toUInt64 63)).toInt64).toInt32)), (0, .ref a_o), (1, .int x1), (2, .int x2)]) hx hb dX9_drawn_71 hl (by decide) rfl (fun ls hl => ?_)
      refine lv_iconst (v := (1 : Int32)) hx hb dX9_drawn_73 (by decide) ?_
      refine lv_iload_n hx hb dX9_drawn_74 rfl (lv_at hl 1 rfl) ?_
      refine lv_bipush (v := (24 : Int32)) hx hb dX9_drawn_75 (by decide) ?_
      refine lv_idiv hx hb dX9_drawn_77 (by decide) ?_
      refine lv_bipush (v := (9 : Int32)) hx hb dX9_drawn_78 (by decide) ?_
      refine lv_irem hx hb dX9_drawn_80 (by decide) ?_
      refine lv_iadd hx hb dX9_drawn_81 ?_
      refine lv_istore (lv' := [(5, .int ((1 : Int32) + (((((((v_o_seed * (6364136223846793005 : Int64)) + (1442695040888963407 : Int64))).toUInt64 >>> (((33 : Int32)).toInt64.toUInt64 &&& Int64.toUInt64 63)).toInt64).toInt32 / (24 : Int32)) - ((((((v_o_seed * (6364136223846793005 : Int64)) + (1442695040888963407 : Int64))).toUInt64 >>> (((33 : Int32)).toInt64.toUInt64 &&& Int64.toUInt64 63)).toInt64).toInt32 / (24 : Int32)) / (9 : Int32) * (9 : Int32)))), (4, .int ((1 : Int32) + (((((((v_o_seed * (6364136223846793005 : Int64)) + (1442695040888963407 : Int64))).toUInt64 >>> (((33 : Int32)).toInt64.toUInt64 &&& Int64.toUInt64 63)).toInt64).toInt32 / (4 : Int32)) - ((((((v_o_seed * (6364136223846793005 : Int64)) + (1442695040888963407 : Int64))).toUInt64 >>> (((33 : Int32)).toInt64.toUInt64 &&& Int64.toUInt64 63)).toInt64).toInt32 / (4 : Int32)) / (6 : Int32) * (6 : Int32)))), (3, .int ((((((v_o_seed * (6364136223846793005 : Int64)) + (1442695040888963407 : Int64))).toUInt64 >>> (((33 : Int32)).toInt64.toUInt64 &&& Int64.toUInt64 63)).toInt64).toInt32)), (0, .ref a_o), (1, .int x1), (2, .int x2)]) hx hb dX9_drawn_82 hl (by decide) rfl (fun ls hl => ?_)
      refine lv_aload_n hx hb dX9_drawn_84 rfl (lv_at hl 3 rfl) ?_
      refine va_get (D := D) (ci := 9) (v := .ref a_o_trial) (C := RX9) (T := TX9) (N := 26) hx hb hts iX9_drawn_X9 hown hK.1 hP 0 rfl rfl 14 (by decide) (hts (.fieldLink RX9 38 "LoneSeatsModel" "trial" "[I") (by decide +kernel)) (fun _ h9 => h9) rfl dX9_drawn_85 ?_
      obtain ⟨q1, hq2, hf⟩ := pf_b hf
      have hPc := hP.sub (ws' := (WX9_seated cI cJ cZ cB a_o_trial d_o_trial)) [5] rfl
      refine cl_roi (va_runS (As := [.ref a_o_trial]) (rest := []) ⟨hx, hb, hml, hown, hts⟩ (kX9_seated l D cI cJ cZ cB a_o_trial d_o_trial q1 hq2) (va_cwS 1 hts gX9_drawn_X9_seated rfl rfl rfl (by decide +kernel) ⟨Nat.le_of_ble_eq_true rfl, Nat.le_of_ble_eq_true rfl⟩) ⟨PRo.blind, PRo.at hK hPc⟩ rfl rfl hl.1 rfl (lv_room (Nat.le_of_ble_eq_true rfl)) dX9_drawn_88 ⟨Nat.zero_le _, Nat.zero_le _⟩) ?_
      refine lv_istore (lv' := [(6, .int q1), (5, .int ((1 : Int32) + (((((((v_o_seed * (6364136223846793005 : Int64)) + (1442695040888963407 : Int64))).toUInt64 >>> (((33 : Int32)).toInt64.toUInt64 &&& Int64.toUInt64 63)).toInt64).toInt32 / (24 : Int32)) - ((((((v_o_seed * (6364136223846793005 : Int64)) + (1442695040888963407 : Int64))).toUInt64 >>> (((33 : Int32)).toInt64.toUInt64 &&& Int64.toUInt64 63)).toInt64).toInt32 / (24 : Int32)) / (9 : Int32) * (9 : Int32)))), (4, .int ((1 : Int32) + (((((((v_o_seed * (6364136223846793005 : Int64)) + (1442695040888963407 : Int64))).toUInt64 >>> (((33 : Int32)).toInt64.toUInt64 &&& Int64.toUInt64 63)).toInt64).toInt32 / (4 : Int32)) - ((((((v_o_seed * (6364136223846793005 : Int64)) + (1442695040888963407 : Int64))).toUInt64 >>> (((33 : Int32)).toInt64.toUInt64 &&& Int64.toUInt64 63)).toInt64).toInt32 / (4 : Int32)) / (6 : Int32) * (6 : Int32)))), (3, .int ((((((v_o_seed * (6364136223846793005 : Int64)) + (1442695040888963407 : Int64))).toUInt64 >>> (((33 : Int32)).toInt64.toUInt64 &&& Int64.toUInt64 63)).toInt64).toInt32)), (0, .ref a_o), (1, .int x1), (2, .int x2)]) hx hb dX9_drawn_91 hl (by decide) rfl (fun ls hl => ?_)
      refine lv_iload_n hx hb dX9_drawn_93 rfl (lv_at hl 3 rfl) ?_
      refine lv_iconst (v := (4 : Int32)) hx hb dX9_drawn_94 (by decide) ?_
      refine lv_irem hx hb dX9_drawn_95 (by decide) ?_
      refine lv_iconst (v := (3 : Int32)) hx hb dX9_drawn_96 (by decide) ?_
      refine lv_icmp_eq (tgt := 130) hx hb dX9_drawn_97 (by decide) (fun hc => ?_) (fun hc => ?_)
      · have hf := pf_t hc hf
        refine lv_iload hx hb dX9_drawn_130 (lv_at hl 0 rfl) ?_
        refine lv_if_le (tgt := 145) hx hb dX9_drawn_132 (by decide) (fun hc => ?_) (fun hc => ?_)
        · have hf := pf_t hc hf
          refine lv_iinc (v := (x2 + (1 : Int32))) (lv' := [(2, .int (x2 + (1 : Int32))), (6, .int q1), (5, .int ((1 : Int32) + (((((((v_o_seed * (6364136223846793005 : Int64)) + (1442695040888963407 : Int64))).toUInt64 >>> (((33 : Int32)).toInt64.toUInt64 &&& Int64.toUInt64 63)).toInt64).toInt32 / (24 : Int32)) - ((((((v_o_seed * (6364136223846793005 : Int64)) + (1442695040888963407 : Int64))).toUInt64 >>> (((33 : Int32)).toInt64.toUInt64 &&& Int64.toUInt64 63)).toInt64).toInt32 / (24 : Int32)) / (9 : Int32) * (9 : Int32)))), (4, .int ((1 : Int32) + (((((((v_o_seed * (6364136223846793005 : Int64)) + (1442695040888963407 : Int64))).toUInt64 >>> (((33 : Int32)).toInt64.toUInt64 &&& Int64.toUInt64 63)).toInt64).toInt32 / (4 : Int32)) - ((((((v_o_seed * (6364136223846793005 : Int64)) + (1442695040888963407 : Int64))).toUInt64 >>> (((33 : Int32)).toInt64.toUInt64 &&& Int64.toUInt64 63)).toInt64).toInt32 / (4 : Int32)) / (6 : Int32) * (6 : Int32)))), (3, .int ((((((v_o_seed * (6364136223846793005 : Int64)) + (1442695040888963407 : Int64))).toUInt64 >>> (((33 : Int32)).toInt64.toUInt64 &&& Int64.toUInt64 63)).toInt64).toInt32)), (0, .ref a_o), (1, .int x1)]) hx hb dX9_drawn_145 hl (k := 6) rfl rfl (by decide) rfl (fun ls hl => ?_)
          refine lv_goto (tgt := 33) hx hb dX9_drawn_148 (by decide) ?_
          exact ih v_o_thrown v_o_textSize v_o_place v_o_rows v_o_readRows v_o_doings v_o_seen ((v_o_seed * (6364136223846793005 : Int64)) + (1442695040888963407 : Int64)) v_o_found v_o_foundViews v_o_foundMany d_o_many d_o_views d_o_aisles d_o_page d_o_trial x1 (x2 + (1 : Int32)) _ _ ls _ hP hD hS (lv_sub hl [5, 6, 0] rfl) hf
        · have hf := pf_f hc hf
          refine lv_aload_n hx hb dX9_drawn_135 rfl (lv_at hl 4 rfl) ?_
          refine lv_iload_n hx hb dX9_drawn_136 rfl (lv_at hl 3 rfl) ?_
          refine lv_iconst (v := (4 : Int32)) hx hb dX9_drawn_137 (by decide) ?_
          refine lv_idiv hx hb dX9_drawn_138 (by decide) ?_
          refine lv_iload hx hb dX9_drawn_139 (lv_at hl 0 rfl) ?_
          obtain ⟨hg3, hf⟩ := pf_x hf
          refine lv_irem hx hb dX9_drawn_141 hg3 ?_
          obtain ⟨q4, hq5, hf⟩ := pf_b hf
          have hPc := hP.sub (ws' := (WX9_returnAt cI cJ cZ cB a_o a_o_text a_o_many a_o_views a_o_aisles a_o_readMany a_o_readViews a_o_readAisles a_o_readPage a_o_page a_o_trial a_o_book a_o_kept a_o_isKept a_o_seenSeat a_o_seenWas v_o_thrown v_o_textSize v_o_place v_o_rows v_o_readRows v_o_doings v_o_seen ((v_o_seed * (6364136223846793005 : Int64)) + (1442695040888963407 : Int64)) v_o_found v_o_foundViews v_o_foundMany d_o_many d_o_views d_o_aisles d_o_trial)) [0, 1, 2, 3, 5] rfl
          have hDc := hD.sub (ws' := (WX9_returnAt cI cJ cZ cB a_o a_o_text a_o_many a_o_views a_o_aisles a_o_readMany a_o_readViews a_o_readAisles a_o_readPage a_o_page a_o_trial a_o_book a_o_kept a_o_isKept a_o_seenSeat a_o_seenWas v_o_thrown v_o_textSize v_o_place v_o_rows v_o_readRows v_o_doings v_o_seen ((v_o_seed * (6364136223846793005 : Int64)) + (1442695040888963407 : Int64)) v_o_found v_o_foundViews v_o_foundMany d_o_many d_o_views d_o_aisles d_o_trial)) [0, 1, 2, 3, 5] (by decide) rfl
          refine cl_rwv (wr := [(a_o_page, .inl (cI, (229, .inl d_o_page)))]) (wsN := (WX9_drawn cI cJ cZ cB a_o a_o_text a_o_many a_o_views a_o_aisles a_o_readMany a_o_readViews a_o_readAisles a_o_readPage a_o_page a_o_trial a_o_book a_o_kept a_o_isKept a_o_seenSeat a_o_seenWas v_o_thrown v_o_textSize v_o_place v_o_rows v_o_readRows v_o_doings v_o_seen ((v_o_seed * (6364136223846793005 : Int64)) + (1442695040888963407 : Int64)) q4.1 q4.2.1 q4.2.2.1 d_o_many d_o_views d_o_aisles d_o_page q4.2.2.2)) (va_runV (As := [.int (((((((v_o_seed * (6364136223846793005 : Int64)) + (1442695040888963407 : Int64))).toUInt64 >>> (((33 : Int32)).toInt64.toUInt64 &&& Int64.toUInt64 63)).toInt64).toInt32 / (4 : Int32)) - ((((((v_o_seed * (6364136223846793005 : Int64)) + (1442695040888963407 : Int64))).toUInt64 >>> (((33 : Int32)).toInt64.toUInt64 &&& Int64.toUInt64 63)).toInt64).toInt32 / (4 : Int32)) / q1 * q1)]) (rest := []) ⟨hx, hb, hml, hown, hts⟩ ((kX9_returnAt l D cI cJ cZ cB a_o a_o_text a_o_many a_o_views a_o_aisles a_o_readMany a_o_readViews a_o_readAisles a_o_readPage a_o_page a_o_trial a_o_book a_o_kept a_o_isKept a_o_seenSeat a_o_seenWas v_o_thrown v_o_textSize v_o_place v_o_rows v_o_readRows v_o_doings v_o_seen ((v_o_seed * (6364136223846793005 : Int64)) + (1442695040888963407 : Int64)) v_o_found v_o_foundViews v_o_foundMany d_o_many d_o_views d_o_aisles d_o_trial (((((((v_o_seed * (6364136223846793005 : Int64)) + (1442695040888963407 : Int64))).toUInt64 >>> (((33 : Int32)).toInt64.toUInt64 &&& Int64.toUInt64 63)).toInt64).toInt32 / (4 : Int32)) - ((((((v_o_seed * (6364136223846793005 : Int64)) + (1442695040888963407 : Int64))).toUInt64 >>> (((33 : Int32)).toInt64.toUInt64 &&& Int64.toUInt64 63)).toInt64).toInt32 / (4 : Int32)) / q1 * q1) q4 hq5) _) (cwV 1 hts gX9_drawn_X9_returnAt rfl rfl rfl (by decide +kernel) ⟨Nat.le_of_ble_eq_true rfl, Nat.le_of_ble_eq_true rfl⟩) ⟨PRw.blind, va_recv hK.1 hPc (ci := 9) (q0 := 0) rfl rfl, PRw.at hK hPc hDc⟩ rfl rfl hl.1 rfl (lv_room (Nat.le_of_ble_eq_true rfl)) dX9_drawn_142 ⟨Nat.zero_le _, Nat.zero_le _⟩) hP hD hS hA [0, 1, 2, 3, 5] [4] [1, 2, 3, 4, 0, 5] rfl rfl (by decide) (by decide) rfl (by decide) (fun H locs hP hD hS => ?_)
          refine lv_iinc (v := (x2 + (1 : Int32))) (lv' := [(2, .int (x2 + (1 : Int32))), (6, .int q1), (5, .int ((1 : Int32) + (((((((v_o_seed * (6364136223846793005 : Int64)) + (1442695040888963407 : Int64))).toUInt64 >>> (((33 : Int32)).toInt64.toUInt64 &&& Int64.toUInt64 63)).toInt64).toInt32 / (24 : Int32)) - ((((((v_o_seed * (6364136223846793005 : Int64)) + (1442695040888963407 : Int64))).toUInt64 >>> (((33 : Int32)).toInt64.toUInt64 &&& Int64.toUInt64 63)).toInt64).toInt32 / (24 : Int32)) / (9 : Int32) * (9 : Int32)))), (4, .int ((1 : Int32) + (((((((v_o_seed * (6364136223846793005 : Int64)) + (1442695040888963407 : Int64))).toUInt64 >>> (((33 : Int32)).toInt64.toUInt64 &&& Int64.toUInt64 63)).toInt64).toInt32 / (4 : Int32)) - ((((((v_o_seed * (6364136223846793005 : Int64)) + (1442695040888963407 : Int64))).toUInt64 >>> (((33 : Int32)).toInt64.toUInt64 &&& Int64.toUInt64 63)).toInt64).toInt32 / (4 : Int32)) / (6 : Int32) * (6 : Int32)))), (3, .int ((((((v_o_seed * (6364136223846793005 : Int64)) + (1442695040888963407 : Int64))).toUInt64 >>> (((33 : Int32)).toInt64.toUInt64 &&& Int64.toUInt64 63)).toInt64).toInt32)), (0, .ref a_o), (1, .int x1)]) hx hb dX9_drawn_145 hl (k := 6) rfl rfl (by decide) rfl (fun ls hl => ?_)
          refine lv_goto (tgt := 33) hx hb dX9_drawn_148 (by decide) ?_
          exact ih v_o_thrown v_o_textSize v_o_place v_o_rows v_o_readRows v_o_doings v_o_seen ((v_o_seed * (6364136223846793005 : Int64)) + (1442695040888963407 : Int64)) q4.1 q4.2.1 q4.2.2.1 d_o_many d_o_views d_o_aisles d_o_page q4.2.2.2 x1 (x2 + (1 : Int32)) _ _ ls _ hP hD hS (lv_sub hl [5, 6, 0] rfl) hf
      · have hf := pf_f hc hf
        refine lv_aload_n hx hb dX9_drawn_100 rfl (lv_at hl 4 rfl) ?_
        refine lv_aload_n hx hb dX9_drawn_101 rfl (lv_at hl 4 rfl) ?_
        refine va_get (D := D) (ci := 9) (v := .ref a_o_trial) (C := RX9) (T := TX9) (N := 26) hx hb hts iX9_drawn_X9 hown hK.1 hP 0 rfl rfl 14 (by decide) (hts (.fieldLink RX9 38 "LoneSeatsModel" "trial" "[I") (by decide +kernel)) (fun _ h9 => h9) rfl dX9_drawn_102 ?_
        refine lv_iload hx hb dX9_drawn_105 (lv_at hl 2 rfl) ?_
        refine lv_iload hx hb dX9_drawn_107 (lv_at hl 1 rfl) ?_
        obtain ⟨q6, hq7, hf⟩ := pf_b hf
        have hPc := hP.sub (ws' := (WX9_mayAsk cI cJ cZ cB a_o a_o_text a_o_many a_o_views a_o_aisles a_o_readMany a_o_readViews a_o_readAisles a_o_readPage a_o_page a_o_trial a_o_book a_o_kept a_o_isKept a_o_seenSeat a_o_seenWas a_o_trial v_o_thrown v_o_textSize v_o_place v_o_rows v_o_readRows v_o_doings v_o_seen ((v_o_seed * (6364136223846793005 : Int64)) + (1442695040888963407 : Int64)) v_o_found v_o_foundViews v_o_foundMany d_o_many d_o_views d_o_aisles d_o_trial)) [0, 1, 2, 3, 5] rfl
        have hDc := hD.sub (ws' := (WX9_mayAsk cI cJ cZ cB a_o a_o_text a_o_many a_o_views a_o_aisles a_o_readMany a_o_readViews a_o_readAisles a_o_readPage a_o_page a_o_trial a_o_book a_o_kept a_o_isKept a_o_seenSeat a_o_seenWas a_o_trial v_o_thrown v_o_textSize v_o_place v_o_rows v_o_readRows v_o_doings v_o_seen ((v_o_seed * (6364136223846793005 : Int64)) + (1442695040888963407 : Int64)) v_o_found v_o_foundViews v_o_foundMany d_o_many d_o_views d_o_aisles d_o_trial)) [0, 1, 2, 3, 5] (by decide) rfl
        refine cl_rwi (wr := [(a_o_page, .inl (cI, (229, .inl d_o_page)))]) (wsN := (WX9_drawn cI cJ cZ cB a_o a_o_text a_o_many a_o_views a_o_aisles a_o_readMany a_o_readViews a_o_readAisles a_o_readPage a_o_page a_o_trial a_o_book a_o_kept a_o_isKept a_o_seenSeat a_o_seenWas v_o_thrown v_o_textSize v_o_place v_o_rows v_o_readRows v_o_doings v_o_seen ((v_o_seed * (6364136223846793005 : Int64)) + (1442695040888963407 : Int64)) q6.2.1 q6.2.2.1 q6.2.2.2.1 d_o_many d_o_views d_o_aisles d_o_page q6.2.2.2.2)) (va_runV (As := [.ref a_o_trial, .int ((1 : Int32) + (((((((v_o_seed * (6364136223846793005 : Int64)) + (1442695040888963407 : Int64))).toUInt64 >>> (((33 : Int32)).toInt64.toUInt64 &&& Int64.toUInt64 63)).toInt64).toInt32 / (4 : Int32)) - ((((((v_o_seed * (6364136223846793005 : Int64)) + (1442695040888963407 : Int64))).toUInt64 >>> (((33 : Int32)).toInt64.toUInt64 &&& Int64.toUInt64 63)).toInt64).toInt32 / (4 : Int32)) / (6 : Int32) * (6 : Int32))), .int ((1 : Int32) + (((((((v_o_seed * (6364136223846793005 : Int64)) + (1442695040888963407 : Int64))).toUInt64 >>> (((33 : Int32)).toInt64.toUInt64 &&& Int64.toUInt64 63)).toInt64).toInt32 / (24 : Int32)) - ((((((v_o_seed * (6364136223846793005 : Int64)) + (1442695040888963407 : Int64))).toUInt64 >>> (((33 : Int32)).toInt64.toUInt64 &&& Int64.toUInt64 63)).toInt64).toInt32 / (24 : Int32)) / (9 : Int32) * (9 : Int32)))]) (rest := []) ⟨hx, hb, hml, hown, hts⟩ ((kX9_mayAsk l D cI cJ cZ cB a_o a_o_text a_o_many a_o_views a_o_aisles a_o_readMany a_o_readViews a_o_readAisles a_o_readPage a_o_page a_o_trial a_o_book a_o_kept a_o_isKept a_o_seenSeat a_o_seenWas a_o_trial v_o_thrown v_o_textSize v_o_place v_o_rows v_o_readRows v_o_doings v_o_seen ((v_o_seed * (6364136223846793005 : Int64)) + (1442695040888963407 : Int64)) v_o_found v_o_foundViews v_o_foundMany d_o_many d_o_views d_o_aisles d_o_trial ((1 : Int32) + (((((((v_o_seed * (6364136223846793005 : Int64)) + (1442695040888963407 : Int64))).toUInt64 >>> (((33 : Int32)).toInt64.toUInt64 &&& Int64.toUInt64 63)).toInt64).toInt32 / (4 : Int32)) - ((((((v_o_seed * (6364136223846793005 : Int64)) + (1442695040888963407 : Int64))).toUInt64 >>> (((33 : Int32)).toInt64.toUInt64 &&& Int64.toUInt64 63)).toInt64).toInt32 / (4 : Int32)) / (6 : Int32) * (6 : Int32))) ((1 : Int32) + (((((((v_o_seed * (6364136223846793005 : Int64)) + (1442695040888963407 : Int64))).toUInt64 >>> (((33 : Int32)).toInt64.toUInt64 &&& Int64.toUInt64 63)).toInt64).toInt32 / (24 : Int32)) - ((((((v_o_seed * (6364136223846793005 : Int64)) + (1442695040888963407 : Int64))).toUInt64 >>> (((33 : Int32)).toInt64.toUInt64 &&& Int64.toUInt64 63)).toInt64).toInt32 / (24 : Int32)) / (9 : Int32) * (9 : Int32))) q6 hq7) _) (cwV 3 hts gX9_drawn_X9_mayAsk rfl rfl rfl (by decide +kernel) ⟨Nat.le_of_ble_eq_true rfl, Nat.le_of_ble_eq_true rfl⟩) ⟨PRw.blind, va_recv hK.1 hPc (ci := 9) (q0 := 0) rfl rfl, PRw.at hK hPc hDc⟩ rfl rfl hl.1 rfl (lv_room (Nat.le_of_ble_eq_true rfl)) dX9_drawn_109 ⟨Nat.zero_le _, Nat.zero_le _⟩) hP hD hS hA [0, 1, 2, 3, 5] [4] [1, 2, 3, 4, 0, 5] rfl rfl (by decide) (by decide) rfl (by decide) (fun H locs hP hD hS => ?_)
        refine lv_if_eq (tgt := 145) hx hb dX9_drawn_112 (by decide) (fun hc => ?_) (fun hc => ?_)
        · have hf := pf_t hc hf
          refine lv_iinc (v := (x2 + (1 : Int32))) (lv' := [(2, .int (x2 + (1 : Int32))), (6, .int q1), (5, .int ((1 : Int32) + (((((((v_o_seed * (6364136223846793005 : Int64)) + (1442695040888963407 : Int64))).toUInt64 >>> (((33 : Int32)).toInt64.toUInt64 &&& Int64.toUInt64 63)).toInt64).toInt32 / (24 : Int32)) - ((((((v_o_seed * (6364136223846793005 : Int64)) + (1442695040888963407 : Int64))).toUInt64 >>> (((33 : Int32)).toInt64.toUInt64 &&& Int64.toUInt64 63)).toInt64).toInt32 / (24 : Int32)) / (9 : Int32) * (9 : Int32)))), (4, .int ((1 : Int32) + (((((((v_o_seed * (6364136223846793005 : Int64)) + (1442695040888963407 : Int64))).toUInt64 >>> (((33 : Int32)).toInt64.toUInt64 &&& Int64.toUInt64 63)).toInt64).toInt32 / (4 : Int32)) - ((((((v_o_seed * (6364136223846793005 : Int64)) + (1442695040888963407 : Int64))).toUInt64 >>> (((33 : Int32)).toInt64.toUInt64 &&& Int64.toUInt64 63)).toInt64).toInt32 / (4 : Int32)) / (6 : Int32) * (6 : Int32)))), (3, .int ((((((v_o_seed * (6364136223846793005 : Int64)) + (1442695040888963407 : Int64))).toUInt64 >>> (((33 : Int32)).toInt64.toUInt64 &&& Int64.toUInt64 63)).toInt64).toInt32)), (0, .ref a_o), (1, .int x1)]) hx hb dX9_drawn_145 hl (k := 6) rfl rfl (by decide) rfl (fun ls hl => ?_)
          refine lv_goto (tgt := 33) hx hb dX9_drawn_148 (by decide) ?_
          exact ih v_o_thrown v_o_textSize v_o_place v_o_rows v_o_readRows v_o_doings v_o_seen ((v_o_seed * (6364136223846793005 : Int64)) + (1442695040888963407 : Int64)) q6.2.1 q6.2.2.1 q6.2.2.2.1 d_o_many d_o_views d_o_aisles d_o_page q6.2.2.2.2 x1 (x2 + (1 : Int32)) _ _ ls _ hP hD hS (lv_sub hl [5, 6, 0] rfl) hf
        · have hf := pf_f hc hf
          refine lv_aload_n hx hb dX9_drawn_115 rfl (lv_at hl 4 rfl) ?_
          refine lv_aload_n hx hb dX9_drawn_116 rfl (lv_at hl 4 rfl) ?_
          refine va_get (D := D) (ci := 9) (v := .ref a_o_trial) (C := RX9) (T := TX9) (N := 26) hx hb hts iX9_drawn_X9 hown hK.1 hP 0 rfl rfl 14 (by decide) (hts (.fieldLink RX9 38 "LoneSeatsModel" "trial" "[I") (by decide +kernel)) (fun _ h9 => h9) rfl dX9_drawn_117 ?_
          refine lv_iload hx hb dX9_drawn_120 (lv_at hl 2 rfl) ?_
          refine lv_iload hx hb dX9_drawn_122 (lv_at hl 1 rfl) ?_
          obtain ⟨q8, hq9, hf⟩ := pf_b hf
          have hPc := hP.sub (ws' := (WX9_askOn cI cJ cZ cB a_o a_o_text a_o_many a_o_views a_o_aisles a_o_readMany a_o_readViews a_o_readAisles a_o_readPage a_o_page a_o_trial a_o_book a_o_kept a_o_isKept a_o_seenSeat a_o_seenWas a_o_trial v_o_thrown v_o_textSize v_o_place v_o_rows v_o_readRows v_o_doings v_o_seen ((v_o_seed * (6364136223846793005 : Int64)) + (1442695040888963407 : Int64)) q6.2.1 q6.2.2.1 q6.2.2.2.1 d_o_many d_o_views d_o_aisles q6.2.2.2.2)) [0, 1, 2, 3, 5] rfl
          have hDc := hD.sub (ws' := (WX9_askOn cI cJ cZ cB a_o a_o_text a_o_many a_o_views a_o_aisles a_o_readMany a_o_readViews a_o_readAisles a_o_readPage a_o_page a_o_trial a_o_book a_o_kept a_o_isKept a_o_seenSeat a_o_seenWas a_o_trial v_o_thrown v_o_textSize v_o_place v_o_rows v_o_readRows v_o_doings v_o_seen ((v_o_seed * (6364136223846793005 : Int64)) + (1442695040888963407 : Int64)) q6.2.1 q6.2.2.1 q6.2.2.2.1 d_o_many d_o_views d_o_aisles q6.2.2.2.2)) [0, 1, 2, 3, 5] (by decide) rfl
          refine cl_rwv (wr := [(a_o_page, .inl (cI, (229, .inl d_o_page)))]) (wsN := (WX9_drawn cI cJ cZ cB a_o a_o_text a_o_many a_o_views a_o_aisles a_o_readMany a_o_readViews a_o_readAisles a_o_readPage a_o_page a_o_trial a_o_book a_o_kept a_o_isKept a_o_seenSeat a_o_seenWas v_o_thrown v_o_textSize v_o_place v_o_rows v_o_readRows v_o_doings v_o_seen ((v_o_seed * (6364136223846793005 : Int64)) + (1442695040888963407 : Int64)) q8.1 q8.2.1 q8.2.2.1 d_o_many d_o_views d_o_aisles d_o_page q8.2.2.2)) (va_runV (As := [.ref a_o_trial, .int ((1 : Int32) + (((((((v_o_seed * (6364136223846793005 : Int64)) + (1442695040888963407 : Int64))).toUInt64 >>> (((33 : Int32)).toInt64.toUInt64 &&& Int64.toUInt64 63)).toInt64).toInt32 / (4 : Int32)) - ((((((v_o_seed * (6364136223846793005 : Int64)) + (1442695040888963407 : Int64))).toUInt64 >>> (((33 : Int32)).toInt64.toUInt64 &&& Int64.toUInt64 63)).toInt64).toInt32 / (4 : Int32)) / (6 : Int32) * (6 : Int32))), .int ((1 : Int32) + (((((((v_o_seed * (6364136223846793005 : Int64)) + (1442695040888963407 : Int64))).toUInt64 >>> (((33 : Int32)).toInt64.toUInt64 &&& Int64.toUInt64 63)).toInt64).toInt32 / (24 : Int32)) - ((((((v_o_seed * (6364136223846793005 : Int64)) + (1442695040888963407 : Int64))).toUInt64 >>> (((33 : Int32)).toInt64.toUInt64 &&& Int64.toUInt64 63)).toInt64).toInt32 / (24 : Int32)) / (9 : Int32) * (9 : Int32)))]) (rest := []) ⟨hx, hb, hml, hown, hts⟩ ((kX9_askOn l D cI cJ cZ cB a_o a_o_text a_o_many a_o_views a_o_aisles a_o_readMany a_o_readViews a_o_readAisles a_o_readPage a_o_page a_o_trial a_o_book a_o_kept a_o_isKept a_o_seenSeat a_o_seenWas a_o_trial v_o_thrown v_o_textSize v_o_place v_o_rows v_o_readRows v_o_doings v_o_seen ((v_o_seed * (6364136223846793005 : Int64)) + (1442695040888963407 : Int64)) q6.2.1 q6.2.2.1 q6.2.2.2.1 d_o_many d_o_views d_o_aisles q6.2.2.2.2 ((1 : Int32) + (((((((v_o_seed * (6364136223846793005 : Int64)) + (1442695040888963407 : Int64))).toUInt64 >>> (((33 : Int32)).toInt64.toUInt64 &&& Int64.toUInt64 63)).toInt64).toInt32 / (4 : Int32)) - ((((((v_o_seed * (6364136223846793005 : Int64)) + (1442695040888963407 : Int64))).toUInt64 >>> (((33 : Int32)).toInt64.toUInt64 &&& Int64.toUInt64 63)).toInt64).toInt32 / (4 : Int32)) / (6 : Int32) * (6 : Int32))) ((1 : Int32) + (((((((v_o_seed * (6364136223846793005 : Int64)) + (1442695040888963407 : Int64))).toUInt64 >>> (((33 : Int32)).toInt64.toUInt64 &&& Int64.toUInt64 63)).toInt64).toInt32 / (24 : Int32)) - ((((((v_o_seed * (6364136223846793005 : Int64)) + (1442695040888963407 : Int64))).toUInt64 >>> (((33 : Int32)).toInt64.toUInt64 &&& Int64.toUInt64 63)).toInt64).toInt32 / (24 : Int32)) / (9 : Int32) * (9 : Int32))) q8 hq9) _) (cwV 3 hts gX9_drawn_X9_askOn rfl rfl rfl (by decide +kernel) ⟨Nat.le_of_ble_eq_true rfl, Nat.le_of_ble_eq_true rfl⟩) ⟨PRw.blind, va_recv hK.1 hPc (ci := 9) (q0 := 0) rfl rfl, PRw.at hK hPc hDc⟩ rfl rfl hl.1 rfl (lv_room (Nat.le_of_ble_eq_true rfl)) dX9_drawn_124 ⟨Nat.zero_le _, Nat.zero_le _⟩) hP hD hS hA [0, 1, 2, 3, 5] [4] [1, 2, 3, 4, 0, 5] rfl rfl (by decide) (by decide) rfl (by decide) (fun H locs hP hD hS => ?_)
          refine lv_goto (tgt := 145) hx hb dX9_drawn_127 (by decide) ?_
          refine lv_iinc (v := (x2 + (1 : Int32))) (lv' := [(2, .int (x2 + (1 : Int32))), (6, .int q1), (5, .int ((1 : Int32) + (((((((v_o_seed * (6364136223846793005 : Int64)) + (1442695040888963407 : Int64))).toUInt64 >>> (((33 : Int32)).toInt64.toUInt64 &&& Int64.toUInt64 63)).toInt64).toInt32 / (24 : Int32)) - ((((((v_o_seed * (6364136223846793005 : Int64)) + (1442695040888963407 : Int64))).toUInt64 >>> (((33 : Int32)).toInt64.toUInt64 &&& Int64.toUInt64 63)).toInt64).toInt32 / (24 : Int32)) / (9 : Int32) * (9 : Int32)))), (4, .int ((1 : Int32) + (((((((v_o_seed * (6364136223846793005 : Int64)) + (1442695040888963407 : Int64))).toUInt64 >>> (((33 : Int32)).toInt64.toUInt64 &&& Int64.toUInt64 63)).toInt64).toInt32 / (4 : Int32)) - ((((((v_o_seed * (6364136223846793005 : Int64)) + (1442695040888963407 : Int64))).toUInt64 >>> (((33 : Int32)).toInt64.toUInt64 &&& Int64.toUInt64 63)).toInt64).toInt32 / (4 : Int32)) / (6 : Int32) * (6 : Int32)))), (3, .int ((((((v_o_seed * (6364136223846793005 : Int64)) + (1442695040888963407 : Int64))).toUInt64 >>> (((33 : Int32)).toInt64.toUInt64 &&& Int64.toUInt64 63)).toInt64).toInt32)), (0, .ref a_o), (1, .int x1)]) hx hb dX9_drawn_145 hl (k := 6) rfl rfl (by decide) rfl (fun ls hl => ?_)
          refine lv_goto (tgt := 33) hx hb dX9_drawn_148 (by decide) ?_
          exact ih v_o_thrown v_o_textSize v_o_place v_o_rows v_o_readRows v_o_doings v_o_seen ((v_o_seed * (6364136223846793005 : Int64)) + (1442695040888963407 : Int64)) q8.1 q8.2.1 q8.2.2.1 d_o_many d_o_views d_o_aisles d_o_page q8.2.2.2 x1 (x2 + (1 : Int32)) _ _ ls _ hP hD hS (lv_sub hl [5, 6, 0] rfl) hf
def fX9_drawn (v_o_thrown : Int32) (v_o_rows : Int32) (v_o_seed : Int64) (v_o_found : Int32) (v_o_foundViews : Int32) (v_o_foundMany : Int32) (d_o_many : (Nat → Int32)) (d_o_views : (Nat → Int32)) (d_o_aisles : (Nat → Int32)) (d_o_page : (Nat → Int32)) (d_o_trial : (Nat → Int32)) (x1 : Int32) : Option (Int32 × Int32 × Int64 × Int32 × Int32 × Int32 × (Nat → Int32)) := ((fX9_in ((x1).toInt64) (1 : Int64) (20 : Int64)).bind fun q1 => (if q1 = 0 then some ((-2 : Int32), (0 : Int32), v_o_seed, v_o_found, v_o_foundViews, v_o_foundMany, d_o_trial) else ((fX9_copy d_o_page d_o_trial).bind fun q3 => fX9_drawn_33 FU (0 : Int32) v_o_rows v_o_seed v_o_found v_o_foundViews v_o_foundMany d_o_many d_o_views d_o_aisles d_o_page q3 x1 (0 : Int32))))
set_option maxRecDepth 100000 in
set_option maxHeartbeats 4000000 in
theorem kX9_drawn (l : Launch) (D : va_G) (cI cJ cZ cB : ClassId) (a_o : Nat) (a_o_text : Nat) (a_o_many : Nat) (a_o_views : Nat) (a_o_aisles : Nat) (a_o_readMany : Nat) (a_o_readViews : Nat) (a_o_readAisles : Nat) (a_o_readPage : Nat) (a_o_page : Nat) (a_o_trial : Nat) (a_o_book : Nat) (a_o_kept : Nat) (a_o_isKept : Nat) (a_o_seenSeat : Nat) (a_o_seenWas : Nat) (v_o_thrown : Int32) (v_o_textSize : Int32) (v_o_place : Int32) (v_o_rows : Int32) (v_o_readRows : Int32) (v_o_doings : Int32) (v_o_seen : Int32) (v_o_seed : Int64) (v_o_found : Int32) (v_o_foundViews : Int32) (v_o_foundMany : Int32) (d_o_many : (Nat → Int32)) (d_o_views : (Nat → Int32)) (d_o_aisles : (Nat → Int32)) (d_o_page : (Nat → Int32)) (d_o_trial : (Nat → Int32)) (x1 : Int32) (res : Int32 × Int32 × Int64 × Int32 × Int32 × Int32 × (Nat → Int32)) (hf : fX9_drawn v_o_thrown v_o_rows v_o_seed v_o_found v_o_foundViews v_o_foundMany d_o_many d_o_views d_o_aisles d_o_page d_o_trial x1 = some res) : Rw l yX9_drawn wsX9_drawn ({ frames := 10, cells := 0, slots := 0, locals := 245 } : Room) D (tyL cI cJ cZ cB) [.ref a_o, .int x1] (WX9_drawn cI cJ cZ cB a_o a_o_text a_o_many a_o_views a_o_aisles a_o_readMany a_o_readViews a_o_readAisles a_o_readPage a_o_page a_o_trial a_o_book a_o_kept a_o_isKept a_o_seenSeat a_o_seenWas v_o_thrown v_o_textSize v_o_place v_o_rows v_o_readRows v_o_doings v_o_seen v_o_seed v_o_found v_o_foundViews v_o_foundMany d_o_many d_o_views d_o_aisles d_o_page d_o_trial) (some (.int res.1)) (WX9_drawn cI cJ cZ cB a_o a_o_text a_o_many a_o_views a_o_aisles a_o_readMany a_o_readViews a_o_readAisles a_o_readPage a_o_page a_o_trial a_o_book a_o_kept a_o_isKept a_o_seenSeat a_o_seenWas res.2.1 v_o_textSize v_o_place v_o_rows v_o_readRows v_o_doings v_o_seen res.2.2.1 res.2.2.2.1 res.2.2.2.2.1 res.2.2.2.2.2.1 d_o_many d_o_views d_o_aisles d_o_page res.2.2.2.2.2.2) := by
  refine Rw.of (cc := cX9_drawn) (maxL := 7) (ret := (some .int)) (own := RX9) (by decide) rfl rfl (Nat.le_of_ble_eq_true rfl) ?_
  intro p e s m below meth c A ls C hK hA hP hD hS hl
  obtain ⟨hx, hb, hr, hml, hts, hown, hlk⟩ := id C
  have hl : lv_has ls 7 [(0, .ref a_o), (1, .int x1)] := hl
  unfold fX9_drawn at hf
  refine lv_aload_n hx hb dX9_drawn_0 rfl (lv_at hl 0 rfl) ?_
  refine lv_iconst (v := (0 : Int32)) hx hb dX9_drawn_1 (by decide) ?_
  refine va_put (D := D) (ci := 9) (v := .int (0 : Int32)) (ty := .int) (C := RX9) (T := TX9) (N := 26) hx hb hts iX9_drawn_X9 tyX9 tyX9_ok nmX9 hown hK.1 hP hD hS 0 rfl rfl 0 (by decide) (hts (.fieldLink RX9 60 "LoneSeatsModel" "thrown" "I") (by decide +kernel)) (fun _ h9 => h9) rfl (by decide +kernel) rfl rfl (Nat.le_of_ble_eq_true rfl) dX9_drawn_2 (fun H locs hP hD hS => ?_)
  have hP : va_P D vwCl (WX9_drawn cI cJ cZ cB a_o a_o_text a_o_many a_o_views a_o_aisles a_o_readMany a_o_readViews a_o_readAisles a_o_readPage a_o_page a_o_trial a_o_book a_o_kept a_o_isKept a_o_seenSeat a_o_seenWas (0 : Int32) v_o_textSize v_o_place v_o_rows v_o_readRows v_o_doings v_o_seen v_o_seed v_o_found v_o_foundViews v_o_foundMany d_o_many d_o_views d_o_aisles d_o_page d_o_trial) H := hP
  have hD : va_D A (WX9_drawn cI cJ cZ cB a_o a_o_text a_o_many a_o_views a_o_aisles a_o_readMany a_o_readViews a_o_readAisles a_o_readPage a_o_page a_o_trial a_o_book a_o_kept a_o_isKept a_o_seenSeat a_o_seenWas (0 : Int32) v_o_textSize v_o_place v_o_rows v_o_readRows v_o_doings v_o_seen v_o_seed v_o_found v_o_foundViews v_o_foundMany d_o_many d_o_views d_o_aisles d_o_page d_o_trial) := hD
  refine lv_iload_n hx hb dX9_drawn_5 rfl (lv_at hl 1 rfl) ?_
  refine lv_i2l (v := (x1).toInt64) hx hb dX9_drawn_6 rfl ?_
  refine lv_lconst (v := (1 : Int64)) hx hb dX9_drawn_7 (by decide) ?_
  refine lv_ldc2 (v := (20 : Int64)) hx hb hown (hts (.constantLong RX9 252 (20 : Int64)) (by decide +kernel)) dX9_drawn_8 ?_
  obtain ⟨q1, hq2, hf⟩ := pf_b hf
  have hPc := hP.sub (ws' := ([] : va_W)) [] rfl
  refine cl_roi (va_runS (As := [.long ((x1).toInt64), .long (1 : Int64), .long (20 : Int64)]) (rest := []) ⟨hx, hb, hml, hown, hts⟩ (kX9_in l D cI cJ cZ cB ((x1).toInt64) (1 : Int64) (20 : Int64) q1 hq2) (va_cwS 3 hts gX9_drawn_X9_in rfl rfl rfl (by decide +kernel) ⟨Nat.le_of_ble_eq_true rfl, Nat.le_of_ble_eq_true rfl⟩) ⟨PRo.blind, PRo.at hK hPc⟩ rfl rfl hl.1 rfl (lv_room (Nat.le_of_ble_eq_true rfl)) dX9_drawn_11 ⟨Nat.zero_le _, Nat.zero_le _⟩) ?_
  refine lv_if_ne (tgt := 20) hx hb dX9_drawn_14 (by decide) (fun hc => ?_) (fun hc => ?_)
  · have hf := pf_f hc hf
    refine lv_aload_n hx hb dX9_drawn_20 rfl (lv_at hl 0 rfl) ?_
    refine va_get (D := D) (ci := 9) (v := .ref a_o_page) (C := RX9) (T := TX9) (N := 26) hx hb hts iX9_drawn_X9 hown hK.1 hP 0 rfl rfl 13 (by decide) (hts (.fieldLink RX9 35 "LoneSeatsModel" "page" "[I") (by decide +kernel)) (fun _ h9 => h9) rfl dX9_drawn_21 ?_
    refine lv_aload_n hx hb dX9_drawn_24 rfl (lv_at hl 0 rfl) ?_
    refine va_get (D := D) (ci := 9) (v := .ref a_o_trial) (C := RX9) (T := TX9) (N := 26) hx hb hts iX9_drawn_X9 hown hK.1 hP 0 rfl rfl 14 (by decide) (hts (.fieldLink RX9 38 "LoneSeatsModel" "trial" "[I") (by decide +kernel)) (fun _ h9 => h9) rfl dX9_drawn_25 ?_
    obtain ⟨q3, hq4, hf⟩ := pf_b hf
    have hPc := hP.sub (ws' := (WX9_copy cI cJ cZ cB a_o_page a_o_trial d_o_page d_o_trial)) [4, 5] rfl
    have hDc := hD.sub (ws' := (WX9_copy cI cJ cZ cB a_o_page a_o_trial d_o_page d_o_trial)) [4, 5] (by decide) rfl
    refine cl_rwv (wr := [(a_o, .inr (9, [.int (0 : Int32), .ref a_o_text, .int v_o_textSize, .int v_o_place, .int v_o_rows, .ref a_o_many, .ref a_o_views, .ref a_o_aisles, .int v_o_readRows, .ref a_o_readMany, .ref a_o_readViews, .ref a_o_readAisles, .ref a_o_readPage, .ref a_o_page, .ref a_o_trial, .ref a_o_book, .int v_o_doings, .ref a_o_kept, .ref a_o_isKept, .int v_o_seen, .ref a_o_seenSeat, .ref a_o_seenWas, .long v_o_seed, .int v_o_found, .int v_o_foundViews, .int v_o_foundMany])), (a_o_many, .inl (cI, (4, .inl d_o_many))), (a_o_views, .inl (cI, (36, .inl d_o_views))), (a_o_aisles, .inl (cZ, (36, .inl d_o_aisles)))]) (wsN := (WX9_drawn cI cJ cZ cB a_o a_o_text a_o_many a_o_views a_o_aisles a_o_readMany a_o_readViews a_o_readAisles a_o_readPage a_o_page a_o_trial a_o_book a_o_kept a_o_isKept a_o_seenSeat a_o_seenWas (0 : Int32) v_o_textSize v_o_place v_o_rows v_o_readRows v_o_doings v_o_seen v_o_seed v_o_found v_o_foundViews v_o_foundMany d_o_many d_o_views d_o_aisles d_o_page q3)) (va_runS (As := [.ref a_o_page, .ref a_o_trial]) (rest := []) ⟨hx, hb, hml, hown, hts⟩ ((kX9_copy l D cI cJ cZ cB a_o_page a_o_trial d_o_page d_o_trial q3 hq4) _) (va_cwS 2 hts gX9_drawn_X9_copy rfl rfl rfl (by decide +kernel) ⟨Nat.le_of_ble_eq_true rfl, Nat.le_of_ble_eq_true rfl⟩) ⟨PRw.blind, PRw.at hK hPc hDc⟩ rfl rfl hl.1 rfl (lv_room (Nat.le_of_ble_eq_true rfl)) dX9_drawn_28 ⟨Nat.zero_le _, Nat.zero_le _⟩) hP hD hS hA [4, 5] [0, 1, 2, 3] [0, 1, 2, 3, 4, 5] rfl rfl (by decide) (by decide) rfl (by decide) (fun H locs hP hD hS => ?_)
    refine lv_iconst (v := (0 : Int32)) hx hb dX9_drawn_31 (by decide) ?_
    refine lv_istore_n (lv' := [(2, .int (0 : Int32)), (0, .ref a_o), (1, .int x1)]) hx hb dX9_drawn_32 rfl hl (by decide) rfl (fun ls hl => ?_)
    exact tX9_drawn_33 C hK hA  FU (0 : Int32) v_o_textSize v_o_place v_o_rows v_o_readRows v_o_doings v_o_seen v_o_seed v_o_found v_o_foundViews v_o_foundMany d_o_many d_o_views d_o_aisles d_o_page q3 x1 (0 : Int32) _ _ ls _ hP hD hS (lv_sub hl [1, 2, 0] rfl) hf
  · have hf := pf_t hc hf
    refine lv_bipush (v := (-2 : Int32)) hx hb dX9_drawn_17 (by decide) ?_
    cases hf
    exact W.iret hx hb hr (fun t ht hW => ⟨⟨rfl, by rw [ht]; exact hP, hD⟩, hS.F ht⟩) hS.2.2 dX9_drawn_19
abbrev WX9_keep (cI cJ cZ cB : ClassId) (a_o : Nat) (a_o_text : Nat) (a_o_many : Nat) (a_o_views : Nat) (a_o_aisles : Nat) (a_o_readMany : Nat) (a_o_readViews : Nat) (a_o_readAisles : Nat) (a_o_readPage : Nat) (a_o_page : Nat) (a_o_trial : Nat) (a_o_book : Nat) (a_o_kept : Nat) (a_o_isKept : Nat) (a_o_seenSeat : Nat) (a_o_seenWas : Nat) (v_o_thrown : Int32) (v_o_textSize : Int32) (v_o_place : Int32) (v_o_rows : Int32) (v_o_readRows : Int32) (v_o_doings : Int32) (v_o_seen : Int32) (v_o_seed : Int64) (v_o_found : Int32) (v_o_foundViews : Int32) (v_o_foundMany : Int32) (d_o_page : (Nat → Int32)) (d_o_kept : (Nat → Int32)) (d_o_isKept : (Nat → Int32)) : va_W := [(a_o, .inr (9, [.int v_o_thrown, .ref a_o_text, .int v_o_textSize, .int v_o_place, .int v_o_rows, .ref a_o_many, .ref a_o_views, .ref a_o_aisles, .int v_o_readRows, .ref a_o_readMany, .ref a_o_readViews, .ref a_o_readAisles, .ref a_o_readPage, .ref a_o_page, .ref a_o_trial, .ref a_o_book, .int v_o_doings, .ref a_o_kept, .ref a_o_isKept, .int v_o_seen, .ref a_o_seenSeat, .ref a_o_seenWas, .long v_o_seed, .int v_o_found, .int v_o_foundViews, .int v_o_foundMany])), (a_o_page, .inl (cI, (229, .inl d_o_page))), (a_o_kept, .inl (cI, (458, .inl d_o_kept))), (a_o_isKept, .inl (cZ, (2, .inl d_o_isKept)))]
set_option maxRecDepth 20000 in
theorem iX9_keep_X9 : ∀ w ∈ wsX90, w ∈ wsX9_keep := by decide +kernel
def fX9_keep_26 : Nat → Int32 → (Nat → Int32) → (Nat → Int32) → (Nat → Int32) → Int32 → Int32 → Option (Int32 × Int32 × (Nat → Int32) × (Nat → Int32))
  | 0, _, _, _, _, _, _ => none
  | n + 1, v_o_thrown, d_o_page, d_o_kept, d_o_isKept, x1, x2 => (if (229 : Int32) ≤ x2 then some ((d_o_page ((6 : Int32)).toNatClampNeg), v_o_thrown, d_o_kept, d_o_isKept) else (if x2 < 0 ∨ 229 ≤ (x2).toNatClampNeg then none else (if (((229 : Int32) * x1) + x2) < 0 ∨ 458 ≤ ((((229 : Int32) * x1) + x2)).toNatClampNeg then none else fX9_keep_26 n v_o_thrown d_o_page (upd d_o_kept (((((229 : Int32) * x1) + x2)).toNatClampNeg) (d_o_page (x2).toNatClampNeg)) d_o_isKept x1 (x2 + (1 : Int32)))))
set_option maxRecDepth 100000 in
set_option maxHeartbeats 4000000 in
theorem tX9_keep_26 {p : Program} {l : Launch} {e : Env} {s : State} {m : MethodId} {args : Array Value} {below : List Frame} {meth : Method} {c : Code} {D : va_G} {cI cJ cZ cB : ClassId} {a_o : Nat} {a_o_text : Nat} {a_o_many : Nat} {a_o_views : Nat} {a_o_aisles : Nat} {a_o_readMany : Nat} {a_o_readViews : Nat} {a_o_readAisles : Nat} {a_o_readPage : Nat} {a_o_page : Nat} {a_o_trial : Nat} {a_o_book : Nat} {a_o_kept : Nat} {a_o_isKept : Nat} {a_o_seenSeat : Nat} {a_o_seenWas : Nat} {A : Nat → Prop} (C : Cx p s m args meth c cX9_keep 3 (some .int) wsX9_keep RX9) (hK : Kw D (tyL cI cJ cZ cB) s) (hA : ∀ q : Nat, s.heap.size ≤ q → A q) : ∀ (n : Nat), ∀ (v_o_thrown : Int32) (v_o_textSize : Int32) (v_o_place : Int32) (v_o_rows : Int32) (v_o_readRows : Int32) (v_o_doings : Int32) (v_o_seen : Int32) (v_o_seed : Int64) (v_o_found : Int32) (v_o_foundViews : Int32) (v_o_foundMany : Int32) (d_o_page : (Nat → Int32)) (d_o_kept : (Nat → Int32)) (d_o_isKept : (Nat → Int32)) (x1 : Int32) (x2 : Int32) (H : Heap) (locs : List Loc) (ls : Array Slot) (res : Int32 × Int32 × (Nat → Int32) × (Nat → Int32)), va_P D vwCl (WX9_keep cI cJ cZ cB a_o a_o_text a_o_many a_o_views a_o_aisles a_o_readMany a_o_readViews a_o_readAisles a_o_readPage a_o_page a_o_trial a_o_book a_o_kept a_o_isKept a_o_seenSeat a_o_seenWas v_o_thrown v_o_textSize v_o_place v_o_rows v_o_readRows v_o_doings v_o_seen v_o_seed v_o_found v_o_foundViews v_o_foundMany d_o_page d_o_kept d_o_isKept) H → va_D A (WX9_keep cI cJ cZ cB a_o a_o_text a_o_many a_o_views a_o_aisles a_o_readMany a_o_readViews a_o_readAisles a_o_readPage a_o_page a_o_trial a_o_book a_o_kept a_o_isKept a_o_seenSeat a_o_seenWas v_o_thrown v_o_textSize v_o_place v_o_rows v_o_readRows v_o_doings v_o_seen v_o_seed v_o_found v_o_foundViews v_o_foundMany d_o_page d_o_kept d_o_isKept) → va_S A s.heap H locs → lv_has ls 3 [(0, .ref a_o), (1, .int x1), (2, .int x2)] → fX9_keep_26 n v_o_thrown d_o_page d_o_kept d_o_isKept x1 x2 = some res → W p l e ({ frames := 1, cells := 0, slots := 0, locals := 25 } : Room) s m args below meth c H locs 0 0 (MQ below (QRw D A (WX9_keep cI cJ cZ cB a_o a_o_text a_o_many a_o_views a_o_aisles a_o_readMany a_o_readViews a_o_readAisles a_o_readPage a_o_page a_o_trial a_o_book a_o_kept a_o_isKept a_o_seenSeat a_o_seenWas res.2.1 v_o_textSize v_o_place v_o_rows v_o_readRows v_o_doings v_o_seen v_o_seed v_o_found v_o_foundViews v_o_foundMany d_o_page res.2.2.1 res.2.2.2) (some (.int res.1))) args s 0 0 A) (F0 m 26 ls []) := by
  obtain ⟨hx, hb, hr, hml, hts, hown, hlk⟩ := id C
  intro n
  induction n with
  | zero =>
    intro v_o_thrown v_o_textSize v_o_place v_o_rows v_o_readRows v_o_doings v_o_seen v_o_seed v_o_found v_o_foundViews v_o_foundMany d_o_page d_o_kept d_o_isKept x1 x2 H locs ls res hP hD hS hl hf
    rw [fX9_keep_26] at hf
    cases hf
  | succ n ih =>
    intro v_o_thrown v_o_textSize v_o_place v_o_rows v_o_readRows v_o_doings v_o_seen v_o_seed v_o_found v_o_foundViews v_o_foundMany d_o_page d_o_kept d_o_isKept x1 x2 H locs ls res hP hD hS hl hf
    rw [fX9_keep_26] at hf
    refine lv_iload_n hx hb dX9_keep_26 rfl (lv_at hl 2 rfl) ?_
    refine lv_sipush (v := (229 : Int32)) hx hb dX9_keep_27 (by decide) ?_
    refine lv_icmp_ge (tgt := 57) hx hb dX9_keep_30 (by decide) (fun hc => ?_) (fun hc => ?_)
    · have hf := pf_t hc hf
      refine lv_aload_n hx hb dX9_keep_57 rfl (lv_at hl 0 rfl) ?_
      refine va_get (D := D) (ci := 9) (v := .ref a_o_page) (C := RX9) (T := TX9) (N := 26) hx hb hts iX9_keep_X9 hown hK.1 hP 0 rfl rfl 13 (by decide) (hts (.fieldLink RX9 35 "LoneSeatsModel" "page" "[I") (by decide +kernel)) (fun _ h9 => h9) rfl dX9_keep_58 ?_
      refine lv_bipush (v := (6 : Int32)) hx hb dX9_keep_61 (by decide) ?_
      refine va_iald hx hb hK.1 hP 1 0 rfl rfl (show ¬ ((6 : Int32) < 0 ∨ 229 ≤ ((6 : Int32)).toNatClampNeg) by decide) dX9_keep_63 ?_
      cases hf
      exact W.iret hx hb hr (fun t ht hW => ⟨⟨rfl, by rw [ht]; exact hP, hD⟩, hS.F ht⟩) hS.2.2 dX9_keep_64
    · have hf := pf_f hc hf
      refine lv_aload_n hx hb dX9_keep_33 rfl (lv_at hl 0 rfl) ?_
      refine va_get (D := D) (ci := 9) (v := .ref a_o_kept) (C := RX9) (T := TX9) (N := 26) hx hb hts iX9_keep_X9 hown hK.1 hP 0 rfl rfl 17 (by decide) (hts (.fieldLink RX9 44 "LoneSeatsModel" "kept" "[I") (by decide +kernel)) (fun _ h9 => h9) rfl dX9_keep_34 ?_
      refine lv_sipush (v := (229 : Int32)) hx hb dX9_keep_37 (by decide) ?_
      refine lv_iload_n hx hb dX9_keep_40 rfl (lv_at hl 1 rfl) ?_
      refine lv_imul hx hb dX9_keep_41 ?_
      refine lv_iload_n hx hb dX9_keep_42 rfl (lv_at hl 2 rfl) ?_
      refine lv_iadd hx hb dX9_keep_43 ?_
      refine lv_aload_n hx hb dX9_keep_44 rfl (lv_at hl 0 rfl) ?_
      refine va_get (D := D) (ci := 9) (v := .ref a_o_page) (C := RX9) (T := TX9) (N := 26) hx hb hts iX9_keep_X9 hown hK.1 hP 0 rfl rfl 13 (by decide) (hts (.fieldLink RX9 35 "LoneSeatsModel" "page" "[I") (by decide +kernel)) (fun _ h9 => h9) rfl dX9_keep_45 ?_
      refine lv_iload_n hx hb dX9_keep_48 rfl (lv_at hl 2 rfl) ?_
      obtain ⟨hg1, hf⟩ := pf_x hf
      refine va_iald hx hb hK.1 hP 1 0 rfl rfl hg1 dX9_keep_49 ?_
      obtain ⟨hg2, hf⟩ := pf_x hf
      refine va_iast hx hb hK.1 hP hD hS 2 0 rfl rfl hg2 dX9_keep_50 (fun H locs hP hD hS => ?_)
      have hP : va_P D vwCl (WX9_keep cI cJ cZ cB a_o a_o_text a_o_many a_o_views a_o_aisles a_o_readMany a_o_readViews a_o_readAisles a_o_readPage a_o_page a_o_trial a_o_book a_o_kept a_o_isKept a_o_seenSeat a_o_seenWas v_o_thrown v_o_textSize v_o_place v_o_rows v_o_readRows v_o_doings v_o_seen v_o_seed v_o_found v_o_foundViews v_o_foundMany d_o_page (upd d_o_kept (((((229 : Int32) * x1) + x2)).toNatClampNeg) (d_o_page (x2).toNatClampNeg)) d_o_isKept) H := hP
      have hD : va_D A (WX9_keep cI cJ cZ cB a_o a_o_text a_o_many a_o_views a_o_aisles a_o_readMany a_o_readViews a_o_readAisles a_o_readPage a_o_page a_o_trial a_o_book a_o_kept a_o_isKept a_o_seenSeat a_o_seenWas v_o_thrown v_o_textSize v_o_place v_o_rows v_o_readRows v_o_doings v_o_seen v_o_seed v_o_found v_o_foundViews v_o_foundMany d_o_page (upd d_o_kept (((((229 : Int32) * x1) + x2)).toNatClampNeg) (d_o_page (x2).toNatClampNeg)) d_o_isKept) := hD
      refine lv_iinc (v := (x2 + (1 : Int32))) (lv' := [(2, .int (x2 + (1 : Int32))), (0, .ref a_o), (1, .int x1)]) hx hb dX9_keep_51 hl (k := 2) rfl rfl (by decide) rfl (fun ls hl => ?_)
      refine lv_goto (tgt := 26) hx hb dX9_keep_54 (by decide) ?_
      exact ih v_o_thrown v_o_textSize v_o_place v_o_rows v_o_readRows v_o_doings v_o_seen v_o_seed v_o_found v_o_foundViews v_o_foundMany d_o_page (upd d_o_kept (((((229 : Int32) * x1) + x2)).toNatClampNeg) (d_o_page (x2).toNatClampNeg)) d_o_isKept x1 (x2 + (1 : Int32)) _ _ ls _ hP hD hS (lv_sub hl [1, 2, 0] rfl) hf
def fX9_keep (v_o_thrown : Int32) (d_o_page : (Nat → Int32)) (d_o_kept : (Nat → Int32)) (d_o_isKept : (Nat → Int32)) (x1 : Int32) : Option (Int32 × Int32 × (Nat → Int32) × (Nat → Int32)) := ((fX9_in ((x1).toInt64) (0 : Int64) (1 : Int64)).bind fun q1 => (if q1 = 0 then some ((-1 : Int32), (0 : Int32), d_o_kept, d_o_isKept) else (if x1 < 0 ∨ 2 ≤ (x1).toNatClampNeg then none else fX9_keep_26 FU (0 : Int32) d_o_page d_o_kept (upd d_o_isKept ((x1).toNatClampNeg) (vp_nar .boolean (1 : Int32))) x1 (0 : Int32))))
set_option maxRecDepth 100000 in
set_option maxHeartbeats 4000000 in
theorem kX9_keep (l : Launch) (D : va_G) (cI cJ cZ cB : ClassId) (a_o : Nat) (a_o_text : Nat) (a_o_many : Nat) (a_o_views : Nat) (a_o_aisles : Nat) (a_o_readMany : Nat) (a_o_readViews : Nat) (a_o_readAisles : Nat) (a_o_readPage : Nat) (a_o_page : Nat) (a_o_trial : Nat) (a_o_book : Nat) (a_o_kept : Nat) (a_o_isKept : Nat) (a_o_seenSeat : Nat) (a_o_seenWas : Nat) (v_o_thrown : Int32) (v_o_textSize : Int32) (v_o_place : Int32) (v_o_rows : Int32) (v_o_readRows : Int32) (v_o_doings : Int32) (v_o_seen : Int32) (v_o_seed : Int64) (v_o_found : Int32) (v_o_foundViews : Int32) (v_o_foundMany : Int32) (d_o_page : (Nat → Int32)) (d_o_kept : (Nat → Int32)) (d_o_isKept : (Nat → Int32)) (x1 : Int32) (res : Int32 × Int32 × (Nat → Int32) × (Nat → Int32)) (hf : fX9_keep v_o_thrown d_o_page d_o_kept d_o_isKept x1 = some res) : Rw l yX9_keep wsX9_keep ({ frames := 1, cells := 0, slots := 0, locals := 25 } : Room) D (tyL cI cJ cZ cB) [.ref a_o, .int x1] (WX9_keep cI cJ cZ cB a_o a_o_text a_o_many a_o_views a_o_aisles a_o_readMany a_o_readViews a_o_readAisles a_o_readPage a_o_page a_o_trial a_o_book a_o_kept a_o_isKept a_o_seenSeat a_o_seenWas v_o_thrown v_o_textSize v_o_place v_o_rows v_o_readRows v_o_doings v_o_seen v_o_seed v_o_found v_o_foundViews v_o_foundMany d_o_page d_o_kept d_o_isKept) (some (.int res.1)) (WX9_keep cI cJ cZ cB a_o a_o_text a_o_many a_o_views a_o_aisles a_o_readMany a_o_readViews a_o_readAisles a_o_readPage a_o_page a_o_trial a_o_book a_o_kept a_o_isKept a_o_seenSeat a_o_seenWas res.2.1 v_o_textSize v_o_place v_o_rows v_o_readRows v_o_doings v_o_seen v_o_seed v_o_found v_o_foundViews v_o_foundMany d_o_page res.2.2.1 res.2.2.2) := by
  refine Rw.of (cc := cX9_keep) (maxL := 3) (ret := (some .int)) (own := RX9) (by decide) rfl rfl (Nat.le_of_ble_eq_true rfl) ?_
  intro p e s m below meth c A ls C hK hA hP hD hS hl
  obtain ⟨hx, hb, hr, hml, hts, hown, hlk⟩ := id C
  have hl : lv_has ls 3 [(0, .ref a_o), (1, .int x1)] := hl
  unfold fX9_keep at hf
  refine lv_aload_n hx hb dX9_keep_0 rfl (lv_at hl 0 rfl) ?_
  refine lv_iconst (v := (0 : Int32)) hx hb dX9_keep_1 (by decide) ?_
  refine va_put (D := D) (ci := 9) (v := .int (0 : Int32)) (ty := .int) (C := RX9) (T := TX9) (N := 26) hx hb hts iX9_keep_X9 tyX9 tyX9_ok nmX9 hown hK.1 hP hD hS 0 rfl rfl 0 (by decide) (hts (.fieldLink RX9 60 "LoneSeatsModel" "thrown" "I") (by decide +kernel)) (fun _ h9 => h9) rfl (by decide +kernel) rfl rfl (Nat.le_of_ble_eq_true rfl) dX9_keep_2 (fun H locs hP hD hS => ?_)
  have hP : va_P D vwCl (WX9_keep cI cJ cZ cB a_o a_o_text a_o_many a_o_views a_o_aisles a_o_readMany a_o_readViews a_o_readAisles a_o_readPage a_o_page a_o_trial a_o_book a_o_kept a_o_isKept a_o_seenSeat a_o_seenWas (0 : Int32) v_o_textSize v_o_place v_o_rows v_o_readRows v_o_doings v_o_seen v_o_seed v_o_found v_o_foundViews v_o_foundMany d_o_page d_o_kept d_o_isKept) H := hP
  have hD : va_D A (WX9_keep cI cJ cZ cB a_o a_o_text a_o_many a_o_views a_o_aisles a_o_readMany a_o_readViews a_o_readAisles a_o_readPage a_o_page a_o_trial a_o_book a_o_kept a_o_isKept a_o_seenSeat a_o_seenWas (0 : Int32) v_o_textSize v_o_place v_o_rows v_o_readRows v_o_doings v_o_seen v_o_seed v_o_found v_o_foundViews v_o_foundMany d_o_page d_o_kept d_o_isKept) := hD
  refine lv_iload_n hx hb dX9_keep_5 rfl (lv_at hl 1 rfl) ?_
  refine lv_i2l (v := (x1).toInt64) hx hb dX9_keep_6 rfl ?_
  refine lv_lconst (v := (0 : Int64)) hx hb dX9_keep_7 (by decide) ?_
  refine lv_lconst (v := (1 : Int64)) hx hb dX9_keep_8 (by decide) ?_
  obtain ⟨q1, hq2, hf⟩ := pf_b hf
  have hPc := hP.sub (ws' := ([] : va_W)) [] rfl
  refine cl_roi (va_runS (As := [.long ((x1).toInt64), .long (0 : Int64), .long (1 : Int64)]) (rest := []) ⟨hx, hb, hml, hown, hts⟩ (kX9_in l D cI cJ cZ cB ((x1).toInt64) (0 : Int64) (1 : Int64) q1 hq2) (va_cwS 3 hts gX9_keep_X9_in rfl rfl rfl (by decide +kernel) ⟨Nat.le_of_ble_eq_true rfl, Nat.le_of_ble_eq_true rfl⟩) ⟨PRo.blind, PRo.at hK hPc⟩ rfl rfl hl.1 rfl (lv_room (Nat.le_of_ble_eq_true rfl)) dX9_keep_9 ⟨Nat.zero_le _, Nat.zero_le _⟩) ?_
  refine lv_if_ne (tgt := 17) hx hb dX9_keep_12 (by decide) (fun hc => ?_) (fun hc => ?_)
  · have hf := pf_f hc hf
    refine lv_aload_n hx hb dX9_keep_17 rfl (lv_at hl 0 rfl) ?_
    refine va_get (D := D) (ci := 9) (v := .ref a_o_isKept) (C := RX9) (T := TX9) (N := 26) hx hb hts iX9_keep_X9 hown hK.1 hP 0 rfl rfl 18 (by decide) (hts (.fieldLink RX9 47 "LoneSeatsModel" "isKept" "[Z") (by decide +kernel)) (fun _ h9 => h9) rfl dX9_keep_18 ?_
    refine lv_iload_n hx hb dX9_keep_21 rfl (lv_at hl 1 rfl) ?_
    refine lv_iconst (v := (1 : Int32)) hx hb dX9_keep_22 (by decide) ?_
    obtain ⟨hg3, hf⟩ := pf_x hf
    refine va_zast hx hb hK.1 hP hD hS 3 2 rfl rfl hg3 dX9_keep_23 (fun H locs hP hD hS => ?_)
    have hP : va_P D vwCl (WX9_keep cI cJ cZ cB a_o a_o_text a_o_many a_o_views a_o_aisles a_o_readMany a_o_readViews a_o_readAisles a_o_readPage a_o_page a_o_trial a_o_book a_o_kept a_o_isKept a_o_seenSeat a_o_seenWas (0 : Int32) v_o_textSize v_o_place v_o_rows v_o_readRows v_o_doings v_o_seen v_o_seed v_o_found v_o_foundViews v_o_foundMany d_o_page d_o_kept (upd d_o_isKept ((x1).toNatClampNeg) (vp_nar .boolean (1 : Int32)))) H := hP
    have hD : va_D A (WX9_keep cI cJ cZ cB a_o a_o_text a_o_many a_o_views a_o_aisles a_o_readMany a_o_readViews a_o_readAisles a_o_readPage a_o_page a_o_trial a_o_book a_o_kept a_o_isKept a_o_seenSeat a_o_seenWas (0 : Int32) v_o_textSize v_o_place v_o_rows v_o_readRows v_o_doings v_o_seen v_o_seed v_o_found v_o_foundViews v_o_foundMany d_o_page d_o_kept (upd d_o_isKept ((x1).toNatClampNeg) (vp_nar .boolean (1 : Int32)))) := hD
    refine lv_iconst (v := (0 : Int32)) hx hb dX9_keep_24 (by decide) ?_
    refine lv_istore_n (lv' := [(2, .int (0 : Int32)), (0, .ref a_o), (1, .int x1)]) hx hb dX9_keep_25 rfl hl (by decide) rfl (fun ls hl => ?_)
    exact tX9_keep_26 C hK hA  FU (0 : Int32) v_o_textSize v_o_place v_o_rows v_o_readRows v_o_doings v_o_seen v_o_seed v_o_found v_o_foundViews v_o_foundMany d_o_page d_o_kept (upd d_o_isKept ((x1).toNatClampNeg) (vp_nar .boolean (1 : Int32))) x1 (0 : Int32) _ _ ls _ hP hD hS (lv_sub hl [1, 2, 0] rfl) hf
  · have hf := pf_t hc hf
    refine lv_iconst (v := (-1 : Int32)) hx hb dX9_keep_15 (by decide) ?_
    cases hf
    exact W.iret hx hb hr (fun t ht hW => ⟨⟨rfl, by rw [ht]; exact hP, hD⟩, hS.F ht⟩) hS.2.2 dX9_keep_16
abbrev WX9_again (cI cJ cZ cB : ClassId) (a_o : Nat) (a_o_text : Nat) (a_o_many : Nat) (a_o_views : Nat) (a_o_aisles : Nat) (a_o_readMany : Nat) (a_o_readViews : Nat) (a_o_readAisles : Nat) (a_o_readPage : Nat) (a_o_page : Nat) (a_o_trial : Nat) (a_o_book : Nat) (a_o_kept : Nat) (a_o_isKept : Nat) (a_o_seenSeat : Nat) (a_o_seenWas : Nat) (v_o_thrown : Int32) (v_o_textSize : Int32) (v_o_place : Int32) (v_o_rows : Int32) (v_o_readRows : Int32) (v_o_doings : Int32) (v_o_seen : Int32) (v_o_seed : Int64) (v_o_found : Int32) (v_o_foundViews : Int32) (v_o_foundMany : Int32) (d_o_page : (Nat → Int32)) (d_o_kept : (Nat → Int32)) (d_o_isKept : (Nat → Int32)) : va_W := [(a_o, .inr (9, [.int v_o_thrown, .ref a_o_text, .int v_o_textSize, .int v_o_place, .int v_o_rows, .ref a_o_many, .ref a_o_views, .ref a_o_aisles, .int v_o_readRows, .ref a_o_readMany, .ref a_o_readViews, .ref a_o_readAisles, .ref a_o_readPage, .ref a_o_page, .ref a_o_trial, .ref a_o_book, .int v_o_doings, .ref a_o_kept, .ref a_o_isKept, .int v_o_seen, .ref a_o_seenSeat, .ref a_o_seenWas, .long v_o_seed, .int v_o_found, .int v_o_foundViews, .int v_o_foundMany])), (a_o_page, .inl (cI, (229, .inl d_o_page))), (a_o_kept, .inl (cI, (458, .inl d_o_kept))), (a_o_isKept, .inl (cZ, (2, .inl d_o_isKept)))]
set_option maxRecDepth 20000 in
theorem iX9_again_X9 : ∀ w ∈ wsX90, w ∈ wsX9_again := by decide +kernel
def fX9_again_31 : Nat → Int32 → Int32 → (Nat → Int32) → (Nat → Int32) → (Nat → Int32) → Int32 → Int32 → Option (Int32 × Int32 × Int32 × (Nat → Int32))
  | 0, _, _, _, _, _, _, _ => none
  | n + 1, v_o_thrown, v_o_doings, d_o_page, d_o_kept, d_o_isKept, x1, x2 => (if (229 : Int32) ≤ x2 then some ((d_o_page ((6 : Int32)).toNatClampNeg), v_o_thrown, (0 : Int32), d_o_page) else (if (((229 : Int32) * x1) + x2) < 0 ∨ 458 ≤ ((((229 : Int32) * x1) + x2)).toNatClampNeg then none else (if x2 < 0 ∨ 229 ≤ (x2).toNatClampNeg then none else fX9_again_31 n v_o_thrown v_o_doings (upd d_o_page ((x2).toNatClampNeg) (d_o_kept ((((229 : Int32) * x1) + x2)).toNatClampNeg)) d_o_kept d_o_isKept x1 (x2 + (1 : Int32)))))
set_option maxRecDepth 100000 in
set_option maxHeartbeats 4000000 in
theorem tX9_again_31 {p : Program} {l : Launch} {e : Env} {s : State} {m : MethodId} {args : Array Value} {below : List Frame} {meth : Method} {c : Code} {D : va_G} {cI cJ cZ cB : ClassId} {a_o : Nat} {a_o_text : Nat} {a_o_many : Nat} {a_o_views : Nat} {a_o_aisles : Nat} {a_o_readMany : Nat} {a_o_readViews : Nat} {a_o_readAisles : Nat} {a_o_readPage : Nat} {a_o_page : Nat} {a_o_trial : Nat} {a_o_book : Nat} {a_o_kept : Nat} {a_o_isKept : Nat} {a_o_seenSeat : Nat} {a_o_seenWas : Nat} {A : Nat → Prop} (C : Cx p s m args meth c cX9_again 3 (some .int) wsX9_again RX9) (hK : Kw D (tyL cI cJ cZ cB) s) (hA : ∀ q : Nat, s.heap.size ≤ q → A q) : ∀ (n : Nat), ∀ (v_o_thrown : Int32) (v_o_textSize : Int32) (v_o_place : Int32) (v_o_rows : Int32) (v_o_readRows : Int32) (v_o_doings : Int32) (v_o_seen : Int32) (v_o_seed : Int64) (v_o_found : Int32) (v_o_foundViews : Int32) (v_o_foundMany : Int32) (d_o_page : (Nat → Int32)) (d_o_kept : (Nat → Int32)) (d_o_isKept : (Nat → Int32)) (x1 : Int32) (x2 : Int32) (H : Heap) (locs : List Loc) (ls : Array Slot) (res : Int32 × Int32 × Int32 × (Nat → Int32)), va_P D vwCl (WX9_again cI cJ cZ cB a_o a_o_text a_o_many a_o_views a_o_aisles a_o_readMany a_o_readViews a_o_readAisles a_o_readPage a_o_page a_o_trial a_o_book a_o_kept a_o_isKept a_o_seenSeat a_o_seenWas v_o_thrown v_o_textSize v_o_place v_o_rows v_o_readRows v_o_doings v_o_seen v_o_seed v_o_found v_o_foundViews v_o_foundMany d_o_page d_o_kept d_o_isKept) H → va_D A (WX9_again cI cJ cZ cB a_o a_o_text a_o_many a_o_views a_o_aisles a_o_readMany a_o_readViews a_o_readAisles a_o_readPage a_o_page a_o_trial a_o_book a_o_kept a_o_isKept a_o_seenSeat a_o_seenWas v_o_thrown v_o_textSize v_o_place v_o_rows v_o_readRows v_o_doings v_o_seen v_o_seed v_o_found v_o_foundViews v_o_foundMany d_o_page d_o_kept d_o_isKept) → va_S A s.heap H locs → lv_has ls 3 [(0, .ref a_o), (1, .int x1), (2, .int x2)] → fX9_again_31 n v_o_thrown v_o_doings d_o_page d_o_kept d_o_isKept x1 x2 = some res → W p l e ({ frames := 1, cells := 0, slots := 0, locals := 25 } : Room) s m args below meth c H locs 0 0 (MQ below (QRw D A (WX9_again cI cJ cZ cB a_o a_o_text a_o_many a_o_views a_o_aisles a_o_readMany a_o_readViews a_o_readAisles a_o_readPage a_o_page a_o_trial a_o_book a_o_kept a_o_isKept a_o_seenSeat a_o_seenWas res.2.1 v_o_textSize v_o_place v_o_rows v_o_readRows res.2.2.1 v_o_seen v_o_seed v_o_found v_o_foundViews v_o_foundMany res.2.2.2 d_o_kept d_o_isKept) (some (.int res.1))) args s 0 0 A) (F0 m 31 ls []) := by
  obtain ⟨hx, hb, hr, hml, hts, hown, hlk⟩ := id C
  intro n
  induction n with
  | zero =>
    intro v_o_thrown v_o_textSize v_o_place v_o_rows v_o_readRows v_o_doings v_o_seen v_o_seed v_o_found v_o_foundViews v_o_foundMany d_o_page d_o_kept d_o_isKept x1 x2 H locs ls res hP hD hS hl hf
    rw [fX9_again_31] at hf
    cases hf
  | succ n ih =>
    intro v_o_thrown v_o_textSize v_o_place v_o_rows v_o_readRows v_o_doings v_o_seen v_o_seed v_o_found v_o_foundViews v_o_foundMany d_o_page d_o_kept d_o_isKept x1 x2 H locs ls res hP hD hS hl hf
    rw [fX9_again_31] at hf
    refine lv_iload_n hx hb dX9_again_31 rfl (lv_at hl 2 rfl) ?_
    refine lv_sipush (v := (229 : Int32)) hx hb dX9_again_32 (by decide) ?_
    refine lv_icmp_ge (tgt := 62) hx hb dX9_again_35 (by decide) (fun hc => ?_) (fun hc => ?_)
    · have hf := pf_t hc hf
      refine lv_aload_n hx hb dX9_again_62 rfl (lv_at hl 0 rfl) ?_
      refine lv_iconst (v := (0 : Int32)) hx hb dX9_again_63 (by decide) ?_
      refine va_put (D := D) (ci := 9) (v := .int (0 : Int32)) (ty := .int) (C := RX9) (T := TX9) (N := 26) hx hb hts iX9_again_X9 tyX9 tyX9_ok nmX9 hown hK.1 hP hD hS 0 rfl rfl 16 (by decide) (hts (.fieldLink RX9 105 "LoneSeatsModel" "doings" "I") (by decide +kernel)) (fun _ h9 => h9) rfl (by decide +kernel) rfl rfl (Nat.le_of_ble_eq_true rfl) dX9_again_64 (fun H locs hP hD hS => ?_)
      have hP : va_P D vwCl (WX9_again cI cJ cZ cB a_o a_o_text a_o_many a_o_views a_o_aisles a_o_readMany a_o_readViews a_o_readAisles a_o_readPage a_o_page a_o_trial a_o_book a_o_kept a_o_isKept a_o_seenSeat a_o_seenWas v_o_thrown v_o_textSize v_o_place v_o_rows v_o_readRows (0 : Int32) v_o_seen v_o_seed v_o_found v_o_foundViews v_o_foundMany d_o_page d_o_kept d_o_isKept) H := hP
      have hD : va_D A (WX9_again cI cJ cZ cB a_o a_o_text a_o_many a_o_views a_o_aisles a_o_readMany a_o_readViews a_o_readAisles a_o_readPage a_o_page a_o_trial a_o_book a_o_kept a_o_isKept a_o_seenSeat a_o_seenWas v_o_thrown v_o_textSize v_o_place v_o_rows v_o_readRows (0 : Int32) v_o_seen v_o_seed v_o_found v_o_foundViews v_o_foundMany d_o_page d_o_kept d_o_isKept) := hD
      refine lv_aload_n hx hb dX9_again_67 rfl (lv_at hl 0 rfl) ?_
      refine va_get (D := D) (ci := 9) (v := .ref a_o_page) (C := RX9) (T := TX9) (N := 26) hx hb hts iX9_again_X9 hown hK.1 hP 0 rfl rfl 13 (by decide) (hts (.fieldLink RX9 35 "LoneSeatsModel" "page" "[I") (by decide +kernel)) (fun _ h9 => h9) rfl dX9_again_68 ?_
      refine lv_bipush (v := (6 : Int32)) hx hb dX9_again_71 (by decide) ?_
      refine va_iald hx hb hK.1 hP 1 0 rfl rfl (show ¬ ((6 : Int32) < 0 ∨ 229 ≤ ((6 : Int32)).toNatClampNeg) by decide) dX9_again_73 ?_
      cases hf
      exact W.iret hx hb hr (fun t ht hW => ⟨⟨rfl, by rw [ht]; exact hP, hD⟩, hS.F ht⟩) hS.2.2 dX9_again_74
    · have hf := pf_f hc hf
      refine lv_aload_n hx hb dX9_again_38 rfl (lv_at hl 0 rfl) ?_
      refine va_get (D := D) (ci := 9) (v := .ref a_o_page) (C := RX9) (T := TX9) (N := 26) hx hb hts iX9_again_X9 hown hK.1 hP 0 rfl rfl 13 (by decide) (hts (.fieldLink RX9 35 "LoneSeatsModel" "page" "[I") (by decide +kernel)) (fun _ h9 => h9) rfl dX9_again_39 ?_
      refine lv_iload_n hx hb dX9_again_42 rfl (lv_at hl 2 rfl) ?_
      refine lv_aload_n hx hb dX9_again_43 rfl (lv_at hl 0 rfl) ?_
      refine va_get (D := D) (ci := 9) (v := .ref a_o_kept) (C := RX9) (T := TX9) (N := 26) hx hb hts iX9_again_X9 hown hK.1 hP 0 rfl rfl 17 (by decide) (hts (.fieldLink RX9 44 "LoneSeatsModel" "kept" "[I") (by decide +kernel)) (fun _ h9 => h9) rfl dX9_again_44 ?_
      refine lv_sipush (v := (229 : Int32)) hx hb dX9_again_47 (by decide) ?_
      refine lv_iload_n hx hb dX9_again_50 rfl (lv_at hl 1 rfl) ?_
      refine lv_imul hx hb dX9_again_51 ?_
      refine lv_iload_n hx hb dX9_again_52 rfl (lv_at hl 2 rfl) ?_
      refine lv_iadd hx hb dX9_again_53 ?_
      obtain ⟨hg1, hf⟩ := pf_x hf
      refine va_iald hx hb hK.1 hP 2 0 rfl rfl hg1 dX9_again_54 ?_
      obtain ⟨hg2, hf⟩ := pf_x hf
      refine va_iast hx hb hK.1 hP hD hS 1 0 rfl rfl hg2 dX9_again_55 (fun H locs hP hD hS => ?_)
      have hP : va_P D vwCl (WX9_again cI cJ cZ cB a_o a_o_text a_o_many a_o_views a_o_aisles a_o_readMany a_o_readViews a_o_readAisles a_o_readPage a_o_page a_o_trial a_o_book a_o_kept a_o_isKept a_o_seenSeat a_o_seenWas v_o_thrown v_o_textSize v_o_place v_o_rows v_o_readRows v_o_doings v_o_seen v_o_seed v_o_found v_o_foundViews v_o_foundMany (upd d_o_page ((x2).toNatClampNeg) (d_o_kept ((((229 : Int32) * x1) + x2)).toNatClampNeg)) d_o_kept d_o_isKept) H := hP
      have hD : va_D A (WX9_again cI cJ cZ cB a_o a_o_text a_o_many a_o_views a_o_aisles a_o_readMany a_o_readViews a_o_readAisles a_o_readPage a_o_page a_o_trial a_o_book a_o_kept a_o_isKept a_o_seenSeat a_o_seenWas v_o_thrown v_o_textSize v_o_place v_o_rows v_o_readRows v_o_doings v_o_seen v_o_seed v_o_found v_o_foundViews v_o_foundMany (upd d_o_page ((x2).toNatClampNeg) (d_o_kept ((((229 : Int32) * x1) + x2)).toNatClampNeg)) d_o_kept d_o_isKept) := hD
      refine lv_iinc (v := (x2 + (1 : Int32))) (lv' := [(2, .int (x2 + (1 : Int32))), (0, .ref a_o), (1, .int x1)]) hx hb dX9_again_56 hl (k := 2) rfl rfl (by decide) rfl (fun ls hl => ?_)
      refine lv_goto (tgt := 31) hx hb dX9_again_59 (by decide) ?_
      exact ih v_o_thrown v_o_textSize v_o_place v_o_rows v_o_readRows v_o_doings v_o_seen v_o_seed v_o_found v_o_foundViews v_o_foundMany (upd d_o_page ((x2).toNatClampNeg) (d_o_kept ((((229 : Int32) * x1) + x2)).toNatClampNeg)) d_o_kept d_o_isKept x1 (x2 + (1 : Int32)) _ _ ls _ hP hD hS (lv_sub hl [1, 2, 0] rfl) hf
def fX9_again (v_o_thrown : Int32) (v_o_doings : Int32) (d_o_page : (Nat → Int32)) (d_o_kept : (Nat → Int32)) (d_o_isKept : (Nat → Int32)) (x1 : Int32) : Option (Int32 × Int32 × Int32 × (Nat → Int32)) := ((fX9_in ((x1).toInt64) (0 : Int64) (1 : Int64)).bind fun q1 => (if q1 = 0 then some ((-1 : Int32), (0 : Int32), v_o_doings, d_o_page) else (if x1 < 0 ∨ 2 ≤ (x1).toNatClampNeg then none else (if (d_o_isKept (x1).toNatClampNeg) = 0 then some ((-3 : Int32), (0 : Int32), v_o_doings, d_o_page) else fX9_again_31 FU (0 : Int32) v_o_doings d_o_page d_o_kept d_o_isKept x1 (0 : Int32)))))
set_option maxRecDepth 100000 in
set_option maxHeartbeats 4000000 in
theorem kX9_again (l : Launch) (D : va_G) (cI cJ cZ cB : ClassId) (a_o : Nat) (a_o_text : Nat) (a_o_many : Nat) (a_o_views : Nat) (a_o_aisles : Nat) (a_o_readMany : Nat) (a_o_readViews : Nat) (a_o_readAisles : Nat) (a_o_readPage : Nat) (a_o_page : Nat) (a_o_trial : Nat) (a_o_book : Nat) (a_o_kept : Nat) (a_o_isKept : Nat) (a_o_seenSeat : Nat) (a_o_seenWas : Nat) (v_o_thrown : Int32) (v_o_textSize : Int32) (v_o_place : Int32) (v_o_rows : Int32) (v_o_readRows : Int32) (v_o_doings : Int32) (v_o_seen : Int32) (v_o_seed : Int64) (v_o_found : Int32) (v_o_foundViews : Int32) (v_o_foundMany : Int32) (d_o_page : (Nat → Int32)) (d_o_kept : (Nat → Int32)) (d_o_isKept : (Nat → Int32)) (x1 : Int32) (res : Int32 × Int32 × Int32 × (Nat → Int32)) (hf : fX9_again v_o_thrown v_o_doings d_o_page d_o_kept d_o_isKept x1 = some res) : Rw l yX9_again wsX9_again ({ frames := 1, cells := 0, slots := 0, locals := 25 } : Room) D (tyL cI cJ cZ cB) [.ref a_o, .int x1] (WX9_again cI cJ cZ cB a_o a_o_text a_o_many a_o_views a_o_aisles a_o_readMany a_o_readViews a_o_readAisles a_o_readPage a_o_page a_o_trial a_o_book a_o_kept a_o_isKept a_o_seenSeat a_o_seenWas v_o_thrown v_o_textSize v_o_place v_o_rows v_o_readRows v_o_doings v_o_seen v_o_seed v_o_found v_o_foundViews v_o_foundMany d_o_page d_o_kept d_o_isKept) (some (.int res.1)) (WX9_again cI cJ cZ cB a_o a_o_text a_o_many a_o_views a_o_aisles a_o_readMany a_o_readViews a_o_readAisles a_o_readPage a_o_page a_o_trial a_o_book a_o_kept a_o_isKept a_o_seenSeat a_o_seenWas res.2.1 v_o_textSize v_o_place v_o_rows v_o_readRows res.2.2.1 v_o_seen v_o_seed v_o_found v_o_foundViews v_o_foundMany res.2.2.2 d_o_kept d_o_isKept) := by
  refine Rw.of (cc := cX9_again) (maxL := 3) (ret := (some .int)) (own := RX9) (by decide) rfl rfl (Nat.le_of_ble_eq_true rfl) ?_
  intro p e s m below meth c A ls C hK hA hP hD hS hl
  obtain ⟨hx, hb, hr, hml, hts, hown, hlk⟩ := id C
  have hl : lv_has ls 3 [(0, .ref a_o), (1, .int x1)] := hl
  unfold fX9_again at hf
  refine lv_aload_n hx hb dX9_again_0 rfl (lv_at hl 0 rfl) ?_
  refine lv_iconst (v := (0 : Int32)) hx hb dX9_again_1 (by decide) ?_
  refine va_put (D := D) (ci := 9) (v := .int (0 : Int32)) (ty := .int) (C := RX9) (T := TX9) (N := 26) hx hb hts iX9_again_X9 tyX9 tyX9_ok nmX9 hown hK.1 hP hD hS 0 rfl rfl 0 (by decide) (hts (.fieldLink RX9 60 "LoneSeatsModel" "thrown" "I") (by decide +kernel)) (fun _ h9 => h9) rfl (by decide +kernel) rfl rfl (Nat.le_of_ble_eq_true rfl) dX9_again_2 (fun H locs hP hD hS => ?_)
  have hP : va_P D vwCl (WX9_again cI cJ cZ cB a_o a_o_text a_o_many a_o_views a_o_aisles a_o_readMany a_o_readViews a_o_readAisles a_o_readPage a_o_page a_o_trial a_o_book a_o_kept a_o_isKept a_o_seenSeat a_o_seenWas (0 : Int32) v_o_textSize v_o_place v_o_rows v_o_readRows v_o_doings v_o_seen v_o_seed v_o_found v_o_foundViews v_o_foundMany d_o_page d_o_kept d_o_isKept) H := hP
  have hD : va_D A (WX9_again cI cJ cZ cB a_o a_o_text a_o_many a_o_views a_o_aisles a_o_readMany a_o_readViews a_o_readAisles a_o_readPage a_o_page a_o_trial a_o_book a_o_kept a_o_isKept a_o_seenSeat a_o_seenWas (0 : Int32) v_o_textSize v_o_place v_o_rows v_o_readRows v_o_doings v_o_seen v_o_seed v_o_found v_o_foundViews v_o_foundMany d_o_page d_o_kept d_o_isKept) := hD
  refine lv_iload_n hx hb dX9_again_5 rfl (lv_at hl 1 rfl) ?_
  refine lv_i2l (v := (x1).toInt64) hx hb dX9_again_6 rfl ?_
  refine lv_lconst (v := (0 : Int64)) hx hb dX9_again_7 (by decide) ?_
  refine lv_lconst (v := (1 : Int64)) hx hb dX9_again_8 (by decide) ?_
  obtain ⟨q1, hq2, hf⟩ := pf_b hf
  have hPc := hP.sub (ws' := ([] : va_W)) [] rfl
  refine cl_roi (va_runS (As := [.long ((x1).toInt64), .long (0 : Int64), .long (1 : Int64)]) (rest := []) ⟨hx, hb, hml, hown, hts⟩ (kX9_in l D cI cJ cZ cB ((x1).toInt64) (0 : Int64) (1 : Int64) q1 hq2) (va_cwS 3 hts gX9_again_X9_in rfl rfl rfl (by decide +kernel) ⟨Nat.le_of_ble_eq_true rfl, Nat.le_of_ble_eq_true rfl⟩) ⟨PRo.blind, PRo.at hK hPc⟩ rfl rfl hl.1 rfl (lv_room (Nat.le_of_ble_eq_true rfl)) dX9_again_9 ⟨Nat.zero_le _, Nat.zero_le _⟩) ?_
  refine lv_if_ne (tgt := 17) hx hb dX9_again_12 (by decide) (fun hc => ?_) (fun hc => ?_)
  · have hf := pf_f hc hf
    refine lv_aload_n hx hb dX9_again_17 rfl (lv_at hl 0 rfl) ?_
    refine va_get (D := D) (ci := 9) (v := .ref a_o_isKept) (C := RX9) (T := TX9) (N := 26) hx hb hts iX9_again_X9 hown hK.1 hP 0 rfl rfl 18 (by decide) (hts (.fieldLink RX9 47 "LoneSeatsModel" "isKept" "[Z") (by decide +kernel)) (fun _ h9 => h9) rfl dX9_again_18 ?_
    refine lv_iload_n hx hb dX9_again_21 rfl (lv_at hl 1 rfl) ?_
    obtain ⟨hg3, hf⟩ := pf_x hf
    refine va_zald hx hb hK.1 hP 3 2 rfl rfl hg3 dX9_again_22 ?_
    refine lv_if_ne (tgt := 29) hx hb dX9_again_23 (by decide) (fun hc => ?_) (fun hc => ?_)
    · have hf := pf_f hc hf
      refine lv_iconst (v := (0 : Int32)) hx hb dX9_again_29 (by decide) ?_
      refine lv_istore_n (lv' := [(2, .int (0 : Int32)), (0, .ref a_o), (1, .int x1)]) hx hb dX9_again_30 rfl hl (by decide) rfl (fun ls hl => ?_)
      exact tX9_again_31 C hK hA  FU (0 : Int32) v_o_textSize v_o_place v_o_rows v_o_readRows v_o_doings v_o_seen v_o_seed v_o_found v_o_foundViews v_o_foundMany d_o_page d_o_kept d_o_isKept x1 (0 : Int32) _ _ ls _ hP hD hS (lv_sub hl [1, 2, 0] rfl) hf
    · have hf := pf_t hc hf
      refine lv_bipush (v := (-3 : Int32)) hx hb dX9_again_26 (by decide) ?_
      cases hf
      exact W.iret hx hb hr (fun t ht hW => ⟨⟨rfl, by rw [ht]; exact hP, hD⟩, hS.F ht⟩) hS.2.2 dX9_again_28
  · have hf := pf_t hc hf
    refine lv_iconst (v := (-1 : Int32)) hx hb dX9_again_15 (by decide) ?_
    cases hf
    exact W.iret hx hb hr (fun t ht hW => ⟨⟨rfl, by rw [ht]; exact hP, hD⟩, hS.F ht⟩) hS.2.2 dX9_again_16
abbrev WX9_count (cI cJ cZ cB : ClassId) (a_o : Nat) (a_o_text : Nat) (a_o_many : Nat) (a_o_views : Nat) (a_o_aisles : Nat) (a_o_readMany : Nat) (a_o_readViews : Nat) (a_o_readAisles : Nat) (a_o_readPage : Nat) (a_o_page : Nat) (a_o_trial : Nat) (a_o_book : Nat) (a_o_kept : Nat) (a_o_isKept : Nat) (a_o_seenSeat : Nat) (a_o_seenWas : Nat) (v_o_thrown : Int32) (v_o_textSize : Int32) (v_o_place : Int32) (v_o_rows : Int32) (v_o_readRows : Int32) (v_o_doings : Int32) (v_o_seen : Int32) (v_o_seed : Int64) (v_o_found : Int32) (v_o_foundViews : Int32) (v_o_foundMany : Int32) (d_o_many : (Nat → Int32)) (d_o_aisles : (Nat → Int32)) (d_o_page : (Nat → Int32)) : va_W := [(a_o, .inr (9, [.int v_o_thrown, .ref a_o_text, .int v_o_textSize, .int v_o_place, .int v_o_rows, .ref a_o_many, .ref a_o_views, .ref a_o_aisles, .int v_o_readRows, .ref a_o_readMany, .ref a_o_readViews, .ref a_o_readAisles, .ref a_o_readPage, .ref a_o_page, .ref a_o_trial, .ref a_o_book, .int v_o_doings, .ref a_o_kept, .ref a_o_isKept, .int v_o_seen, .ref a_o_seenSeat, .ref a_o_seenWas, .long v_o_seed, .int v_o_found, .int v_o_foundViews, .int v_o_foundMany])), (a_o_many, .inl (cI, (4, .inl d_o_many))), (a_o_aisles, .inl (cZ, (36, .inl d_o_aisles))), (a_o_page, .inl (cI, (229, .inl d_o_page)))]
set_option maxRecDepth 20000 in
theorem iX9_count_X9 : ∀ w ∈ wsX90, w ∈ wsX9_count := by decide +kernel
def fX9_count (v_o_thrown : Int32) (v_o_textSize : Int32) (v_o_rows : Int32) (v_o_doings : Int32) (v_o_seen : Int32) (d_o_many : (Nat → Int32)) (d_o_aisles : (Nat → Int32)) (d_o_page : (Nat → Int32)) (x1 : Int32) : Option (Int32 × Int32) := (if x1 = (0 : Int32) then some (v_o_textSize, (0 : Int32)) else (if x1 = (1 : Int32) then some (v_o_rows, (0 : Int32)) else (if x1 = (2 : Int32) then some ((d_o_page ((6 : Int32)).toNatClampNeg), (0 : Int32)) else (if x1 = (3 : Int32) then some ((d_o_page ((7 : Int32)).toNatClampNeg), (0 : Int32)) else (if x1 = (4 : Int32) then ((fX9_seated d_o_page).bind fun q6 => some (q6, (0 : Int32))) else (if x1 = (5 : Int32) then ((fX9_allFree v_o_rows d_o_many d_o_page).bind fun q9 => some (q9, (0 : Int32))) else (if x1 = (6 : Int32) then ((fX9_allLone v_o_rows d_o_many d_o_aisles d_o_page).bind fun q12 => some (q12, (0 : Int32))) else (if x1 = (7 : Int32) then some ((d_o_page ((4 : Int32)).toNatClampNeg), (0 : Int32)) else (if x1 = (8 : Int32) then some ((d_o_page ((5 : Int32)).toNatClampNeg), (0 : Int32)) else (if x1 = (9 : Int32) then some (v_o_doings, (0 : Int32)) else (if x1 = (10 : Int32) then some (v_o_seen, (0 : Int32)) else some ((-2 : Int32), (0 : Int32)))))))))))))
set_option maxRecDepth 100000 in
set_option maxHeartbeats 4000000 in
theorem kX9_count (l : Launch) (D : va_G) (cI cJ cZ cB : ClassId) (a_o : Nat) (a_o_text : Nat) (a_o_many : Nat) (a_o_views : Nat) (a_o_aisles : Nat) (a_o_readMany : Nat) (a_o_readViews : Nat) (a_o_readAisles : Nat) (a_o_readPage : Nat) (a_o_page : Nat) (a_o_trial : Nat) (a_o_book : Nat) (a_o_kept : Nat) (a_o_isKept : Nat) (a_o_seenSeat : Nat) (a_o_seenWas : Nat) (v_o_thrown : Int32) (v_o_textSize : Int32) (v_o_place : Int32) (v_o_rows : Int32) (v_o_readRows : Int32) (v_o_doings : Int32) (v_o_seen : Int32) (v_o_seed : Int64) (v_o_found : Int32) (v_o_foundViews : Int32) (v_o_foundMany : Int32) (d_o_many : (Nat → Int32)) (d_o_aisles : (Nat → Int32)) (d_o_page : (Nat → Int32)) (x1 : Int32) (res : Int32 × Int32) (hf : fX9_count v_o_thrown v_o_textSize v_o_rows v_o_doings v_o_seen d_o_many d_o_aisles d_o_page x1 = some res) : Rw l yX9_count wsX9_count ({ frames := 4, cells := 0, slots := 0, locals := 94 } : Room) D (tyL cI cJ cZ cB) [.ref a_o, .int x1] (WX9_count cI cJ cZ cB a_o a_o_text a_o_many a_o_views a_o_aisles a_o_readMany a_o_readViews a_o_readAisles a_o_readPage a_o_page a_o_trial a_o_book a_o_kept a_o_isKept a_o_seenSeat a_o_seenWas v_o_thrown v_o_textSize v_o_place v_o_rows v_o_readRows v_o_doings v_o_seen v_o_seed v_o_found v_o_foundViews v_o_foundMany d_o_many d_o_aisles d_o_page) (some (.int res.1)) (WX9_count cI cJ cZ cB a_o a_o_text a_o_many a_o_views a_o_aisles a_o_readMany a_o_readViews a_o_readAisles a_o_readPage a_o_page a_o_trial a_o_book a_o_kept a_o_isKept a_o_seenSeat a_o_seenWas res.2 v_o_textSize v_o_place v_o_rows v_o_readRows v_o_doings v_o_seen v_o_seed v_o_found v_o_foundViews v_o_foundMany d_o_many d_o_aisles d_o_page) := by
  refine Rw.of (cc := cX9_count) (maxL := 2) (ret := (some .int)) (own := RX9) (by decide) rfl rfl (Nat.le_of_ble_eq_true rfl) ?_
  intro p e s m below meth c A ls C hK hA hP hD hS hl
  obtain ⟨hx, hb, hr, hml, hts, hown, hlk⟩ := id C
  have hl : lv_has ls 2 [(0, .ref a_o), (1, .int x1)] := hl
  unfold fX9_count at hf
  refine lv_aload_n hx hb dX9_count_0 rfl (lv_at hl 0 rfl) ?_
  refine lv_iconst (v := (0 : Int32)) hx hb dX9_count_1 (by decide) ?_
  refine va_put (D := D) (ci := 9) (v := .int (0 : Int32)) (ty := .int) (C := RX9) (T := TX9) (N := 26) hx hb hts iX9_count_X9 tyX9 tyX9_ok nmX9 hown hK.1 hP hD hS 0 rfl rfl 0 (by decide) (hts (.fieldLink RX9 60 "LoneSeatsModel" "thrown" "I") (by decide +kernel)) (fun _ h9 => h9) rfl (by decide +kernel) rfl rfl (Nat.le_of_ble_eq_true rfl) dX9_count_2 (fun H locs hP hD hS => ?_)
  have hP : va_P D vwCl (WX9_count cI cJ cZ cB a_o a_o_text a_o_many a_o_views a_o_aisles a_o_readMany a_o_readViews a_o_readAisles a_o_readPage a_o_page a_o_trial a_o_book a_o_kept a_o_isKept a_o_seenSeat a_o_seenWas (0 : Int32) v_o_textSize v_o_place v_o_rows v_o_readRows v_o_doings v_o_seen v_o_seed v_o_found v_o_foundViews v_o_foundMany d_o_many d_o_aisles d_o_page) H := hP
  have hD : va_D A (WX9_count cI cJ cZ cB a_o a_o_text a_o_many a_o_views a_o_aisles a_o_readMany a_o_readViews a_o_readAisles a_o_readPage a_o_page a_o_trial a_o_book a_o_kept a_o_isKept a_o_seenSeat a_o_seenWas (0 : Int32) v_o_textSize v_o_place v_o_rows v_o_readRows v_o_doings v_o_seen v_o_seed v_o_found v_o_foundViews v_o_foundMany d_o_many d_o_aisles d_o_page) := hD
  refine lv_iload_n hx hb dX9_count_5 rfl (lv_at hl 1 rfl) ?_
  by_cases hs1 : x1 = (0 : Int32)
  · have hf := pf_t hs1 hf
    refine lv_tableIn (tgt := 64) (off := 58) hx hb dX9_count_6 (by rw [hs1]; decide) (by rw [hs1]; decide) (by rw [hs1]; rfl) (by decide) ?_
    refine lv_aload_n hx hb dX9_count_64 rfl (lv_at hl 0 rfl) ?_
    refine va_get (D := D) (ci := 9) (v := .int v_o_textSize) (C := RX9) (T := TX9) (N := 26) hx hb hts iX9_count_X9 hown hK.1 hP 0 rfl rfl 2 (by decide) (hts (.fieldLink RX9 76 "LoneSeatsModel" "textSize" "I") (by decide +kernel)) (fun _ h9 => h9) rfl dX9_count_65 ?_
    cases hf
    exact W.iret hx hb hr (fun t ht hW => ⟨⟨rfl, by rw [ht]; exact hP, hD⟩, hS.F ht⟩) hS.2.2 dX9_count_68
  · have hf := pf_f hs1 hf
    by_cases hs2 : x1 = (1 : Int32)
    · have hf := pf_t hs2 hf
      refine lv_tableIn (tgt := 69) (off := 63) hx hb dX9_count_6 (by rw [hs2]; decide) (by rw [hs2]; decide) (by rw [hs2]; rfl) (by decide) ?_
      refine lv_aload_n hx hb dX9_count_69 rfl (lv_at hl 0 rfl) ?_
      refine va_get (D := D) (ci := 9) (v := .int v_o_rows) (C := RX9) (T := TX9) (N := 26) hx hb hts iX9_count_X9 hown hK.1 hP 0 rfl rfl 4 (by decide) (hts (.fieldLink RX9 63 "LoneSeatsModel" "rows" "I") (by decide +kernel)) (fun _ h9 => h9) rfl dX9_count_70 ?_
      cases hf
      exact W.iret hx hb hr (fun t ht hW => ⟨⟨rfl, by rw [ht]; exact hP, hD⟩, hS.F ht⟩) hS.2.2 dX9_count_73
    · have hf := pf_f hs2 hf
      by_cases hs3 : x1 = (2 : Int32)
      · have hf := pf_t hs3 hf
        refine lv_tableIn (tgt := 74) (off := 68) hx hb dX9_count_6 (by rw [hs3]; decide) (by rw [hs3]; decide) (by rw [hs3]; rfl) (by decide) ?_
        refine lv_aload_n hx hb dX9_count_74 rfl (lv_at hl 0 rfl) ?_
        refine va_get (D := D) (ci := 9) (v := .ref a_o_page) (C := RX9) (T := TX9) (N := 26) hx hb hts iX9_count_X9 hown hK.1 hP 0 rfl rfl 13 (by decide) (hts (.fieldLink RX9 35 "LoneSeatsModel" "page" "[I") (by decide +kernel)) (fun _ h9 => h9) rfl dX9_count_75 ?_
        refine lv_bipush (v := (6 : Int32)) hx hb dX9_count_78 (by decide) ?_
        refine va_iald hx hb hK.1 hP 3 0 rfl rfl (show ¬ ((6 : Int32) < 0 ∨ 229 ≤ ((6 : Int32)).toNatClampNeg) by decide) dX9_count_80 ?_
        cases hf
        exact W.iret hx hb hr (fun t ht hW => ⟨⟨rfl, by rw [ht]; exact hP, hD⟩, hS.F ht⟩) hS.2.2 dX9_count_81
      · have hf := pf_f hs3 hf
        by_cases hs4 : x1 = (3 : Int32)
        · have hf := pf_t hs4 hf
          refine lv_tableIn (tgt := 82) (off := 76) hx hb dX9_count_6 (by rw [hs4]; decide) (by rw [hs4]; decide) (by rw [hs4]; rfl) (by decide) ?_
          refine lv_aload_n hx hb dX9_count_82 rfl (lv_at hl 0 rfl) ?_
          refine va_get (D := D) (ci := 9) (v := .ref a_o_page) (C := RX9) (T := TX9) (N := 26) hx hb hts iX9_count_X9 hown hK.1 hP 0 rfl rfl 13 (by decide) (hts (.fieldLink RX9 35 "LoneSeatsModel" "page" "[I") (by decide +kernel)) (fun _ h9 => h9) rfl dX9_count_83 ?_
          refine lv_bipush (v := (7 : Int32)) hx hb dX9_count_86 (by decide) ?_
          refine va_iald hx hb hK.1 hP 3 0 rfl rfl (show ¬ ((7 : Int32) < 0 ∨ 229 ≤ ((7 : Int32)).toNatClampNeg) by decide) dX9_count_88 ?_
          cases hf
          exact W.iret hx hb hr (fun t ht hW => ⟨⟨rfl, by rw [ht]; exact hP, hD⟩, hS.F ht⟩) hS.2.2 dX9_count_89
        · have hf := pf_f hs4 hf
          by_cases hs5 : x1 = (4 : Int32)
          · have hf := pf_t hs5 hf
            refine lv_tableIn (tgt := 90) (off := 84) hx hb dX9_count_6 (by rw [hs5]; decide) (by rw [hs5]; decide) (by rw [hs5]; rfl) (by decide) ?_
            refine lv_aload_n hx hb dX9_count_90 rfl (lv_at hl 0 rfl) ?_
            refine va_get (D := D) (ci := 9) (v := .ref a_o_page) (C := RX9) (T := TX9) (N := 26) hx hb hts iX9_count_X9 hown hK.1 hP 0 rfl rfl 13 (by decide) (hts (.fieldLink RX9 35 "LoneSeatsModel" "page" "[I") (by decide +kernel)) (fun _ h9 => h9) rfl dX9_count_91 ?_
            obtain ⟨q6, hq7, hf⟩ := pf_b hf
            have hPc := hP.sub (ws' := (WX9_seated cI cJ cZ cB a_o_page d_o_page)) [3] rfl
            refine cl_roi (va_runS (As := [.ref a_o_page]) (rest := []) ⟨hx, hb, hml, hown, hts⟩ (kX9_seated l D cI cJ cZ cB a_o_page d_o_page q6 hq7) (va_cwS 1 hts gX9_count_X9_seated rfl rfl rfl (by decide +kernel) ⟨Nat.le_of_ble_eq_true rfl, Nat.le_of_ble_eq_true rfl⟩) ⟨PRo.blind, PRo.at hK hPc⟩ rfl rfl hl.1 rfl (lv_room (Nat.le_of_ble_eq_true rfl)) dX9_count_94 ⟨Nat.zero_le _, Nat.zero_le _⟩) ?_
            cases hf
            exact W.iret hx hb hr (fun t ht hW => ⟨⟨rfl, by rw [ht]; exact hP, hD⟩, hS.F ht⟩) hS.2.2 dX9_count_97
          · have hf := pf_f hs5 hf
            by_cases hs8 : x1 = (5 : Int32)
            · have hf := pf_t hs8 hf
              refine lv_tableIn (tgt := 98) (off := 92) hx hb dX9_count_6 (by rw [hs8]; decide) (by rw [hs8]; decide) (by rw [hs8]; rfl) (by decide) ?_
              refine lv_aload_n hx hb dX9_count_98 rfl (lv_at hl 0 rfl) ?_
              refine lv_aload_n hx hb dX9_count_99 rfl (lv_at hl 0 rfl) ?_
              refine va_get (D := D) (ci := 9) (v := .ref a_o_page) (C := RX9) (T := TX9) (N := 26) hx hb hts iX9_count_X9 hown hK.1 hP 0 rfl rfl 13 (by decide) (hts (.fieldLink RX9 35 "LoneSeatsModel" "page" "[I") (by decide +kernel)) (fun _ h9 => h9) rfl dX9_count_100 ?_
              obtain ⟨q9, hq10, hf⟩ := pf_b hf
              have hPc := hP.sub (ws' := (WX9_allFree cI cJ cZ cB a_o a_o_text a_o_many a_o_views a_o_aisles a_o_readMany a_o_readViews a_o_readAisles a_o_readPage a_o_page a_o_trial a_o_book a_o_kept a_o_isKept a_o_seenSeat a_o_seenWas a_o_page (0 : Int32) v_o_textSize v_o_place v_o_rows v_o_readRows v_o_doings v_o_seen v_o_seed v_o_found v_o_foundViews v_o_foundMany d_o_many d_o_page)) [0, 1, 3] rfl
              refine cl_roi (va_runV (As := [.ref a_o_page]) (rest := []) ⟨hx, hb, hml, hown, hts⟩ (kX9_allFree l D cI cJ cZ cB a_o a_o_text a_o_many a_o_views a_o_aisles a_o_readMany a_o_readViews a_o_readAisles a_o_readPage a_o_page a_o_trial a_o_book a_o_kept a_o_isKept a_o_seenSeat a_o_seenWas a_o_page (0 : Int32) v_o_textSize v_o_place v_o_rows v_o_readRows v_o_doings v_o_seen v_o_seed v_o_found v_o_foundViews v_o_foundMany d_o_many d_o_page q9 hq10) (cwV 1 hts gX9_count_X9_allFree rfl rfl rfl (by decide +kernel) ⟨Nat.le_of_ble_eq_true rfl, Nat.le_of_ble_eq_true rfl⟩) ⟨PRo.blind, va_recv hK.1 hPc (ci := 9) (q0 := 0) rfl rfl, PRo.at hK hPc⟩ rfl rfl hl.1 rfl (lv_room (Nat.le_of_ble_eq_true rfl)) dX9_count_103 ⟨Nat.zero_le _, Nat.zero_le _⟩) ?_
              cases hf
              exact W.iret hx hb hr (fun t ht hW => ⟨⟨rfl, by rw [ht]; exact hP, hD⟩, hS.F ht⟩) hS.2.2 dX9_count_106
            · have hf := pf_f hs8 hf
              by_cases hs11 : x1 = (6 : Int32)
              · have hf := pf_t hs11 hf
                refine lv_tableIn (tgt := 107) (off := 101) hx hb dX9_count_6 (by rw [hs11]; decide) (by rw [hs11]; decide) (by rw [hs11]; rfl) (by decide) ?_
                refine lv_aload_n hx hb dX9_count_107 rfl (lv_at hl 0 rfl) ?_
                refine lv_aload_n hx hb dX9_count_108 rfl (lv_at hl 0 rfl) ?_
                refine va_get (D := D) (ci := 9) (v := .ref a_o_page) (C := RX9) (T := TX9) (N := 26) hx hb hts iX9_count_X9 hown hK.1 hP 0 rfl rfl 13 (by decide) (hts (.fieldLink RX9 35 "LoneSeatsModel" "page" "[I") (by decide +kernel)) (fun _ h9 => h9) rfl dX9_count_109 ?_
                obtain ⟨q12, hq13, hf⟩ := pf_b hf
                have hPc := hP.sub (ws' := (WX9_allLone cI cJ cZ cB a_o a_o_text a_o_many a_o_views a_o_aisles a_o_readMany a_o_readViews a_o_readAisles a_o_readPage a_o_page a_o_trial a_o_book a_o_kept a_o_isKept a_o_seenSeat a_o_seenWas a_o_page (0 : Int32) v_o_textSize v_o_place v_o_rows v_o_readRows v_o_doings v_o_seen v_o_seed v_o_found v_o_foundViews v_o_foundMany d_o_many d_o_aisles d_o_page)) [0, 1, 2, 3] rfl
                refine cl_roi (va_runV (As := [.ref a_o_page]) (rest := []) ⟨hx, hb, hml, hown, hts⟩ (kX9_allLone l D cI cJ cZ cB a_o a_o_text a_o_many a_o_views a_o_aisles a_o_readMany a_o_readViews a_o_readAisles a_o_readPage a_o_page a_o_trial a_o_book a_o_kept a_o_isKept a_o_seenSeat a_o_seenWas a_o_page (0 : Int32) v_o_textSize v_o_place v_o_rows v_o_readRows v_o_doings v_o_seen v_o_seed v_o_found v_o_foundViews v_o_foundMany d_o_many d_o_aisles d_o_page q12 hq13) (cwV 1 hts gX9_count_X9_allLone rfl rfl rfl (by decide +kernel) ⟨Nat.le_of_ble_eq_true rfl, Nat.le_of_ble_eq_true rfl⟩) ⟨PRo.blind, va_recv hK.1 hPc (ci := 9) (q0 := 0) rfl rfl, PRo.at hK hPc⟩ rfl rfl hl.1 rfl (lv_room (Nat.le_of_ble_eq_true rfl)) dX9_count_112 ⟨Nat.zero_le _, Nat.zero_le _⟩) ?_
                cases hf
                exact W.iret hx hb hr (fun t ht hW => ⟨⟨rfl, by rw [ht]; exact hP, hD⟩, hS.F ht⟩) hS.2.2 dX9_count_115
              · have hf := pf_f hs11 hf
                by_cases hs14 : x1 = (7 : Int32)
                · have hf := pf_t hs14 hf
                  refine lv_tableIn (tgt := 116) (off := 110) hx hb dX9_count_6 (by rw [hs14]; decide) (by rw [hs14]; decide) (by rw [hs14]; rfl) (by decide) ?_
                  refine lv_aload_n hx hb dX9_count_116 rfl (lv_at hl 0 rfl) ?_
                  refine va_get (D := D) (ci := 9) (v := .ref a_o_page) (C := RX9) (T := TX9) (N := 26) hx hb hts iX9_count_X9 hown hK.1 hP 0 rfl rfl 13 (by decide) (hts (.fieldLink RX9 35 "LoneSeatsModel" "page" "[I") (by decide +kernel)) (fun _ h9 => h9) rfl dX9_count_117 ?_
                  refine lv_iconst (v := (4 : Int32)) hx hb dX9_count_120 (by decide) ?_
                  refine va_iald hx hb hK.1 hP 3 0 rfl rfl (show ¬ ((4 : Int32) < 0 ∨ 229 ≤ ((4 : Int32)).toNatClampNeg) by decide) dX9_count_121 ?_
                  cases hf
                  exact W.iret hx hb hr (fun t ht hW => ⟨⟨rfl, by rw [ht]; exact hP, hD⟩, hS.F ht⟩) hS.2.2 dX9_count_122
                · have hf := pf_f hs14 hf
                  by_cases hs15 : x1 = (8 : Int32)
                  · have hf := pf_t hs15 hf
                    refine lv_tableIn (tgt := 123) (off := 117) hx hb dX9_count_6 (by rw [hs15]; decide) (by rw [hs15]; decide) (by rw [hs15]; rfl) (by decide) ?_
                    refine lv_aload_n hx hb dX9_count_123 rfl (lv_at hl 0 rfl) ?_
                    refine va_get (D := D) (ci := 9) (v := .ref a_o_page) (C := RX9) (T := TX9) (N := 26) hx hb hts iX9_count_X9 hown hK.1 hP 0 rfl rfl 13 (by decide) (hts (.fieldLink RX9 35 "LoneSeatsModel" "page" "[I") (by decide +kernel)) (fun _ h9 => h9) rfl dX9_count_124 ?_
                    refine lv_iconst (v := (5 : Int32)) hx hb dX9_count_127 (by decide) ?_
                    refine va_iald hx hb hK.1 hP 3 0 rfl rfl (show ¬ ((5 : Int32) < 0 ∨ 229 ≤ ((5 : Int32)).toNatClampNeg) by decide) dX9_count_128 ?_
                    cases hf
                    exact W.iret hx hb hr (fun t ht hW => ⟨⟨rfl, by rw [ht]; exact hP, hD⟩, hS.F ht⟩) hS.2.2 dX9_count_129
                  · have hf := pf_f hs15 hf
                    by_cases hs16 : x1 = (9 : Int32)
                    · have hf := pf_t hs16 hf
                      refine lv_tableIn (tgt := 130) (off := 124) hx hb dX9_count_6 (by rw [hs16]; decide) (by rw [hs16]; decide) (by rw [hs16]; rfl) (by decide) ?_
                      refine lv_aload_n hx hb dX9_count_130 rfl (lv_at hl 0 rfl) ?_
                      refine va_get (D := D) (ci := 9) (v := .int v_o_doings) (C := RX9) (T := TX9) (N := 26) hx hb hts iX9_count_X9 hown hK.1 hP 0 rfl rfl 16 (by decide) (hts (.fieldLink RX9 105 "LoneSeatsModel" "doings" "I") (by decide +kernel)) (fun _ h9 => h9) rfl dX9_count_131 ?_
                      cases hf
                      exact W.iret hx hb hr (fun t ht hW => ⟨⟨rfl, by rw [ht]; exact hP, hD⟩, hS.F ht⟩) hS.2.2 dX9_count_134
                    · have hf := pf_f hs16 hf
                      by_cases hs17 : x1 = (10 : Int32)
                      · have hf := pf_t hs17 hf
                        refine lv_tableIn (tgt := 135) (off := 129) hx hb dX9_count_6 (by rw [hs17]; decide) (by rw [hs17]; decide) (by rw [hs17]; rfl) (by decide) ?_
                        refine lv_aload_n hx hb dX9_count_135 rfl (lv_at hl 0 rfl) ?_
                        refine va_get (D := D) (ci := 9) (v := .int v_o_seen) (C := RX9) (T := TX9) (N := 26) hx hb hts iX9_count_X9 hown hK.1 hP 0 rfl rfl 19 (by decide) (hts (.fieldLink RX9 221 "LoneSeatsModel" "seen" "I") (by decide +kernel)) (fun _ h9 => h9) rfl dX9_count_136 ?_
                        cases hf
                        exact W.iret hx hb hr (fun t ht hW => ⟨⟨rfl, by rw [ht]; exact hP, hD⟩, hS.F ht⟩) hS.2.2 dX9_count_139
                      · have hf := pf_f hs17 hf
                        refine lv_tableOut (tgt := 140) hx hb dX9_count_6 (by have := lv_neT hs1 (show (0 : Int32).toInt = 0 by decide); have := lv_neT hs2 (show (1 : Int32).toInt = 1 by decide); have := lv_neT hs3 (show (2 : Int32).toInt = 2 by decide); have := lv_neT hs4 (show (3 : Int32).toInt = 3 by decide); have := lv_neT hs5 (show (4 : Int32).toInt = 4 by decide); have := lv_neT hs8 (show (5 : Int32).toInt = 5 by decide); have := lv_neT hs11 (show (6 : Int32).toInt = 6 by decide); have := lv_neT hs14 (show (7 : Int32).toInt = 7 by decide); have := lv_neT hs15 (show (8 : Int32).toInt = 8 by decide); have := lv_neT hs16 (show (9 : Int32).toInt = 9 by decide); have := lv_neT hs17 (show (10 : Int32).toInt = 10 by decide); omega) (by decide) ?_
                        refine lv_bipush (v := (-2 : Int32)) hx hb dX9_count_140 (by decide) ?_
                        cases hf
                        exact W.iret hx hb hr (fun t ht hW => ⟨⟨rfl, by rw [ht]; exact hP, hD⟩, hS.F ht⟩) hS.2.2 dX9_count_142
