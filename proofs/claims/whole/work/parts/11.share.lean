/-! factorial() reads a static array; share() calls it -/
def facN : Nat → Int32 := fun j => match j with
  | 0 => 1
  | 1 => 1
  | 2 => 2
  | 3 => 6
  | _ => 24
def facV : Nat → Value := fun j => .int (facN j)
def SFa (tF : Nat) (A : Nat → Prop) (U : State) : Prop := va_Z "LoneSeats" "FACTORIALS" "[I" (.ref tF) A U U.heap ∧ va_T .int tF 5 facV A U U.heap
theorem SFa.call {tF : Nat} {A : Nat → Prop} {U : State} {g : JFrame} {mk : MethodId} {a : Array Value} (h : SFa tF A U) : SFa tF A (U.calling g mk a) := ⟨va_Z.moved (u := U) (U := U.calling g mk a) (Vm.Alike.refl U.vm) h.1, va_T.moved (u := U) (U := U.calling g mk a) (Vm.Alike.refl U.vm) h.2⟩
def PRf (tF : Nat) (av : List Value) : Array Value → State → Prop := va_Pc av (fun U => SFa tF (fun _ => False) U)
theorem PRf.blind {tF : Nat} {av : List Value} : FrameBlind (PRf tF av) := fun _ _ _ _ q => ⟨q.1, q.2.call⟩
theorem PRf.at {tF : Nat} {av : List Value} {s : State} {H : Heap} {A : Nat → Prop} {locs : List Loc} (hZ : va_Z "LoneSeats" "FACTORIALS" "[I" (.ref tF) A s s.heap) (hT : va_T .int tF 5 facV A s s.heap) (hS : va_S A s.heap H locs) : ∀ U : State, U.heap = H → s.WarmedH U.vm → PRf tF av av.toArray U := fun U hU hW => ⟨rfl, by
  show SFa tF (fun _ => False) U
  unfold SFa
  rw [hU]
  exact ⟨((hZ.kept (fun a h1 h2 => hS.2.1 a h1 h2)).narrow (fun _ h => h.elim)).moved hW.alike, ((hT.kept (fun a h1 h2 => hS.2.1 a h1 h2)).narrow (fun _ h => h.elim)).moved hW.alike⟩⟩
def PRs (tF : Nat) (D : va_G) (tys : List (ClassId × FieldType)) (av : List Value) (ws : va_W) (sz : Nat) : Array Value → State → Prop := va_Pc av (fun U => (U.heap.size = sz ∧ va_P D vwCl ws U.heap ∧ Kw D tys U ∧ va_D (fun _ => True) ws) ∧ SFa tF (va_A ws sz) U)
theorem PRs.blind {tF : Nat} {D : va_G} {tys : List (ClassId × FieldType)} {av : List Value} {ws : va_W} {sz : Nat} : FrameBlind (PRs tF D tys av ws sz) := fun _ _ _ _ q => ⟨q.1, ⟨q.2.1.1, q.2.1.2.1, q.2.1.2.2.1.call, q.2.1.2.2.2⟩, q.2.2.call⟩
theorem PRs.at {tF : Nat} {D : va_G} {tys : List (ClassId × FieldType)} {av : List Value} {ws : va_W} {s : State} {H : Heap} {A : Nat → Prop} {locs : List Loc} (hK : Kw D tys s) (hP : va_P D vwCl ws H) (hD : va_D A ws) (hF : ∀ q, va_A ws H.size q → A q) (hZ : va_Z "LoneSeats" "FACTORIALS" "[I" (.ref tF) A s s.heap) (hT : va_T .int tF 5 facV A s s.heap) (hS : va_S A s.heap H locs) : ∀ U : State, U.heap = H → s.WarmedH U.vm → PRs tF D tys av ws H.size av.toArray U := fun U hU hW => ⟨rfl, ⟨by rw [hU], by rw [hU]; exact hP, hK.warm hW, hD.weaken (fun _ _ _ _ => trivial)⟩, by
  unfold SFa
  rw [hU]
  exact ⟨((hZ.kept (fun a h1 h2 => hS.2.1 a h1 h2)).narrow hF).moved hW.alike, ((hT.kept (fun a h1 h2 => hS.2.1 a h1 h2)).narrow hF).moved hW.alike⟩⟩
def Rs (tF : Nat) (l : Launch) (y : MethodName) (w : List Cond) (rm : Room) (D : va_G) (tys : List (ClassId × FieldType)) (av : List Value) (ws : va_W) (o : Option Value) (ws' : va_W) : Prop := ∀ sz : Nat, Met l y w rm (PRs tF D tys av ws sz) (QRw D (va_A ws sz) ws' o) 0 0 (va_A ws sz)
theorem Rs.of {tF : Nat} {l : Launch} {y : MethodName} {w w' : List Cond} {rm : Room} {D : va_G} {tys : List (ClassId × FieldType)} {av : List Value} {ws ws' : va_W} {o : Option Value} {cc : ByteArray} {maxL : Nat} {ret : Option FieldType} {own : String}
    (hy : plainName y.cls = true) (hw : w = Cond.code y cc maxL ret :: w') (ho : y.cls = own) (hle : (lg_sl av).length ≤ maxL)
    (body : ∀ (p : Program) (e : Env) (s : State) (m : MethodId) (below : List Frame) (meth : Method) (c : Code) (A : Nat → Prop) (ls : Array Slot), Cx p s m av.toArray meth c cc maxL ret w own → Kw D tys s → (∀ q : Nat, s.heap.size ≤ q → A q) → va_Z "LoneSeats" "FACTORIALS" "[I" (.ref tF) A s s.heap → va_T .int tF 5 facV A s s.heap → va_P D vwCl ws s.heap → va_D A ws → va_S A s.heap s.heap [] → lv_has ls maxL (lv_args 0 av) → W p l e rm s m av.toArray below meth c s.heap [] 0 0 (MQ below (QRw D A ws' o) av.toArray s 0 0 A) (F0 m 0 ls [])) : Rs tF l y w rm D tys av ws o ws' := by
  intro sz
  refine Met.ofW (cc := cc) (maxL := maxL) (ret := ret) hy hw ?_
  intro p e s m args below meth c s₁ B hml hv
  obtain ⟨rfl, ⟨hsz, hP, hK, hD⟩, hZ, hT⟩ := hv
  subst hsz
  rw [lg_entry_eq]
  exact body p e s m below meth c _ _ ⟨B.exec, B.bytes, B.returns, hml, atoms_spec (ws := w) B.pre, ho ▸ findClass_of_methodNamed B.named, B.notSynchronized⟩ hK (fun q h => Or.inr h) hZ hT hP hD.self va_S.rf (lv_entry av hle)
def fX8_factorial (x0 : Int32) : Option (Int32) := (if x0 < 0 then some (0 : Int32) else (if (5 : Int32) ≤ x0 then some (0 : Int32) else (if x0 < 0 ∨ 5 ≤ (x0).toNatClampNeg then none else some (facN (x0).toNatClampNeg))))
set_option maxRecDepth 100000 in
set_option maxHeartbeats 4000000 in
theorem kX8_factorial (l : Launch) (tF : Nat) (x0 : Int32) (res : Int32) (hf : fX8_factorial x0 = some res) : Met l yX8_factorial wsX8_factorial ({ frames := 0, cells := 0, slots := 0, locals := 0 } : Room) (PRf tF [.int x0]) (QRo (some (.int res))) 0 0 (fun _ => False) := by
  refine Met.ofW (cc := cX8_factorial) (maxL := 1) (ret := (some .int)) (by decide) rfl ?_
  intro p e s m args below meth c s₁ B hml hv
  obtain ⟨rfl, hZ, hT⟩ := hv
  have hx := B.exec
  have hb := B.bytes
  have hr := B.returns
  have hlk := B.notSynchronized
  have hts := atoms_spec (ws := wsX8_factorial) B.pre
  have hown : s.vm.findClass RX8 = some m.cls := findClass_of_methodNamed B.named
  have hS : va_S (fun _ => False) s.heap s.heap [] := va_S.rf
  rw [lg_entry_eq]
  have hl := lv_entry ([.int x0]) (n := 1) (Nat.le_of_ble_eq_true rfl)
  generalize (lg_sl ([.int x0]) ++ List.replicate (1 - (lg_sl ([.int x0])).length) Slot.unset).toArray = ls at hl ⊢
  have hl : lv_has ls 1 [(0, .int x0)] := hl
  unfold fX8_factorial at hf
  refine lv_iload_n hx hb dX8_factorial_0 rfl (lv_at hl 0 rfl) ?_
  refine lv_if_lt (tgt := 20) hx hb dX8_factorial_1 (by decide) (fun hc => ?_) (fun hc => ?_)
  · have hf := pf_t hc hf
    refine lv_iconst (v := (0 : Int32)) hx hb dX8_factorial_20 (by decide) ?_
    cases hf
    exact W.iret (v := (0 : Int32)) hx hb hr (fun t ht hW => ⟨rfl, ht⟩) (fun _ h => absurd h List.not_mem_nil) dX8_factorial_21
  · have hf := pf_f hc hf
    refine lv_iload_n hx hb dX8_factorial_4 rfl (lv_at hl 0 rfl) ?_
    refine va_gets hx hb hZ hS hown (hts (.fieldLink RX8 315 "LoneSeats" "FACTORIALS" "[I") (by decide +kernel)) (fun _ h9 => h9) dX8_factorial_5 ?_
    refine va_tlen (v := (5 : Int32)) hx hb hT hS (by decide) dX8_factorial_8 ?_
    refine lv_icmp_ge (tgt := 20) hx hb dX8_factorial_9 (by decide) (fun hc => ?_) (fun hc => ?_)
    · have hf := pf_t hc hf
      refine lv_iconst (v := (0 : Int32)) hx hb dX8_factorial_20 (by decide) ?_
      cases hf
      exact W.iret (v := (0 : Int32)) hx hb hr (fun t ht hW => ⟨rfl, ht⟩) (fun _ h => absurd h List.not_mem_nil) dX8_factorial_21
    · have hf := pf_f hc hf
      refine va_gets hx hb hZ hS hown (hts (.fieldLink RX8 315 "LoneSeats" "FACTORIALS" "[I") (by decide +kernel)) (fun _ h9 => h9) dX8_factorial_12 ?_
      refine lv_iload_n hx hb dX8_factorial_15 rfl (lv_at hl 0 rfl) ?_
      obtain ⟨hg1, hf⟩ := pf_x hf
      refine va_ti (v := .int (facN (x0).toNatClampNeg)) hx hb hT hS hg1 rfl dX8_factorial_16 ?_
      refine lv_goto (tgt := 21) hx hb dX8_factorial_17 (by decide) ?_
      cases hf
      exact W.iret (v := facN (x0).toNatClampNeg) hx hb hr (fun t ht hW => ⟨rfl, ht⟩) (fun _ h => absurd h List.not_mem_nil) dX8_factorial_21
abbrev WX8_share (cI cJ cZ cB : ClassId) (a_o : Nat) (a_o_text : Nat) (a_o_sketch : Nat) (a_o_plan : Nat) (a_o_now : Nat) (a_o_copy : Nat) (a_o_past : Nat) (a_o_slots : Nat) (a_o_sights : Nat) (a_o_finder : Nat) (a_o_odds : Nat) (a_o_plan_prices : Nat) (a_o_plan_seats : Nat) (a_o_plan_joined : Nat) (a_o_plan_views : Nat) (a_o_now_prices : Nat) (a_o_now_free : Nat) (a_o_now_sizes : Nat) (a_o_now_limits : Nat) (a_o_now_places : Nat) (a_o_now_paid : Nat) (a_o_now_queue : Nat) (v_o_seed : Int64) (v_o_plan_rows : Int32) (v_o_plan_awaited : Int32) (d_o_plan_seats : (Nat → Int32)) (d_o_plan_joined : (Nat → Int32)) (d_o_plan_views : (Nat → Int32)) (v_o_now_asked : Int32) (v_o_now_waiting : Int32) (v_o_now_fee : Int32) (v_o_now_takings : Int32) (d_o_now_prices : (Nat → Int32)) (d_o_now_free : (Nat → Int32)) (v_o_finder_places : Int32) (v_o_finder_place : Int32) (v_o_finder_quality : Int32) (v_o_finder_price : Int32) : va_W := [(a_o, .inr (8, [.ref a_o_text, .ref a_o_sketch, .ref a_o_plan, .ref a_o_now, .ref a_o_copy, .ref a_o_past, .ref a_o_slots, .ref a_o_sights, .ref a_o_finder, .ref a_o_odds, .long v_o_seed])), (a_o_plan, .inr (4, [.ref a_o_plan_prices, .ref a_o_plan_seats, .ref a_o_plan_joined, .ref a_o_plan_views, .int v_o_plan_rows, .int v_o_plan_awaited])), (a_o_plan_seats, .inl (cI, (4, .inl d_o_plan_seats))), (a_o_plan_joined, .inl (cI, (4, .inl d_o_plan_joined))), (a_o_plan_views, .inl (cI, (36, .inl d_o_plan_views))), (a_o_now, .inr (0, [.ref a_o_now_prices, .ref a_o_now_free, .ref a_o_now_sizes, .ref a_o_now_limits, .ref a_o_now_places, .ref a_o_now_paid, .ref a_o_now_queue, .int v_o_now_asked, .int v_o_now_waiting, .int v_o_now_fee, .int v_o_now_takings])), (a_o_now_prices, .inl (cI, (4, .inl d_o_now_prices))), (a_o_now_free, .inl (cI, (4, .inl d_o_now_free))), (a_o_finder, .inr (1, [.int v_o_finder_places, .int v_o_finder_place, .int v_o_finder_quality, .int v_o_finder_price]))]
set_option maxRecDepth 20000 in
theorem iX8_share_X8 : ∀ w ∈ wsX80, w ∈ wsX8_share := by decide +kernel
def fX8_share_43 : Nat → Int32 → (Nat → Int32) → (Nat → Int32) → (Nat → Int32) → (Nat → Int32) → (Nat → Int32) → Int32 → Int32 → Int32 → Int32 → Int32 → Int32 → Int32 → Int32 → Int64 → Int32 → Option (Int32 × Int32 × Int32 × Int32 × Int32)
  | 0, _, _, _, _, _, _, _, _, _, _, _, _, _, _, _, _ => none
  | n + 1, v_o_plan_rows, d_o_plan_seats, d_o_plan_joined, d_o_plan_views, d_o_now_prices, d_o_now_free, v_o_finder_places, v_o_finder_place, v_o_finder_quality, v_o_finder_price, x2, x3, x4, x5, x6, x8 => (if ((1 : Int32) <<< (x4 &&& 31)) ≤ x8 then ((fX8_factorial x4).bind fun q1 => ((fX8_lowestTerms x6 ((q1).toInt64) x3).bind fun q3 => some (q3, v_o_finder_places, v_o_finder_place, v_o_finder_quality, v_o_finder_price))) else (if (x8 &&& x5) = 0 then ((fJ6_bitCount_0f7a4 x8).bind fun q5 => ((fX8_factorial q5).bind fun q7 => ((fX8_factorial ((x4 - (1 : Int32)) - q5)).bind fun q9 => ((fX8_qualityWith v_o_plan_rows d_o_plan_seats d_o_plan_joined d_o_plan_views d_o_now_prices d_o_now_free v_o_finder_places v_o_finder_place v_o_finder_quality v_o_finder_price (x8 ||| x5) x2).bind fun q11 => ((fX8_qualityWith v_o_plan_rows d_o_plan_seats d_o_plan_joined d_o_plan_views d_o_now_prices d_o_now_free q11.2.1 q11.2.2.1 q11.2.2.2.1 q11.2.2.2.2 x8 x2).bind fun q13 => fX8_share_43 n v_o_plan_rows d_o_plan_seats d_o_plan_joined d_o_plan_views d_o_now_prices d_o_now_free q13.2.1 q13.2.2.1 q13.2.2.2.1 q13.2.2.2.2 x2 x3 x4 x5 (x6 + (((q7 * q9)).toInt64 * ((q11.1 - q13.1)).toInt64)) (x8 + (1 : Int32))))))) else fX8_share_43 n v_o_plan_rows d_o_plan_seats d_o_plan_joined d_o_plan_views d_o_now_prices d_o_now_free v_o_finder_places v_o_finder_place v_o_finder_quality v_o_finder_price x2 x3 x4 x5 x6 (x8 + (1 : Int32))))
set_option maxRecDepth 100000 in
set_option maxHeartbeats 4000000 in
theorem tX8_share_43 {p : Program} {l : Launch} {e : Env} {s : State} {m : MethodId} {args : Array Value} {below : List Frame} {meth : Method} {c : Code} {D : va_G} {cI cJ cZ cB : ClassId} {a_o : Nat} {a_o_text : Nat} {a_o_sketch : Nat} {a_o_plan : Nat} {a_o_now : Nat} {a_o_copy : Nat} {a_o_past : Nat} {a_o_slots : Nat} {a_o_sights : Nat} {a_o_finder : Nat} {a_o_odds : Nat} {a_o_plan_prices : Nat} {a_o_plan_seats : Nat} {a_o_plan_joined : Nat} {a_o_plan_views : Nat} {a_o_now_prices : Nat} {a_o_now_free : Nat} {a_o_now_sizes : Nat} {a_o_now_limits : Nat} {a_o_now_places : Nat} {a_o_now_paid : Nat} {a_o_now_queue : Nat} {A : Nat → Prop} (C : Cx p s m args meth c cX8_share 11 (some .int) wsX8_share RX8) (hK : Kw D (tyL cI cJ cZ cB) s) (hA : ∀ q : Nat, s.heap.size ≤ q → A q) {tF : Nat} (hZ : va_Z "LoneSeats" "FACTORIALS" "[I" (.ref tF) A s s.heap) (hT : va_T .int tF 5 facV A s s.heap) : ∀ (n : Nat), ∀ (v_o_seed : Int64) (v_o_plan_rows : Int32) (v_o_plan_awaited : Int32) (d_o_plan_seats : (Nat → Int32)) (d_o_plan_joined : (Nat → Int32)) (d_o_plan_views : (Nat → Int32)) (v_o_now_asked : Int32) (v_o_now_waiting : Int32) (v_o_now_fee : Int32) (v_o_now_takings : Int32) (d_o_now_prices : (Nat → Int32)) (d_o_now_free : (Nat → Int32)) (v_o_finder_places : Int32) (v_o_finder_place : Int32) (v_o_finder_quality : Int32) (v_o_finder_price : Int32) (x2 : Int32) (x3 : Int32) (x4 : Int32) (x5 : Int32) (x6 : Int64) (x8 : Int32) (H : Heap) (locs : List Loc) (ls : Array Slot) (res : Int32 × Int32 × Int32 × Int32 × Int32), va_P D vwCl (WX8_share cI cJ cZ cB a_o a_o_text a_o_sketch a_o_plan a_o_now a_o_copy a_o_past a_o_slots a_o_sights a_o_finder a_o_odds a_o_plan_prices a_o_plan_seats a_o_plan_joined a_o_plan_views a_o_now_prices a_o_now_free a_o_now_sizes a_o_now_limits a_o_now_places a_o_now_paid a_o_now_queue v_o_seed v_o_plan_rows v_o_plan_awaited d_o_plan_seats d_o_plan_joined d_o_plan_views v_o_now_asked v_o_now_waiting v_o_now_fee v_o_now_takings d_o_now_prices d_o_now_free v_o_finder_places v_o_finder_place v_o_finder_quality v_o_finder_price) H → va_D A (WX8_share cI cJ cZ cB a_o a_o_text a_o_sketch a_o_plan a_o_now a_o_copy a_o_past a_o_slots a_o_sights a_o_finder a_o_odds a_o_plan_prices a_o_plan_seats a_o_plan_joined a_o_plan_views a_o_now_prices a_o_now_free a_o_now_sizes a_o_now_limits a_o_now_places a_o_now_paid a_o_now_queue v_o_seed v_o_plan_rows v_o_plan_awaited d_o_plan_seats d_o_plan_joined d_o_plan_views v_o_now_asked v_o_now_waiting v_o_now_fee v_o_now_takings d_o_now_prices d_o_now_free v_o_finder_places v_o_finder_place v_o_finder_quality v_o_finder_price) → va_S A s.heap H locs → lv_has ls 11 [(0, .ref a_o), (2, .int x2), (3, .int x3), (4, .int x4), (5, .int x5), (6, .long x6), (8, .int x8)] → fX8_share_43 n v_o_plan_rows d_o_plan_seats d_o_plan_joined d_o_plan_views d_o_now_prices d_o_now_free v_o_finder_places v_o_finder_place v_o_finder_quality v_o_finder_price x2 x3 x4 x5 x6 x8 = some res → W p l e ({ frames := 5, cells := 0, slots := 0, locals := 124 } : Room) s m args below meth c H locs 0 0 (MQ below (QRw D A (WX8_share cI cJ cZ cB a_o a_o_text a_o_sketch a_o_plan a_o_now a_o_copy a_o_past a_o_slots a_o_sights a_o_finder a_o_odds a_o_plan_prices a_o_plan_seats a_o_plan_joined a_o_plan_views a_o_now_prices a_o_now_free a_o_now_sizes a_o_now_limits a_o_now_places a_o_now_paid a_o_now_queue v_o_seed v_o_plan_rows v_o_plan_awaited d_o_plan_seats d_o_plan_joined d_o_plan_views v_o_now_asked v_o_now_waiting v_o_now_fee v_o_now_takings d_o_now_prices d_o_now_free res.2.1 res.2.2.1 res.2.2.2.1 res.2.2.2.2) (some (.int res.1))) args s 0 0 A) (F0 m 43 ls []) := by
  obtain ⟨hx, hb, hr, hml, hts, hown, hlk⟩ := id C
  intro n
  induction n with
  | zero =>
    intro v_o_seed v_o_plan_rows v_o_plan_awaited d_o_plan_seats d_o_plan_joined d_o_plan_views v_o_now_asked v_o_now_waiting v_o_now_fee v_o_now_takings d_o_now_prices d_o_now_free v_o_finder_places v_o_finder_place v_o_finder_quality v_o_finder_price x2 x3 x4 x5 x6 x8 H locs ls res hP hD hS hl hf
    rw [fX8_share_43] at hf
    cases hf
  | succ n ih =>
    intro v_o_seed v_o_plan_rows v_o_plan_awaited d_o_plan_seats d_o_plan_joined d_o_plan_views v_o_now_asked v_o_now_waiting v_o_now_fee v_o_now_takings d_o_now_prices d_o_now_free v_o_finder_places v_o_finder_place v_o_finder_quality v_o_finder_price x2 x3 x4 x5 x6 x8 H locs ls res hP hD hS hl hf
    rw [fX8_share_43] at hf
    refine lv_iload hx hb dX8_share_43 (lv_at hl 6 rfl) ?_
    refine lv_iconst (v := (1 : Int32)) hx hb dX8_share_45 (by decide) ?_
    refine lv_iload hx hb dX8_share_46 (lv_at hl 3 rfl) ?_
    refine lv_ishl hx hb dX8_share_48 ?_
    refine lv_icmp_ge (tgt := 119) hx hb dX8_share_49 (by decide) (fun hc => ?_) (fun hc => ?_)
    · have hf := pf_t hc hf
      refine lv_lload hx hb dX8_share_119 (lv_at hl 5 rfl) ?_
      refine lv_iload hx hb dX8_share_121 (lv_at hl 3 rfl) ?_
      obtain ⟨q1, hq2, hf⟩ := pf_b hf
      have hPc := hP.sub (ws' := ([] : va_W)) [] rfl
      refine cl_roi (va_runS (As := [.int x4]) (rest := [.long x6]) ⟨hx, hb, hml, hown, hts⟩ (kX8_factorial l tF x4 q1 hq2) (va_cwS 1 hts gX8_share_X8_factorial rfl rfl rfl (by decide +kernel) ⟨Nat.le_of_ble_eq_true rfl, Nat.le_of_ble_eq_true rfl⟩) ⟨PRf.blind, PRf.at hZ hT hS⟩ rfl rfl hl.1 rfl (lv_room (Nat.le_of_ble_eq_true rfl)) dX8_share_123 ⟨Nat.zero_le _, Nat.zero_le _⟩) ?_
      refine lv_i2l (v := (q1).toInt64) hx hb dX8_share_126 rfl ?_
      refine lv_iload_n hx hb dX8_share_127 rfl (lv_at hl 2 rfl) ?_
      obtain ⟨q3, hq4, hf⟩ := pf_b hf
      have hPc := hP.sub (ws' := ([] : va_W)) [] rfl
      refine cl_roi (va_runS (As := [.long x6, .long ((q1).toInt64), .int x3]) (rest := []) ⟨hx, hb, hml, hown, hts⟩ (kX8_lowestTerms l D cI cJ cZ cB x6 ((q1).toInt64) x3 q3 hq4) (va_cwS 3 hts gX8_share_X8_lowestTerms rfl rfl rfl (by decide +kernel) ⟨Nat.le_of_ble_eq_true rfl, Nat.le_of_ble_eq_true rfl⟩) ⟨PRo.blind, PRo.at hK hPc⟩ rfl rfl hl.1 rfl (lv_room (Nat.le_of_ble_eq_true rfl)) dX8_share_128 ⟨Nat.zero_le _, Nat.zero_le _⟩) ?_
      cases hf
      exact W.iret hx hb hr (fun t ht hW => ⟨⟨rfl, by rw [ht]; exact hP, hD⟩, hS.F ht⟩) hS.2.2 dX8_share_131
    · have hf := pf_f hc hf
      refine lv_iload hx hb dX8_share_52 (lv_at hl 6 rfl) ?_
      refine lv_iload hx hb dX8_share_54 (lv_at hl 4 rfl) ?_
      refine lv_iand hx hb dX8_share_56 ?_
      refine lv_if_ne (tgt := 113) hx hb dX8_share_57 (by decide) (fun hc => ?_) (fun hc => ?_)
      · have hf := pf_f hc hf
        refine lv_iinc (v := (x8 + (1 : Int32))) (lv' := [(8, .int (x8 + (1 : Int32))), (0, .ref a_o), (2, .int x2), (3, .int x3), (4, .int x4), (5, .int x5), (6, .long x6)]) hx hb dX8_share_113 hl (k := 6) rfl rfl (by decide) rfl (fun ls hl => ?_)
        refine lv_goto (tgt := 43) hx hb dX8_share_116 (by decide) ?_
        exact ih v_o_seed v_o_plan_rows v_o_plan_awaited d_o_plan_seats d_o_plan_joined d_o_plan_views v_o_now_asked v_o_now_waiting v_o_now_fee v_o_now_takings d_o_now_prices d_o_now_free v_o_finder_places v_o_finder_place v_o_finder_quality v_o_finder_price x2 x3 x4 x5 x6 (x8 + (1 : Int32)) _ _ ls _ hP hD hS (lv_sub hl [1, 2, 3, 4, 5, 6, 0] rfl) hf
      · have hf := pf_t hc hf
        refine lv_iload hx hb dX8_share_60 (lv_at hl 6 rfl) ?_
        obtain ⟨q5, hq6, hf⟩ := pf_b hf
        have hPc := hP.sub (ws' := ([] : va_W)) [] rfl
        refine cl_roi (va_runS (As := [.int x8]) (rest := []) ⟨hx, hb, hml, hown, hts⟩ (kJ6_bitCount_0f7a4 l D cI cJ cZ cB x8 q5 hq6) (va_cwS 1 hts gX8_share_J6_bitCount_0f7a4 rfl rfl rfl (by decide +kernel) ⟨Nat.le_of_ble_eq_true rfl, Nat.le_of_ble_eq_true rfl⟩) ⟨PRo.blind, PRo.at hK hPc⟩ rfl rfl hl.1 rfl (lv_room (Nat.le_of_ble_eq_true rfl)) dX8_share_62 ⟨Nat.zero_le _, Nat.zero_le _⟩) ?_
        refine lv_istore (lv' := [(9, .int q5), (0, .ref a_o), (2, .int x2), (3, .int x3), (4, .int x4), (5, .int x5), (6, .long x6), (8, .int x8)]) hx hb dX8_share_65 hl (by decide) rfl (fun ls hl => ?_)
        refine lv_iload hx hb dX8_share_67 (lv_at hl 0 rfl) ?_
        obtain ⟨q7, hq8, hf⟩ := pf_b hf
        have hPc := hP.sub (ws' := ([] : va_W)) [] rfl
        refine cl_roi (va_runS (As := [.int q5]) (rest := []) ⟨hx, hb, hml, hown, hts⟩ (kX8_factorial l tF q5 q7 hq8) (va_cwS 1 hts gX8_share_X8_factorial rfl rfl rfl (by decide +kernel) ⟨Nat.le_of_ble_eq_true rfl, Nat.le_of_ble_eq_true rfl⟩) ⟨PRf.blind, PRf.at hZ hT hS⟩ rfl rfl hl.1 rfl (lv_room (Nat.le_of_ble_eq_true rfl)) dX8_share_69 ⟨Nat.zero_le _, Nat.zero_le _⟩) ?_
        refine lv_iload hx hb dX8_share_72 (lv_at hl 4 rfl) ?_
        refine lv_iconst (v := (1 : Int32)) hx hb dX8_share_74 (by decide) ?_
        refine lv_isub hx hb dX8_share_75 ?_
        refine lv_iload hx hb dX8_share_76 (lv_at hl 0 rfl) ?_
        refine lv_isub hx hb dX8_share_78 ?_
        obtain ⟨q9, hq10, hf⟩ := pf_b hf
        have hPc := hP.sub (ws' := ([] : va_W)) [] rfl
        refine cl_roi (va_runS (As := [.int ((x4 - (1 : Int32)) - q5)]) (rest := [.int q7]) ⟨hx, hb, hml, hown, hts⟩ (kX8_factorial l tF ((x4 - (1 : Int32)) - q5) q9 hq10) (va_cwS 1 hts gX8_share_X8_factorial rfl rfl rfl (by decide +kernel) ⟨Nat.le_of_ble_eq_true rfl, Nat.le_of_ble_eq_true rfl⟩) ⟨PRf.blind, PRf.at hZ hT hS⟩ rfl rfl hl.1 rfl (lv_room (Nat.le_of_ble_eq_true rfl)) dX8_share_79 ⟨Nat.zero_le _, Nat.zero_le _⟩) ?_
        refine lv_imul hx hb dX8_share_82 ?_
        refine lv_istore (lv' := [(10, .int (q7 * q9)), (9, .int q5), (0, .ref a_o), (2, .int x2), (3, .int x3), (4, .int x4), (5, .int x5), (6, .long x6), (8, .int x8)]) hx hb dX8_share_83 hl (by decide) rfl (fun ls hl => ?_)
        refine lv_lload hx hb dX8_share_85 (lv_at hl 7 rfl) ?_
        refine lv_iload hx hb dX8_share_87 (lv_at hl 0 rfl) ?_
        refine lv_i2l (v := ((q7 * q9)).toInt64) hx hb dX8_share_89 rfl ?_
        refine lv_aload_n hx hb dX8_share_90 rfl (lv_at hl 2 rfl) ?_
        refine lv_iload hx hb dX8_share_91 (lv_at hl 8 rfl) ?_
        refine lv_iload hx hb dX8_share_93 (lv_at hl 6 rfl) ?_
        refine lv_ior hx hb dX8_share_95 ?_
        refine lv_iload_n hx hb dX8_share_96 rfl (lv_at hl 3 rfl) ?_
        obtain ⟨q11, hq12, hf⟩ := pf_b hf
        have hPc := hP.sub (ws' := (WX8_qualityWith cI cJ cZ cB a_o a_o_text a_o_sketch a_o_plan a_o_now a_o_copy a_o_past a_o_slots a_o_sights a_o_finder a_o_odds a_o_plan_prices a_o_plan_seats a_o_plan_joined a_o_plan_views a_o_now_prices a_o_now_free a_o_now_sizes a_o_now_limits a_o_now_places a_o_now_paid a_o_now_queue v_o_seed v_o_plan_rows v_o_plan_awaited d_o_plan_seats d_o_plan_joined d_o_plan_views v_o_now_asked v_o_now_waiting v_o_now_fee v_o_now_takings d_o_now_prices d_o_now_free v_o_finder_places v_o_finder_place v_o_finder_quality v_o_finder_price)) [0, 1, 2, 3, 4, 5, 6, 7, 8] rfl
        have hDc := hD.sub (ws' := (WX8_qualityWith cI cJ cZ cB a_o a_o_text a_o_sketch a_o_plan a_o_now a_o_copy a_o_past a_o_slots a_o_sights a_o_finder a_o_odds a_o_plan_prices a_o_plan_seats a_o_plan_joined a_o_plan_views a_o_now_prices a_o_now_free a_o_now_sizes a_o_now_limits a_o_now_places a_o_now_paid a_o_now_queue v_o_seed v_o_plan_rows v_o_plan_awaited d_o_plan_seats d_o_plan_joined d_o_plan_views v_o_now_asked v_o_now_waiting v_o_now_fee v_o_now_takings d_o_now_prices d_o_now_free v_o_finder_places v_o_finder_place v_o_finder_quality v_o_finder_price)) [0, 1, 2, 3, 4, 5, 6, 7, 8] (by decide) rfl
        refine cl_rwi (wr := []) (wsN := (WX8_share cI cJ cZ cB a_o a_o_text a_o_sketch a_o_plan a_o_now a_o_copy a_o_past a_o_slots a_o_sights a_o_finder a_o_odds a_o_plan_prices a_o_plan_seats a_o_plan_joined a_o_plan_views a_o_now_prices a_o_now_free a_o_now_sizes a_o_now_limits a_o_now_places a_o_now_paid a_o_now_queue v_o_seed v_o_plan_rows v_o_plan_awaited d_o_plan_seats d_o_plan_joined d_o_plan_views v_o_now_asked v_o_now_waiting v_o_now_fee v_o_now_takings d_o_now_prices d_o_now_free q11.2.1 q11.2.2.1 q11.2.2.2.1 q11.2.2.2.2)) (va_runV (As := [.int (x8 ||| x5), .int x2]) (rest := [.long (((q7 * q9)).toInt64), .long x6]) ⟨hx, hb, hml, hown, hts⟩ ((kX8_qualityWith l D cI cJ cZ cB a_o a_o_text a_o_sketch a_o_plan a_o_now a_o_copy a_o_past a_o_slots a_o_sights a_o_finder a_o_odds a_o_plan_prices a_o_plan_seats a_o_plan_joined a_o_plan_views a_o_now_prices a_o_now_free a_o_now_sizes a_o_now_limits a_o_now_places a_o_now_paid a_o_now_queue v_o_seed v_o_plan_rows v_o_plan_awaited d_o_plan_seats d_o_plan_joined d_o_plan_views v_o_now_asked v_o_now_waiting v_o_now_fee v_o_now_takings d_o_now_prices d_o_now_free v_o_finder_places v_o_finder_place v_o_finder_quality v_o_finder_price (x8 ||| x5) x2 q11 hq12) _) (cwV 2 hts gX8_share_X8_qualityWith rfl rfl rfl (by decide +kernel) ⟨Nat.le_of_ble_eq_true rfl, Nat.le_of_ble_eq_true rfl⟩) ⟨PRw.blind, va_recv hK.1 hPc (ci := 8) (q0 := 0) rfl rfl, PRw.at hK hPc hDc⟩ rfl rfl hl.1 rfl (lv_room (Nat.le_of_ble_eq_true rfl)) dX8_share_97 ⟨Nat.zero_le _, Nat.zero_le _⟩) hP hD hS hA [0, 1, 2, 3, 4, 5, 6, 7, 8] [] [0, 1, 2, 3, 4, 5, 6, 7, 8] rfl rfl (by decide) (by decide) rfl (by decide) (fun H locs hP hD hS => ?_)
        refine lv_aload_n hx hb dX8_share_100 rfl (lv_at hl 2 rfl) ?_
        refine lv_iload hx hb dX8_share_101 (lv_at hl 8 rfl) ?_
        refine lv_iload_n hx hb dX8_share_103 rfl (lv_at hl 3 rfl) ?_
        obtain ⟨q13, hq14, hf⟩ := pf_b hf
        have hPc := hP.sub (ws' := (WX8_qualityWith cI cJ cZ cB a_o a_o_text a_o_sketch a_o_plan a_o_now a_o_copy a_o_past a_o_slots a_o_sights a_o_finder a_o_odds a_o_plan_prices a_o_plan_seats a_o_plan_joined a_o_plan_views a_o_now_prices a_o_now_free a_o_now_sizes a_o_now_limits a_o_now_places a_o_now_paid a_o_now_queue v_o_seed v_o_plan_rows v_o_plan_awaited d_o_plan_seats d_o_plan_joined d_o_plan_views v_o_now_asked v_o_now_waiting v_o_now_fee v_o_now_takings d_o_now_prices d_o_now_free q11.2.1 q11.2.2.1 q11.2.2.2.1 q11.2.2.2.2)) [0, 1, 2, 3, 4, 5, 6, 7, 8] rfl
        have hDc := hD.sub (ws' := (WX8_qualityWith cI cJ cZ cB a_o a_o_text a_o_sketch a_o_plan a_o_now a_o_copy a_o_past a_o_slots a_o_sights a_o_finder a_o_odds a_o_plan_prices a_o_plan_seats a_o_plan_joined a_o_plan_views a_o_now_prices a_o_now_free a_o_now_sizes a_o_now_limits a_o_now_places a_o_now_paid a_o_now_queue v_o_seed v_o_plan_rows v_o_plan_awaited d_o_plan_seats d_o_plan_joined d_o_plan_views v_o_now_asked v_o_now_waiting v_o_now_fee v_o_now_takings d_o_now_prices d_o_now_free q11.2.1 q11.2.2.1 q11.2.2.2.1 q11.2.2.2.2)) [0, 1, 2, 3, 4, 5, 6, 7, 8] (by decide) rfl
        refine cl_rwi (wr := []) (wsN := (WX8_share cI cJ cZ cB a_o a_o_text a_o_sketch a_o_plan a_o_now a_o_copy a_o_past a_o_slots a_o_sights a_o_finder a_o_odds a_o_plan_prices a_o_plan_seats a_o_plan_joined a_o_plan_views a_o_now_prices a_o_now_free a_o_now_sizes a_o_now_limits a_o_now_places a_o_now_paid a_o_now_queue v_o_seed v_o_plan_rows v_o_plan_awaited d_o_plan_seats d_o_plan_joined d_o_plan_views v_o_now_asked v_o_now_waiting v_o_now_fee v_o_now_takings d_o_now_prices d_o_now_free q13.2.1 q13.2.2.1 q13.2.2.2.1 q13.2.2.2.2)) (va_runV (As := [.int x8, .int x2]) (rest := [.int q11.1, .long (((q7 * q9)).toInt64), .long x6]) ⟨hx, hb, hml, hown, hts⟩ ((kX8_qualityWith l D cI cJ cZ cB a_o a_o_text a_o_sketch a_o_plan a_o_now a_o_copy a_o_past a_o_slots a_o_sights a_o_finder a_o_odds a_o_plan_prices a_o_plan_seats a_o_plan_joined a_o_plan_views a_o_now_prices a_o_now_free a_o_now_sizes a_o_now_limits a_o_now_places a_o_now_paid a_o_now_queue v_o_seed v_o_plan_rows v_o_plan_awaited d_o_plan_seats d_o_plan_joined d_o_plan_views v_o_now_asked v_o_now_waiting v_o_now_fee v_o_now_takings d_o_now_prices d_o_now_free q11.2.1 q11.2.2.1 q11.2.2.2.1 q11.2.2.2.2 x8 x2 q13 hq14) _) (cwV 2 hts gX8_share_X8_qualityWith rfl rfl rfl (by decide +kernel) ⟨Nat.le_of_ble_eq_true rfl, Nat.le_of_ble_eq_true rfl⟩) ⟨PRw.blind, va_recv hK.1 hPc (ci := 8) (q0 := 0) rfl rfl, PRw.at hK hPc hDc⟩ rfl rfl hl.1 rfl (lv_room (Nat.le_of_ble_eq_true rfl)) dX8_share_104 ⟨Nat.zero_le _, Nat.zero_le _⟩) hP hD hS hA [0, 1, 2, 3, 4, 5, 6, 7, 8] [] [0, 1, 2, 3, 4, 5, 6, 7, 8] rfl rfl (by decide) (by decide) rfl (by decide) (fun H locs hP hD hS => ?_)
        refine lv_isub hx hb dX8_share_107 ?_
        refine lv_i2l (v := ((q11.1 - q13.1)).toInt64) hx hb dX8_share_108 rfl ?_
        refine lv_lmul hx hb dX8_share_109 ?_
        refine lv_ladd hx hb dX8_share_110 ?_
        refine lv_lstore (lv' := [(6, .long (x6 + (((q7 * q9)).toInt64 * ((q11.1 - q13.1)).toInt64))), (10, .int (q7 * q9)), (9, .int q5), (0, .ref a_o), (2, .int x2), (3, .int x3), (4, .int x4), (5, .int x5), (8, .int x8)]) hx hb dX8_share_111 hl (by decide) rfl (fun ls hl => ?_)
        refine lv_iinc (v := (x8 + (1 : Int32))) (lv' := [(8, .int (x8 + (1 : Int32))), (6, .long (x6 + (((q7 * q9)).toInt64 * ((q11.1 - q13.1)).toInt64))), (10, .int (q7 * q9)), (9, .int q5), (0, .ref a_o), (2, .int x2), (3, .int x3), (4, .int x4), (5, .int x5)]) hx hb dX8_share_113 hl (k := 8) rfl rfl (by decide) rfl (fun ls hl => ?_)
        refine lv_goto (tgt := 43) hx hb dX8_share_116 (by decide) ?_
        exact ih v_o_seed v_o_plan_rows v_o_plan_awaited d_o_plan_seats d_o_plan_joined d_o_plan_views v_o_now_asked v_o_now_waiting v_o_now_fee v_o_now_takings d_o_now_prices d_o_now_free q13.2.1 q13.2.2.1 q13.2.2.2.1 q13.2.2.2.2 x2 x3 x4 x5 (x6 + (((q7 * q9)).toInt64 * ((q11.1 - q13.1)).toInt64)) (x8 + (1 : Int32)) _ _ ls _ hP hD hS (lv_sub hl [4, 5, 6, 7, 8, 1, 0] rfl) hf
def fX8_share (v_o_plan_rows : Int32) (d_o_plan_seats : (Nat → Int32)) (d_o_plan_joined : (Nat → Int32)) (d_o_plan_views : (Nat → Int32)) (d_o_now_prices : (Nat → Int32)) (d_o_now_free : (Nat → Int32)) (v_o_finder_places : Int32) (v_o_finder_place : Int32) (v_o_finder_quality : Int32) (v_o_finder_price : Int32) (x1 : Int32) (x2 : Int32) (x3 : Int32) : Option (Int32 × Int32 × Int32 × Int32 × Int32) := ((fX4_hasRow v_o_plan_rows x1).bind fun q1 => (if q1 = 0 then some ((-1 : Int32), v_o_finder_places, v_o_finder_place, v_o_finder_quality, v_o_finder_price) else ((fX8_isSize x2).bind fun q3 => (if q3 = 0 then some ((-2 : Int32), v_o_finder_places, v_o_finder_place, v_o_finder_quality, v_o_finder_price) else ((fX4_rows v_o_plan_rows).bind fun q5 => fX8_share_43 FU v_o_plan_rows d_o_plan_seats d_o_plan_joined d_o_plan_views d_o_now_prices d_o_now_free v_o_finder_places v_o_finder_place v_o_finder_quality v_o_finder_price x2 x3 q5 ((1 : Int32) <<< (x1 &&& 31)) (0 : Int64) (0 : Int32))))))
set_option maxRecDepth 100000 in
set_option maxHeartbeats 4000000 in
theorem kX8_share (l : Launch) (D : va_G) (cI cJ cZ cB : ClassId) (tF : Nat) (a_o : Nat) (a_o_text : Nat) (a_o_sketch : Nat) (a_o_plan : Nat) (a_o_now : Nat) (a_o_copy : Nat) (a_o_past : Nat) (a_o_slots : Nat) (a_o_sights : Nat) (a_o_finder : Nat) (a_o_odds : Nat) (a_o_plan_prices : Nat) (a_o_plan_seats : Nat) (a_o_plan_joined : Nat) (a_o_plan_views : Nat) (a_o_now_prices : Nat) (a_o_now_free : Nat) (a_o_now_sizes : Nat) (a_o_now_limits : Nat) (a_o_now_places : Nat) (a_o_now_paid : Nat) (a_o_now_queue : Nat) (v_o_seed : Int64) (v_o_plan_rows : Int32) (v_o_plan_awaited : Int32) (d_o_plan_seats : (Nat → Int32)) (d_o_plan_joined : (Nat → Int32)) (d_o_plan_views : (Nat → Int32)) (v_o_now_asked : Int32) (v_o_now_waiting : Int32) (v_o_now_fee : Int32) (v_o_now_takings : Int32) (d_o_now_prices : (Nat → Int32)) (d_o_now_free : (Nat → Int32)) (v_o_finder_places : Int32) (v_o_finder_place : Int32) (v_o_finder_quality : Int32) (v_o_finder_price : Int32) (x1 : Int32) (x2 : Int32) (x3 : Int32) (res : Int32 × Int32 × Int32 × Int32 × Int32) (hf : fX8_share v_o_plan_rows d_o_plan_seats d_o_plan_joined d_o_plan_views d_o_now_prices d_o_now_free v_o_finder_places v_o_finder_place v_o_finder_quality v_o_finder_price x1 x2 x3 = some res) : Rs tF l yX8_share wsX8_share ({ frames := 5, cells := 0, slots := 0, locals := 124 } : Room) D (tyL cI cJ cZ cB) [.ref a_o, .int x1, .int x2, .int x3] (WX8_share cI cJ cZ cB a_o a_o_text a_o_sketch a_o_plan a_o_now a_o_copy a_o_past a_o_slots a_o_sights a_o_finder a_o_odds a_o_plan_prices a_o_plan_seats a_o_plan_joined a_o_plan_views a_o_now_prices a_o_now_free a_o_now_sizes a_o_now_limits a_o_now_places a_o_now_paid a_o_now_queue v_o_seed v_o_plan_rows v_o_plan_awaited d_o_plan_seats d_o_plan_joined d_o_plan_views v_o_now_asked v_o_now_waiting v_o_now_fee v_o_now_takings d_o_now_prices d_o_now_free v_o_finder_places v_o_finder_place v_o_finder_quality v_o_finder_price) (some (.int res.1)) (WX8_share cI cJ cZ cB a_o a_o_text a_o_sketch a_o_plan a_o_now a_o_copy a_o_past a_o_slots a_o_sights a_o_finder a_o_odds a_o_plan_prices a_o_plan_seats a_o_plan_joined a_o_plan_views a_o_now_prices a_o_now_free a_o_now_sizes a_o_now_limits a_o_now_places a_o_now_paid a_o_now_queue v_o_seed v_o_plan_rows v_o_plan_awaited d_o_plan_seats d_o_plan_joined d_o_plan_views v_o_now_asked v_o_now_waiting v_o_now_fee v_o_now_takings d_o_now_prices d_o_now_free res.2.1 res.2.2.1 res.2.2.2.1 res.2.2.2.2) := by
  refine Rs.of (cc := cX8_share) (maxL := 11) (ret := (some .int)) (own := RX8) (by decide) rfl rfl (Nat.le_of_ble_eq_true rfl) ?_
  intro p e s m below meth c A ls C hK hA hZ hT hP hD hS hl
  obtain ⟨hx, hb, hr, hml, hts, hown, hlk⟩ := id C
  have hl : lv_has ls 11 [(0, .ref a_o), (1, .int x1), (2, .int x2), (3, .int x3)] := hl
  unfold fX8_share at hf
  refine lv_aload_n hx hb dX8_share_0 rfl (lv_at hl 0 rfl) ?_
  refine va_get (D := D) (ci := 8) (v := .ref a_o_plan) (C := RX8) (T := TX8) (N := 11) hx hb hts iX8_share_X8 hown hK.1 hP 0 rfl rfl 2 (by decide) (hts (.fieldLink RX8 23 "LoneSeats" "plan" "LLoneSeats$Plan;") (by decide +kernel)) (fun _ h9 => h9) rfl dX8_share_1 ?_
  refine lv_iload_n hx hb dX8_share_4 rfl (lv_at hl 1 rfl) ?_
  obtain ⟨q1, hq2, hf⟩ := pf_b hf
  have hPc := hP.sub (ws' := (WX4_hasRow cI cJ cZ cB a_o_plan a_o_plan_prices a_o_plan_seats a_o_plan_joined a_o_plan_views v_o_plan_rows v_o_plan_awaited)) [1] rfl
  refine cl_roi (va_runV (As := [.int x1]) (rest := []) ⟨hx, hb, hml, hown, hts⟩ (kX4_hasRow l D cI cJ cZ cB a_o_plan a_o_plan_prices a_o_plan_seats a_o_plan_joined a_o_plan_views v_o_plan_rows v_o_plan_awaited x1 q1 hq2) (cwV 1 hts gX8_share_X4_hasRow rfl rfl rfl (by decide +kernel) ⟨Nat.le_of_ble_eq_true rfl, Nat.le_of_ble_eq_true rfl⟩) ⟨PRo.blind, va_recv hK.1 hPc (ci := 4) (q0 := 0) rfl rfl, PRo.at hK hPc⟩ rfl rfl hl.1 rfl (lv_room (Nat.le_of_ble_eq_true rfl)) dX8_share_5 ⟨Nat.zero_le _, Nat.zero_le _⟩) ?_
  refine lv_if_ne (tgt := 13) hx hb dX8_share_8 (by decide) (fun hc => ?_) (fun hc => ?_)
  · have hf := pf_f hc hf
    refine lv_iload_n hx hb dX8_share_13 rfl (lv_at hl 2 rfl) ?_
    obtain ⟨q3, hq4, hf⟩ := pf_b hf
    have hPc := hP.sub (ws' := ([] : va_W)) [] rfl
    refine cl_roi (va_runS (As := [.int x2]) (rest := []) ⟨hx, hb, hml, hown, hts⟩ (kX8_isSize l D cI cJ cZ cB x2 q3 hq4) (va_cwS 1 hts gX8_share_X8_isSize rfl rfl rfl (by decide +kernel) ⟨Nat.le_of_ble_eq_true rfl, Nat.le_of_ble_eq_true rfl⟩) ⟨PRo.blind, PRo.at hK hPc⟩ rfl rfl hl.1 rfl (lv_room (Nat.le_of_ble_eq_true rfl)) dX8_share_14 ⟨Nat.zero_le _, Nat.zero_le _⟩) ?_
    refine lv_if_ne (tgt := 23) hx hb dX8_share_17 (by decide) (fun hc => ?_) (fun hc => ?_)
    · have hf := pf_f hc hf
      refine lv_aload_n hx hb dX8_share_23 rfl (lv_at hl 0 rfl) ?_
      refine va_get (D := D) (ci := 8) (v := .ref a_o_plan) (C := RX8) (T := TX8) (N := 11) hx hb hts iX8_share_X8 hown hK.1 hP 0 rfl rfl 2 (by decide) (hts (.fieldLink RX8 23 "LoneSeats" "plan" "LLoneSeats$Plan;") (by decide +kernel)) (fun _ h9 => h9) rfl dX8_share_24 ?_
      obtain ⟨q5, hq6, hf⟩ := pf_b hf
      have hPc := hP.sub (ws' := (WX4_rows cI cJ cZ cB a_o_plan a_o_plan_prices a_o_plan_seats a_o_plan_joined a_o_plan_views v_o_plan_rows v_o_plan_awaited)) [1] rfl
      refine cl_roi (va_runV (As := []) (rest := []) ⟨hx, hb, hml, hown, hts⟩ (kX4_rows l D cI cJ cZ cB a_o_plan a_o_plan_prices a_o_plan_seats a_o_plan_joined a_o_plan_views v_o_plan_rows v_o_plan_awaited q5 hq6) (cwV 0 hts gX8_share_X4_rows rfl rfl rfl (by decide +kernel) ⟨Nat.le_of_ble_eq_true rfl, Nat.le_of_ble_eq_true rfl⟩) ⟨PRo.blind, va_recv hK.1 hPc (ci := 4) (q0 := 0) rfl rfl, PRo.at hK hPc⟩ rfl rfl hl.1 rfl (lv_room (Nat.le_of_ble_eq_true rfl)) dX8_share_27 ⟨Nat.zero_le _, Nat.zero_le _⟩) ?_
      refine lv_istore (lv' := [(4, .int q5), (0, .ref a_o), (1, .int x1), (2, .int x2), (3, .int x3)]) hx hb dX8_share_30 hl (by decide) rfl (fun ls hl => ?_)
      refine lv_iconst (v := (1 : Int32)) hx hb dX8_share_32 (by decide) ?_
      refine lv_iload_n hx hb dX8_share_33 rfl (lv_at hl 2 rfl) ?_
      refine lv_ishl hx hb dX8_share_34 ?_
      refine lv_istore (lv' := [(5, .int ((1 : Int32) <<< (x1 &&& 31))), (4, .int q5), (0, .ref a_o), (1, .int x1), (2, .int x2), (3, .int x3)]) hx hb dX8_share_35 hl (by decide) rfl (fun ls hl => ?_)
      refine lv_lconst (v := (0 : Int64)) hx hb dX8_share_37 (by decide) ?_
      refine lv_lstore (lv' := [(6, .long (0 : Int64)), (5, .int ((1 : Int32) <<< (x1 &&& 31))), (4, .int q5), (0, .ref a_o), (1, .int x1), (2, .int x2), (3, .int x3)]) hx hb dX8_share_38 hl (by decide) rfl (fun ls hl => ?_)
      refine lv_iconst (v := (0 : Int32)) hx hb dX8_share_40 (by decide) ?_
      refine lv_istore (lv' := [(8, .int (0 : Int32)), (6, .long (0 : Int64)), (5, .int ((1 : Int32) <<< (x1 &&& 31))), (4, .int q5), (0, .ref a_o), (1, .int x1), (2, .int x2), (3, .int x3)]) hx hb dX8_share_41 hl (by decide) rfl (fun ls hl => ?_)
      exact tX8_share_43 C hK hA hZ hT  FU v_o_seed v_o_plan_rows v_o_plan_awaited d_o_plan_seats d_o_plan_joined d_o_plan_views v_o_now_asked v_o_now_waiting v_o_now_fee v_o_now_takings d_o_now_prices d_o_now_free v_o_finder_places v_o_finder_place v_o_finder_quality v_o_finder_price x2 x3 q5 ((1 : Int32) <<< (x1 &&& 31)) (0 : Int64) (0 : Int32) _ _ ls _ hP hD hS (lv_sub hl [4, 6, 7, 3, 2, 1, 0] rfl) hf
    · have hf := pf_t hc hf
      refine lv_bipush (v := (-2 : Int32)) hx hb dX8_share_20 (by decide) ?_
      cases hf
      exact W.iret hx hb hr (fun t ht hW => ⟨⟨rfl, by rw [ht]; exact hP, hD⟩, hS.F ht⟩) hS.2.2 dX8_share_22
  · have hf := pf_t hc hf
    refine lv_iconst (v := (-1 : Int32)) hx hb dX8_share_11 (by decide) ?_
    cases hf
    exact W.iret hx hb hr (fun t ht hW => ⟨⟨rfl, by rw [ht]; exact hP, hD⟩, hS.F ht⟩) hS.2.2 dX8_share_12

