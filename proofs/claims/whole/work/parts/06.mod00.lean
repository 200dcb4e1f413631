def fX9_in (x0 : Int64) (x2 : Int64) (x4 : Int64) : Option (Int32) := (if (lg_cmp x0 x2) < 0 then some (0 : Int32) else (if 0 < (lg_cmp x0 x4) then some (0 : Int32) else some (1 : Int32)))
set_option maxRecDepth 100000 in
set_option maxHeartbeats 4000000 in
theorem kX9_in (l : Launch) (D : va_G) (cI cJ cZ cB : ClassId) (x0 : Int64) (x2 : Int64) (x4 : Int64) (res : Int32) (hf : fX9_in x0 x2 x4 = some res) : Ro l yX9_in wsX9_in ({ frames := 0, cells := 0, slots := 0, locals := 0 } : Room) D (tyL cI cJ cZ cB) [.long x0, .long x2, .long x4] ([] : va_W) (some (.int res)) := by
  refine Ro.of (cc := cX9_in) (maxL := 6) (ret := (some .boolean)) (own := RX9) (by decide) rfl rfl (Nat.le_of_ble_eq_true rfl) ?_
  intro p e s m below meth c ls C hK hP hl
  obtain ⟨hx, hb, hr, hml, hts, hown, hlk⟩ := id C
  have hl : lv_has ls 6 [(0, .long x0), (2, .long x2), (4, .long x4)] := hl
  unfold fX9_in at hf
  refine lv_lload_n hx hb dX9_in_0 rfl (lv_at hl 0 rfl) ?_
  refine lv_lload_n hx hb dX9_in_1 rfl (lv_at hl 1 rfl) ?_
  refine W.lcmp hx hb dX9_in_2 ?_
  refine lv_if_lt (tgt := 17) hx hb dX9_in_3 (by decide) (fun hc => ?_) (fun hc => ?_)
  · have hf := pf_t hc hf
    refine lv_iconst (v := (0 : Int32)) hx hb dX9_in_17 (by decide) ?_
    cases hf
    exact W.zret hx hb hr (nar_b (by decide)) (fun t ht hW => ⟨rfl, ht⟩) (fun _ h => absurd h List.not_mem_nil) dX9_in_18
  · have hf := pf_f hc hf
    refine lv_lload_n hx hb dX9_in_6 rfl (lv_at hl 0 rfl) ?_
    refine lv_lload hx hb dX9_in_7 (lv_at hl 2 rfl) ?_
    refine W.lcmp hx hb dX9_in_9 ?_
    refine lv_if_gt (tgt := 17) hx hb dX9_in_10 (by decide) (fun hc => ?_) (fun hc => ?_)
    · have hf := pf_t hc hf
      refine lv_iconst (v := (0 : Int32)) hx hb dX9_in_17 (by decide) ?_
      cases hf
      exact W.zret hx hb hr (nar_b (by decide)) (fun t ht hW => ⟨rfl, ht⟩) (fun _ h => absurd h List.not_mem_nil) dX9_in_18
    · have hf := pf_f hc hf
      refine lv_iconst (v := (1 : Int32)) hx hb dX9_in_13 (by decide) ?_
      refine lv_goto (tgt := 18) hx hb dX9_in_14 (by decide) ?_
      cases hf
      exact W.zret hx hb hr (nar_b (by decide)) (fun t ht hW => ⟨rfl, ht⟩) (fun _ h => absurd h List.not_mem_nil) dX9_in_18
def fX9_has (x0 : Int32) (x1 : Int32) : Option (Int32) := (if ((x0 >>> (x1 &&& 31)) &&& (1 : Int32)) = (1 : Int32) then some (1 : Int32) else some (0 : Int32))
set_option maxRecDepth 100000 in
set_option maxHeartbeats 4000000 in
theorem kX9_has (l : Launch) (D : va_G) (cI cJ cZ cB : ClassId) (x0 : Int32) (x1 : Int32) (res : Int32) (hf : fX9_has x0 x1 = some res) : Ro l yX9_has wsX9_has ({ frames := 0, cells := 0, slots := 0, locals := 0 } : Room) D (tyL cI cJ cZ cB) [.int x0, .int x1] ([] : va_W) (some (.int res)) := by
  refine Ro.of (cc := cX9_has) (maxL := 2) (ret := (some .boolean)) (own := RX9) (by decide) rfl rfl (Nat.le_of_ble_eq_true rfl) ?_
  intro p e s m below meth c ls C hK hP hl
  obtain ⟨hx, hb, hr, hml, hts, hown, hlk⟩ := id C
  have hl : lv_has ls 2 [(0, .int x0), (1, .int x1)] := hl
  unfold fX9_has at hf
  refine lv_iload_n hx hb dX9_has_0 rfl (lv_at hl 0 rfl) ?_
  refine lv_iload_n hx hb dX9_has_1 rfl (lv_at hl 1 rfl) ?_
  refine lv_ishr hx hb dX9_has_2 ?_
  refine lv_iconst (v := (1 : Int32)) hx hb dX9_has_3 (by decide) ?_
  refine lv_iand hx hb dX9_has_4 ?_
  refine lv_iconst (v := (1 : Int32)) hx hb dX9_has_5 (by decide) ?_
  refine lv_icmp_ne (tgt := 13) hx hb dX9_has_6 (by decide) (fun hc => ?_) (fun hc => ?_)
  · have hf := pf_f hc hf
    refine lv_iconst (v := (0 : Int32)) hx hb dX9_has_13 (by decide) ?_
    cases hf
    exact W.zret hx hb hr (nar_b (by decide)) (fun t ht hW => ⟨rfl, ht⟩) (fun _ h => absurd h List.not_mem_nil) dX9_has_14
  · have hf := pf_t hc hf
    refine lv_iconst (v := (1 : Int32)) hx hb dX9_has_9 (by decide) ?_
    refine lv_goto (tgt := 14) hx hb dX9_has_10 (by decide) ?_
    cases hf
    exact W.zret hx hb hr (nar_b (by decide)) (fun t ht hW => ⟨rfl, ht⟩) (fun _ h => absurd h List.not_mem_nil) dX9_has_14
def fX9_ones_4 : Nat → Int32 → Int32 → Int32 → Option (Int32)
  | 0, _, _, _ => none
  | n + 1, x0, x1, x2 => (if (9 : Int32) ≤ x2 then some x1 else fX9_ones_4 n x0 (x1 + ((x0 >>> (x2 &&& 31)) &&& (1 : Int32))) (x2 + (1 : Int32)))
set_option maxRecDepth 100000 in
set_option maxHeartbeats 4000000 in
theorem tX9_ones_4 {p : Program} {l : Launch} {e : Env} {s : State} {m : MethodId} {args : Array Value} {below : List Frame} {meth : Method} {c : Code} {D : va_G} {cI cJ cZ cB : ClassId} (C : Cx p s m args meth c cX9_ones 3 (some .int) wsX9_ones RX9) (hK : Kw D (tyL cI cJ cZ cB) s) : ∀ (n : Nat), ∀  (x0 : Int32) (x1 : Int32) (x2 : Int32) (ls : Array Slot) (res : Int32), va_P D vwCl ([] : va_W) s.heap → lv_has ls 3 [(0, .int x0), (1, .int x1), (2, .int x2)] → fX9_ones_4 n x0 x1 x2 = some res → W p l e ({ frames := 0, cells := 0, slots := 0, locals := 0 } : Room) s m args below meth c s.heap [] 0 0 (MQ below (QRo (some (.int res))) args s 0 0 (fun _ => False)) (F0 m 4 ls []) := by
  obtain ⟨hx, hb, hr, hml, hts, hown, hlk⟩ := id C
  intro n
  induction n with
  | zero =>
    intro x0 x1 x2 ls res hP hl hf
    rw [fX9_ones_4] at hf
    cases hf
  | succ n ih =>
    intro x0 x1 x2 ls res hP hl hf
    rw [fX9_ones_4] at hf
    refine lv_iload_n hx hb dX9_ones_4 rfl (lv_at hl 2 rfl) ?_
    refine lv_bipush (v := (9 : Int32)) hx hb dX9_ones_5 (by decide) ?_
    refine lv_icmp_ge (tgt := 24) hx hb dX9_ones_7 (by decide) (fun hc => ?_) (fun hc => ?_)
    · have hf := pf_t hc hf
      refine lv_iload_n hx hb dX9_ones_24 rfl (lv_at hl 1 rfl) ?_
      cases hf
      exact W.iret hx hb hr (fun t ht hW => ⟨rfl, ht⟩) (fun _ h => absurd h List.not_mem_nil) dX9_ones_25
    · have hf := pf_f hc hf
      refine lv_iload_n hx hb dX9_ones_10 rfl (lv_at hl 1 rfl) ?_
      refine lv_iload_n hx hb dX9_ones_11 rfl (lv_at hl 0 rfl) ?_
      refine lv_iload_n hx hb dX9_ones_12 rfl (lv_at hl 2 rfl) ?_
      refine lv_ishr hx hb dX9_ones_13 ?_
      refine lv_iconst (v := (1 : Int32)) hx hb dX9_ones_14 (by decide) ?_
      refine lv_iand hx hb dX9_ones_15 ?_
      refine lv_iadd hx hb dX9_ones_16 ?_
      refine lv_istore_n (lv' := [(1, .int (x1 + ((x0 >>> (x2 &&& 31)) &&& (1 : Int32)))), (0, .int x0), (2, .int x2)]) hx hb dX9_ones_17 rfl hl (by decide) rfl (fun ls hl => ?_)
      refine lv_iinc (v := (x2 + (1 : Int32))) (lv' := [(2, .int (x2 + (1 : Int32))), (1, .int (x1 + ((x0 >>> (x2 &&& 31)) &&& (1 : Int32)))), (0, .int x0)]) hx hb dX9_ones_18 hl (k := 2) rfl rfl (by decide) rfl (fun ls hl => ?_)
      refine lv_goto (tgt := 4) hx hb dX9_ones_21 (by decide) ?_
      exact ih  x0 (x1 + ((x0 >>> (x2 &&& 31)) &&& (1 : Int32))) (x2 + (1 : Int32)) ls _ hP (lv_sub hl [2, 1, 0] rfl) hf
def fX9_ones (x0 : Int32) : Option (Int32) := fX9_ones_4 FU x0 (0 : Int32) (0 : Int32)
set_option maxRecDepth 100000 in
set_option maxHeartbeats 4000000 in
theorem kX9_ones (l : Launch) (D : va_G) (cI cJ cZ cB : ClassId) (x0 : Int32) (res : Int32) (hf : fX9_ones x0 = some res) : Ro l yX9_ones wsX9_ones ({ frames := 0, cells := 0, slots := 0, locals := 0 } : Room) D (tyL cI cJ cZ cB) [.int x0] ([] : va_W) (some (.int res)) := by
  refine Ro.of (cc := cX9_ones) (maxL := 3) (ret := (some .int)) (own := RX9) (by decide) rfl rfl (Nat.le_of_ble_eq_true rfl) ?_
  intro p e s m below meth c ls C hK hP hl
  obtain ⟨hx, hb, hr, hml, hts, hown, hlk⟩ := id C
  have hl : lv_has ls 3 [(0, .int x0)] := hl
  unfold fX9_ones at hf
  refine lv_iconst (v := (0 : Int32)) hx hb dX9_ones_0 (by decide) ?_
  refine lv_istore_n (lv' := [(1, .int (0 : Int32)), (0, .int x0)]) hx hb dX9_ones_1 rfl hl (by decide) rfl (fun ls hl => ?_)
  refine lv_iconst (v := (0 : Int32)) hx hb dX9_ones_2 (by decide) ?_
  refine lv_istore_n (lv' := [(2, .int (0 : Int32)), (1, .int (0 : Int32)), (0, .int x0)]) hx hb dX9_ones_3 rfl hl (by decide) rfl (fun ls hl => ?_)
  exact tX9_ones_4 C hK  FU  x0 (0 : Int32) (0 : Int32) ls _ hP (lv_sub hl [2, 1, 0] rfl) hf
def fX9_power_4 : Nat → Int32 → Int32 → Int32 → Int32 → Option (Int32)
  | 0, _, _, _, _ => none
  | n + 1, x0, x1, x2, x3 => (if x1 ≤ x3 then some x2 else fX9_power_4 n x0 x1 (x2 * x0) (x3 + (1 : Int32)))
set_option maxRecDepth 100000 in
set_option maxHeartbeats 4000000 in
theorem tX9_power_4 {p : Program} {l : Launch} {e : Env} {s : State} {m : MethodId} {args : Array Value} {below : List Frame} {meth : Method} {c : Code} {D : va_G} {cI cJ cZ cB : ClassId} (C : Cx p s m args meth c cX9_power 4 (some .int) wsX9_power RX9) (hK : Kw D (tyL cI cJ cZ cB) s) : ∀ (n : Nat), ∀  (x0 : Int32) (x1 : Int32) (x2 : Int32) (x3 : Int32) (ls : Array Slot) (res : Int32), va_P D vwCl ([] : va_W) s.heap → lv_has ls 4 [(0, .int x0), (1, .int x1), (2, .int x2), (3, .int x3)] → fX9_power_4 n x0 x1 x2 x3 = some res → W p l e ({ frames := 0, cells := 0, slots := 0, locals := 0 } : Room) s m args below meth c s.heap [] 0 0 (MQ below (QRo (some (.int res))) args s 0 0 (fun _ => False)) (F0 m 4 ls []) := by
  obtain ⟨hx, hb, hr, hml, hts, hown, hlk⟩ := id C
  intro n
  induction n with
  | zero =>
    intro x0 x1 x2 x3 ls res hP hl hf
    rw [fX9_power_4] at hf
    cases hf
  | succ n ih =>
    intro x0 x1 x2 x3 ls res hP hl hf
    rw [fX9_power_4] at hf
    refine lv_iload_n hx hb dX9_power_4 rfl (lv_at hl 3 rfl) ?_
    refine lv_iload_n hx hb dX9_power_5 rfl (lv_at hl 1 rfl) ?_
    refine lv_icmp_ge (tgt := 19) hx hb dX9_power_6 (by decide) (fun hc => ?_) (fun hc => ?_)
    · have hf := pf_t hc hf
      refine lv_iload_n hx hb dX9_power_19 rfl (lv_at hl 2 rfl) ?_
      cases hf
      exact W.iret hx hb hr (fun t ht hW => ⟨rfl, ht⟩) (fun _ h => absurd h List.not_mem_nil) dX9_power_20
    · have hf := pf_f hc hf
      refine lv_iload_n hx hb dX9_power_9 rfl (lv_at hl 2 rfl) ?_
      refine lv_iload_n hx hb dX9_power_10 rfl (lv_at hl 0 rfl) ?_
      refine lv_imul hx hb dX9_power_11 ?_
      refine lv_istore_n (lv' := [(2, .int (x2 * x0)), (0, .int x0), (1, .int x1), (3, .int x3)]) hx hb dX9_power_12 rfl hl (by decide) rfl (fun ls hl => ?_)
      refine lv_iinc (v := (x3 + (1 : Int32))) (lv' := [(3, .int (x3 + (1 : Int32))), (2, .int (x2 * x0)), (0, .int x0), (1, .int x1)]) hx hb dX9_power_13 hl (k := 3) rfl rfl (by decide) rfl (fun ls hl => ?_)
      refine lv_goto (tgt := 4) hx hb dX9_power_16 (by decide) ?_
      exact ih  x0 x1 (x2 * x0) (x3 + (1 : Int32)) ls _ hP (lv_sub hl [2, 3, 1, 0] rfl) hf
def fX9_power (x0 : Int32) (x1 : Int32) : Option (Int32) := fX9_power_4 FU x0 x1 (1 : Int32) (0 : Int32)
set_option maxRecDepth 100000 in
set_option maxHeartbeats 4000000 in
theorem kX9_power (l : Launch) (D : va_G) (cI cJ cZ cB : ClassId) (x0 : Int32) (x1 : Int32) (res : Int32) (hf : fX9_power x0 x1 = some res) : Ro l yX9_power wsX9_power ({ frames := 0, cells := 0, slots := 0, locals := 0 } : Room) D (tyL cI cJ cZ cB) [.int x0, .int x1] ([] : va_W) (some (.int res)) := by
  refine Ro.of (cc := cX9_power) (maxL := 4) (ret := (some .int)) (own := RX9) (by decide) rfl rfl (Nat.le_of_ble_eq_true rfl) ?_
  intro p e s m below meth c ls C hK hP hl
  obtain ⟨hx, hb, hr, hml, hts, hown, hlk⟩ := id C
  have hl : lv_has ls 4 [(0, .int x0), (1, .int x1)] := hl
  unfold fX9_power at hf
  refine lv_iconst (v := (1 : Int32)) hx hb dX9_power_0 (by decide) ?_
  refine lv_istore_n (lv' := [(2, .int (1 : Int32)), (0, .int x0), (1, .int x1)]) hx hb dX9_power_1 rfl hl (by decide) rfl (fun ls hl => ?_)
  refine lv_iconst (v := (0 : Int32)) hx hb dX9_power_2 (by decide) ?_
  refine lv_istore_n (lv' := [(3, .int (0 : Int32)), (2, .int (1 : Int32)), (0, .int x0), (1, .int x1)]) hx hb dX9_power_3 rfl hl (by decide) rfl (fun ls hl => ?_)
  exact tX9_power_4 C hK  FU  x0 x1 (1 : Int32) (0 : Int32) ls _ hP (lv_sub hl [2, 3, 1, 0] rfl) hf
abbrev WX9_copy (cI cJ cZ cB : ClassId) (a_o : Nat) (a_p1 : Nat) (d_o : (Nat → Int32)) (d_p1 : (Nat → Int32)) : va_W := [(a_o, .inl (cI, (229, .inl d_o))), (a_p1, .inl (cI, (229, .inl d_p1)))]
def fX9_copy_2 : Nat → (Nat → Int32) → (Nat → Int32) → Int32 → Option ((Nat → Int32))
  | 0, _, _, _ => none
  | n + 1, d_o, d_p1, x2 => (if (229 : Int32) ≤ x2 then some d_p1 else (if x2 < 0 ∨ 229 ≤ (x2).toNatClampNeg then none else (if x2 < 0 ∨ 229 ≤ (x2).toNatClampNeg then none else fX9_copy_2 n d_o (upd d_p1 ((x2).toNatClampNeg) (d_o (x2).toNatClampNeg)) (x2 + (1 : Int32)))))
set_option maxRecDepth 100000 in
set_option maxHeartbeats 4000000 in
theorem tX9_copy_2 {p : Program} {l : Launch} {e : Env} {s : State} {m : MethodId} {args : Array Value} {below : List Frame} {meth : Method} {c : Code} {D : va_G} {cI cJ cZ cB : ClassId} {a_o : Nat} {a_p1 : Nat} {A : Nat → Prop} (C : Cx p s m args meth c cX9_copy 3 none wsX9_copy RX9) (hK : Kw D (tyL cI cJ cZ cB) s) (hA : ∀ q : Nat, s.heap.size ≤ q → A q) : ∀ (n : Nat), ∀ (d_o : (Nat → Int32)) (d_p1 : (Nat → Int32)) (x2 : Int32) (H : Heap) (locs : List Loc) (ls : Array Slot) (res : (Nat → Int32)), va_P D vwCl (WX9_copy cI cJ cZ cB a_o a_p1 d_o d_p1) H → va_D A (WX9_copy cI cJ cZ cB a_o a_p1 d_o d_p1) → va_S A s.heap H locs → lv_has ls 3 [(0, .ref a_o), (1, .ref a_p1), (2, .int x2)] → fX9_copy_2 n d_o d_p1 x2 = some res → W p l e ({ frames := 0, cells := 0, slots := 0, locals := 0 } : Room) s m args below meth c H locs 0 0 (MQ below (QRw D A (WX9_copy cI cJ cZ cB a_o a_p1 d_o res) none) args s 0 0 A) (F0 m 2 ls []) := by
  obtain ⟨hx, hb, hr, hml, hts, hown, hlk⟩ := id C
  intro n
  induction n with
  | zero =>
    intro d_o d_p1 x2 H locs ls res hP hD hS hl hf
    rw [fX9_copy_2] at hf
    cases hf
  | succ n ih =>
    intro d_o d_p1 x2 H locs ls res hP hD hS hl hf
    rw [fX9_copy_2] at hf
    refine lv_iload_n hx hb dX9_copy_2 rfl (lv_at hl 2 rfl) ?_
    refine lv_sipush (v := (229 : Int32)) hx hb dX9_copy_3 (by decide) ?_
    refine lv_icmp_ge (tgt := 21) hx hb dX9_copy_6 (by decide) (fun hc => ?_) (fun hc => ?_)
    · have hf := pf_t hc hf
      cases hf
      exact W.vret hx hb hr (fun t ht hW => ⟨⟨rfl, by rw [ht]; exact hP, hD⟩, hS.F ht⟩) hS.2.2 dX9_copy_21
    · have hf := pf_f hc hf
      refine lv_aload_n hx hb dX9_copy_9 rfl (lv_at hl 1 rfl) ?_
      refine lv_iload_n hx hb dX9_copy_10 rfl (lv_at hl 2 rfl) ?_
      refine lv_aload_n hx hb dX9_copy_11 rfl (lv_at hl 0 rfl) ?_
      refine lv_iload_n hx hb dX9_copy_12 rfl (lv_at hl 2 rfl) ?_
      obtain ⟨hg1, hf⟩ := pf_x hf
      refine va_iald hx hb hK.1 hP 0 0 rfl rfl hg1 dX9_copy_13 ?_
      obtain ⟨hg2, hf⟩ := pf_x hf
      refine va_iast hx hb hK.1 hP hD hS 1 0 rfl rfl hg2 dX9_copy_14 (fun H locs hP hD hS => ?_)
      have hP : va_P D vwCl (WX9_copy cI cJ cZ cB a_o a_p1 d_o (upd d_p1 ((x2).toNatClampNeg) (d_o (x2).toNatClampNeg))) H := hP
      have hD : va_D A (WX9_copy cI cJ cZ cB a_o a_p1 d_o (upd d_p1 ((x2).toNatClampNeg) (d_o (x2).toNatClampNeg))) := hD
      refine lv_iinc (v := (x2 + (1 : Int32))) (lv' := [(2, .int (x2 + (1 : Int32))), (0, .ref a_o), (1, .ref a_p1)]) hx hb dX9_copy_15 hl (k := 2) rfl rfl (by decide) rfl (fun ls hl => ?_)
      refine lv_goto (tgt := 2) hx hb dX9_copy_18 (by decide) ?_
      exact ih d_o (upd d_p1 ((x2).toNatClampNeg) (d_o (x2).toNatClampNeg)) (x2 + (1 : Int32)) _ _ ls _ hP hD hS (lv_sub hl [1, 2, 0] rfl) hf
def fX9_copy (d_o : (Nat → Int32)) (d_p1 : (Nat → Int32)) : Option ((Nat → Int32)) := fX9_copy_2 FU d_o d_p1 (0 : Int32)
set_option maxRecDepth 100000 in
set_option maxHeartbeats 4000000 in
theorem kX9_copy (l : Launch) (D : va_G) (cI cJ cZ cB : ClassId) (a_o : Nat) (a_p1 : Nat) (d_o : (Nat → Int32)) (d_p1 : (Nat → Int32)) (res : (Nat → Int32)) (hf : fX9_copy d_o d_p1 = some res) : Rw l yX9_copy wsX9_copy ({ frames := 0, cells := 0, slots := 0, locals := 0 } : Room) D (tyL cI cJ cZ cB) [.ref a_o, .ref a_p1] (WX9_copy cI cJ cZ cB a_o a_p1 d_o d_p1) none (WX9_copy cI cJ cZ cB a_o a_p1 d_o res) := by
  refine Rw.of (cc := cX9_copy) (maxL := 3) (ret := none) (own := RX9) (by decide) rfl rfl (Nat.le_of_ble_eq_true rfl) ?_
  intro p e s m below meth c A ls C hK hA hP hD hS hl
  obtain ⟨hx, hb, hr, hml, hts, hown, hlk⟩ := id C
  have hl : lv_has ls 3 [(0, .ref a_o), (1, .ref a_p1)] := hl
  unfold fX9_copy at hf
  refine lv_iconst (v := (0 : Int32)) hx hb dX9_copy_0 (by decide) ?_
  refine lv_istore_n (lv' := [(2, .int (0 : Int32)), (0, .ref a_o), (1, .ref a_p1)]) hx hb dX9_copy_1 rfl hl (by decide) rfl (fun ls hl => ?_)
  exact tX9_copy_2 C hK hA  FU d_o d_p1 (0 : Int32) _ _ ls _ hP hD hS (lv_sub hl [1, 2, 0] rfl) hf
abbrev WX9_noRow (cI cJ cZ cB : ClassId) (a_o : Nat) (a_o_text : Nat) (a_o_many : Nat) (a_o_views : Nat) (a_o_aisles : Nat) (a_o_readMany : Nat) (a_o_readViews : Nat) (a_o_readAisles : Nat) (a_o_readPage : Nat) (a_o_page : Nat) (a_o_trial : Nat) (a_o_book : Nat) (a_o_kept : Nat) (a_o_isKept : Nat) (a_o_seenSeat : Nat) (a_o_seenWas : Nat) (v_o_thrown : Int32) (v_o_textSize : Int32) (v_o_place : Int32) (v_o_rows : Int32) (v_o_readRows : Int32) (v_o_doings : Int32) (v_o_seen : Int32) (v_o_seed : Int64) (v_o_found : Int32) (v_o_foundViews : Int32) (v_o_foundMany : Int32) : va_W := [(a_o, .inr (9, [.int v_o_thrown, .ref a_o_text, .int v_o_textSize, .int v_o_place, .int v_o_rows, .ref a_o_many, .ref a_o_views, .ref a_o_aisles, .int v_o_readRows, .ref a_o_readMany, .ref a_o_readViews, .ref a_o_readAisles, .ref a_o_readPage, .ref a_o_page, .ref a_o_trial, .ref a_o_book, .int v_o_doings, .ref a_o_kept, .ref a_o_isKept, .int v_o_seen, .ref a_o_seenSeat, .ref a_o_seenWas, .long v_o_seed, .int v_o_found, .int v_o_foundViews, .int v_o_foundMany]))]
set_option maxRecDepth 20000 in
theorem iX9_noRow_X9 : ∀ w ∈ wsX90, w ∈ wsX9_noRow := by decide +kernel
def fX9_noRow (v_o_rows : Int32) (x1 : Int32) : Option (Int32) := ((fX9_in ((x1).toInt64) (0 : Int64) (((v_o_rows - (1 : Int32))).toInt64)).bind fun q1 => (if q1 = 0 then some (1 : Int32) else some (0 : Int32)))
set_option maxRecDepth 100000 in
set_option maxHeartbeats 4000000 in
theorem kX9_noRow (l : Launch) (D : va_G) (cI cJ cZ cB : ClassId) (a_o : Nat) (a_o_text : Nat) (a_o_many : Nat) (a_o_views : Nat) (a_o_aisles : Nat) (a_o_readMany : Nat) (a_o_readViews : Nat) (a_o_readAisles : Nat) (a_o_readPage : Nat) (a_o_page : Nat) (a_o_trial : Nat) (a_o_book : Nat) (a_o_kept : Nat) (a_o_isKept : Nat) (a_o_seenSeat : Nat) (a_o_seenWas : Nat) (v_o_thrown : Int32) (v_o_textSize : Int32) (v_o_place : Int32) (v_o_rows : Int32) (v_o_readRows : Int32) (v_o_doings : Int32) (v_o_seen : Int32) (v_o_seed : Int64) (v_o_found : Int32) (v_o_foundViews : Int32) (v_o_foundMany : Int32) (x1 : Int32) (res : Int32) (hf : fX9_noRow v_o_rows x1 = some res) : Ro l yX9_noRow wsX9_noRow ({ frames := 1, cells := 0, slots := 0, locals := 25 } : Room) D (tyL cI cJ cZ cB) [.ref a_o, .int x1] (WX9_noRow cI cJ cZ cB a_o a_o_text a_o_many a_o_views a_o_aisles a_o_readMany a_o_readViews a_o_readAisles a_o_readPage a_o_page a_o_trial a_o_book a_o_kept a_o_isKept a_o_seenSeat a_o_seenWas v_o_thrown v_o_textSize v_o_place v_o_rows v_o_readRows v_o_doings v_o_seen v_o_seed v_o_found v_o_foundViews v_o_foundMany) (some (.int res)) := by
  refine Ro.of (cc := cX9_noRow) (maxL := 2) (ret := (some .boolean)) (own := RX9) (by decide) rfl rfl (Nat.le_of_ble_eq_true rfl) ?_
  intro p e s m below meth c ls C hK hP hl
  obtain ⟨hx, hb, hr, hml, hts, hown, hlk⟩ := id C
  have hl : lv_has ls 2 [(0, .ref a_o), (1, .int x1)] := hl
  unfold fX9_noRow at hf
  refine lv_iload_n hx hb dX9_noRow_0 rfl (lv_at hl 1 rfl) ?_
  refine lv_i2l (v := (x1).toInt64) hx hb dX9_noRow_1 rfl ?_
  refine lv_lconst (v := (0 : Int64)) hx hb dX9_noRow_2 (by decide) ?_
  refine lv_aload_n hx hb dX9_noRow_3 rfl (lv_at hl 0 rfl) ?_
  refine va_get (D := D) (ci := 9) (v := .int v_o_rows) (C := RX9) (T := TX9) (N := 26) hx hb hts iX9_noRow_X9 hown hK.1 hP 0 rfl rfl 4 (by decide) (hts (.fieldLink RX9 63 "LoneSeatsModel" "rows" "I") (by decide +kernel)) (fun _ h9 => h9) rfl dX9_noRow_4 ?_
  refine lv_iconst (v := (1 : Int32)) hx hb dX9_noRow_7 (by decide) ?_
  refine lv_isub hx hb dX9_noRow_8 ?_
  refine lv_i2l (v := ((v_o_rows - (1 : Int32))).toInt64) hx hb dX9_noRow_9 rfl ?_
  obtain ⟨q1, hq2, hf⟩ := pf_b hf
  have hPc := hP.sub (ws' := ([] : va_W)) [] rfl
  refine cl_roi (va_runS (As := [.long ((x1).toInt64), .long (0 : Int64), .long (((v_o_rows - (1 : Int32))).toInt64)]) (rest := []) ⟨hx, hb, hml, hown, hts⟩ (kX9_in l D cI cJ cZ cB ((x1).toInt64) (0 : Int64) (((v_o_rows - (1 : Int32))).toInt64) q1 hq2) (va_cwS 3 hts gX9_noRow_X9_in rfl rfl rfl (by decide +kernel) ⟨Nat.le_of_ble_eq_true rfl, Nat.le_of_ble_eq_true rfl⟩) ⟨PRo.blind, PRo.at hK hPc⟩ rfl rfl hl.1 rfl (lv_room (Nat.le_of_ble_eq_true rfl)) dX9_noRow_10 ⟨Nat.zero_le _, Nat.zero_le _⟩) ?_
  refine lv_if_ne (tgt := 20) hx hb dX9_noRow_13 (by decide) (fun hc => ?_) (fun hc => ?_)
  · have hf := pf_f hc hf
    refine lv_iconst (v := (0 : Int32)) hx hb dX9_noRow_20 (by decide) ?_
    cases hf
    exact W.zret hx hb hr (nar_b (by decide)) (fun t ht hW => ⟨rfl, ht⟩) (fun _ h => absurd h List.not_mem_nil) dX9_noRow_21
  · have hf := pf_t hc hf
    refine lv_iconst (v := (1 : Int32)) hx hb dX9_noRow_16 (by decide) ?_
    refine lv_goto (tgt := 21) hx hb dX9_noRow_17 (by decide) ?_
    cases hf
    exact W.zret hx hb hr (nar_b (by decide)) (fun t ht hW => ⟨rfl, ht⟩) (fun _ h => absurd h List.not_mem_nil) dX9_noRow_21
abbrev WX9_noSeat (cI cJ cZ cB : ClassId) (a_o : Nat) (a_o_text : Nat) (a_o_many : Nat) (a_o_views : Nat) (a_o_aisles : Nat) (a_o_readMany : Nat) (a_o_readViews : Nat) (a_o_readAisles : Nat) (a_o_readPage : Nat) (a_o_page : Nat) (a_o_trial : Nat) (a_o_book : Nat) (a_o_kept : Nat) (a_o_isKept : Nat) (a_o_seenSeat : Nat) (a_o_seenWas : Nat) (v_o_thrown : Int32) (v_o_textSize : Int32) (v_o_place : Int32) (v_o_rows : Int32) (v_o_readRows : Int32) (v_o_doings : Int32) (v_o_seen : Int32) (v_o_seed : Int64) (v_o_found : Int32) (v_o_foundViews : Int32) (v_o_foundMany : Int32) (d_o_many : (Nat → Int32)) : va_W := [(a_o, .inr (9, [.int v_o_thrown, .ref a_o_text, .int v_o_textSize, .int v_o_place, .int v_o_rows, .ref a_o_many, .ref a_o_views, .ref a_o_aisles, .int v_o_readRows, .ref a_o_readMany, .ref a_o_readViews, .ref a_o_readAisles, .ref a_o_readPage, .ref a_o_page, .ref a_o_trial, .ref a_o_book, .int v_o_doings, .ref a_o_kept, .ref a_o_isKept, .int v_o_seen, .ref a_o_seenSeat, .ref a_o_seenWas, .long v_o_seed, .int v_o_found, .int v_o_foundViews, .int v_o_foundMany])), (a_o_many, .inl (cI, (4, .inl d_o_many)))]
set_option maxRecDepth 20000 in
theorem iX9_noSeat_X9 : ∀ w ∈ wsX90, w ∈ wsX9_noSeat := by decide +kernel
def fX9_noSeat (v_o_rows : Int32) (d_o_many : (Nat → Int32)) (x1 : Int32) (x2 : Int32) : Option (Int32) := ((fX9_noRow v_o_rows x1).bind fun q1 => (if q1 = 0 then (if x1 < 0 ∨ 4 ≤ (x1).toNatClampNeg then none else ((fX9_in ((x2).toInt64) (0 : Int64) ((((d_o_many (x1).toNatClampNeg) - (1 : Int32))).toInt64)).bind fun q4 => (if q4 = 0 then some (1 : Int32) else some (0 : Int32)))) else some (1 : Int32)))
set_option maxRecDepth 100000 in
set_option maxHeartbeats 4000000 in
theorem kX9_noSeat (l : Launch) (D : va_G) (cI cJ cZ cB : ClassId) (a_o : Nat) (a_o_text : Nat) (a_o_many : Nat) (a_o_views : Nat) (a_o_aisles : Nat) (a_o_readMany : Nat) (a_o_readViews : Nat) (a_o_readAisles : Nat) (a_o_readPage : Nat) (a_o_page : Nat) (a_o_trial : Nat) (a_o_book : Nat) (a_o_kept : Nat) (a_o_isKept : Nat) (a_o_seenSeat : Nat) (a_o_seenWas : Nat) (v_o_thrown : Int32) (v_o_textSize : Int32) (v_o_place : Int32) (v_o_rows : Int32) (v_o_readRows : Int32) (v_o_doings : Int32) (v_o_seen : Int32) (v_o_seed : Int64) (v_o_found : Int32) (v_o_foundViews : Int32) (v_o_foundMany : Int32) (d_o_many : (Nat → Int32)) (x1 : Int32) (x2 : Int32) (res : Int32) (hf : fX9_noSeat v_o_rows d_o_many x1 x2 = some res) : Ro l yX9_noSeat wsX9_noSeat ({ frames := 2, cells := 0, slots := 0, locals := 46 } : Room) D (tyL cI cJ cZ cB) [.ref a_o, .int x1, .int x2] (WX9_noSeat cI cJ cZ cB a_o a_o_text a_o_many a_o_views a_o_aisles a_o_readMany a_o_readViews a_o_readAisles a_o_readPage a_o_page a_o_trial a_o_book a_o_kept a_o_isKept a_o_seenSeat a_o_seenWas v_o_thrown v_o_textSize v_o_place v_o_rows v_o_readRows v_o_doings v_o_seen v_o_seed v_o_found v_o_foundViews v_o_foundMany d_o_many) (some (.int res)) := by
  refine Ro.of (cc := cX9_noSeat) (maxL := 3) (ret := (some .boolean)) (own := RX9) (by decide) rfl rfl (Nat.le_of_ble_eq_true rfl) ?_
  intro p e s m below meth c ls C hK hP hl
  obtain ⟨hx, hb, hr, hml, hts, hown, hlk⟩ := id C
  have hl : lv_has ls 3 [(0, .ref a_o), (1, .int x1), (2, .int x2)] := hl
  unfold fX9_noSeat at hf
  refine lv_aload_n hx hb dX9_noSeat_0 rfl (lv_at hl 0 rfl) ?_
  refine lv_iload_n hx hb dX9_noSeat_1 rfl (lv_at hl 1 rfl) ?_
  obtain ⟨q1, hq2, hf⟩ := pf_b hf
  have hPc := hP.sub (ws' := (WX9_noRow cI cJ cZ cB a_o a_o_text a_o_many a_o_views a_o_aisles a_o_readMany a_o_readViews a_o_readAisles a_o_readPage a_o_page a_o_trial a_o_book a_o_kept a_o_isKept a_o_seenSeat a_o_seenWas v_o_thrown v_o_textSize v_o_place v_o_rows v_o_readRows v_o_doings v_o_seen v_o_seed v_o_found v_o_foundViews v_o_foundMany)) [0] rfl
  refine cl_roi (va_runV (As := [.int x1]) (rest := []) ⟨hx, hb, hml, hown, hts⟩ (kX9_noRow l D cI cJ cZ cB a_o a_o_text a_o_many a_o_views a_o_aisles a_o_readMany a_o_readViews a_o_readAisles a_o_readPage a_o_page a_o_trial a_o_book a_o_kept a_o_isKept a_o_seenSeat a_o_seenWas v_o_thrown v_o_textSize v_o_place v_o_rows v_o_readRows v_o_doings v_o_seen v_o_seed v_o_found v_o_foundViews v_o_foundMany x1 q1 hq2) (cwV 1 hts gX9_noSeat_X9_noRow rfl rfl rfl (by decide +kernel) ⟨Nat.le_of_ble_eq_true rfl, Nat.le_of_ble_eq_true rfl⟩) ⟨PRo.blind, va_recv hK.1 hPc (ci := 9) (q0 := 0) rfl rfl, PRo.at hK hPc⟩ rfl rfl hl.1 rfl (lv_room (Nat.le_of_ble_eq_true rfl)) dX9_noSeat_2 ⟨Nat.zero_le _, Nat.zero_le _⟩) ?_
  refine lv_if_ne (tgt := 26) hx hb dX9_noSeat_5 (by decide) (fun hc => ?_) (fun hc => ?_)
  · have hf := pf_f hc hf
    refine lv_iconst (v := (1 : Int32)) hx hb dX9_noSeat_26 (by decide) ?_
    refine lv_goto (tgt := 31) hx hb dX9_noSeat_27 (by decide) ?_
    cases hf
    exact W.zret hx hb hr (nar_b (by decide)) (fun t ht hW => ⟨rfl, ht⟩) (fun _ h => absurd h List.not_mem_nil) dX9_noSeat_31
  · have hf := pf_t hc hf
    refine lv_iload_n hx hb dX9_noSeat_8 rfl (lv_at hl 2 rfl) ?_
    refine lv_i2l (v := (x2).toInt64) hx hb dX9_noSeat_9 rfl ?_
    refine lv_lconst (v := (0 : Int64)) hx hb dX9_noSeat_10 (by decide) ?_
    refine lv_aload_n hx hb dX9_noSeat_11 rfl (lv_at hl 0 rfl) ?_
    refine va_get (D := D) (ci := 9) (v := .ref a_o_many) (C := RX9) (T := TX9) (N := 26) hx hb hts iX9_noSeat_X9 hown hK.1 hP 0 rfl rfl 5 (by decide) (hts (.fieldLink RX9 13 "LoneSeatsModel" "many" "[I") (by decide +kernel)) (fun _ h9 => h9) rfl dX9_noSeat_12 ?_
    refine lv_iload_n hx hb dX9_noSeat_15 rfl (lv_at hl 1 rfl) ?_
    obtain ⟨hg3, hf⟩ := pf_x hf
    refine va_iald hx hb hK.1 hP 1 0 rfl rfl hg3 dX9_noSeat_16 ?_
    refine lv_iconst (v := (1 : Int32)) hx hb dX9_noSeat_17 (by decide) ?_
    refine lv_isub hx hb dX9_noSeat_18 ?_
    refine lv_i2l (v := (((d_o_many (x1).toNatClampNeg) - (1 : Int32))).toInt64) hx hb dX9_noSeat_19 rfl ?_
    obtain ⟨q4, hq5, hf⟩ := pf_b hf
    have hPc := hP.sub (ws' := ([] : va_W)) [] rfl
    refine cl_roi (va_runS (As := [.long ((x2).toInt64), .long (0 : Int64), .long ((((d_o_many (x1).toNatClampNeg) - (1 : Int32))).toInt64)]) (rest := []) ⟨hx, hb, hml, hown, hts⟩ (kX9_in l D cI cJ cZ cB ((x2).toInt64) (0 : Int64) ((((d_o_many (x1).toNatClampNeg) - (1 : Int32))).toInt64) q4 hq5) (va_cwS 3 hts gX9_noSeat_X9_in rfl rfl rfl (by decide +kernel) ⟨Nat.le_of_ble_eq_true rfl, Nat.le_of_ble_eq_true rfl⟩) ⟨PRo.blind, PRo.at hK hPc⟩ rfl rfl hl.1 rfl (lv_room (Nat.le_of_ble_eq_true rfl)) dX9_noSeat_20 ⟨Nat.zero_le _, Nat.zero_le _⟩) ?_
    refine lv_if_ne (tgt := 30) hx hb dX9_noSeat_23 (by decide) (fun hc => ?_) (fun hc => ?_)
    · have hf := pf_f hc hf
      refine lv_iconst (v := (0 : Int32)) hx hb dX9_noSeat_30 (by decide) ?_
      cases hf
      exact W.zret hx hb hr (nar_b (by decide)) (fun t ht hW => ⟨rfl, ht⟩) (fun _ h => absurd h List.not_mem_nil) dX9_noSeat_31
    · have hf := pf_t hc hf
      refine lv_iconst (v := (1 : Int32)) hx hb dX9_noSeat_26 (by decide) ?_
      refine lv_goto (tgt := 31) hx hb dX9_noSeat_27 (by decide) ?_
      cases hf
      exact W.zret hx hb hr (nar_b (by decide)) (fun t ht hW => ⟨rfl, ht⟩) (fun _ h => absurd h List.not_mem_nil) dX9_noSeat_31
abbrev WX9_noParty (cI cJ cZ cB : ClassId) (a_o : Nat) (a_o_text : Nat) (a_o_many : Nat) (a_o_views : Nat) (a_o_aisles : Nat) (a_o_readMany : Nat) (a_o_readViews : Nat) (a_o_readAisles : Nat) (a_o_readPage : Nat) (a_o_page : Nat) (a_o_trial : Nat) (a_o_book : Nat) (a_o_kept : Nat) (a_o_isKept : Nat) (a_o_seenSeat : Nat) (a_o_seenWas : Nat) (v_o_thrown : Int32) (v_o_textSize : Int32) (v_o_place : Int32) (v_o_rows : Int32) (v_o_readRows : Int32) (v_o_doings : Int32) (v_o_seen : Int32) (v_o_seed : Int64) (v_o_found : Int32) (v_o_foundViews : Int32) (v_o_foundMany : Int32) (d_o_page : (Nat → Int32)) : va_W := [(a_o, .inr (9, [.int v_o_thrown, .ref a_o_text, .int v_o_textSize, .int v_o_place, .int v_o_rows, .ref a_o_many, .ref a_o_views, .ref a_o_aisles, .int v_o_readRows, .ref a_o_readMany, .ref a_o_readViews, .ref a_o_readAisles, .ref a_o_readPage, .ref a_o_page, .ref a_o_trial, .ref a_o_book, .int v_o_doings, .ref a_o_kept, .ref a_o_isKept, .int v_o_seen, .ref a_o_seenSeat, .ref a_o_seenWas, .long v_o_seed, .int v_o_found, .int v_o_foundViews, .int v_o_foundMany])), (a_o_page, .inl (cI, (229, .inl d_o_page)))]
set_option maxRecDepth 20000 in
theorem iX9_noParty_X9 : ∀ w ∈ wsX90, w ∈ wsX9_noParty := by decide +kernel
def fX9_noParty (d_o_page : (Nat → Int32)) (x1 : Int32) : Option (Int32) := ((fX9_in ((x1).toInt64) (1 : Int64) (((d_o_page ((6 : Int32)).toNatClampNeg)).toInt64)).bind fun q1 => (if q1 = 0 then some (1 : Int32) else some (0 : Int32)))
set_option maxRecDepth 100000 in
set_option maxHeartbeats 4000000 in
theorem kX9_noParty (l : Launch) (D : va_G) (cI cJ cZ cB : ClassId) (a_o : Nat) (a_o_text : Nat) (a_o_many : Nat) (a_o_views : Nat) (a_o_aisles : Nat) (a_o_readMany : Nat) (a_o_readViews : Nat) (a_o_readAisles : Nat) (a_o_readPage : Nat) (a_o_page : Nat) (a_o_trial : Nat) (a_o_book : Nat) (a_o_kept : Nat) (a_o_isKept : Nat) (a_o_seenSeat : Nat) (a_o_seenWas : Nat) (v_o_thrown : Int32) (v_o_textSize : Int32) (v_o_place : Int32) (v_o_rows : Int32) (v_o_readRows : Int32) (v_o_doings : Int32) (v_o_seen : Int32) (v_o_seed : Int64) (v_o_found : Int32) (v_o_foundViews : Int32) (v_o_foundMany : Int32) (d_o_page : (Nat → Int32)) (x1 : Int32) (res : Int32) (hf : fX9_noParty d_o_page x1 = some res) : Ro l yX9_noParty wsX9_noParty ({ frames := 1, cells := 0, slots := 0, locals := 25 } : Room) D (tyL cI cJ cZ cB) [.ref a_o, .int x1] (WX9_noParty cI cJ cZ cB a_o a_o_text a_o_many a_o_views a_o_aisles a_o_readMany a_o_readViews a_o_readAisles a_o_readPage a_o_page a_o_trial a_o_book a_o_kept a_o_isKept a_o_seenSeat a_o_seenWas v_o_thrown v_o_textSize v_o_place v_o_rows v_o_readRows v_o_doings v_o_seen v_o_seed v_o_found v_o_foundViews v_o_foundMany d_o_page) (some (.int res)) := by
  refine Ro.of (cc := cX9_noParty) (maxL := 2) (ret := (some .boolean)) (own := RX9) (by decide) rfl rfl (Nat.le_of_ble_eq_true rfl) ?_
  intro p e s m below meth c ls C hK hP hl
  obtain ⟨hx, hb, hr, hml, hts, hown, hlk⟩ := id C
  have hl : lv_has ls 2 [(0, .ref a_o), (1, .int x1)] := hl
  unfold fX9_noParty at hf
  refine lv_iload_n hx hb dX9_noParty_0 rfl (lv_at hl 1 rfl) ?_
  refine lv_i2l (v := (x1).toInt64) hx hb dX9_noParty_1 rfl ?_
  refine lv_lconst (v := (1 : Int64)) hx hb dX9_noParty_2 (by decide) ?_
  refine lv_aload_n hx hb dX9_noParty_3 rfl (lv_at hl 0 rfl) ?_
  refine va_get (D := D) (ci := 9) (v := .ref a_o_page) (C := RX9) (T := TX9) (N := 26) hx hb hts iX9_noParty_X9 hown hK.1 hP 0 rfl rfl 13 (by decide) (hts (.fieldLink RX9 35 "LoneSeatsModel" "page" "[I") (by decide +kernel)) (fun _ h9 => h9) rfl dX9_noParty_4 ?_
  refine lv_bipush (v := (6 : Int32)) hx hb dX9_noParty_7 (by decide) ?_
  refine va_iald hx hb hK.1 hP 1 0 rfl rfl (show ¬ ((6 : Int32) < 0 ∨ 229 ≤ ((6 : Int32)).toNatClampNeg) by decide) dX9_noParty_9 ?_
  refine lv_i2l (v := ((d_o_page ((6 : Int32)).toNatClampNeg)).toInt64) hx hb dX9_noParty_10 rfl ?_
  obtain ⟨q1, hq2, hf⟩ := pf_b hf
  have hPc := hP.sub (ws' := ([] : va_W)) [] rfl
  refine cl_roi (va_runS (As := [.long ((x1).toInt64), .long (1 : Int64), .long (((d_o_page ((6 : Int32)).toNatClampNeg)).toInt64)]) (rest := []) ⟨hx, hb, hml, hown, hts⟩ (kX9_in l D cI cJ cZ cB ((x1).toInt64) (1 : Int64) (((d_o_page ((6 : Int32)).toNatClampNeg)).toInt64) q1 hq2) (va_cwS 3 hts gX9_noParty_X9_in rfl rfl rfl (by decide +kernel) ⟨Nat.le_of_ble_eq_true rfl, Nat.le_of_ble_eq_true rfl⟩) ⟨PRo.blind, PRo.at hK hPc⟩ rfl rfl hl.1 rfl (lv_room (Nat.le_of_ble_eq_true rfl)) dX9_noParty_11 ⟨Nat.zero_le _, Nat.zero_le _⟩) ?_
  refine lv_if_ne (tgt := 21) hx hb dX9_noParty_14 (by decide) (fun hc => ?_) (fun hc => ?_)
  · have hf := pf_f hc hf
    refine lv_iconst (v := (0 : Int32)) hx hb dX9_noParty_21 (by decide) ?_
    cases hf
    exact W.zret hx hb hr (nar_b (by decide)) (fun t ht hW => ⟨rfl, ht⟩) (fun _ h => absurd h List.not_mem_nil) dX9_noParty_22
  · have hf := pf_t hc hf
    refine lv_iconst (v := (1 : Int32)) hx hb dX9_noParty_17 (by decide) ?_
    refine lv_goto (tgt := 22) hx hb dX9_noParty_18 (by decide) ?_
    cases hf
    exact W.zret hx hb hr (nar_b (by decide)) (fun t ht hW => ⟨rfl, ht⟩) (fun _ h => absurd h List.not_mem_nil) dX9_noParty_22
def fX9_at (x0 : Int32) : Option (Int32) := some ((49 : Int32) + ((6 : Int32) * (x0 - (1 : Int32))))
set_option maxRecDepth 100000 in
set_option maxHeartbeats 4000000 in
theorem kX9_at (l : Launch) (D : va_G) (cI cJ cZ cB : ClassId) (x0 : Int32) (res : Int32) (hf : fX9_at x0 = some res) : Ro l yX9_at wsX9_at ({ frames := 0, cells := 0, slots := 0, locals := 0 } : Room) D (tyL cI cJ cZ cB) [.int x0] ([] : va_W) (some (.int res)) := by
  refine Ro.of (cc := cX9_at) (maxL := 1) (ret := (some .int)) (own := RX9) (by decide) rfl rfl (Nat.le_of_ble_eq_true rfl) ?_
  intro p e s m below meth c ls C hK hP hl
  obtain ⟨hx, hb, hr, hml, hts, hown, hlk⟩ := id C
  have hl : lv_has ls 1 [(0, .int x0)] := hl
  unfold fX9_at at hf
  refine lv_bipush (v := (49 : Int32)) hx hb dX9_at_0 (by decide) ?_
  refine lv_bipush (v := (6 : Int32)) hx hb dX9_at_2 (by decide) ?_
  refine lv_iload_n hx hb dX9_at_4 rfl (lv_at hl 0 rfl) ?_
  refine lv_iconst (v := (1 : Int32)) hx hb dX9_at_5 (by decide) ?_
  refine lv_isub hx hb dX9_at_6 ?_
  refine lv_imul hx hb dX9_at_7 ?_
  refine lv_iadd hx hb dX9_at_8 ?_
  cases hf
  exact W.iret hx hb hr (fun t ht hW => ⟨rfl, ht⟩) (fun _ h => absurd h List.not_mem_nil) dX9_at_9
abbrev WX9_write (cI cJ cZ cB : ClassId) (a_o : Nat) (a_o_text : Nat) (a_o_many : Nat) (a_o_views : Nat) (a_o_aisles : Nat) (a_o_readMany : Nat) (a_o_readViews : Nat) (a_o_readAisles : Nat) (a_o_readPage : Nat) (a_o_page : Nat) (a_o_trial : Nat) (a_o_book : Nat) (a_o_kept : Nat) (a_o_isKept : Nat) (a_o_seenSeat : Nat) (a_o_seenWas : Nat) (v_o_thrown : Int32) (v_o_textSize : Int32) (v_o_place : Int32) (v_o_rows : Int32) (v_o_readRows : Int32) (v_o_doings : Int32) (v_o_seen : Int32) (v_o_seed : Int64) (v_o_found : Int32) (v_o_foundViews : Int32) (v_o_foundMany : Int32) (d_o_text : (Nat → Int32)) : va_W := [(a_o, .inr (9, [.int v_o_thrown, .ref a_o_text, .int v_o_textSize, .int v_o_place, .int v_o_rows, .ref a_o_many, .ref a_o_views, .ref a_o_aisles, .int v_o_readRows, .ref a_o_readMany, .ref a_o_readViews, .ref a_o_readAisles, .ref a_o_readPage, .ref a_o_page, .ref a_o_trial, .ref a_o_book, .int v_o_doings, .ref a_o_kept, .ref a_o_isKept, .int v_o_seen, .ref a_o_seenSeat, .ref a_o_seenWas, .long v_o_seed, .int v_o_found, .int v_o_foundViews, .int v_o_foundMany])), (a_o_text, .inl (cI, (80, .inl d_o_text)))]
set_option maxRecDepth 20000 in
theorem iX9_write_X9 : ∀ w ∈ wsX90, w ∈ wsX9_write := by decide +kernel
def fX9_write (v_o_thrown : Int32) (v_o_textSize : Int32) (d_o_text : (Nat → Int32)) (x1 : Int32) : Option (Int32 × Int32 × Int32 × (Nat → Int32)) := ((fX9_in ((x1).toInt64) (0 : Int64) (255 : Int64)).bind fun q1 => (if q1 = 0 then some ((-2 : Int32), (0 : Int32), v_o_textSize, d_o_text) else (if v_o_textSize = (80 : Int32) then some ((-4 : Int32), (0 : Int32), v_o_textSize, d_o_text) else (if v_o_textSize < 0 ∨ 80 ≤ (v_o_textSize).toNatClampNeg then none else some ((v_o_textSize + (1 : Int32)), (0 : Int32), (v_o_textSize + (1 : Int32)), (upd d_o_text ((v_o_textSize).toNatClampNeg) x1))))))
set_option maxRecDepth 100000 in
set_option maxHeartbeats 4000000 in
theorem kX9_write (l : Launch) (D : va_G) (cI cJ cZ cB : ClassId) (a_o : Nat) (a_o_text : Nat) (a_o_many : Nat) (a_o_views : Nat) (a_o_aisles : Nat) (a_o_readMany : Nat) (a_o_readViews : Nat) (a_o_readAisles : Nat) (a_o_readPage : Nat) (a_o_page : Nat) (a_o_trial : Nat) (a_o_book : Nat) (a_o_kept : Nat) (a_o_isKept : Nat) (a_o_seenSeat : Nat) (a_o_seenWas : Nat) (v_o_thrown : Int32) (v_o_textSize : Int32) (v_o_place : Int32) (v_o_rows : Int32) (v_o_readRows : Int32) (v_o_doings : Int32) (v_o_seen : Int32) (v_o_seed : Int64) (v_o_found : Int32) (v_o_foundViews : Int32) (v_o_foundMany : Int32) (d_o_text : (Nat → Int32)) (x1 : Int32) (res : Int32 × Int32 × Int32 × (Nat → Int32)) (hf : fX9_write v_o_thrown v_o_textSize d_o_text x1 = some res) : Rw l yX9_write wsX9_write ({ frames := 1, cells := 0, slots := 0, locals := 25 } : Room) D (tyL cI cJ cZ cB) [.ref a_o, .int x1] (WX9_write cI cJ cZ cB a_o a_o_text a_o_many a_o_views a_o_aisles a_o_readMany a_o_readViews a_o_readAisles a_o_readPage a_o_page a_o_trial a_o_book a_o_kept a_o_isKept a_o_seenSeat a_o_seenWas v_o_thrown v_o_textSize v_o_place v_o_rows v_o_readRows v_o_doings v_o_seen v_o_seed v_o_found v_o_foundViews v_o_foundMany d_o_text) (some (.int res.1)) (WX9_write cI cJ cZ cB a_o a_o_text a_o_many a_o_views a_o_aisles a_o_readMany a_o_readViews a_o_readAisles a_o_readPage a_o_page a_o_trial a_o_book a_o_kept a_o_isKept a_o_seenSeat a_o_seenWas res.2.1 res.2.2.1 v_o_place v_o_rows v_o_readRows v_o_doings v_o_seen v_o_seed v_o_found v_o_foundViews v_o_foundMany res.2.2.2) := by
  refine Rw.of (cc := cX9_write) (maxL := 2) (ret := (some .int)) (own := RX9) (by decide) rfl rfl (Nat.le_of_ble_eq_true rfl) ?_
  intro p e s m below meth c A ls C hK hA hP hD hS hl
  obtain ⟨hx, hb, hr, hml, hts, hown, hlk⟩ := id C
  have hl : lv_has ls 2 [(0, .ref a_o), (1, .int x1)] := hl
  unfold fX9_write at hf
  refine lv_aload_n hx hb dX9_write_0 rfl (lv_at hl 0 rfl) ?_
  refine lv_iconst (v := (0 : Int32)) hx hb dX9_write_1 (by decide) ?_
  refine va_put (D := D) (ci := 9) (v := .int (0 : Int32)) (ty := .int) (C := RX9) (T := TX9) (N := 26) hx hb hts iX9_write_X9 tyX9 tyX9_ok nmX9 hown hK.1 hP hD hS 0 rfl rfl 0 (by decide) (hts (.fieldLink RX9 60 "LoneSeatsModel" "thrown" "I") (by decide +kernel)) (fun _ h9 => h9) rfl (by decide +kernel) rfl rfl (Nat.le_of_ble_eq_true rfl) dX9_write_2 (fun H locs hP hD hS => ?_)
  have hP : va_P D vwCl (WX9_write cI cJ cZ cB a_o a_o_text a_o_many a_o_views a_o_aisles a_o_readMany a_o_readViews a_o_readAisles a_o_readPage a_o_page a_o_trial a_o_book a_o_kept a_o_isKept a_o_seenSeat a_o_seenWas (0 : Int32) v_o_textSize v_o_place v_o_rows v_o_readRows v_o_doings v_o_seen v_o_seed v_o_found v_o_foundViews v_o_foundMany d_o_text) H := hP
  have hD : va_D A (WX9_write cI cJ cZ cB a_o a_o_text a_o_many a_o_views a_o_aisles a_o_readMany a_o_readViews a_o_readAisles a_o_readPage a_o_page a_o_trial a_o_book a_o_kept a_o_isKept a_o_seenSeat a_o_seenWas (0 : Int32) v_o_textSize v_o_place v_o_rows v_o_readRows v_o_doings v_o_seen v_o_seed v_o_found v_o_foundViews v_o_foundMany d_o_text) := hD
  refine lv_iload_n hx hb dX9_write_5 rfl (lv_at hl 1 rfl) ?_
  refine lv_i2l (v := (x1).toInt64) hx hb dX9_write_6 rfl ?_
  refine lv_lconst (v := (0 : Int64)) hx hb dX9_write_7 (by decide) ?_
  refine lv_ldc2 (v := (255 : Int64)) hx hb hown (hts (.constantLong RX9 74 (255 : Int64)) (by decide +kernel)) dX9_write_8 ?_
  obtain ⟨q1, hq2, hf⟩ := pf_b hf
  have hPc := hP.sub (ws' := ([] : va_W)) [] rfl
  refine cl_roi (va_runS (As := [.long ((x1).toInt64), .long (0 : Int64), .long (255 : Int64)]) (rest := []) ⟨hx, hb, hml, hown, hts⟩ (kX9_in l D cI cJ cZ cB ((x1).toInt64) (0 : Int64) (255 : Int64) q1 hq2) (va_cwS 3 hts gX9_write_X9_in rfl rfl rfl (by decide +kernel) ⟨Nat.le_of_ble_eq_true rfl, Nat.le_of_ble_eq_true rfl⟩) ⟨PRo.blind, PRo.at hK hPc⟩ rfl rfl hl.1 rfl (lv_room (Nat.le_of_ble_eq_true rfl)) dX9_write_11 ⟨Nat.zero_le _, Nat.zero_le _⟩) ?_
  refine lv_if_ne (tgt := 20) hx hb dX9_write_14 (by decide) (fun hc => ?_) (fun hc => ?_)
  · have hf := pf_f hc hf
    refine lv_aload_n hx hb dX9_write_20 rfl (lv_at hl 0 rfl) ?_
    refine va_get (D := D) (ci := 9) (v := .int v_o_textSize) (C := RX9) (T := TX9) (N := 26) hx hb hts iX9_write_X9 hown hK.1 hP 0 rfl rfl 2 (by decide) (hts (.fieldLink RX9 76 "LoneSeatsModel" "textSize" "I") (by decide +kernel)) (fun _ h9 => h9) rfl dX9_write_21 ?_
    refine lv_bipush (v := (80 : Int32)) hx hb dX9_write_24 (by decide) ?_
    refine lv_icmp_ne (tgt := 32) hx hb dX9_write_26 (by decide) (fun hc => ?_) (fun hc => ?_)
    · have hf := pf_f hc hf
      refine lv_aload_n hx hb dX9_write_32 rfl (lv_at hl 0 rfl) ?_
      refine va_get (D := D) (ci := 9) (v := .ref a_o_text) (C := RX9) (T := TX9) (N := 26) hx hb hts iX9_write_X9 hown hK.1 hP 0 rfl rfl 1 (by decide) (hts (.fieldLink RX9 7 "LoneSeatsModel" "text" "[I") (by decide +kernel)) (fun _ h9 => h9) rfl dX9_write_33 ?_
      refine lv_aload_n hx hb dX9_write_36 rfl (lv_at hl 0 rfl) ?_
      refine va_get (D := D) (ci := 9) (v := .int v_o_textSize) (C := RX9) (T := TX9) (N := 26) hx hb hts iX9_write_X9 hown hK.1 hP 0 rfl rfl 2 (by decide) (hts (.fieldLink RX9 76 "LoneSeatsModel" "textSize" "I") (by decide +kernel)) (fun _ h9 => h9) rfl dX9_write_37 ?_
      refine lv_iload_n hx hb dX9_write_40 rfl (lv_at hl 1 rfl) ?_
      obtain ⟨hg3, hf⟩ := pf_x hf
      refine va_iast hx hb hK.1 hP hD hS 1 0 rfl rfl hg3 dX9_write_41 (fun H locs hP hD hS => ?_)
      have hP : va_P D vwCl (WX9_write cI cJ cZ cB a_o a_o_text a_o_many a_o_views a_o_aisles a_o_readMany a_o_readViews a_o_readAisles a_o_readPage a_o_page a_o_trial a_o_book a_o_kept a_o_isKept a_o_seenSeat a_o_seenWas (0 : Int32) v_o_textSize v_o_place v_o_rows v_o_readRows v_o_doings v_o_seen v_o_seed v_o_found v_o_foundViews v_o_foundMany (upd d_o_text ((v_o_textSize).toNatClampNeg) x1)) H := hP
      have hD : va_D A (WX9_write cI cJ cZ cB a_o a_o_text a_o_many a_o_views a_o_aisles a_o_readMany a_o_readViews a_o_readAisles a_o_readPage a_o_page a_o_trial a_o_book a_o_kept a_o_isKept a_o_seenSeat a_o_seenWas (0 : Int32) v_o_textSize v_o_place v_o_rows v_o_readRows v_o_doings v_o_seen v_o_seed v_o_found v_o_foundViews v_o_foundMany (upd d_o_text ((v_o_textSize).toNatClampNeg) x1)) := hD
      refine lv_aload_n hx hb dX9_write_42 rfl (lv_at hl 0 rfl) ?_
      refine lv_dup hx hb dX9_write_43 rfl ?_
      refine va_get (D := D) (ci := 9) (v := .int v_o_textSize) (C := RX9) (T := TX9) (N := 26) hx hb hts iX9_write_X9 hown hK.1 hP 0 rfl rfl 2 (by decide) (hts (.fieldLink RX9 76 "LoneSeatsModel" "textSize" "I") (by decide +kernel)) (fun _ h9 => h9) rfl dX9_write_44 ?_
      refine lv_iconst (v := (1 : Int32)) hx hb dX9_write_47 (by decide) ?_
      refine lv_iadd hx hb dX9_write_48 ?_
      refine va_put (D := D) (ci := 9) (v := .int (v_o_textSize + (1 : Int32))) (ty := .int) (C := RX9) (T := TX9) (N := 26) hx hb hts iX9_write_X9 tyX9 tyX9_ok nmX9 hown hK.1 hP hD hS 0 rfl rfl 2 (by decide) (hts (.fieldLink RX9 76 "LoneSeatsModel" "textSize" "I") (by decide +kernel)) (fun _ h9 => h9) rfl (by decide +kernel) rfl rfl (Nat.le_of_ble_eq_true rfl) dX9_write_49 (fun H locs hP hD hS => ?_)
      have hP : va_P D vwCl (WX9_write cI cJ cZ cB a_o a_o_text a_o_many a_o_views a_o_aisles a_o_readMany a_o_readViews a_o_readAisles a_o_readPage a_o_page a_o_trial a_o_book a_o_kept a_o_isKept a_o_seenSeat a_o_seenWas (0 : Int32) (v_o_textSize + (1 : Int32)) v_o_place v_o_rows v_o_readRows v_o_doings v_o_seen v_o_seed v_o_found v_o_foundViews v_o_foundMany (upd d_o_text ((v_o_textSize).toNatClampNeg) x1)) H := hP
      have hD : va_D A (WX9_write cI cJ cZ cB a_o a_o_text a_o_many a_o_views a_o_aisles a_o_readMany a_o_readViews a_o_readAisles a_o_readPage a_o_page a_o_trial a_o_book a_o_kept a_o_isKept a_o_seenSeat a_o_seenWas (0 : Int32) (v_o_textSize + (1 : Int32)) v_o_place v_o_rows v_o_readRows v_o_doings v_o_seen v_o_seed v_o_found v_o_foundViews v_o_foundMany (upd d_o_text ((v_o_textSize).toNatClampNeg) x1)) := hD
      refine lv_aload_n hx hb dX9_write_52 rfl (lv_at hl 0 rfl) ?_
      refine va_get (D := D) (ci := 9) (v := .int (v_o_textSize + (1 : Int32))) (C := RX9) (T := TX9) (N := 26) hx hb hts iX9_write_X9 hown hK.1 hP 0 rfl rfl 2 (by decide) (hts (.fieldLink RX9 76 "LoneSeatsModel" "textSize" "I") (by decide +kernel)) (fun _ h9 => h9) rfl dX9_write_53 ?_
      cases hf
      exact W.iret hx hb hr (fun t ht hW => ⟨⟨rfl, by rw [ht]; exact hP, hD⟩, hS.F ht⟩) hS.2.2 dX9_write_56
    · have hf := pf_t hc hf
      refine lv_bipush (v := (-4 : Int32)) hx hb dX9_write_29 (by decide) ?_
      cases hf
      exact W.iret hx hb hr (fun t ht hW => ⟨⟨rfl, by rw [ht]; exact hP, hD⟩, hS.F ht⟩) hS.2.2 dX9_write_31
  · have hf := pf_t hc hf
    refine lv_bipush (v := (-2 : Int32)) hx hb dX9_write_17 (by decide) ?_
    cases hf
    exact W.iret hx hb hr (fun t ht hW => ⟨⟨rfl, by rw [ht]; exact hP, hD⟩, hS.F ht⟩) hS.2.2 dX9_write_19
abbrev WX9_wipe (cI cJ cZ cB : ClassId) (a_o : Nat) (a_o_text : Nat) (a_o_many : Nat) (a_o_views : Nat) (a_o_aisles : Nat) (a_o_readMany : Nat) (a_o_readViews : Nat) (a_o_readAisles : Nat) (a_o_readPage : Nat) (a_o_page : Nat) (a_o_trial : Nat) (a_o_book : Nat) (a_o_kept : Nat) (a_o_isKept : Nat) (a_o_seenSeat : Nat) (a_o_seenWas : Nat) (v_o_thrown : Int32) (v_o_textSize : Int32) (v_o_place : Int32) (v_o_rows : Int32) (v_o_readRows : Int32) (v_o_doings : Int32) (v_o_seen : Int32) (v_o_seed : Int64) (v_o_found : Int32) (v_o_foundViews : Int32) (v_o_foundMany : Int32) : va_W := [(a_o, .inr (9, [.int v_o_thrown, .ref a_o_text, .int v_o_textSize, .int v_o_place, .int v_o_rows, .ref a_o_many, .ref a_o_views, .ref a_o_aisles, .int v_o_readRows, .ref a_o_readMany, .ref a_o_readViews, .ref a_o_readAisles, .ref a_o_readPage, .ref a_o_page, .ref a_o_trial, .ref a_o_book, .int v_o_doings, .ref a_o_kept, .ref a_o_isKept, .int v_o_seen, .ref a_o_seenSeat, .ref a_o_seenWas, .long v_o_seed, .int v_o_found, .int v_o_foundViews, .int v_o_foundMany]))]
set_option maxRecDepth 20000 in
theorem iX9_wipe_X9 : ∀ w ∈ wsX90, w ∈ wsX9_wipe := by decide +kernel
def fX9_wipe (v_o_thrown : Int32) (v_o_textSize : Int32) : Option (Int32 × Int32 × Int32) := some (v_o_textSize, (0 : Int32), (0 : Int32))
set_option maxRecDepth 100000 in
set_option maxHeartbeats 4000000 in
theorem kX9_wipe (l : Launch) (D : va_G) (cI cJ cZ cB : ClassId) (a_o : Nat) (a_o_text : Nat) (a_o_many : Nat) (a_o_views : Nat) (a_o_aisles : Nat) (a_o_readMany : Nat) (a_o_readViews : Nat) (a_o_readAisles : Nat) (a_o_readPage : Nat) (a_o_page : Nat) (a_o_trial : Nat) (a_o_book : Nat) (a_o_kept : Nat) (a_o_isKept : Nat) (a_o_seenSeat : Nat) (a_o_seenWas : Nat) (v_o_thrown : Int32) (v_o_textSize : Int32) (v_o_place : Int32) (v_o_rows : Int32) (v_o_readRows : Int32) (v_o_doings : Int32) (v_o_seen : Int32) (v_o_seed : Int64) (v_o_found : Int32) (v_o_foundViews : Int32) (v_o_foundMany : Int32) (res : Int32 × Int32 × Int32) (hf : fX9_wipe v_o_thrown v_o_textSize = some res) : Rw l yX9_wipe wsX9_wipe ({ frames := 0, cells := 0, slots := 0, locals := 0 } : Room) D (tyL cI cJ cZ cB) [.ref a_o] (WX9_wipe cI cJ cZ cB a_o a_o_text a_o_many a_o_views a_o_aisles a_o_readMany a_o_readViews a_o_readAisles a_o_readPage a_o_page a_o_trial a_o_book a_o_kept a_o_isKept a_o_seenSeat a_o_seenWas v_o_thrown v_o_textSize v_o_place v_o_rows v_o_readRows v_o_doings v_o_seen v_o_seed v_o_found v_o_foundViews v_o_foundMany) (some (.int res.1)) (WX9_wipe cI cJ cZ cB a_o a_o_text a_o_many a_o_views a_o_aisles a_o_readMany a_o_readViews a_o_readAisles a_o_readPage a_o_page a_o_trial a_o_book a_o_kept a_o_isKept a_o_seenSeat a_o_seenWas res.2.1 res.2.2 v_o_place v_o_rows v_o_readRows v_o_doings v_o_seen v_o_seed v_o_found v_o_foundViews v_o_foundMany) := by
  refine Rw.of (cc := cX9_wipe) (maxL := 2) (ret := (some .int)) (own := RX9) (by decide) rfl rfl (Nat.le_of_ble_eq_true rfl) ?_
  intro p e s m below meth c A ls C hK hA hP hD hS hl
  obtain ⟨hx, hb, hr, hml, hts, hown, hlk⟩ := id C
  have hl : lv_has ls 2 [(0, .ref a_o)] := hl
  unfold fX9_wipe at hf
  refine lv_aload_n hx hb dX9_wipe_0 rfl (lv_at hl 0 rfl) ?_
  refine lv_iconst (v := (0 : Int32)) hx hb dX9_wipe_1 (by decide) ?_
  refine va_put (D := D) (ci := 9) (v := .int (0 : Int32)) (ty := .int) (C := RX9) (T := TX9) (N := 26) hx hb hts iX9_wipe_X9 tyX9 tyX9_ok nmX9 hown hK.1 hP hD hS 0 rfl rfl 0 (by decide) (hts (.fieldLink RX9 60 "LoneSeatsModel" "thrown" "I") (by decide +kernel)) (fun _ h9 => h9) rfl (by decide +kernel) rfl rfl (Nat.le_of_ble_eq_true rfl) dX9_wipe_2 (fun H locs hP hD hS => ?_)
  have hP : va_P D vwCl (WX9_wipe cI cJ cZ cB a_o a_o_text a_o_many a_o_views a_o_aisles a_o_readMany a_o_readViews a_o_readAisles a_o_readPage a_o_page a_o_trial a_o_book a_o_kept a_o_isKept a_o_seenSeat a_o_seenWas (0 : Int32) v_o_textSize v_o_place v_o_rows v_o_readRows v_o_doings v_o_seen v_o_seed v_o_found v_o_foundViews v_o_foundMany) H := hP
  have hD : va_D A (WX9_wipe cI cJ cZ cB a_o a_o_text a_o_many a_o_views a_o_aisles a_o_readMany a_o_readViews a_o_readAisles a_o_readPage a_o_page a_o_trial a_o_book a_o_kept a_o_isKept a_o_seenSeat a_o_seenWas (0 : Int32) v_o_textSize v_o_place v_o_rows v_o_readRows v_o_doings v_o_seen v_o_seed v_o_found v_o_foundViews v_o_foundMany) := hD
  refine lv_aload_n hx hb dX9_wipe_5 rfl (lv_at hl 0 rfl) ?_
  refine va_get (D := D) (ci := 9) (v := .int v_o_textSize) (C := RX9) (T := TX9) (N := 26) hx hb hts iX9_wipe_X9 hown hK.1 hP 0 rfl rfl 2 (by decide) (hts (.fieldLink RX9 76 "LoneSeatsModel" "textSize" "I") (by decide +kernel)) (fun _ h9 => h9) rfl dX9_wipe_6 ?_
  refine lv_istore_n (lv' := [(1, .int v_o_textSize), (0, .ref a_o)]) hx hb dX9_wipe_9 rfl hl (by decide) rfl (fun ls hl => ?_)
  refine lv_aload_n hx hb dX9_wipe_10 rfl (lv_at hl 1 rfl) ?_
  refine lv_iconst (v := (0 : Int32)) hx hb dX9_wipe_11 (by decide) ?_
  refine va_put (D := D) (ci := 9) (v := .int (0 : Int32)) (ty := .int) (C := RX9) (T := TX9) (N := 26) hx hb hts iX9_wipe_X9 tyX9 tyX9_ok nmX9 hown hK.1 hP hD hS 0 rfl rfl 2 (by decide) (hts (.fieldLink RX9 76 "LoneSeatsModel" "textSize" "I") (by decide +kernel)) (fun _ h9 => h9) rfl (by decide +kernel) rfl rfl (Nat.le_of_ble_eq_true rfl) dX9_wipe_12 (fun H locs hP hD hS => ?_)
  have hP : va_P D vwCl (WX9_wipe cI cJ cZ cB a_o a_o_text a_o_many a_o_views a_o_aisles a_o_readMany a_o_readViews a_o_readAisles a_o_readPage a_o_page a_o_trial a_o_book a_o_kept a_o_isKept a_o_seenSeat a_o_seenWas (0 : Int32) (0 : Int32) v_o_place v_o_rows v_o_readRows v_o_doings v_o_seen v_o_seed v_o_found v_o_foundViews v_o_foundMany) H := hP
  have hD : va_D A (WX9_wipe cI cJ cZ cB a_o a_o_text a_o_many a_o_views a_o_aisles a_o_readMany a_o_readViews a_o_readAisles a_o_readPage a_o_page a_o_trial a_o_book a_o_kept a_o_isKept a_o_seenSeat a_o_seenWas (0 : Int32) (0 : Int32) v_o_place v_o_rows v_o_readRows v_o_doings v_o_seen v_o_seed v_o_found v_o_foundViews v_o_foundMany) := hD
  refine lv_iload_n hx hb dX9_wipe_15 rfl (lv_at hl 0 rfl) ?_
  cases hf
  exact W.iret hx hb hr (fun t ht hW => ⟨⟨rfl, by rw [ht]; exact hP, hD⟩, hS.F ht⟩) hS.2.2 dX9_wipe_16
abbrev WX9_figure (cI cJ cZ cB : ClassId) (a_o : Nat) (a_o_text : Nat) (a_o_many : Nat) (a_o_views : Nat) (a_o_aisles : Nat) (a_o_readMany : Nat) (a_o_readViews : Nat) (a_o_readAisles : Nat) (a_o_readPage : Nat) (a_o_page : Nat) (a_o_trial : Nat) (a_o_book : Nat) (a_o_kept : Nat) (a_o_isKept : Nat) (a_o_seenSeat : Nat) (a_o_seenWas : Nat) (v_o_thrown : Int32) (v_o_textSize : Int32) (v_o_place : Int32) (v_o_rows : Int32) (v_o_readRows : Int32) (v_o_doings : Int32) (v_o_seen : Int32) (v_o_seed : Int64) (v_o_found : Int32) (v_o_foundViews : Int32) (v_o_foundMany : Int32) (d_o_text : (Nat → Int32)) : va_W := [(a_o, .inr (9, [.int v_o_thrown, .ref a_o_text, .int v_o_textSize, .int v_o_place, .int v_o_rows, .ref a_o_many, .ref a_o_views, .ref a_o_aisles, .int v_o_readRows, .ref a_o_readMany, .ref a_o_readViews, .ref a_o_readAisles, .ref a_o_readPage, .ref a_o_page, .ref a_o_trial, .ref a_o_book, .int v_o_doings, .ref a_o_kept, .ref a_o_isKept, .int v_o_seen, .ref a_o_seenSeat, .ref a_o_seenWas, .long v_o_seed, .int v_o_found, .int v_o_foundViews, .int v_o_foundMany])), (a_o_text, .inl (cI, (80, .inl d_o_text)))]
set_option maxRecDepth 20000 in
theorem iX9_figure_X9 : ∀ w ∈ wsX90, w ∈ wsX9_figure := by decide +kernel
def fX9_figure_28 (v_o_textSize : Int32) (v_o_place : Int32) (d_o_text : (Nat → Int32)) (x1 : Int32) (x2 : Int32) (k0 : Int32) : Option (Int32 × Int32) := ((fX9_in ((k0).toInt64) ((x1).toInt64) ((x2).toInt64)).bind fun q1 => (if q1 = 0 then some ((-9 : Int32), v_o_place) else some (k0, (v_o_place + (1 : Int32)))))
set_option maxRecDepth 100000 in
set_option maxHeartbeats 4000000 in
theorem tX9_figure_28 {p : Program} {l : Launch} {e : Env} {s : State} {m : MethodId} {args : Array Value} {below : List Frame} {meth : Method} {c : Code} {D : va_G} {cI cJ cZ cB : ClassId} {a_o : Nat} {a_o_text : Nat} {a_o_many : Nat} {a_o_views : Nat} {a_o_aisles : Nat} {a_o_readMany : Nat} {a_o_readViews : Nat} {a_o_readAisles : Nat} {a_o_readPage : Nat} {a_o_page : Nat} {a_o_trial : Nat} {a_o_book : Nat} {a_o_kept : Nat} {a_o_isKept : Nat} {a_o_seenSeat : Nat} {a_o_seenWas : Nat} {A : Nat → Prop} (C : Cx p s m args meth c cX9_figure 4 (some .int) wsX9_figure RX9) (hK : Kw D (tyL cI cJ cZ cB) s) (hA : ∀ q : Nat, s.heap.size ≤ q → A q) : ∀ (v_o_thrown : Int32) (v_o_textSize : Int32) (v_o_place : Int32) (v_o_rows : Int32) (v_o_readRows : Int32) (v_o_doings : Int32) (v_o_seen : Int32) (v_o_seed : Int64) (v_o_found : Int32) (v_o_foundViews : Int32) (v_o_foundMany : Int32) (d_o_text : (Nat → Int32)) (x1 : Int32) (x2 : Int32) (k0 : Int32) (H : Heap) (locs : List Loc) (ls : Array Slot) (res : Int32 × Int32), va_P D vwCl (WX9_figure cI cJ cZ cB a_o a_o_text a_o_many a_o_views a_o_aisles a_o_readMany a_o_readViews a_o_readAisles a_o_readPage a_o_page a_o_trial a_o_book a_o_kept a_o_isKept a_o_seenSeat a_o_seenWas v_o_thrown v_o_textSize v_o_place v_o_rows v_o_readRows v_o_doings v_o_seen v_o_seed v_o_found v_o_foundViews v_o_foundMany d_o_text) H → va_D A (WX9_figure cI cJ cZ cB a_o a_o_text a_o_many a_o_views a_o_aisles a_o_readMany a_o_readViews a_o_readAisles a_o_readPage a_o_page a_o_trial a_o_book a_o_kept a_o_isKept a_o_seenSeat a_o_seenWas v_o_thrown v_o_textSize v_o_place v_o_rows v_o_readRows v_o_doings v_o_seen v_o_seed v_o_found v_o_foundViews v_o_foundMany d_o_text) → va_S A s.heap H locs → lv_has ls 4 [(0, .ref a_o), (1, .int x1), (2, .int x2)] → fX9_figure_28 v_o_textSize v_o_place d_o_text x1 x2 k0 = some res → W p l e ({ frames := 1, cells := 0, slots := 0, locals := 25 } : Room) s m args below meth c H locs 0 0 (MQ below (QRw D A (WX9_figure cI cJ cZ cB a_o a_o_text a_o_many a_o_views a_o_aisles a_o_readMany a_o_readViews a_o_readAisles a_o_readPage a_o_page a_o_trial a_o_book a_o_kept a_o_isKept a_o_seenSeat a_o_seenWas v_o_thrown v_o_textSize res.2 v_o_rows v_o_readRows v_o_doings v_o_seen v_o_seed v_o_found v_o_foundViews v_o_foundMany d_o_text) (some (.int res.1))) args s 0 0 A) (F0 m 28 ls [.int k0]) := by
  obtain ⟨hx, hb, hr, hml, hts, hown, hlk⟩ := id C
  intro v_o_thrown v_o_textSize v_o_place v_o_rows v_o_readRows v_o_doings v_o_seen v_o_seed v_o_found v_o_foundViews v_o_foundMany d_o_text x1 x2 k0 H locs ls res hP hD hS hl hf
  unfold fX9_figure_28 at hf
  refine lv_istore_n (lv' := [(3, .int k0), (0, .ref a_o), (1, .int x1), (2, .int x2)]) hx hb dX9_figure_28 rfl hl (by decide) rfl (fun ls hl => ?_)
  refine lv_iload_n hx hb dX9_figure_29 rfl (lv_at hl 0 rfl) ?_
  refine lv_i2l (v := (k0).toInt64) hx hb dX9_figure_30 rfl ?_
  refine lv_iload_n hx hb dX9_figure_31 rfl (lv_at hl 2 rfl) ?_
  refine lv_i2l (v := (x1).toInt64) hx hb dX9_figure_32 rfl ?_
  refine lv_iload_n hx hb dX9_figure_33 rfl (lv_at hl 3 rfl) ?_
  refine lv_i2l (v := (x2).toInt64) hx hb dX9_figure_34 rfl ?_
  obtain ⟨q1, hq2, hf⟩ := pf_b hf
  have hPc := hP.sub (ws' := ([] : va_W)) [] rfl
  refine cl_roi (va_runS (As := [.long ((k0).toInt64), .long ((x1).toInt64), .long ((x2).toInt64)]) (rest := []) ⟨hx, hb, hml, hown, hts⟩ (kX9_in l D cI cJ cZ cB ((k0).toInt64) ((x1).toInt64) ((x2).toInt64) q1 hq2) (va_cwS 3 hts gX9_figure_X9_in rfl rfl rfl (by decide +kernel) ⟨Nat.le_of_ble_eq_true rfl, Nat.le_of_ble_eq_true rfl⟩) ⟨PRo.blind, PRo.at hK hPc⟩ rfl rfl hl.1 rfl (lv_room (Nat.le_of_ble_eq_true rfl)) dX9_figure_35 ⟨Nat.zero_le _, Nat.zero_le _⟩) ?_
  refine lv_if_ne (tgt := 44) hx hb dX9_figure_38 (by decide) (fun hc => ?_) (fun hc => ?_)
  · have hf := pf_f hc hf
    refine lv_aload_n hx hb dX9_figure_44 rfl (lv_at hl 1 rfl) ?_
    refine lv_dup hx hb dX9_figure_45 rfl ?_
    refine va_get (D := D) (ci := 9) (v := .int v_o_place) (C := RX9) (T := TX9) (N := 26) hx hb hts iX9_figure_X9 hown hK.1 hP 0 rfl rfl 3 (by decide) (hts (.fieldLink RX9 79 "LoneSeatsModel" "place" "I") (by decide +kernel)) (fun _ h9 => h9) rfl dX9_figure_46 ?_
    refine lv_iconst (v := (1 : Int32)) hx hb dX9_figure_49 (by decide) ?_
    refine lv_iadd hx hb dX9_figure_50 ?_
    refine va_put (D := D) (ci := 9) (v := .int (v_o_place + (1 : Int32))) (ty := .int) (C := RX9) (T := TX9) (N := 26) hx hb hts iX9_figure_X9 tyX9 tyX9_ok nmX9 hown hK.1 hP hD hS 0 rfl rfl 3 (by decide) (hts (.fieldLink RX9 79 "LoneSeatsModel" "place" "I") (by decide +kernel)) (fun _ h9 => h9) rfl (by decide +kernel) rfl rfl (Nat.le_of_ble_eq_true rfl) dX9_figure_51 (fun H locs hP hD hS => ?_)
    have hP : va_P D vwCl (WX9_figure cI cJ cZ cB a_o a_o_text a_o_many a_o_views a_o_aisles a_o_readMany a_o_readViews a_o_readAisles a_o_readPage a_o_page a_o_trial a_o_book a_o_kept a_o_isKept a_o_seenSeat a_o_seenWas v_o_thrown v_o_textSize (v_o_place + (1 : Int32)) v_o_rows v_o_readRows v_o_doings v_o_seen v_o_seed v_o_found v_o_foundViews v_o_foundMany d_o_text) H := hP
    have hD : va_D A (WX9_figure cI cJ cZ cB a_o a_o_text a_o_many a_o_views a_o_aisles a_o_readMany a_o_readViews a_o_readAisles a_o_readPage a_o_page a_o_trial a_o_book a_o_kept a_o_isKept a_o_seenSeat a_o_seenWas v_o_thrown v_o_textSize (v_o_place + (1 : Int32)) v_o_rows v_o_readRows v_o_doings v_o_seen v_o_seed v_o_found v_o_foundViews v_o_foundMany d_o_text) := hD
    refine lv_iload_n hx hb dX9_figure_54 rfl (lv_at hl 0 rfl) ?_
    cases hf
    exact W.iret hx hb hr (fun t ht hW => ⟨⟨rfl, by rw [ht]; exact hP, hD⟩, hS.F ht⟩) hS.2.2 dX9_figure_55
  · have hf := pf_t hc hf
    refine lv_bipush (v := (-9 : Int32)) hx hb dX9_figure_41 (by decide) ?_
    cases hf
    exact W.iret hx hb hr (fun t ht hW => ⟨⟨rfl, by rw [ht]; exact hP, hD⟩, hS.F ht⟩) hS.2.2 dX9_figure_43
def fX9_figure (v_o_textSize : Int32) (v_o_place : Int32) (d_o_text : (Nat → Int32)) (x1 : Int32) (x2 : Int32) : Option (Int32 × Int32) := (if v_o_textSize ≤ v_o_place then fX9_figure_28 v_o_textSize v_o_place d_o_text x1 x2 (-9 : Int32) else (if v_o_place < 0 ∨ 80 ≤ (v_o_place).toNatClampNeg then none else fX9_figure_28 v_o_textSize v_o_place d_o_text x1 x2 ((d_o_text (v_o_place).toNatClampNeg) - (48 : Int32))))
set_option maxRecDepth 100000 in
set_option maxHeartbeats 4000000 in
theorem kX9_figure (l : Launch) (D : va_G) (cI cJ cZ cB : ClassId) (a_o : Nat) (a_o_text : Nat) (a_o_many : Nat) (a_o_views : Nat) (a_o_aisles : Nat) (a_o_readMany : Nat) (a_o_readViews : Nat) (a_o_readAisles : Nat) (a_o_readPage : Nat) (a_o_page : Nat) (a_o_trial : Nat) (a_o_book : Nat) (a_o_kept : Nat) (a_o_isKept : Nat) (a_o_seenSeat : Nat) (a_o_seenWas : Nat) (v_o_thrown : Int32) (v_o_textSize : Int32) (v_o_place : Int32) (v_o_rows : Int32) (v_o_readRows : Int32) (v_o_doings : Int32) (v_o_seen : Int32) (v_o_seed : Int64) (v_o_found : Int32) (v_o_foundViews : Int32) (v_o_foundMany : Int32) (d_o_text : (Nat → Int32)) (x1 : Int32) (x2 : Int32) (res : Int32 × Int32) (hf : fX9_figure v_o_textSize v_o_place d_o_text x1 x2 = some res) : Rw l yX9_figure wsX9_figure ({ frames := 1, cells := 0, slots := 0, locals := 25 } : Room) D (tyL cI cJ cZ cB) [.ref a_o, .int x1, .int x2] (WX9_figure cI cJ cZ cB a_o a_o_text a_o_many a_o_views a_o_aisles a_o_readMany a_o_readViews a_o_readAisles a_o_readPage a_o_page a_o_trial a_o_book a_o_kept a_o_isKept a_o_seenSeat a_o_seenWas v_o_thrown v_o_textSize v_o_place v_o_rows v_o_readRows v_o_doings v_o_seen v_o_seed v_o_found v_o_foundViews v_o_foundMany d_o_text) (some (.int res.1)) (WX9_figure cI cJ cZ cB a_o a_o_text a_o_many a_o_views a_o_aisles a_o_readMany a_o_readViews a_o_readAisles a_o_readPage a_o_page a_o_trial a_o_book a_o_kept a_o_isKept a_o_seenSeat a_o_seenWas v_o_thrown v_o_textSize res.2 v_o_rows v_o_readRows v_o_doings v_o_seen v_o_seed v_o_found v_o_foundViews v_o_foundMany d_o_text) := by
  refine Rw.of (cc := cX9_figure) (maxL := 4) (ret := (some .int)) (own := RX9) (by decide) rfl rfl (Nat.le_of_ble_eq_true rfl) ?_
  intro p e s m below meth c A ls C hK hA hP hD hS hl
  obtain ⟨hx, hb, hr, hml, hts, hown, hlk⟩ := id C
  have hl : lv_has ls 4 [(0, .ref a_o), (1, .int x1), (2, .int x2)] := hl
  unfold fX9_figure at hf
  refine lv_aload_n hx hb dX9_figure_0 rfl (lv_at hl 0 rfl) ?_
  refine va_get (D := D) (ci := 9) (v := .int v_o_place) (C := RX9) (T := TX9) (N := 26) hx hb hts iX9_figure_X9 hown hK.1 hP 0 rfl rfl 3 (by decide) (hts (.fieldLink RX9 79 "LoneSeatsModel" "place" "I") (by decide +kernel)) (fun _ h9 => h9) rfl dX9_figure_1 ?_
  refine lv_aload_n hx hb dX9_figure_4 rfl (lv_at hl 0 rfl) ?_
  refine va_get (D := D) (ci := 9) (v := .int v_o_textSize) (C := RX9) (T := TX9) (N := 26) hx hb hts iX9_figure_X9 hown hK.1 hP 0 rfl rfl 2 (by decide) (hts (.fieldLink RX9 76 "LoneSeatsModel" "textSize" "I") (by decide +kernel)) (fun _ h9 => h9) rfl dX9_figure_5 ?_
  refine lv_icmp_ge (tgt := 26) hx hb dX9_figure_8 (by decide) (fun hc => ?_) (fun hc => ?_)
  · have hf := pf_t hc hf
    refine lv_bipush (v := (-9 : Int32)) hx hb dX9_figure_26 (by decide) ?_
    exact tX9_figure_28 C hK hA  v_o_thrown v_o_textSize v_o_place v_o_rows v_o_readRows v_o_doings v_o_seen v_o_seed v_o_found v_o_foundViews v_o_foundMany d_o_text x1 x2 (-9 : Int32) _ _ ls _ hP hD hS (lv_sub hl [0, 1, 2] rfl) hf
  · have hf := pf_f hc hf
    refine lv_aload_n hx hb dX9_figure_11 rfl (lv_at hl 0 rfl) ?_
    refine va_get (D := D) (ci := 9) (v := .ref a_o_text) (C := RX9) (T := TX9) (N := 26) hx hb hts iX9_figure_X9 hown hK.1 hP 0 rfl rfl 1 (by decide) (hts (.fieldLink RX9 7 "LoneSeatsModel" "text" "[I") (by decide +kernel)) (fun _ h9 => h9) rfl dX9_figure_12 ?_
    refine lv_aload_n hx hb dX9_figure_15 rfl (lv_at hl 0 rfl) ?_
    refine va_get (D := D) (ci := 9) (v := .int v_o_place) (C := RX9) (T := TX9) (N := 26) hx hb hts iX9_figure_X9 hown hK.1 hP 0 rfl rfl 3 (by decide) (hts (.fieldLink RX9 79 "LoneSeatsModel" "place" "I") (by decide +kernel)) (fun _ h9 => h9) rfl dX9_figure_16 ?_
    obtain ⟨hg1, hf⟩ := pf_x hf
    refine va_iald hx hb hK.1 hP 1 0 rfl rfl hg1 dX9_figure_19 ?_
    refine lv_bipush (v := (48 : Int32)) hx hb dX9_figure_20 (by decide) ?_
    refine lv_isub hx hb dX9_figure_22 ?_
    refine lv_goto (tgt := 28) hx hb dX9_figure_23 (by decide) ?_
    exact tX9_figure_28 C hK hA  v_o_thrown v_o_textSize v_o_place v_o_rows v_o_readRows v_o_doings v_o_seen v_o_seed v_o_found v_o_foundViews v_o_foundMany d_o_text x1 x2 ((d_o_text (v_o_place).toNatClampNeg) - (48 : Int32)) _ _ ls _ hP hD hS (lv_sub hl [0, 1, 2] rfl) hf
abbrev WX9_readRow (cI cJ cZ cB : ClassId) (a_o : Nat) (a_o_text : Nat) (a_o_many : Nat) (a_o_views : Nat) (a_o_aisles : Nat) (a_o_readMany : Nat) (a_o_readViews : Nat) (a_o_readAisles : Nat) (a_o_readPage : Nat) (a_o_page : Nat) (a_o_trial : Nat) (a_o_book : Nat) (a_o_kept : Nat) (a_o_isKept : Nat) (a_o_seenSeat : Nat) (a_o_seenWas : Nat) (v_o_thrown : Int32) (v_o_textSize : Int32) (v_o_place : Int32) (v_o_rows : Int32) (v_o_readRows : Int32) (v_o_doings : Int32) (v_o_seen : Int32) (v_o_seed : Int64) (v_o_found : Int32) (v_o_foundViews : Int32) (v_o_foundMany : Int32) (d_o_text : (Nat → Int32)) (d_o_readMany : (Nat → Int32)) (d_o_readViews : (Nat → Int32)) (d_o_readAisles : (Nat → Int32)) (d_o_readPage : (Nat → Int32)) : va_W := [(a_o, .inr (9, [.int v_o_thrown, .ref a_o_text, .int v_o_textSize, .int v_o_place, .int v_o_rows, .ref a_o_many, .ref a_o_views, .ref a_o_aisles, .int v_o_readRows, .ref a_o_readMany, .ref a_o_readViews, .ref a_o_readAisles, .ref a_o_readPage, .ref a_o_page, .ref a_o_trial, .ref a_o_book, .int v_o_doings, .ref a_o_kept, .ref a_o_isKept, .int v_o_seen, .ref a_o_seenSeat, .ref a_o_seenWas, .long v_o_seed, .int v_o_found, .int v_o_foundViews, .int v_o_foundMany])), (a_o_text, .inl (cI, (80, .inl d_o_text))), (a_o_readMany, .inl (cI, (4, .inl d_o_readMany))), (a_o_readViews, .inl (cI, (36, .inl d_o_readViews))), (a_o_readAisles, .inl (cZ, (36, .inl d_o_readAisles))), (a_o_readPage, .inl (cI, (229, .inl d_o_readPage)))]
set_option maxRecDepth 20000 in
theorem iX9_readRow_X9 : ∀ w ∈ wsX90, w ∈ wsX9_readRow := by decide +kernel
def fX9_readRow_215 (k_57 : Int32 → Int32 → Int32 → (Nat → Int32) → (Nat → Int32) → (Nat → Int32) → (Nat → Int32) → (Nat → Int32) → Int32 → Int32 → Int32 → Int32 → Option (Int32 × Int32 × Int32 × (Nat → Int32) × (Nat → Int32) × (Nat → Int32) × (Nat → Int32))) (v_o_textSize : Int32) (v_o_place : Int32) (v_o_readRows : Int32) (d_o_text : (Nat → Int32)) (d_o_readMany : (Nat → Int32)) (d_o_readViews : (Nat → Int32)) (d_o_readAisles : (Nat → Int32)) (d_o_readPage : (Nat → Int32)) (x1 : Int32) (x2 : Int32) (x3 : Int32) (x4 : Int32) (k1 : Int32) (k2 : Int32) : Option (Int32 × Int32 × Int32 × (Nat → Int32) × (Nat → Int32) × (Nat → Int32) × (Nat → Int32)) := k_57 v_o_textSize (k1 + k2) v_o_readRows d_o_text d_o_readMany d_o_readViews d_o_readAisles d_o_readPage x1 x2 x3 x4
set_option maxRecDepth 100000 in
set_option maxHeartbeats 4000000 in
theorem tX9_readRow_215 {p : Program} {l : Launch} {e : Env} {s : State} {m : MethodId} {args : Array Value} {below : List Frame} {meth : Method} {c : Code} {D : va_G} {cI cJ cZ cB : ClassId} {a_o : Nat} {a_o_text : Nat} {a_o_many : Nat} {a_o_views : Nat} {a_o_aisles : Nat} {a_o_readMany : Nat} {a_o_readViews : Nat} {a_o_readAisles : Nat} {a_o_readPage : Nat} {a_o_page : Nat} {a_o_trial : Nat} {a_o_book : Nat} {a_o_kept : Nat} {a_o_isKept : Nat} {a_o_seenSeat : Nat} {a_o_seenWas : Nat} {A : Nat → Prop} (C : Cx p s m args meth c cX9_readRow 6 (some .boolean) wsX9_readRow RX9) (hK : Kw D (tyL cI cJ cZ cB) s) (hA : ∀ q : Nat, s.heap.size ≤ q → A q) {k_57 : Int32 → Int32 → Int32 → (Nat → Int32) → (Nat → Int32) → (Nat → Int32) → (Nat → Int32) → (Nat → Int32) → Int32 → Int32 → Int32 → Int32 → Option (Int32 × Int32 × Int32 × (Nat → Int32) × (Nat → Int32) × (Nat → Int32) × (Nat → Int32))} (hk57 : ∀ (v_o_thrown : Int32) (v_o_textSize : Int32) (v_o_place : Int32) (v_o_rows : Int32) (v_o_readRows : Int32) (v_o_doings : Int32) (v_o_seen : Int32) (v_o_seed : Int64) (v_o_found : Int32) (v_o_foundViews : Int32) (v_o_foundMany : Int32) (d_o_text : (Nat → Int32)) (d_o_readMany : (Nat → Int32)) (d_o_readViews : (Nat → Int32)) (d_o_readAisles : (Nat → Int32)) (d_o_readPage : (Nat → Int32)) (x1 : Int32) (x2 : Int32) (x3 : Int32) (x4 : Int32) (H : Heap) (locs : List Loc) (ls : Array Slot) (res : Int32 × Int32 × Int32 × (Nat → Int32) × (Nat → Int32) × (Nat → Int32) × (Nat → Int32)), va_P D vwCl (WX9_readRow cI cJ cZ cB a_o a_o_text a_o_many a_o_views a_o_aisles a_o_readMany a_o_readViews a_o_readAisles a_o_readPage a_o_page a_o_trial a_o_book a_o_kept a_o_isKept a_o_seenSeat a_o_seenWas v_o_thrown v_o_textSize v_o_place v_o_rows v_o_readRows v_o_doings v_o_seen v_o_seed v_o_found v_o_foundViews v_o_foundMany d_o_text d_o_readMany d_o_readViews d_o_readAisles d_o_readPage) H → va_D A (WX9_readRow cI cJ cZ cB a_o a_o_text a_o_many a_o_views a_o_aisles a_o_readMany a_o_readViews a_o_readAisles a_o_readPage a_o_page a_o_trial a_o_book a_o_kept a_o_isKept a_o_seenSeat a_o_seenWas v_o_thrown v_o_textSize v_o_place v_o_rows v_o_readRows v_o_doings v_o_seen v_o_seed v_o_found v_o_foundViews v_o_foundMany d_o_text d_o_readMany d_o_readViews d_o_readAisles d_o_readPage) → va_S A s.heap H locs → lv_has ls 6 [(0, .ref a_o), (1, .int x1), (2, .int x2), (3, .int x3), (4, .int x4)] → k_57 v_o_textSize v_o_place v_o_readRows d_o_text d_o_readMany d_o_readViews d_o_readAisles d_o_readPage x1 x2 x3 x4 = some res → W p l e ({ frames := 2, cells := 0, slots := 0, locals := 48 } : Room) s m args below meth c H locs 0 0 (MQ below (QRw D A (WX9_readRow cI cJ cZ cB a_o a_o_text a_o_many a_o_views a_o_aisles a_o_readMany a_o_readViews a_o_readAisles a_o_readPage a_o_page a_o_trial a_o_book a_o_kept a_o_isKept a_o_seenSeat a_o_seenWas v_o_thrown v_o_textSize res.2.1 v_o_rows res.2.2.1 v_o_doings v_o_seen v_o_seed v_o_found v_o_foundViews v_o_foundMany d_o_text res.2.2.2.1 res.2.2.2.2.1 res.2.2.2.2.2.1 res.2.2.2.2.2.2) (some (.int res.1))) args s 0 0 A) (F0 m 57 ls [])) : ∀ (v_o_thrown : Int32) (v_o_textSize : Int32) (v_o_place : Int32) (v_o_rows : Int32) (v_o_readRows : Int32) (v_o_doings : Int32) (v_o_seen : Int32) (v_o_seed : Int64) (v_o_found : Int32) (v_o_foundViews : Int32) (v_o_foundMany : Int32) (d_o_text : (Nat → Int32)) (d_o_readMany : (Nat → Int32)) (d_o_readViews : (Nat → Int32)) (d_o_readAisles : (Nat → Int32)) (d_o_readPage : (Nat → Int32)) (x1 : Int32) (x2 : Int32) (x3 : Int32) (x4 : Int32) (k1 : Int32) (k2 : Int32) (H : Heap) (locs : List Loc) (ls : Array Slot) (res : Int32 × Int32 × Int32 × (Nat → Int32) × (Nat → Int32) × (Nat → Int32) × (Nat → Int32)), va_P D vwCl (WX9_readRow cI cJ cZ cB a_o a_o_text a_o_many a_o_views a_o_aisles a_o_readMany a_o_readViews a_o_readAisles a_o_readPage a_o_page a_o_trial a_o_book a_o_kept a_o_isKept a_o_seenSeat a_o_seenWas v_o_thrown v_o_textSize v_o_place v_o_rows v_o_readRows v_o_doings v_o_seen v_o_seed v_o_found v_o_foundViews v_o_foundMany d_o_text d_o_readMany d_o_readViews d_o_readAisles d_o_readPage) H → va_D A (WX9_readRow cI cJ cZ cB a_o a_o_text a_o_many a_o_views a_o_aisles a_o_readMany a_o_readViews a_o_readAisles a_o_readPage a_o_page a_o_trial a_o_book a_o_kept a_o_isKept a_o_seenSeat a_o_seenWas v_o_thrown v_o_textSize v_o_place v_o_rows v_o_readRows v_o_doings v_o_seen v_o_seed v_o_found v_o_foundViews v_o_foundMany d_o_text d_o_readMany d_o_readViews d_o_readAisles d_o_readPage) → va_S A s.heap H locs → lv_has ls 6 [(0, .ref a_o), (1, .int x1), (2, .int x2), (3, .int x3), (4, .int x4)] → fX9_readRow_215 k_57 v_o_textSize v_o_place v_o_readRows d_o_text d_o_readMany d_o_readViews d_o_readAisles d_o_readPage x1 x2 x3 x4 k1 k2 = some res → W p l e ({ frames := 2, cells := 0, slots := 0, locals := 48 } : Room) s m args below meth c H locs 0 0 (MQ below (QRw D A (WX9_readRow cI cJ cZ cB a_o a_o_text a_o_many a_o_views a_o_aisles a_o_readMany a_o_readViews a_o_readAisles a_o_readPage a_o_page a_o_trial a_o_book a_o_kept a_o_isKept a_o_seenSeat a_o_seenWas v_o_thrown v_o_textSize res.2.1 v_o_rows res.2.2.1 v_o_doings v_o_seen v_o_seed v_o_found v_o_foundViews v_o_foundMany d_o_text res.2.2.2.1 res.2.2.2.2.1 res.2.2.2.2.2.1 res.2.2.2.2.2.2) (some (.int res.1))) args s 0 0 A) (F0 m 215 ls [.int k2, .int k1, .ref a_o]) := by
  obtain ⟨hx, hb, hr, hml, hts, hown, hlk⟩ := id C
  intro v_o_thrown v_o_textSize v_o_place v_o_rows v_o_readRows v_o_doings v_o_seen v_o_seed v_o_found v_o_foundViews v_o_foundMany d_o_text d_o_readMany d_o_readViews d_o_readAisles d_o_readPage x1 x2 x3 x4 k1 k2 H locs ls res hP hD hS hl hf
  unfold fX9_readRow_215 at hf
  refine lv_iadd hx hb dX9_readRow_215 ?_
  refine va_put (D := D) (ci := 9) (v := .int (k1 + k2)) (ty := .int) (C := RX9) (T := TX9) (N := 26) hx hb hts iX9_readRow_X9 tyX9 tyX9_ok nmX9 hown hK.1 hP hD hS 0 rfl rfl 3 (by decide) (hts (.fieldLink RX9 79 "LoneSeatsModel" "place" "I") (by decide +kernel)) (fun _ h9 => h9) rfl (by decide +kernel) rfl rfl (Nat.le_of_ble_eq_true rfl) dX9_readRow_216 (fun H locs hP hD hS => ?_)
  have hP : va_P D vwCl (WX9_readRow cI cJ cZ cB a_o a_o_text a_o_many a_o_views a_o_aisles a_o_readMany a_o_readViews a_o_readAisles a_o_readPage a_o_page a_o_trial a_o_book a_o_kept a_o_isKept a_o_seenSeat a_o_seenWas v_o_thrown v_o_textSize (k1 + k2) v_o_rows v_o_readRows v_o_doings v_o_seen v_o_seed v_o_found v_o_foundViews v_o_foundMany d_o_text d_o_readMany d_o_readViews d_o_readAisles d_o_readPage) H := hP
  have hD : va_D A (WX9_readRow cI cJ cZ cB a_o a_o_text a_o_many a_o_views a_o_aisles a_o_readMany a_o_readViews a_o_readAisles a_o_readPage a_o_page a_o_trial a_o_book a_o_kept a_o_isKept a_o_seenSeat a_o_seenWas v_o_thrown v_o_textSize (k1 + k2) v_o_rows v_o_readRows v_o_doings v_o_seen v_o_seed v_o_found v_o_foundViews v_o_foundMany d_o_text d_o_readMany d_o_readViews d_o_readAisles d_o_readPage) := hD
  refine lv_goto (tgt := 57) hx hb dX9_readRow_219 (by decide) ?_
  exact hk57 v_o_thrown v_o_textSize (k1 + k2) v_o_rows v_o_readRows v_o_doings v_o_seen v_o_seed v_o_found v_o_foundViews v_o_foundMany d_o_text d_o_readMany d_o_readViews d_o_readAisles d_o_readPage x1 x2 x3 x4 _ _ ls _ hP hD hS (lv_sub hl [0, 1, 2, 3, 4] rfl) hf
def fX9_readRow_200 (k_57 : Int32 → Int32 → Int32 → (Nat → Int32) → (Nat → Int32) → (Nat → Int32) → (Nat → Int32) → (Nat → Int32) → Int32 → Int32 → Int32 → Int32 → Option (Int32 × Int32 × Int32 × (Nat → Int32) × (Nat → Int32) × (Nat → Int32) × (Nat → Int32))) (v_o_textSize : Int32) (v_o_place : Int32) (v_o_readRows : Int32) (d_o_text : (Nat → Int32)) (d_o_readMany : (Nat → Int32)) (d_o_readViews : (Nat → Int32)) (d_o_readAisles : (Nat → Int32)) (d_o_readPage : (Nat → Int32)) (x1 : Int32) (x2 : Int32) (x3 : Int32) (x4 : Int32) : Option (Int32 × Int32 × Int32 × (Nat → Int32) × (Nat → Int32) × (Nat → Int32) × (Nat → Int32)) := (if x4 = 0 then fX9_readRow_215 k_57 v_o_textSize v_o_place v_o_readRows d_o_text d_o_readMany d_o_readViews d_o_readAisles d_o_readPage x1 x2 x3 x4 v_o_place (0 : Int32) else fX9_readRow_215 k_57 v_o_textSize v_o_place v_o_readRows d_o_text d_o_readMany d_o_readViews d_o_readAisles d_o_readPage x1 x2 x3 x4 v_o_place (1 : Int32))
set_option maxRecDepth 100000 in
set_option maxHeartbeats 4000000 in
theorem tX9_readRow_200 {p : Program} {l : Launch} {e : Env} {s : State} {m : MethodId} {args : Array Value} {below : List Frame} {meth : Method} {c : Code} {D : va_G} {cI cJ cZ cB : ClassId} {a_o : Nat} {a_o_text : Nat} {a_o_many : Nat} {a_o_views : Nat} {a_o_aisles : Nat} {a_o_readMany : Nat} {a_o_readViews : Nat} {a_o_readAisles : Nat} {a_o_readPage : Nat} {a_o_page : Nat} {a_o_trial : Nat} {a_o_book : Nat} {a_o_kept : Nat} {a_o_isKept : Nat} {a_o_seenSeat : Nat} {a_o_seenWas : Nat} {A : Nat → Prop} (C : Cx p s m args meth c cX9_readRow 6 (some .boolean) wsX9_readRow RX9) (hK : Kw D (tyL cI cJ cZ cB) s) (hA : ∀ q : Nat, s.heap.size ≤ q → A q) {k_57 : Int32 → Int32 → Int32 → (Nat → Int32) → (Nat → Int32) → (Nat → Int32) → (Nat → Int32) → (Nat → Int32) → Int32 → Int32 → Int32 → Int32 → Option (Int32 × Int32 × Int32 × (Nat → Int32) × (Nat → Int32) × (Nat → Int32) × (Nat → Int32))} (hk57 : ∀ (v_o_thrown : Int32) (v_o_textSize : Int32) (v_o_place : Int32) (v_o_rows : Int32) (v_o_readRows : Int32) (v_o_doings : Int32) (v_o_seen : Int32) (v_o_seed : Int64) (v_o_found : Int32) (v_o_foundViews : Int32) (v_o_foundMany : Int32) (d_o_text : (Nat → Int32)) (d_o_readMany : (Nat → Int32)) (d_o_readViews : (Nat → Int32)) (d_o_readAisles : (Nat → Int32)) (d_o_readPage : (Nat → Int32)) (x1 : Int32) (x2 : Int32) (x3 : Int32) (x4 : Int32) (H : Heap) (locs : List Loc) (ls : Array Slot) (res : Int32 × Int32 × Int32 × (Nat → Int32) × (Nat → Int32) × (Nat → Int32) × (Nat → Int32)), va_P D vwCl (WX9_readRow cI cJ cZ cB a_o a_o_text a_o_many a_o_views a_o_aisles a_o_readMany a_o_readViews a_o_readAisles a_o_readPage a_o_page a_o_trial a_o_book a_o_kept a_o_isKept a_o_seenSeat a_o_seenWas v_o_thrown v_o_textSize v_o_place v_o_rows v_o_readRows v_o_doings v_o_seen v_o_seed v_o_found v_o_foundViews v_o_foundMany d_o_text d_o_readMany d_o_readViews d_o_readAisles d_o_readPage) H → va_D A (WX9_readRow cI cJ cZ cB a_o a_o_text a_o_many a_o_views a_o_aisles a_o_readMany a_o_readViews a_o_readAisles a_o_readPage a_o_page a_o_trial a_o_book a_o_kept a_o_isKept a_o_seenSeat a_o_seenWas v_o_thrown v_o_textSize v_o_place v_o_rows v_o_readRows v_o_doings v_o_seen v_o_seed v_o_found v_o_foundViews v_o_foundMany d_o_text d_o_readMany d_o_readViews d_o_readAisles d_o_readPage) → va_S A s.heap H locs → lv_has ls 6 [(0, .ref a_o), (1, .int x1), (2, .int x2), (3, .int x3), (4, .int x4)] → k_57 v_o_textSize v_o_place v_o_readRows d_o_text d_o_readMany d_o_readViews d_o_readAisles d_o_readPage x1 x2 x3 x4 = some res → W p l e ({ frames := 2, cells := 0, slots := 0, locals := 48 } : Room) s m args below meth c H locs 0 0 (MQ below (QRw D A (WX9_readRow cI cJ cZ cB a_o a_o_text a_o_many a_o_views a_o_aisles a_o_readMany a_o_readViews a_o_readAisles a_o_readPage a_o_page a_o_trial a_o_book a_o_kept a_o_isKept a_o_seenSeat a_o_seenWas v_o_thrown v_o_textSize res.2.1 v_o_rows res.2.2.1 v_o_doings v_o_seen v_o_seed v_o_found v_o_foundViews v_o_foundMany d_o_text res.2.2.2.1 res.2.2.2.2.1 res.2.2.2.2.2.1 res.2.2.2.2.2.2) (some (.int res.1))) args s 0 0 A) (F0 m 57 ls [])) : ∀ (v_o_thrown : Int32) (v_o_textSize : Int32) (v_o_place : Int32) (v_o_rows : Int32) (v_o_readRows : Int32) (v_o_doings : Int32) (v_o_seen : Int32) (v_o_seed : Int64) (v_o_found : Int32) (v_o_foundViews : Int32) (v_o_foundMany : Int32) (d_o_text : (Nat → Int32)) (d_o_readMany : (Nat → Int32)) (d_o_readViews : (Nat → Int32)) (d_o_readAisles : (Nat → Int32)) (d_o_readPage : (Nat → Int32)) (x1 : Int32) (x2 : Int32) (x3 : Int32) (x4 : Int32) (H : Heap) (locs : List Loc) (ls : Array Slot) (res : Int32 × Int32 × Int32 × (Nat → Int32) × (Nat → Int32) × (Nat → Int32) × (Nat → Int32)), va_P D vwCl (WX9_readRow cI cJ cZ cB a_o a_o_text a_o_many a_o_views a_o_aisles a_o_readMany a_o_readViews a_o_readAisles a_o_readPage a_o_page a_o_trial a_o_book a_o_kept a_o_isKept a_o_seenSeat a_o_seenWas v_o_thrown v_o_textSize v_o_place v_o_rows v_o_readRows v_o_doings v_o_seen v_o_seed v_o_found v_o_foundViews v_o_foundMany d_o_text d_o_readMany d_o_readViews d_o_readAisles d_o_readPage) H → va_D A (WX9_readRow cI cJ cZ cB a_o a_o_text a_o_many a_o_views a_o_aisles a_o_readMany a_o_readViews a_o_readAisles a_o_readPage a_o_page a_o_trial a_o_book a_o_kept a_o_isKept a_o_seenSeat a_o_seenWas v_o_thrown v_o_textSize v_o_place v_o_rows v_o_readRows v_o_doings v_o_seen v_o_seed v_o_found v_o_foundViews v_o_foundMany d_o_text d_o_readMany d_o_readViews d_o_readAisles d_o_readPage) → va_S A s.heap H locs → lv_has ls 6 [(0, .ref a_o), (1, .int x1), (2, .int x2), (3, .int x3), (4, .int x4)] → fX9_readRow_200 k_57 v_o_textSize v_o_place v_o_readRows d_o_text d_o_readMany d_o_readViews d_o_readAisles d_o_readPage x1 x2 x3 x4 = some res → W p l e ({ frames := 2, cells := 0, slots := 0, locals := 48 } : Room) s m args below meth c H locs 0 0 (MQ below (QRw D A (WX9_readRow cI cJ cZ cB a_o a_o_text a_o_many a_o_views a_o_aisles a_o_readMany a_o_readViews a_o_readAisles a_o_readPage a_o_page a_o_trial a_o_book a_o_kept a_o_isKept a_o_seenSeat a_o_seenWas v_o_thrown v_o_textSize res.2.1 v_o_rows res.2.2.1 v_o_doings v_o_seen v_o_seed v_o_found v_o_foundViews v_o_foundMany d_o_text res.2.2.2.1 res.2.2.2.2.1 res.2.2.2.2.2.1 res.2.2.2.2.2.2) (some (.int res.1))) args s 0 0 A) (F0 m 200 ls []) := by
  obtain ⟨hx, hb, hr, hml, hts, hown, hlk⟩ := id C
  intro v_o_thrown v_o_textSize v_o_place v_o_rows v_o_readRows v_o_doings v_o_seen v_o_seed v_o_found v_o_foundViews v_o_foundMany d_o_text d_o_readMany d_o_readViews d_o_readAisles d_o_readPage x1 x2 x3 x4 H locs ls res hP hD hS hl hf
  unfold fX9_readRow_200 at hf
  refine lv_aload_n hx hb dX9_readRow_200 rfl (lv_at hl 0 rfl) ?_
  refine lv_dup hx hb dX9_readRow_201 rfl ?_
  refine va_get (D := D) (ci := 9) (v := .int v_o_place) (C := RX9) (T := TX9) (N := 26) hx hb hts iX9_readRow_X9 hown hK.1 hP 0 rfl rfl 3 (by decide) (hts (.fieldLink RX9 79 "LoneSeatsModel" "place" "I") (by decide +kernel)) (fun _ h9 => h9) rfl dX9_readRow_202 ?_
  refine lv_iload hx hb dX9_readRow_205 (lv_at hl 4 rfl) ?_
  refine lv_if_eq (tgt := 214) hx hb dX9_readRow_207 (by decide) (fun hc => ?_) (fun hc => ?_)
  · have hf := pf_t hc hf
    refine lv_iconst (v := (0 : Int32)) hx hb dX9_readRow_214 (by decide) ?_
    exact tX9_readRow_215 C hK hA hk57 v_o_thrown v_o_textSize v_o_place v_o_rows v_o_readRows v_o_doings v_o_seen v_o_seed v_o_found v_o_foundViews v_o_foundMany d_o_text d_o_readMany d_o_readViews d_o_readAisles d_o_readPage x1 x2 x3 x4 v_o_place (0 : Int32) _ _ ls _ hP hD hS (lv_sub hl [0, 1, 2, 3, 4] rfl) hf
  · have hf := pf_f hc hf
    refine lv_iconst (v := (1 : Int32)) hx hb dX9_readRow_210 (by decide) ?_
    refine lv_goto (tgt := 215) hx hb dX9_readRow_211 (by decide) ?_
    exact tX9_readRow_215 C hK hA hk57 v_o_thrown v_o_textSize v_o_place v_o_rows v_o_readRows v_o_doings v_o_seen v_o_seed v_o_found v_o_foundViews v_o_foundMany d_o_text d_o_readMany d_o_readViews d_o_readAisles d_o_readPage x1 x2 x3 x4 v_o_place (1 : Int32) _ _ ls _ hP hD hS (lv_sub hl [0, 1, 2, 3, 4] rfl) hf
def fX9_readRow_157 (k_57 : Int32 → Int32 → Int32 → (Nat → Int32) → (Nat → Int32) → (Nat → Int32) → (Nat → Int32) → (Nat → Int32) → Int32 → Int32 → Int32 → Int32 → Option (Int32 × Int32 × Int32 × (Nat → Int32) × (Nat → Int32) × (Nat → Int32) × (Nat → Int32))) (v_o_textSize : Int32) (v_o_place : Int32) (v_o_readRows : Int32) (d_o_text : (Nat → Int32)) (d_o_readMany : (Nat → Int32)) (d_o_readViews : (Nat → Int32)) (d_o_readAisles : (Nat → Int32)) (d_o_readPage : (Nat → Int32)) (x1 : Int32) (x2 : Int32) (x3 : Int32) (x4 : Int32) (x5 : Int32) : Option (Int32 × Int32 × Int32 × (Nat → Int32) × (Nat → Int32) × (Nat → Int32) × (Nat → Int32)) := (if x5 = (124 : Int32) then (if x2 ≤ 0 then fX9_readRow_200 k_57 v_o_textSize v_o_place v_o_readRows d_o_text d_o_readMany d_o_readViews d_o_readAisles d_o_readPage x1 x2 x3 x4 else (if (9 : Int32) ≤ x2 then fX9_readRow_200 k_57 v_o_textSize v_o_place v_o_readRows d_o_text d_o_readMany d_o_readViews d_o_readAisles d_o_readPage x1 x2 x3 x4 else (if x3 = 0 then (if ((((9 : Int32) * v_o_readRows) + x2) - (1 : Int32)) < 0 ∨ 36 ≤ (((((9 : Int32) * v_o_readRows) + x2) - (1 : Int32))).toNatClampNeg then none else fX9_readRow_200 k_57 v_o_textSize v_o_place v_o_readRows d_o_text d_o_readMany d_o_readViews (upd d_o_readAisles ((((((9 : Int32) * v_o_readRows) + x2) - (1 : Int32))).toNatClampNeg) (vp_nar .boolean (1 : Int32))) d_o_readPage x1 x2 (1 : Int32) (1 : Int32)) else fX9_readRow_200 k_57 v_o_textSize v_o_place v_o_readRows d_o_text d_o_readMany d_o_readViews d_o_readAisles d_o_readPage x1 x2 x3 x4))) else fX9_readRow_200 k_57 v_o_textSize v_o_place v_o_readRows d_o_text d_o_readMany d_o_readViews d_o_readAisles d_o_readPage x1 x2 x3 x4)
set_option maxRecDepth 100000 in
set_option maxHeartbeats 4000000 in
theorem tX9_readRow_157 {p : Program} {l : Launch} {e : Env} {s : State} {m : MethodId} {args : Array Value} {below : List Frame} {meth : Method} {c : Code} {D : va_G} {cI cJ cZ cB : ClassId} {a_o : Nat} {a_o_text : Nat} {a_o_many : Nat} {a_o_views : Nat} {a_o_aisles : Nat} {a_o_readMany : Nat} {a_o_readViews : Nat} {a_o_readAisles : Nat} {a_o_readPage : Nat} {a_o_page : Nat} {a_o_trial : Nat} {a_o_book : Nat} {a_o_kept : Nat} {a_o_isKept : Nat} {a_o_seenSeat : Nat} {a_o_seenWas : Nat} {A : Nat → Prop} (C : Cx p s m args meth c cX9_readRow 6 (some .boolean) wsX9_readRow RX9) (hK : Kw D (tyL cI cJ cZ cB) s) (hA : ∀ q : Nat, s.heap.size ≤ q → A q) {k_57 : Int32 → Int32 → Int32 → (Nat → Int32) → (Nat → Int32) → (Nat → Int32) → (Nat → Int32) → (Nat → Int32) → Int32 → Int32 → Int32 → Int32 → Option (Int32 × Int32 × Int32 × (Nat → Int32) × (Nat → Int32) × (Nat → Int32) × (Nat → Int32))} (hk57 : ∀ (v_o_thrown : Int32) (v_o_textSize : Int32) (v_o_place : Int32) (v_o_rows : Int32) (v_o_readRows : Int32) (v_o_doings : Int32) (v_o_seen : Int32) (v_o_seed : Int64) (v_o_found : Int32) (v_o_foundViews : Int32) (v_o_foundMany : Int32) (d_o_text : (Nat → Int32)) (d_o_readMany : (Nat → Int32)) (d_o_readViews : (Nat → Int32)) (d_o_readAisles : (Nat → Int32)) (d_o_readPage : (Nat → Int32)) (x1 : Int32) (x2 : Int32) (x3 : Int32) (x4 : Int32) (H : Heap) (locs : List Loc) (ls : Array Slot) (res : Int32 × Int32 × Int32 × (Nat → Int32) × (Nat → Int32) × (Nat → Int32) × (Nat → Int32)), va_P D vwCl (WX9_readRow cI cJ cZ cB a_o a_o_text a_o_many a_o_views a_o_aisles a_o_readMany a_o_readViews a_o_readAisles a_o_readPage a_o_page a_o_trial a_o_book a_o_kept a_o_isKept a_o_seenSeat a_o_seenWas v_o_thrown v_o_textSize v_o_place v_o_rows v_o_readRows v_o_doings v_o_seen v_o_seed v_o_found v_o_foundViews v_o_foundMany d_o_text d_o_readMany d_o_readViews d_o_readAisles d_o_readPage) H → va_D A (WX9_readRow cI cJ cZ cB a_o a_o_text a_o_many a_o_views a_o_aisles a_o_readMany a_o_readViews a_o_readAisles a_o_readPage a_o_page a_o_trial a_o_book a_o_kept a_o_isKept a_o_seenSeat a_o_seenWas v_o_thrown v_o_textSize v_o_place v_o_rows v_o_readRows v_o_doings v_o_seen v_o_seed v_o_found v_o_foundViews v_o_foundMany d_o_text d_o_readMany d_o_readViews d_o_readAisles d_o_readPage) → va_S A s.heap H locs → lv_has ls 6 [(0, .ref a_o), (1, .int x1), (2, .int x2), (3, .int x3), (4, .int x4)] → k_57 v_o_textSize v_o_place v_o_readRows d_o_text d_o_readMany d_o_readViews d_o_readAisles d_o_readPage x1 x2 x3 x4 = some res → W p l e ({ frames := 2, cells := 0, slots := 0, locals := 48 } : Room) s m args below meth c H locs 0 0 (MQ below (QRw D A (WX9_readRow cI cJ cZ cB a_o a_o_text a_o_many a_o_views a_o_aisles a_o_readMany a_o_readViews a_o_readAisles a_o_readPage a_o_page a_o_trial a_o_book a_o_kept a_o_isKept a_o_seenSeat a_o_seenWas v_o_thrown v_o_textSize res.2.1 v_o_rows res.2.2.1 v_o_doings v_o_seen v_o_seed v_o_found v_o_foundViews v_o_foundMany d_o_text res.2.2.2.1 res.2.2.2.2.1 res.2.2.2.2.2.1 res.2.2.2.2.2.2) (some (.int res.1))) args s 0 0 A) (F0 m 57 ls [])) : ∀ (v_o_thrown : Int32) (v_o_textSize : Int32) (v_o_place : Int32) (v_o_rows : Int32) (v_o_readRows : Int32) (v_o_doings : Int32) (v_o_seen : Int32) (v_o_seed : Int64) (v_o_found : Int32) (v_o_foundViews : Int32) (v_o_foundMany : Int32) (d_o_text : (Nat → Int32)) (d_o_readMany : (Nat → Int32)) (d_o_readViews : (Nat → Int32)) (d_o_readAisles : (Nat → Int32)) (d_o_readPage : (Nat → Int32)) (x1 : Int32) (x2 : Int32) (x3 : Int32) (x4 : Int32) (x5 : Int32) (H : Heap) (locs : List Loc) (ls : Array Slot) (res : Int32 × Int32 × Int32 × (Nat → Int32) × (Nat → Int32) × (Nat → Int32) × (Nat → Int32)), va_P D vwCl (WX9_readRow cI cJ cZ cB a_o a_o_text a_o_many a_o_views a_o_aisles a_o_readMany a_o_readViews a_o_readAisles a_o_readPage a_o_page a_o_trial a_o_book a_o_kept a_o_isKept a_o_seenSeat a_o_seenWas v_o_thrown v_o_textSize v_o_place v_o_rows v_o_readRows v_o_doings v_o_seen v_o_seed v_o_found v_o_foundViews v_o_foundMany d_o_text d_o_readMany d_o_readViews d_o_readAisles d_o_readPage) H → va_D A (WX9_readRow cI cJ cZ cB a_o a_o_text a_o_many a_o_views a_o_aisles a_o_readMany a_o_readViews a_o_readAisles a_o_readPage a_o_page a_o_trial a_o_book a_o_kept a_o_isKept a_o_seenSeat a_o_seenWas v_o_thrown v_o_textSize v_o_place v_o_rows v_o_readRows v_o_doings v_o_seen v_o_seed v_o_found v_o_foundViews v_o_foundMany d_o_text d_o_readMany d_o_readViews d_o_readAisles d_o_readPage) → va_S A s.heap H locs → lv_has ls 6 [(0, .ref a_o), (1, .int x1), (2, .int x2), (3, .int x3), (4, .int x4), (5, .int x5)] → fX9_readRow_157 k_57 v_o_textSize v_o_place v_o_readRows d_o_text d_o_readMany d_o_readViews d_o_readAisles d_o_readPage x1 x2 x3 x4 x5 = some res → W p l e ({ frames := 2, cells := 0, slots := 0, locals := 48 } : Room) s m args below meth c H locs 0 0 (MQ below (QRw D A (WX9_readRow cI cJ cZ cB a_o a_o_text a_o_many a_o_views a_o_aisles a_o_readMany a_o_readViews a_o_readAisles a_o_readPage a_o_page a_o_trial a_o_book a_o_kept a_o_isKept a_o_seenSeat a_o_seenWas v_o_thrown v_o_textSize res.2.1 v_o_rows res.2.2.1 v_o_doings v_o_seen v_o_seed v_o_found v_o_foundViews v_o_foundMany d_o_text res.2.2.2.1 res.2.2.2.2.1 res.2.2.2.2.2.1 res.2.2.2.2.2.2) (some (.int res.1))) args s 0 0 A) (F0 m 157 ls []) := by
  obtain ⟨hx, hb, hr, hml, hts, hown, hlk⟩ := id C
  intro v_o_thrown v_o_textSize v_o_place v_o_rows v_o_readRows v_o_doings v_o_seen v_o_seed v_o_found v_o_foundViews v_o_foundMany d_o_text d_o_readMany d_o_readViews d_o_readAisles d_o_readPage x1 x2 x3 x4 x5 H locs ls res hP hD hS hl hf
  unfold fX9_readRow_157 at hf
  refine lv_iload hx hb dX9_readRow_157 (lv_at hl 5 rfl) ?_
  refine lv_bipush (v := (124 : Int32)) hx hb dX9_readRow_159 (by decide) ?_
  refine lv_icmp_ne (tgt := 200) hx hb dX9_readRow_161 (by decide) (fun hc => ?_) (fun hc => ?_)
  · have hf := pf_f hc hf
    exact tX9_readRow_200 C hK hA hk57 v_o_thrown v_o_textSize v_o_place v_o_rows v_o_readRows v_o_doings v_o_seen v_o_seed v_o_found v_o_foundViews v_o_foundMany d_o_text d_o_readMany d_o_readViews d_o_readAisles d_o_readPage x1 x2 x3 x4 _ _ ls _ hP hD hS (lv_sub hl [0, 1, 2, 3, 4] rfl) hf
  · have hf := pf_t hc hf
    refine lv_iload_n hx hb dX9_readRow_164 rfl (lv_at hl 2 rfl) ?_
    refine lv_if_le (tgt := 200) hx hb dX9_readRow_165 (by decide) (fun hc => ?_) (fun hc => ?_)
    · have hf := pf_t hc hf
      exact tX9_readRow_200 C hK hA hk57 v_o_thrown v_o_textSize v_o_place v_o_rows v_o_readRows v_o_doings v_o_seen v_o_seed v_o_found v_o_foundViews v_o_foundMany d_o_text d_o_readMany d_o_readViews d_o_readAisles d_o_readPage x1 x2 x3 x4 _ _ ls _ hP hD hS (lv_sub hl [0, 1, 2, 3, 4] rfl) hf
    · have hf := pf_f hc hf
      refine lv_iload_n hx hb dX9_readRow_168 rfl (lv_at hl 2 rfl) ?_
      refine lv_bipush (v := (9 : Int32)) hx hb dX9_readRow_169 (by decide) ?_
      refine lv_icmp_ge (tgt := 200) hx hb dX9_readRow_171 (by decide) (fun hc => ?_) (fun hc => ?_)
      · have hf := pf_t hc hf
        exact tX9_readRow_200 C hK hA hk57 v_o_thrown v_o_textSize v_o_place v_o_rows v_o_readRows v_o_doings v_o_seen v_o_seed v_o_found v_o_foundViews v_o_foundMany d_o_text d_o_readMany d_o_readViews d_o_readAisles d_o_readPage x1 x2 x3 x4 _ _ ls _ hP hD hS (lv_sub hl [0, 1, 2, 3, 4] rfl) hf
      · have hf := pf_f hc hf
        refine lv_iload_n hx hb dX9_readRow_174 rfl (lv_at hl 3 rfl) ?_
        refine lv_if_ne (tgt := 200) hx hb dX9_readRow_175 (by decide) (fun hc => ?_) (fun hc => ?_)
        · have hf := pf_f hc hf
          exact tX9_readRow_200 C hK hA hk57 v_o_thrown v_o_textSize v_o_place v_o_rows v_o_readRows v_o_doings v_o_seen v_o_seed v_o_found v_o_foundViews v_o_foundMany d_o_text d_o_readMany d_o_readViews d_o_readAisles d_o_readPage x1 x2 x3 x4 _ _ ls _ hP hD hS (lv_sub hl [0, 1, 2, 3, 4] rfl) hf
        · have hf := pf_t hc hf
          refine lv_aload_n hx hb dX9_readRow_178 rfl (lv_at hl 0 rfl) ?_
          refine va_get (D := D) (ci := 9) (v := .ref a_o_readAisles) (C := RX9) (T := TX9) (N := 26) hx hb hts iX9_readRow_X9 hown hK.1 hP 0 rfl rfl 11 (by decide) (hts (.fieldLink RX9 29 "LoneSeatsModel" "readAisles" "[Z") (by decide +kernel)) (fun _ h9 => h9) rfl dX9_readRow_179 ?_
          refine lv_bipush (v := (9 : Int32)) hx hb dX9_readRow_182 (by decide) ?_
          refine lv_aload_n hx hb dX9_readRow_184 rfl (lv_at hl 0 rfl) ?_
          refine va_get (D := D) (ci := 9) (v := .int v_o_readRows) (C := RX9) (T := TX9) (N := 26) hx hb hts iX9_readRow_X9 hown hK.1 hP 0 rfl rfl 8 (by decide) (hts (.fieldLink RX9 82 "LoneSeatsModel" "readRows" "I") (by decide +kernel)) (fun _ h9 => h9) rfl dX9_readRow_185 ?_
          refine lv_imul hx hb dX9_readRow_188 ?_
          refine lv_iload_n hx hb dX9_readRow_189 rfl (lv_at hl 2 rfl) ?_
          refine lv_iadd hx hb dX9_readRow_190 ?_
          refine lv_iconst (v := (1 : Int32)) hx hb dX9_readRow_191 (by decide) ?_
          refine lv_isub hx hb dX9_readRow_192 ?_
          refine lv_iconst (v := (1 : Int32)) hx hb dX9_readRow_193 (by decide) ?_
          obtain ⟨hg1, hf⟩ := pf_x hf
          refine va_zast hx hb hK.1 hP hD hS 4 2 rfl rfl hg1 dX9_readRow_194 (fun H locs hP hD hS => ?_)
          have hP : va_P D vwCl (WX9_readRow cI cJ cZ cB a_o a_o_text a_o_many a_o_views a_o_aisles a_o_readMany a_o_readViews a_o_readAisles a_o_readPage a_o_page a_o_trial a_o_book a_o_kept a_o_isKept a_o_seenSeat a_o_seenWas v_o_thrown v_o_textSize v_o_place v_o_rows v_o_readRows v_o_doings v_o_seen v_o_seed v_o_found v_o_foundViews v_o_foundMany d_o_text d_o_readMany d_o_readViews (upd d_o_readAisles ((((((9 : Int32) * v_o_readRows) + x2) - (1 : Int32))).toNatClampNeg) (vp_nar .boolean (1 : Int32))) d_o_readPage) H := hP
          have hD : va_D A (WX9_readRow cI cJ cZ cB a_o a_o_text a_o_many a_o_views a_o_aisles a_o_readMany a_o_readViews a_o_readAisles a_o_readPage a_o_page a_o_trial a_o_book a_o_kept a_o_isKept a_o_seenSeat a_o_seenWas v_o_thrown v_o_textSize v_o_place v_o_rows v_o_readRows v_o_doings v_o_seen v_o_seed v_o_found v_o_foundViews v_o_foundMany d_o_text d_o_readMany d_o_readViews (upd d_o_readAisles ((((((9 : Int32) * v_o_readRows) + x2) - (1 : Int32))).toNatClampNeg) (vp_nar .boolean (1 : Int32))) d_o_readPage) := hD
          refine lv_iconst (v := (1 : Int32)) hx hb dX9_readRow_195 (by decide) ?_
          refine lv_istore_n (lv' := [(3, .int (1 : Int32)), (0, .ref a_o), (1, .int x1), (2, .int x2), (4, .int x4), (5, .int x5)]) hx hb dX9_readRow_196 rfl hl (by decide) rfl (fun ls hl => ?_)
          refine lv_iconst (v := (1 : Int32)) hx hb dX9_readRow_197 (by decide) ?_
          refine lv_istore (lv' := [(4, .int (1 : Int32)), (3, .int (1 : Int32)), (0, .ref a_o), (1, .int x1), (2, .int x2), (5, .int x5)]) hx hb dX9_readRow_198 hl (by decide) rfl (fun ls hl => ?_)
          exact tX9_readRow_200 C hK hA hk57 v_o_thrown v_o_textSize v_o_place v_o_rows v_o_readRows v_o_doings v_o_seen v_o_seed v_o_found v_o_foundViews v_o_foundMany d_o_text d_o_readMany d_o_readViews (upd d_o_readAisles ((((((9 : Int32) * v_o_readRows) + x2) - (1 : Int32))).toNatClampNeg) (vp_nar .boolean (1 : Int32))) d_o_readPage x1 x2 (1 : Int32) (1 : Int32) _ _ ls _ hP hD hS (lv_sub hl [2, 3, 4, 1, 0] rfl) hf
def fX9_readRow_86 (k_57 : Int32 → Int32 → Int32 → (Nat → Int32) → (Nat → Int32) → (Nat → Int32) → (Nat → Int32) → (Nat → Int32) → Int32 → Int32 → Int32 → Int32 → Option (Int32 × Int32 × Int32 × (Nat → Int32) × (Nat → Int32) × (Nat → Int32) × (Nat → Int32))) (v_o_textSize : Int32) (v_o_place : Int32) (v_o_readRows : Int32) (d_o_text : (Nat → Int32)) (d_o_readMany : (Nat → Int32)) (d_o_readViews : (Nat → Int32)) (d_o_readAisles : (Nat → Int32)) (d_o_readPage : (Nat → Int32)) (x1 : Int32) (x2 : Int32) (x3 : Int32) (k0 : Int32) : Option (Int32 × Int32 × Int32 × (Nat → Int32) × (Nat → Int32) × (Nat → Int32) × (Nat → Int32)) := ((fX9_in ((k0).toInt64) (48 : Int64) (57 : Int64)).bind fun q1 => (if q1 = 0 then fX9_readRow_157 k_57 v_o_textSize v_o_place v_o_readRows d_o_text d_o_readMany d_o_readViews d_o_readAisles d_o_readPage x1 x2 x3 (0 : Int32) k0 else (if (9 : Int32) ≤ x2 then fX9_readRow_157 k_57 v_o_textSize v_o_place v_o_readRows d_o_text d_o_readMany d_o_readViews d_o_readAisles d_o_readPage x1 x2 x3 (0 : Int32) k0 else (if (((9 : Int32) * v_o_readRows) + x2) < 0 ∨ 36 ≤ ((((9 : Int32) * v_o_readRows) + x2)).toNatClampNeg then none else (if (((9 : Int32) * v_o_readRows) + x2) < 0 ∨ 36 ≤ ((((9 : Int32) * v_o_readRows) + x2)).toNatClampNeg then none else fX9_readRow_200 k_57 v_o_textSize v_o_place v_o_readRows d_o_text d_o_readMany (upd d_o_readViews (((((9 : Int32) * v_o_readRows) + x2)).toNatClampNeg) (k0 - (48 : Int32))) (upd d_o_readAisles (((((9 : Int32) * v_o_readRows) + x2)).toNatClampNeg) (vp_nar .boolean (0 : Int32))) d_o_readPage x1 (x2 + (1 : Int32)) (0 : Int32) (1 : Int32))))))
set_option maxRecDepth 100000 in
set_option maxHeartbeats 4000000 in
theorem tX9_readRow_86 {p : Program} {l : Launch} {e : Env} {s : State} {m : MethodId} {args : Array Value} {below : List Frame} {meth : Method} {c : Code} {D : va_G} {cI cJ cZ cB : ClassId} {a_o : Nat} {a_o_text : Nat} {a_o_many : Nat} {a_o_views : Nat} {a_o_aisles : Nat} {a_o_readMany : Nat} {a_o_readViews : Nat} {a_o_readAisles : Nat} {a_o_readPage : Nat} {a_o_page : Nat} {a_o_trial : Nat} {a_o_book : Nat} {a_o_kept : Nat} {a_o_isKept : Nat} {a_o_seenSeat : Nat} {a_o_seenWas : Nat} {A : Nat → Prop} (C : Cx p s m args meth c cX9_readRow 6 (some .boolean) wsX9_readRow RX9) (hK : Kw D (tyL cI cJ cZ cB) s) (hA : ∀ q : Nat, s.heap.size ≤ q → A q) {k_57 : Int32 → Int32 → Int32 → (Nat → Int32) → (Nat → Int32) → (Nat → Int32) → (Nat → Int32) → (Nat → Int32) → Int32 → Int32 → Int32 → Int32 → Option (Int32 × Int32 × Int32 × (Nat → Int32) × (Nat → Int32) × (Nat → Int32) × (Nat → Int32))} (hk57 : ∀ (v_o_thrown : Int32) (v_o_textSize : Int32) (v_o_place : Int32) (v_o_rows : Int32) (v_o_readRows : Int32) (v_o_doings : Int32) (v_o_seen : Int32) (v_o_seed : Int64) (v_o_found : Int32) (v_o_foundViews : Int32) (v_o_foundMany : Int32) (d_o_text : (Nat → Int32)) (d_o_readMany : (Nat → Int32)) (d_o_readViews : (Nat → Int32)) (d_o_readAisles : (Nat → Int32)) (d_o_readPage : (Nat → Int32)) (x1 : Int32) (x2 : Int32) (x3 : Int32) (x4 : Int32) (H : Heap) (locs : List Loc) (ls : Array Slot) (res : Int32 × Int32 × Int32 × (Nat → Int32) × (Nat → Int32) × (Nat → Int32) × (Nat → Int32)), va_P D vwCl (WX9_readRow cI cJ cZ cB a_o a_o_text a_o_many a_o_views a_o_aisles a_o_readMany a_o_readViews a_o_readAisles a_o_readPage a_o_page a_o_trial a_o_book a_o_kept a_o_isKept a_o_seenSeat a_o_seenWas v_o_thrown v_o_textSize v_o_place v_o_rows v_o_readRows v_o_doings v_o_seen v_o_seed v_o_found v_o_foundViews v_o_foundMany d_o_text d_o_readMany d_o_readViews d_o_readAisles d_o_readPage) H → va_D A (WX9_readRow cI cJ cZ cB a_o a_o_text a_o_many a_o_views a_o_aisles a_o_readMany a_o_readViews a_o_readAisles a_o_readPage a_o_page a_o_trial a_o_book a_o_kept a_o_isKept a_o_seenSeat a_o_seenWas v_o_thrown v_o_textSize v_o_place v_o_rows v_o_readRows v_o_doings v_o_seen v_o_seed v_o_found v_o_foundViews v_o_foundMany d_o_text d_o_readMany d_o_readViews d_o_readAisles d_o_readPage) → va_S A s.heap H locs → lv_has ls 6 [(0, .ref a_o), (1, .int x1), (2, .int x2), (3, .int x3), (4, .int x4)] → k_57 v_o_textSize v_o_place v_o_readRows d_o_text d_o_readMany d_o_readViews d_o_readAisles d_o_readPage x1 x2 x3 x4 = some res → W p l e ({ frames := 2, cells := 0, slots := 0, locals := 48 } : Room) s m args below meth c H locs 0 0 (MQ below (QRw D A (WX9_readRow cI cJ cZ cB a_o a_o_text a_o_many a_o_views a_o_aisles a_o_readMany a_o_readViews a_o_readAisles a_o_readPage a_o_page a_o_trial a_o_book a_o_kept a_o_isKept a_o_seenSeat a_o_seenWas v_o_thrown v_o_textSize res.2.1 v_o_rows res.2.2.1 v_o_doings v_o_seen v_o_seed v_o_found v_o_foundViews v_o_foundMany d_o_text res.2.2.2.1 res.2.2.2.2.1 res.2.2.2.2.2.1 res.2.2.2.2.2.2) (some (.int res.1))) args s 0 0 A) (F0 m 57 ls [])) : ∀ (v_o_thrown : Int32) (v_o_textSize : Int32) (v_o_place : Int32) (v_o_rows : Int32) (v_o_readRows : Int32) (v_o_doings : Int32) (v_o_seen : Int32) (v_o_seed : Int64) (v_o_found : Int32) (v_o_foundViews : Int32) (v_o_foundMany : Int32) (d_o_text : (Nat → Int32)) (d_o_readMany : (Nat → Int32)) (d_o_readViews : (Nat → Int32)) (d_o_readAisles : (Nat → Int32)) (d_o_readPage : (Nat → Int32)) (x1 : Int32) (x2 : Int32) (x3 : Int32) (k0 : Int32) (H : Heap) (locs : List Loc) (ls : Array Slot) (res : Int32 × Int32 × Int32 × (Nat → Int32) × (Nat → Int32) × (Nat → Int32) × (Nat → Int32)), va_P D vwCl (WX9_readRow cI cJ cZ cB a_o a_o_text a_o_many a_o_views a_o_aisles a_o_readMany a_o_readViews a_o_readAisles a_o_readPage a_o_page a_o_trial a_o_book a_o_kept a_o_isKept a_o_seenSeat a_o_seenWas v_o_thrown v_o_textSize v_o_place v_o_rows v_o_readRows v_o_doings v_o_seen v_o_seed v_o_found v_o_foundViews v_o_foundMany d_o_text d_o_readMany d_o_readViews d_o_readAisles d_o_readPage) H → va_D A (WX9_readRow cI cJ cZ cB a_o a_o_text a_o_many a_o_views a_o_aisles a_o_readMany a_o_readViews a_o_readAisles a_o_readPage a_o_page a_o_trial a_o_book a_o_kept a_o_isKept a_o_seenSeat a_o_seenWas v_o_thrown v_o_textSize v_o_place v_o_rows v_o_readRows v_o_doings v_o_seen v_o_seed v_o_found v_o_foundViews v_o_foundMany d_o_text d_o_readMany d_o_readViews d_o_readAisles d_o_readPage) → va_S A s.heap H locs → lv_has ls 6 [(0, .ref a_o), (1, .int x1), (2, .int x2), (3, .int x3)] → fX9_readRow_86 k_57 v_o_textSize v_o_place v_o_readRows d_o_text d_o_readMany d_o_readViews d_o_readAisles d_o_readPage x1 x2 x3 k0 = some res → W p l e ({ frames := 2, cells := 0, slots := 0, locals := 48 } : Room) s m args below meth c H locs 0 0 (MQ below (QRw D A (WX9_readRow cI cJ cZ cB a_o a_o_text a_o_many a_o_views a_o_aisles a_o_readMany a_o_readViews a_o_readAisles a_o_readPage a_o_page a_o_trial a_o_book a_o_kept a_o_isKept a_o_seenSeat a_o_seenWas v_o_thrown v_o_textSize res.2.1 v_o_rows res.2.2.1 v_o_doings v_o_seen v_o_seed v_o_found v_o_foundViews v_o_foundMany d_o_text res.2.2.2.1 res.2.2.2.2.1 res.2.2.2.2.2.1 res.2.2.2.2.2.2) (some (.int res.1))) args s 0 0 A) (F0 m 86 ls [.int k0]) := by
  obtain ⟨hx, hb, hr, hml, hts, hown, hlk⟩ := id C
  intro v_o_thrown v_o_textSize v_o_place v_o_rows v_o_readRows v_o_doings v_o_seen v_o_seed v_o_found v_o_foundViews v_o_foundMany d_o_text d_o_readMany d_o_readViews d_o_readAisles d_o_readPage x1 x2 x3 k0 H locs ls res hP hD hS hl hf
  unfold fX9_readRow_86 at hf
  refine lv_istore (lv' := [(5, .int k0), (0, .ref a_o), (1, .int x1), (2, .int x2), (3, .int x3)]) hx hb dX9_readRow_86 hl (by decide) rfl (fun ls hl => ?_)
  refine lv_iconst (v := (0 : Int32)) hx hb dX9_readRow_88 (by decide) ?_
  refine lv_istore (lv' := [(4, .int (0 : Int32)), (5, .int k0), (0, .ref a_o), (1, .int x1), (2, .int x2), (3, .int x3)]) hx hb dX9_readRow_89 hl (by decide) rfl (fun ls hl => ?_)
  refine lv_iload hx hb dX9_readRow_91 (lv_at hl 1 rfl) ?_
  refine lv_i2l (v := (k0).toInt64) hx hb dX9_readRow_93 rfl ?_
  refine lv_ldc2 (v := (48 : Int64)) hx hb hown (hts (.constantLong RX9 89 (48 : Int64)) (by decide +kernel)) dX9_readRow_94 ?_
  refine lv_ldc2 (v := (57 : Int64)) hx hb hown (hts (.constantLong RX9 91 (57 : Int64)) (by decide +kernel)) dX9_readRow_97 ?_
  obtain ⟨q1, hq2, hf⟩ := pf_b hf
  have hPc := hP.sub (ws' := ([] : va_W)) [] rfl
  refine cl_roi (va_runS (As := [.long ((k0).toInt64), .long (48 : Int64), .long (57 : Int64)]) (rest := []) ⟨hx, hb, hml, hown, hts⟩ (kX9_in l D cI cJ cZ cB ((k0).toInt64) (48 : Int64) (57 : Int64) q1 hq2) (va_cwS 3 hts gX9_readRow_X9_in rfl rfl rfl (by decide +kernel) ⟨Nat.le_of_ble_eq_true rfl, Nat.le_of_ble_eq_true rfl⟩) ⟨PRo.blind, PRo.at hK hPc⟩ rfl rfl hl.1 rfl (lv_room (Nat.le_of_ble_eq_true rfl)) dX9_readRow_100 ⟨Nat.zero_le _, Nat.zero_le _⟩) ?_
  refine lv_if_eq (tgt := 157) hx hb dX9_readRow_103 (by decide) (fun hc => ?_) (fun hc => ?_)
  · have hf := pf_t hc hf
    exact tX9_readRow_157 C hK hA hk57 v_o_thrown v_o_textSize v_o_place v_o_rows v_o_readRows v_o_doings v_o_seen v_o_seed v_o_found v_o_foundViews v_o_foundMany d_o_text d_o_readMany d_o_readViews d_o_readAisles d_o_readPage x1 x2 x3 (0 : Int32) k0 _ _ ls _ hP hD hS (lv_sub hl [2, 3, 4, 5, 0, 1] rfl) hf
  · have hf := pf_f hc hf
    refine lv_iload_n hx hb dX9_readRow_106 rfl (lv_at hl 4 rfl) ?_
    refine lv_bipush (v := (9 : Int32)) hx hb dX9_readRow_107 (by decide) ?_
    refine lv_icmp_ge (tgt := 157) hx hb dX9_readRow_109 (by decide) (fun hc => ?_) (fun hc => ?_)
    · have hf := pf_t hc hf
      exact tX9_readRow_157 C hK hA hk57 v_o_thrown v_o_textSize v_o_place v_o_rows v_o_readRows v_o_doings v_o_seen v_o_seed v_o_found v_o_foundViews v_o_foundMany d_o_text d_o_readMany d_o_readViews d_o_readAisles d_o_readPage x1 x2 x3 (0 : Int32) k0 _ _ ls _ hP hD hS (lv_sub hl [2, 3, 4, 5, 0, 1] rfl) hf
    · have hf := pf_f hc hf
      refine lv_aload_n hx hb dX9_readRow_112 rfl (lv_at hl 2 rfl) ?_
      refine va_get (D := D) (ci := 9) (v := .ref a_o_readViews) (C := RX9) (T := TX9) (N := 26) hx hb hts iX9_readRow_X9 hown hK.1 hP 0 rfl rfl 10 (by decide) (hts (.fieldLink RX9 26 "LoneSeatsModel" "readViews" "[I") (by decide +kernel)) (fun _ h9 => h9) rfl dX9_readRow_113 ?_
      refine lv_bipush (v := (9 : Int32)) hx hb dX9_readRow_116 (by decide) ?_
      refine lv_aload_n hx hb dX9_readRow_118 rfl (lv_at hl 2 rfl) ?_
      refine va_get (D := D) (ci := 9) (v := .int v_o_readRows) (C := RX9) (T := TX9) (N := 26) hx hb hts iX9_readRow_X9 hown hK.1 hP 0 rfl rfl 8 (by decide) (hts (.fieldLink RX9 82 "LoneSeatsModel" "readRows" "I") (by decide +kernel)) (fun _ h9 => h9) rfl dX9_readRow_119 ?_
      refine lv_imul hx hb dX9_readRow_122 ?_
      refine lv_iload_n hx hb dX9_readRow_123 rfl (lv_at hl 4 rfl) ?_
      refine lv_iadd hx hb dX9_readRow_124 ?_
      refine lv_iload hx hb dX9_readRow_125 (lv_at hl 1 rfl) ?_
      refine lv_bipush (v := (48 : Int32)) hx hb dX9_readRow_127 (by decide) ?_
      refine lv_isub hx hb dX9_readRow_129 ?_
      obtain ⟨hg3, hf⟩ := pf_x hf
      refine va_iast hx hb hK.1 hP hD hS 3 0 rfl rfl hg3 dX9_readRow_130 (fun H locs hP hD hS => ?_)
      have hP : va_P D vwCl (WX9_readRow cI cJ cZ cB a_o a_o_text a_o_many a_o_views a_o_aisles a_o_readMany a_o_readViews a_o_readAisles a_o_readPage a_o_page a_o_trial a_o_book a_o_kept a_o_isKept a_o_seenSeat a_o_seenWas v_o_thrown v_o_textSize v_o_place v_o_rows v_o_readRows v_o_doings v_o_seen v_o_seed v_o_found v_o_foundViews v_o_foundMany d_o_text d_o_readMany (upd d_o_readViews (((((9 : Int32) * v_o_readRows) + x2)).toNatClampNeg) (k0 - (48 : Int32))) d_o_readAisles d_o_readPage) H := hP
      have hD : va_D A (WX9_readRow cI cJ cZ cB a_o a_o_text a_o_many a_o_views a_o_aisles a_o_readMany a_o_readViews a_o_readAisles a_o_readPage a_o_page a_o_trial a_o_book a_o_kept a_o_isKept a_o_seenSeat a_o_seenWas v_o_thrown v_o_textSize v_o_place v_o_rows v_o_readRows v_o_doings v_o_seen v_o_seed v_o_found v_o_foundViews v_o_foundMany d_o_text d_o_readMany (upd d_o_readViews (((((9 : Int32) * v_o_readRows) + x2)).toNatClampNeg) (k0 - (48 : Int32))) d_o_readAisles d_o_readPage) := hD
      refine lv_aload_n hx hb dX9_readRow_131 rfl (lv_at hl 2 rfl) ?_
      refine va_get (D := D) (ci := 9) (v := .ref a_o_readAisles) (C := RX9) (T := TX9) (N := 26) hx hb hts iX9_readRow_X9 hown hK.1 hP 0 rfl rfl 11 (by decide) (hts (.fieldLink RX9 29 "LoneSeatsModel" "readAisles" "[Z") (by decide +kernel)) (fun _ h9 => h9) rfl dX9_readRow_132 ?_
      refine lv_bipush (v := (9 : Int32)) hx hb dX9_readRow_135 (by decide) ?_
      refine lv_aload_n hx hb dX9_readRow_137 rfl (lv_at hl 2 rfl) ?_
      refine va_get (D := D) (ci := 9) (v := .int v_o_readRows) (C := RX9) (T := TX9) (N := 26) hx hb hts iX9_readRow_X9 hown hK.1 hP 0 rfl rfl 8 (by decide) (hts (.fieldLink RX9 82 "LoneSeatsModel" "readRows" "I") (by decide +kernel)) (fun _ h9 => h9) rfl dX9_readRow_138 ?_
      refine lv_imul hx hb dX9_readRow_141 ?_
      refine lv_iload_n hx hb dX9_readRow_142 rfl (lv_at hl 4 rfl) ?_
      refine lv_iadd hx hb dX9_readRow_143 ?_
      refine lv_iconst (v := (0 : Int32)) hx hb dX9_readRow_144 (by decide) ?_
      obtain ⟨hg4, hf⟩ := pf_x hf
      refine va_zast hx hb hK.1 hP hD hS 4 2 rfl rfl hg4 dX9_readRow_145 (fun H locs hP hD hS => ?_)
      have hP : va_P D vwCl (WX9_readRow cI cJ cZ cB a_o a_o_text a_o_many a_o_views a_o_aisles a_o_readMany a_o_readViews a_o_readAisles a_o_readPage a_o_page a_o_trial a_o_book a_o_kept a_o_isKept a_o_seenSeat a_o_seenWas v_o_thrown v_o_textSize v_o_place v_o_rows v_o_readRows v_o_doings v_o_seen v_o_seed v_o_found v_o_foundViews v_o_foundMany d_o_text d_o_readMany (upd d_o_readViews (((((9 : Int32) * v_o_readRows) + x2)).toNatClampNeg) (k0 - (48 : Int32))) (upd d_o_readAisles (((((9 : Int32) * v_o_readRows) + x2)).toNatClampNeg) (vp_nar .boolean (0 : Int32))) d_o_readPage) H := hP
      have hD : va_D A (WX9_readRow cI cJ cZ cB a_o a_o_text a_o_many a_o_views a_o_aisles a_o_readMany a_o_readViews a_o_readAisles a_o_readPage a_o_page a_o_trial a_o_book a_o_kept a_o_isKept a_o_seenSeat a_o_seenWas v_o_thrown v_o_textSize v_o_place v_o_rows v_o_readRows v_o_doings v_o_seen v_o_seed v_o_found v_o_foundViews v_o_foundMany d_o_text d_o_readMany (upd d_o_readViews (((((9 : Int32) * v_o_readRows) + x2)).toNatClampNeg) (k0 - (48 : Int32))) (upd d_o_readAisles (((((9 : Int32) * v_o_readRows) + x2)).toNatClampNeg) (vp_nar .boolean (0 : Int32))) d_o_readPage) := hD
      refine lv_iinc (v := (x2 + (1 : Int32))) (lv' := [(2, .int (x2 + (1 : Int32))), (4, .int (0 : Int32)), (5, .int k0), (0, .ref a_o), (1, .int x1), (3, .int x3)]) hx hb dX9_readRow_146 hl (k := 4) rfl rfl (by decide) rfl (fun ls hl => ?_)
      refine lv_iconst (v := (0 : Int32)) hx hb dX9_readRow_149 (by decide) ?_
      refine lv_istore_n (lv' := [(3, .int (0 : Int32)), (2, .int (x2 + (1 : Int32))), (4, .int (0 : Int32)), (5, .int k0), (0, .ref a_o), (1, .int x1)]) hx hb dX9_readRow_150 rfl hl (by decide) rfl (fun ls hl => ?_)
      refine lv_iconst (v := (1 : Int32)) hx hb dX9_readRow_151 (by decide) ?_
      refine lv_istore (lv' := [(4, .int (1 : Int32)), (3, .int (0 : Int32)), (2, .int (x2 + (1 : Int32))), (5, .int k0), (0, .ref a_o), (1, .int x1)]) hx hb dX9_readRow_152 hl (by decide) rfl (fun ls hl => ?_)
      refine lv_goto (tgt := 200) hx hb dX9_readRow_154 (by decide) ?_
      exact tX9_readRow_200 C hK hA hk57 v_o_thrown v_o_textSize v_o_place v_o_rows v_o_readRows v_o_doings v_o_seen v_o_seed v_o_found v_o_foundViews v_o_foundMany d_o_text d_o_readMany (upd d_o_readViews (((((9 : Int32) * v_o_readRows) + x2)).toNatClampNeg) (k0 - (48 : Int32))) (upd d_o_readAisles (((((9 : Int32) * v_o_readRows) + x2)).toNatClampNeg) (vp_nar .boolean (0 : Int32))) d_o_readPage x1 (x2 + (1 : Int32)) (0 : Int32) (1 : Int32) _ _ ls _ hP hD hS (lv_sub hl [4, 5, 2, 1, 0] rfl) hf
def fX9_readRow_57 : Nat → Int32 → Int32 → Int32 → (Nat → Int32) → (Nat → Int32) → (Nat → Int32) → (Nat → Int32) → (Nat → Int32) → Int32 → Int32 → Int32 → Int32 → Option (Int32 × Int32 × Int32 × (Nat → Int32) × (Nat → Int32) × (Nat → Int32) × (Nat → Int32))
  | 0, _, _, _, _, _, _, _, _, _, _, _, _ => none
  | n + 1, v_o_textSize, v_o_place, v_o_readRows, d_o_text, d_o_readMany, d_o_readViews, d_o_readAisles, d_o_readPage, x1, x2, x3, x4 => (if x4 = 0 then (if x2 = 0 then some ((0 : Int32), v_o_place, v_o_readRows, d_o_readMany, d_o_readViews, d_o_readAisles, d_o_readPage) else (if x3 = 0 then (if ((0 : Int32) + v_o_readRows) < 0 ∨ 229 ≤ (((0 : Int32) + v_o_readRows)).toNatClampNeg then none else (if v_o_readRows < 0 ∨ 4 ≤ (v_o_readRows).toNatClampNeg then none else some ((1 : Int32), v_o_place, (v_o_readRows + (1 : Int32)), (upd d_o_readMany ((v_o_readRows).toNatClampNeg) x2), d_o_readViews, d_o_readAisles, (upd d_o_readPage ((((0 : Int32) + v_o_readRows)).toNatClampNeg) x1)))) else some ((0 : Int32), v_o_place, v_o_readRows, d_o_readMany, d_o_readViews, d_o_readAisles, d_o_readPage))) else (if v_o_textSize ≤ v_o_place then fX9_readRow_86 (fX9_readRow_57 n) v_o_textSize v_o_place v_o_readRows d_o_text d_o_readMany d_o_readViews d_o_readAisles d_o_readPage x1 x2 x3 (0 : Int32) else (if v_o_place < 0 ∨ 80 ≤ (v_o_place).toNatClampNeg then none else fX9_readRow_86 (fX9_readRow_57 n) v_o_textSize v_o_place v_o_readRows d_o_text d_o_readMany d_o_readViews d_o_readAisles d_o_readPage x1 x2 x3 (d_o_text (v_o_place).toNatClampNeg))))
set_option maxRecDepth 100000 in
set_option maxHeartbeats 4000000 in
theorem tX9_readRow_57 {p : Program} {l : Launch} {e : Env} {s : State} {m : MethodId} {args : Array Value} {below : List Frame} {meth : Method} {c : Code} {D : va_G} {cI cJ cZ cB : ClassId} {a_o : Nat} {a_o_text : Nat} {a_o_many : Nat} {a_o_views : Nat} {a_o_aisles : Nat} {a_o_readMany : Nat} {a_o_readViews : Nat} {a_o_readAisles : Nat} {a_o_readPage : Nat} {a_o_page : Nat} {a_o_trial : Nat} {a_o_book : Nat} {a_o_kept : Nat} {a_o_isKept : Nat} {a_o_seenSeat : Nat} {a_o_seenWas : Nat} {A : Nat → Prop} (C : Cx p s m args meth c cX9_readRow 6 (some .boolean) wsX9_readRow RX9) (hK : Kw D (tyL cI cJ cZ cB) s) (hA : ∀ q : Nat, s.heap.size ≤ q → A q) : ∀ (n : Nat), ∀ (v_o_thrown : Int32) (v_o_textSize : Int32) (v_o_place : Int32) (v_o_rows : Int32) (v_o_readRows : Int32) (v_o_doings : Int32) (v_o_seen : Int32) (v_o_seed : Int64) (v_o_found : Int32) (v_o_foundViews : Int32) (v_o_foundMany : Int32) (d_o_text : (Nat → Int32)) (d_o_readMany : (Nat → Int32)) (d_o_readViews : (Nat → Int32)) (d_o_readAisles : (Nat → Int32)) (d_o_readPage : (Nat → Int32)) (x1 : Int32) (x2 : Int32) (x3 : Int32) (x4 : Int32) (H : Heap) (locs : List Loc) (ls : Array Slot) (res : Int32 × Int32 × Int32 × (Nat → Int32) × (Nat → Int32) × (Nat → Int32) × (Nat → Int32)), va_P D vwCl (WX9_readRow cI cJ cZ cB a_o a_o_text a_o_many a_o_views a_o_aisles a_o_readMany a_o_readViews a_o_readAisles a_o_readPage a_o_page a_o_trial a_o_book a_o_kept a_o_isKept a_o_seenSeat a_o_seenWas v_o_thrown v_o_textSize v_o_place v_o_rows v_o_readRows v_o_doings v_o_seen v_o_seed v_o_found v_o_foundViews v_o_foundMany d_o_text d_o_readMany d_o_readViews d_o_readAisles d_o_readPage) H → va_D A (WX9_readRow cI cJ cZ cB a_o a_o_text a_o_many a_o_views a_o_aisles a_o_readMany a_o_readViews a_o_readAisles a_o_readPage a_o_page a_o_trial a_o_book a_o_kept a_o_isKept a_o_seenSeat a_o_seenWas v_o_thrown v_o_textSize v_o_place v_o_rows v_o_readRows v_o_doings v_o_seen v_o_seed v_o_found v_o_foundViews v_o_foundMany d_o_text d_o_readMany d_o_readViews d_o_readAisles d_o_readPage) → va_S A s.heap H locs → lv_has ls 6 [(0, .ref a_o), (1, .int x1), (2, .int x2), (3, .int x3), (4, .int x4)] → fX9_readRow_57 n v_o_textSize v_o_place v_o_readRows d_o_text d_o_readMany d_o_readViews d_o_readAisles d_o_readPage x1 x2 x3 x4 = some res → W p l e ({ frames := 2, cells := 0, slots := 0, locals := 48 } : Room) s m args below meth c H locs 0 0 (MQ below (QRw D A (WX9_readRow cI cJ cZ cB a_o a_o_text a_o_many a_o_views a_o_aisles a_o_readMany a_o_readViews a_o_readAisles a_o_readPage a_o_page a_o_trial a_o_book a_o_kept a_o_isKept a_o_seenSeat a_o_seenWas v_o_thrown v_o_textSize res.2.1 v_o_rows res.2.2.1 v_o_doings v_o_seen v_o_seed v_o_found v_o_foundViews v_o_foundMany d_o_text res.2.2.2.1 res.2.2.2.2.1 res.2.2.2.2.2.1 res.2.2.2.2.2.2) (some (.int res.1))) args s 0 0 A) (F0 m 57 ls []) := by
  obtain ⟨hx, hb, hr, hml, hts, hown, hlk⟩ := id C
  intro n
  induction n with
  | zero =>
    intro v_o_thrown v_o_textSize v_o_place v_o_rows v_o_readRows v_o_doings v_o_seen v_o_seed v_o_found v_o_foundViews v_o_foundMany d_o_text d_o_readMany d_o_readViews d_o_readAisles d_o_readPage x1 x2 x3 x4 H locs ls res hP hD hS hl hf
    rw [fX9_readRow_57] at hf
    cases hf
  | succ n ih =>
    intro v_o_thrown v_o_textSize v_o_place v_o_rows v_o_readRows v_o_doings v_o_seen v_o_seed v_o_found v_o_foundViews v_o_foundMany d_o_text d_o_readMany d_o_readViews d_o_readAisles d_o_readPage x1 x2 x3 x4 H locs ls res hP hD hS hl hf
    rw [fX9_readRow_57] at hf
    refine lv_iload hx hb dX9_readRow_57 (lv_at hl 4 rfl) ?_
    refine lv_if_eq (tgt := 222) hx hb dX9_readRow_59 (by decide) (fun hc => ?_) (fun hc => ?_)
    · have hf := pf_t hc hf
      refine lv_iload_n hx hb dX9_readRow_222 rfl (lv_at hl 2 rfl) ?_
      refine lv_if_eq (tgt := 230) hx hb dX9_readRow_223 (by decide) (fun hc => ?_) (fun hc => ?_)
      · have hf := pf_t hc hf
        refine lv_iconst (v := (0 : Int32)) hx hb dX9_readRow_230 (by decide) ?_
        cases hf
        exact W.zret hx hb hr (nar_b (by decide)) (fun t ht hW => ⟨⟨rfl, by rw [ht]; exact hP, hD⟩, hS.F ht⟩) hS.2.2 dX9_readRow_231
      · have hf := pf_f hc hf
        refine lv_iload_n hx hb dX9_readRow_226 rfl (lv_at hl 3 rfl) ?_
        refine lv_if_eq (tgt := 232) hx hb dX9_readRow_227 (by decide) (fun hc => ?_) (fun hc => ?_)
        · have hf := pf_t hc hf
          refine lv_aload_n hx hb dX9_readRow_232 rfl (lv_at hl 0 rfl) ?_
          refine va_get (D := D) (ci := 9) (v := .ref a_o_readPage) (C := RX9) (T := TX9) (N := 26) hx hb hts iX9_readRow_X9 hown hK.1 hP 0 rfl rfl 12 (by decide) (hts (.fieldLink RX9 32 "LoneSeatsModel" "readPage" "[I") (by decide +kernel)) (fun _ h9 => h9) rfl dX9_readRow_233 ?_
          refine lv_iconst (v := (0 : Int32)) hx hb dX9_readRow_236 (by decide) ?_
          refine lv_aload_n hx hb dX9_readRow_237 rfl (lv_at hl 0 rfl) ?_
          refine va_get (D := D) (ci := 9) (v := .int v_o_readRows) (C := RX9) (T := TX9) (N := 26) hx hb hts iX9_readRow_X9 hown hK.1 hP 0 rfl rfl 8 (by decide) (hts (.fieldLink RX9 82 "LoneSeatsModel" "readRows" "I") (by decide +kernel)) (fun _ h9 => h9) rfl dX9_readRow_238 ?_
          refine lv_iadd hx hb dX9_readRow_241 ?_
          refine lv_iload_n hx hb dX9_readRow_242 rfl (lv_at hl 1 rfl) ?_
          obtain ⟨hg1, hf⟩ := pf_x hf
          refine va_iast hx hb hK.1 hP hD hS 5 0 rfl rfl hg1 dX9_readRow_243 (fun H locs hP hD hS => ?_)
          have hP : va_P D vwCl (WX9_readRow cI cJ cZ cB a_o a_o_text a_o_many a_o_views a_o_aisles a_o_readMany a_o_readViews a_o_readAisles a_o_readPage a_o_page a_o_trial a_o_book a_o_kept a_o_isKept a_o_seenSeat a_o_seenWas v_o_thrown v_o_textSize v_o_place v_o_rows v_o_readRows v_o_doings v_o_seen v_o_seed v_o_found v_o_foundViews v_o_foundMany d_o_text d_o_readMany d_o_readViews d_o_readAisles (upd d_o_readPage ((((0 : Int32) + v_o_readRows)).toNatClampNeg) x1)) H := hP
          have hD : va_D A (WX9_readRow cI cJ cZ cB a_o a_o_text a_o_many a_o_views a_o_aisles a_o_readMany a_o_readViews a_o_readAisles a_o_readPage a_o_page a_o_trial a_o_book a_o_kept a_o_isKept a_o_seenSeat a_o_seenWas v_o_thrown v_o_textSize v_o_place v_o_rows v_o_readRows v_o_doings v_o_seen v_o_seed v_o_found v_o_foundViews v_o_foundMany d_o_text d_o_readMany d_o_readViews d_o_readAisles (upd d_o_readPage ((((0 : Int32) + v_o_readRows)).toNatClampNeg) x1)) := hD
          refine lv_aload_n hx hb dX9_readRow_244 rfl (lv_at hl 0 rfl) ?_
          refine va_get (D := D) (ci := 9) (v := .ref a_o_readMany) (C := RX9) (T := TX9) (N := 26) hx hb hts iX9_readRow_X9 hown hK.1 hP 0 rfl rfl 9 (by decide) (hts (.fieldLink RX9 23 "LoneSeatsModel" "readMany" "[I") (by decide +kernel)) (fun _ h9 => h9) rfl dX9_readRow_245 ?_
          refine lv_aload_n hx hb dX9_readRow_248 rfl (lv_at hl 0 rfl) ?_
          refine va_get (D := D) (ci := 9) (v := .int v_o_readRows) (C := RX9) (T := TX9) (N := 26) hx hb hts iX9_readRow_X9 hown hK.1 hP 0 rfl rfl 8 (by decide) (hts (.fieldLink RX9 82 "LoneSeatsModel" "readRows" "I") (by decide +kernel)) (fun _ h9 => h9) rfl dX9_readRow_249 ?_
          refine lv_iload_n hx hb dX9_readRow_252 rfl (lv_at hl 2 rfl) ?_
          obtain ⟨hg2, hf⟩ := pf_x hf
          refine va_iast hx hb hK.1 hP hD hS 2 0 rfl rfl hg2 dX9_readRow_253 (fun H locs hP hD hS => ?_)
          have hP : va_P D vwCl (WX9_readRow cI cJ cZ cB a_o a_o_text a_o_many a_o_views a_o_aisles a_o_readMany a_o_readViews a_o_readAisles a_o_readPage a_o_page a_o_trial a_o_book a_o_kept a_o_isKept a_o_seenSeat a_o_seenWas v_o_thrown v_o_textSize v_o_place v_o_rows v_o_readRows v_o_doings v_o_seen v_o_seed v_o_found v_o_foundViews v_o_foundMany d_o_text (upd d_o_readMany ((v_o_readRows).toNatClampNeg) x2) d_o_readViews d_o_readAisles (upd d_o_readPage ((((0 : Int32) + v_o_readRows)).toNatClampNeg) x1)) H := hP
          have hD : va_D A (WX9_readRow cI cJ cZ cB a_o a_o_text a_o_many a_o_views a_o_aisles a_o_readMany a_o_readViews a_o_readAisles a_o_readPage a_o_page a_o_trial a_o_book a_o_kept a_o_isKept a_o_seenSeat a_o_seenWas v_o_thrown v_o_textSize v_o_place v_o_rows v_o_readRows v_o_doings v_o_seen v_o_seed v_o_found v_o_foundViews v_o_foundMany d_o_text (upd d_o_readMany ((v_o_readRows).toNatClampNeg) x2) d_o_readViews d_o_readAisles (upd d_o_readPage ((((0 : Int32) + v_o_readRows)).toNatClampNeg) x1)) := hD
          refine lv_aload_n hx hb dX9_readRow_254 rfl (lv_at hl 0 rfl) ?_
          refine lv_dup hx hb dX9_readRow_255 rfl ?_
          refine va_get (D := D) (ci := 9) (v := .int v_o_readRows) (C := RX9) (T := TX9) (N := 26) hx hb hts iX9_readRow_X9 hown hK.1 hP 0 rfl rfl 8 (by decide) (hts (.fieldLink RX9 82 "LoneSeatsModel" "readRows" "I") (by decide +kernel)) (fun _ h9 => h9) rfl dX9_readRow_256 ?_
          refine lv_iconst (v := (1 : Int32)) hx hb dX9_readRow_259 (by decide) ?_
          refine lv_iadd hx hb dX9_readRow_260 ?_
          refine va_put (D := D) (ci := 9) (v := .int (v_o_readRows + (1 : Int32))) (ty := .int) (C := RX9) (T := TX9) (N := 26) hx hb hts iX9_readRow_X9 tyX9 tyX9_ok nmX9 hown hK.1 hP hD hS 0 rfl rfl 8 (by decide) (hts (.fieldLink RX9 82 "LoneSeatsModel" "readRows" "I") (by decide +kernel)) (fun _ h9 => h9) rfl (by decide +kernel) rfl rfl (Nat.le_of_ble_eq_true rfl) dX9_readRow_261 (fun H locs hP hD hS => ?_)
          have hP : va_P D vwCl (WX9_readRow cI cJ cZ cB a_o a_o_text a_o_many a_o_views a_o_aisles a_o_readMany a_o_readViews a_o_readAisles a_o_readPage a_o_page a_o_trial a_o_book a_o_kept a_o_isKept a_o_seenSeat a_o_seenWas v_o_thrown v_o_textSize v_o_place v_o_rows (v_o_readRows + (1 : Int32)) v_o_doings v_o_seen v_o_seed v_o_found v_o_foundViews v_o_foundMany d_o_text (upd d_o_readMany ((v_o_readRows).toNatClampNeg) x2) d_o_readViews d_o_readAisles (upd d_o_readPage ((((0 : Int32) + v_o_readRows)).toNatClampNeg) x1)) H := hP
          have hD : va_D A (WX9_readRow cI cJ cZ cB a_o a_o_text a_o_many a_o_views a_o_aisles a_o_readMany a_o_readViews a_o_readAisles a_o_readPage a_o_page a_o_trial a_o_book a_o_kept a_o_isKept a_o_seenSeat a_o_seenWas v_o_thrown v_o_textSize v_o_place v_o_rows (v_o_readRows + (1 : Int32)) v_o_doings v_o_seen v_o_seed v_o_found v_o_foundViews v_o_foundMany d_o_text (upd d_o_readMany ((v_o_readRows).toNatClampNeg) x2) d_o_readViews d_o_readAisles (upd d_o_readPage ((((0 : Int32) + v_o_readRows)).toNatClampNeg) x1)) := hD
          refine lv_iconst (v := (1 : Int32)) hx hb dX9_readRow_264 (by decide) ?_
          cases hf
          exact W.zret hx hb hr (nar_b (by decide)) (fun t ht hW => ⟨⟨rfl, by rw [ht]; exact hP, hD⟩, hS.F ht⟩) hS.2.2 dX9_readRow_265
        · have hf := pf_f hc hf
          refine lv_iconst (v := (0 : Int32)) hx hb dX9_readRow_230 (by decide) ?_
          cases hf
          exact W.zret hx hb hr (nar_b (by decide)) (fun t ht hW => ⟨⟨rfl, by rw [ht]; exact hP, hD⟩, hS.F ht⟩) hS.2.2 dX9_readRow_231
    · have hf := pf_f hc hf
      refine lv_aload_n hx hb dX9_readRow_62 rfl (lv_at hl 0 rfl) ?_
      refine va_get (D := D) (ci := 9) (v := .int v_o_place) (C := RX9) (T := TX9) (N := 26) hx hb hts iX9_readRow_X9 hown hK.1 hP 0 rfl rfl 3 (by decide) (hts (.fieldLink RX9 79 "LoneSeatsModel" "place" "I") (by decide +kernel)) (fun _ h9 => h9) rfl dX9_readRow_63 ?_
      refine lv_aload_n hx hb dX9_readRow_66 rfl (lv_at hl 0 rfl) ?_
      refine va_get (D := D) (ci := 9) (v := .int v_o_textSize) (C := RX9) (T := TX9) (N := 26) hx hb hts iX9_readRow_X9 hown hK.1 hP 0 rfl rfl 2 (by decide) (hts (.fieldLink RX9 76 "LoneSeatsModel" "textSize" "I") (by decide +kernel)) (fun _ h9 => h9) rfl dX9_readRow_67 ?_
      refine lv_icmp_ge (tgt := 85) hx hb dX9_readRow_70 (by decide) (fun hc => ?_) (fun hc => ?_)
      · have hf := pf_t hc hf
        refine lv_iconst (v := (0 : Int32)) hx hb dX9_readRow_85 (by decide) ?_
        exact tX9_readRow_86 C hK hA ih v_o_thrown v_o_textSize v_o_place v_o_rows v_o_readRows v_o_doings v_o_seen v_o_seed v_o_found v_o_foundViews v_o_foundMany d_o_text d_o_readMany d_o_readViews d_o_readAisles d_o_readPage x1 x2 x3 (0 : Int32) _ _ ls _ hP hD hS (lv_sub hl [0, 1, 2, 3] rfl) hf
      · have hf := pf_f hc hf
        refine lv_aload_n hx hb dX9_readRow_73 rfl (lv_at hl 0 rfl) ?_
        refine va_get (D := D) (ci := 9) (v := .ref a_o_text) (C := RX9) (T := TX9) (N := 26) hx hb hts iX9_readRow_X9 hown hK.1 hP 0 rfl rfl 1 (by decide) (hts (.fieldLink RX9 7 "LoneSeatsModel" "text" "[I") (by decide +kernel)) (fun _ h9 => h9) rfl dX9_readRow_74 ?_
        refine lv_aload_n hx hb dX9_readRow_77 rfl (lv_at hl 0 rfl) ?_
        refine va_get (D := D) (ci := 9) (v := .int v_o_place) (C := RX9) (T := TX9) (N := 26) hx hb hts iX9_readRow_X9 hown hK.1 hP 0 rfl rfl 3 (by decide) (hts (.fieldLink RX9 79 "LoneSeatsModel" "place" "I") (by decide +kernel)) (fun _ h9 => h9) rfl dX9_readRow_78 ?_
        obtain ⟨hg3, hf⟩ := pf_x hf
        refine va_iald hx hb hK.1 hP 1 0 rfl rfl hg3 dX9_readRow_81 ?_
        refine lv_goto (tgt := 86) hx hb dX9_readRow_82 (by decide) ?_
        exact tX9_readRow_86 C hK hA ih v_o_thrown v_o_textSize v_o_place v_o_rows v_o_readRows v_o_doings v_o_seen v_o_seed v_o_found v_o_foundViews v_o_foundMany d_o_text d_o_readMany d_o_readViews d_o_readAisles d_o_readPage x1 x2 x3 (d_o_text (v_o_place).toNatClampNeg) _ _ ls _ hP hD hS (lv_sub hl [0, 1, 2, 3] rfl) hf
def fX9_readRow (v_o_textSize : Int32) (v_o_place : Int32) (v_o_readRows : Int32) (d_o_text : (Nat → Int32)) (d_o_readMany : (Nat → Int32)) (d_o_readViews : (Nat → Int32)) (d_o_readAisles : (Nat → Int32)) (d_o_readPage : (Nat → Int32)) : Option (Int32 × Int32 × Int32 × (Nat → Int32) × (Nat → Int32) × (Nat → Int32) × (Nat → Int32)) := (if v_o_place < 0 ∨ 80 ≤ (v_o_place).toNatClampNeg then none else (if (d_o_text (v_o_place).toNatClampNeg) = (114 : Int32) then (if v_o_readRows = (4 : Int32) then some ((0 : Int32), v_o_place, v_o_readRows, d_o_readMany, d_o_readViews, d_o_readAisles, d_o_readPage) else ((fX9_figure v_o_textSize (v_o_place + (1 : Int32)) d_o_text (1 : Int32) (9 : Int32)).bind fun q2 => (if q2.1 = (-9 : Int32) then some ((0 : Int32), q2.2, v_o_readRows, d_o_readMany, d_o_readViews, d_o_readAisles, d_o_readPage) else fX9_readRow_57 FU v_o_textSize q2.2 v_o_readRows d_o_text d_o_readMany d_o_readViews d_o_readAisles d_o_readPage q2.1 (0 : Int32) (0 : Int32) (1 : Int32)))) else some ((0 : Int32), v_o_place, v_o_readRows, d_o_readMany, d_o_readViews, d_o_readAisles, d_o_readPage)))
set_option maxRecDepth 100000 in
set_option maxHeartbeats 4000000 in
theorem kX9_readRow (l : Launch) (D : va_G) (cI cJ cZ cB : ClassId) (a_o : Nat) (a_o_text : Nat) (a_o_many : Nat) (a_o_views : Nat) (a_o_aisles : Nat) (a_o_readMany : Nat) (a_o_readViews : Nat) (a_o_readAisles : Nat) (a_o_readPage : Nat) (a_o_page : Nat) (a_o_trial : Nat) (a_o_book : Nat) (a_o_kept : Nat) (a_o_isKept : Nat) (a_o_seenSeat : Nat) (a_o_seenWas : Nat) (v_o_thrown : Int32) (v_o_textSize : Int32) (v_o_place : Int32) (v_o_rows : Int32) (v_o_readRows : Int32) (v_o_doings : Int32) (v_o_seen : Int32) (v_o_seed : Int64) (v_o_found : Int32) (v_o_foundViews : Int32) (v_o_foundMany : Int32) (d_o_text : (Nat → Int32)) (d_o_readMany : (Nat → Int32)) (d_o_readViews : (Nat → Int32)) (d_o_readAisles : (Nat → Int32)) (d_o_readPage : (Nat → Int32)) (res : Int32 × Int32 × Int32 × (Nat → Int32) × (Nat → Int32) × (Nat → Int32) × (Nat → Int32)) (hf : fX9_readRow v_o_textSize v_o_place v_o_readRows d_o_text d_o_readMany d_o_readViews d_o_readAisles d_o_readPage = some res) : Rw l yX9_readRow wsX9_readRow ({ frames := 2, cells := 0, slots := 0, locals := 48 } : Room) D (tyL cI cJ cZ cB) [.ref a_o] (WX9_readRow cI cJ cZ cB a_o a_o_text a_o_many a_o_views a_o_aisles a_o_readMany a_o_readViews a_o_readAisles a_o_readPage a_o_page a_o_trial a_o_book a_o_kept a_o_isKept a_o_seenSeat a_o_seenWas v_o_thrown v_o_textSize v_o_place v_o_rows v_o_readRows v_o_doings v_o_seen v_o_seed v_o_found v_o_foundViews v_o_foundMany d_o_text d_o_readMany d_o_readViews d_o_readAisles d_o_readPage) (some (.int res.1)) (WX9_readRow cI cJ cZ cB a_o a_o_text a_o_many a_o_views a_o_aisles a_o_readMany a_o_readViews a_o_readAisles a_o_readPage a_o_page a_o_trial a_o_book a_o_kept a_o_isKept a_o_seenSeat a_o_seenWas v_o_thrown v_o_textSize res.2.1 v_o_rows res.2.2.1 v_o_doings v_o_seen v_o_seed v_o_found v_o_foundViews v_o_foundMany d_o_text res.2.2.2.1 res.2.2.2.2.1 res.2.2.2.2.2.1 res.2.2.2.2.2.2) := by
  refine Rw.of (cc := cX9_readRow) (maxL := 6) (ret := (some .boolean)) (own := RX9) (by decide) rfl rfl (Nat.le_of_ble_eq_true rfl) ?_
  intro p e s m below meth c A ls C hK hA hP hD hS hl
  obtain ⟨hx, hb, hr, hml, hts, hown, hlk⟩ := id C
  have hl : lv_has ls 6 [(0, .ref a_o)] := hl
  unfold fX9_readRow at hf
  refine lv_aload_n hx hb dX9_readRow_0 rfl (lv_at hl 0 rfl) ?_
  refine va_get (D := D) (ci := 9) (v := .ref a_o_text) (C := RX9) (T := TX9) (N := 26) hx hb hts iX9_readRow_X9 hown hK.1 hP 0 rfl rfl 1 (by decide) (hts (.fieldLink RX9 7 "LoneSeatsModel" "text" "[I") (by decide +kernel)) (fun _ h9 => h9) rfl dX9_readRow_1 ?_
  refine lv_aload_n hx hb dX9_readRow_4 rfl (lv_at hl 0 rfl) ?_
  refine va_get (D := D) (ci := 9) (v := .int v_o_place) (C := RX9) (T := TX9) (N := 26) hx hb hts iX9_readRow_X9 hown hK.1 hP 0 rfl rfl 3 (by decide) (hts (.fieldLink RX9 79 "LoneSeatsModel" "place" "I") (by decide +kernel)) (fun _ h9 => h9) rfl dX9_readRow_5 ?_
  obtain ⟨hg1, hf⟩ := pf_x hf
  refine va_iald hx hb hK.1 hP 1 0 rfl rfl hg1 dX9_readRow_8 ?_
  refine lv_bipush (v := (114 : Int32)) hx hb dX9_readRow_9 (by decide) ?_
  refine lv_icmp_ne (tgt := 22) hx hb dX9_readRow_11 (by decide) (fun hc => ?_) (fun hc => ?_)
  · have hf := pf_f hc hf
    refine lv_iconst (v := (0 : Int32)) hx hb dX9_readRow_22 (by decide) ?_
    cases hf
    exact W.zret hx hb hr (nar_b (by decide)) (fun t ht hW => ⟨⟨rfl, by rw [ht]; exact hP, hD⟩, hS.F ht⟩) hS.2.2 dX9_readRow_23
  · have hf := pf_t hc hf
    refine lv_aload_n hx hb dX9_readRow_14 rfl (lv_at hl 0 rfl) ?_
    refine va_get (D := D) (ci := 9) (v := .int v_o_readRows) (C := RX9) (T := TX9) (N := 26) hx hb hts iX9_readRow_X9 hown hK.1 hP 0 rfl rfl 8 (by decide) (hts (.fieldLink RX9 82 "LoneSeatsModel" "readRows" "I") (by decide +kernel)) (fun _ h9 => h9) rfl dX9_readRow_15 ?_
    refine lv_iconst (v := (4 : Int32)) hx hb dX9_readRow_18 (by decide) ?_
    refine lv_icmp_ne (tgt := 24) hx hb dX9_readRow_19 (by decide) (fun hc => ?_) (fun hc => ?_)
    · have hf := pf_f hc hf
      refine lv_aload_n hx hb dX9_readRow_24 rfl (lv_at hl 0 rfl) ?_
      refine lv_dup hx hb dX9_readRow_25 rfl ?_
      refine va_get (D := D) (ci := 9) (v := .int v_o_place) (C := RX9) (T := TX9) (N := 26) hx hb hts iX9_readRow_X9 hown hK.1 hP 0 rfl rfl 3 (by decide) (hts (.fieldLink RX9 79 "LoneSeatsModel" "place" "I") (by decide +kernel)) (fun _ h9 => h9) rfl dX9_readRow_26 ?_
      refine lv_iconst (v := (1 : Int32)) hx hb dX9_readRow_29 (by decide) ?_
      refine lv_iadd hx hb dX9_readRow_30 ?_
      refine va_put (D := D) (ci := 9) (v := .int (v_o_place + (1 : Int32))) (ty := .int) (C := RX9) (T := TX9) (N := 26) hx hb hts iX9_readRow_X9 tyX9 tyX9_ok nmX9 hown hK.1 hP hD hS 0 rfl rfl 3 (by decide) (hts (.fieldLink RX9 79 "LoneSeatsModel" "place" "I") (by decide +kernel)) (fun _ h9 => h9) rfl (by decide +kernel) rfl rfl (Nat.le_of_ble_eq_true rfl) dX9_readRow_31 (fun H locs hP hD hS => ?_)
      have hP : va_P D vwCl (WX9_readRow cI cJ cZ cB a_o a_o_text a_o_many a_o_views a_o_aisles a_o_readMany a_o_readViews a_o_readAisles a_o_readPage a_o_page a_o_trial a_o_book a_o_kept a_o_isKept a_o_seenSeat a_o_seenWas v_o_thrown v_o_textSize (v_o_place + (1 : Int32)) v_o_rows v_o_readRows v_o_doings v_o_seen v_o_seed v_o_found v_o_foundViews v_o_foundMany d_o_text d_o_readMany d_o_readViews d_o_readAisles d_o_readPage) H := hP
      have hD : va_D A (WX9_readRow cI cJ cZ cB a_o a_o_text a_o_many a_o_views a_o_aisles a_o_readMany a_o_readViews a_o_readAisles a_o_readPage a_o_page a_o_trial a_o_book a_o_kept a_o_isKept a_o_seenSeat a_o_seenWas v_o_thrown v_o_textSize (v_o_place + (1 : Int32)) v_o_rows v_o_readRows v_o_doings v_o_seen v_o_seed v_o_found v_o_foundViews v_o_foundMany d_o_text d_o_readMany d_o_readViews d_o_readAisles d_o_readPage) := hD
      refine lv_aload_n hx hb dX9_readRow_34 rfl (lv_at hl 0 rfl) ?_
      refine lv_iconst (v := (1 : Int32)) hx hb dX9_readRow_35 (by decide) ?_
      refine lv_bipush (v := (9 : Int32)) hx hb dX9_readRow_36 (by decide) ?_
      obtain ⟨q2, hq3, hf⟩ := pf_b hf
      have hPc := hP.sub (ws' := (WX9_figure cI cJ cZ cB a_o a_o_text a_o_many a_o_views a_o_aisles a_o_readMany a_o_readViews a_o_readAisles a_o_readPage a_o_page a_o_trial a_o_book a_o_kept a_o_isKept a_o_seenSeat a_o_seenWas v_o_thrown v_o_textSize (v_o_place + (1 : Int32)) v_o_rows v_o_readRows v_o_doings v_o_seen v_o_seed v_o_found v_o_foundViews v_o_foundMany d_o_text)) [0, 1] rfl
      have hDc := hD.sub (ws' := (WX9_figure cI cJ cZ cB a_o a_o_text a_o_many a_o_views a_o_aisles a_o_readMany a_o_readViews a_o_readAisles a_o_readPage a_o_page a_o_trial a_o_book a_o_kept a_o_isKept a_o_seenSeat a_o_seenWas v_o_thrown v_o_textSize (v_o_place + (1 : Int32)) v_o_rows v_o_readRows v_o_doings v_o_seen v_o_seed v_o_found v_o_foundViews v_o_foundMany d_o_text)) [0, 1] (by decide) rfl
      refine cl_rwi (wr := [(a_o_readMany, .inl (cI, (4, .inl d_o_readMany))), (a_o_readViews, .inl (cI, (36, .inl d_o_readViews))), (a_o_readAisles, .inl (cZ, (36, .inl d_o_readAisles))), (a_o_readPage, .inl (cI, (229, .inl d_o_readPage)))]) (wsN := (WX9_readRow cI cJ cZ cB a_o a_o_text a_o_many a_o_views a_o_aisles a_o_readMany a_o_readViews a_o_readAisles a_o_readPage a_o_page a_o_trial a_o_book a_o_kept a_o_isKept a_o_seenSeat a_o_seenWas v_o_thrown v_o_textSize q2.2 v_o_rows v_o_readRows v_o_doings v_o_seen v_o_seed v_o_found v_o_foundViews v_o_foundMany d_o_text d_o_readMany d_o_readViews d_o_readAisles d_o_readPage)) (va_runV (As := [.int (1 : Int32), .int (9 : Int32)]) (rest := []) ⟨hx, hb, hml, hown, hts⟩ ((kX9_figure l D cI cJ cZ cB a_o a_o_text a_o_many a_o_views a_o_aisles a_o_readMany a_o_readViews a_o_readAisles a_o_readPage a_o_page a_o_trial a_o_book a_o_kept a_o_isKept a_o_seenSeat a_o_seenWas v_o_thrown v_o_textSize (v_o_place + (1 : Int32)) v_o_rows v_o_readRows v_o_doings v_o_seen v_o_seed v_o_found v_o_foundViews v_o_foundMany d_o_text (1 : Int32) (9 : Int32) q2 hq3) _) (cwV 2 hts gX9_readRow_X9_figure rfl rfl rfl (by decide +kernel) ⟨Nat.le_of_ble_eq_true rfl, Nat.le_of_ble_eq_true rfl⟩) ⟨PRw.blind, va_recv hK.1 hPc (ci := 9) (q0 := 0) rfl rfl, PRw.at hK hPc hDc⟩ rfl rfl hl.1 rfl (lv_room (Nat.le_of_ble_eq_true rfl)) dX9_readRow_38 ⟨Nat.zero_le _, Nat.zero_le _⟩) hP hD hS hA [0, 1] [2, 3, 4, 5] [4, 5, 0, 1, 2, 3] rfl rfl (by decide) (by decide) rfl (by decide) (fun H locs hP hD hS => ?_)
      refine lv_istore_n (lv' := [(1, .int q2.1), (0, .ref a_o)]) hx hb dX9_readRow_41 rfl hl (by decide) rfl (fun ls hl => ?_)
      refine lv_iload_n hx hb dX9_readRow_42 rfl (lv_at hl 0 rfl) ?_
      refine lv_bipush (v := (-9 : Int32)) hx hb dX9_readRow_43 (by decide) ?_
      refine lv_icmp_ne (tgt := 50) hx hb dX9_readRow_45 (by decide) (fun hc => ?_) (fun hc => ?_)
      · have hf := pf_f hc hf
        refine lv_iconst (v := (0 : Int32)) hx hb dX9_readRow_50 (by decide) ?_
        refine lv_istore_n (lv' := [(2, .int (0 : Int32)), (1, .int q2.1), (0, .ref a_o)]) hx hb dX9_readRow_51 rfl hl (by decide) rfl (fun ls hl => ?_)
        refine lv_iconst (v := (0 : Int32)) hx hb dX9_readRow_52 (by decide) ?_
        refine lv_istore_n (lv' := [(3, .int (0 : Int32)), (2, .int (0 : Int32)), (1, .int q2.1), (0, .ref a_o)]) hx hb dX9_readRow_53 rfl hl (by decide) rfl (fun ls hl => ?_)
        refine lv_iconst (v := (1 : Int32)) hx hb dX9_readRow_54 (by decide) ?_
        refine lv_istore (lv' := [(4, .int (1 : Int32)), (3, .int (0 : Int32)), (2, .int (0 : Int32)), (1, .int q2.1), (0, .ref a_o)]) hx hb dX9_readRow_55 hl (by decide) rfl (fun ls hl => ?_)
        exact tX9_readRow_57 C hK hA  FU v_o_thrown v_o_textSize q2.2 v_o_rows v_o_readRows v_o_doings v_o_seen v_o_seed v_o_found v_o_foundViews v_o_foundMany d_o_text d_o_readMany d_o_readViews d_o_readAisles d_o_readPage q2.1 (0 : Int32) (0 : Int32) (1 : Int32) _ _ ls _ hP hD hS (lv_sub hl [4, 3, 2, 1, 0] rfl) hf
      · have hf := pf_t hc hf
        refine lv_iconst (v := (0 : Int32)) hx hb dX9_readRow_48 (by decide) ?_
        cases hf
        exact W.zret hx hb hr (nar_b (by decide)) (fun t ht hW => ⟨⟨rfl, by rw [ht]; exact hP, hD⟩, hS.F ht⟩) hS.2.2 dX9_readRow_49
    · have hf := pf_t hc hf
      refine lv_iconst (v := (0 : Int32)) hx hb dX9_readRow_22 (by decide) ?_
      cases hf
      exact W.zret hx hb hr (nar_b (by decide)) (fun t ht hW => ⟨⟨rfl, by rw [ht]; exact hP, hD⟩, hS.F ht⟩) hS.2.2 dX9_readRow_23
abbrev WX9_readHall (cI cJ cZ cB : ClassId) (a_o : Nat) (a_o_text : Nat) (a_o_many : Nat) (a_o_views : Nat) (a_o_aisles : Nat) (a_o_readMany : Nat) (a_o_readViews : Nat) (a_o_readAisles : Nat) (a_o_readPage : Nat) (a_o_page : Nat) (a_o_trial : Nat) (a_o_book : Nat) (a_o_kept : Nat) (a_o_isKept : Nat) (a_o_seenSeat : Nat) (a_o_seenWas : Nat) (v_o_thrown : Int32) (v_o_textSize : Int32) (v_o_place : Int32) (v_o_rows : Int32) (v_o_readRows : Int32) (v_o_doings : Int32) (v_o_seen : Int32) (v_o_seed : Int64) (v_o_found : Int32) (v_o_foundViews : Int32) (v_o_foundMany : Int32) (d_o_text : (Nat → Int32)) (d_o_readMany : (Nat → Int32)) (d_o_readViews : (Nat → Int32)) (d_o_readAisles : (Nat → Int32)) (d_o_readPage : (Nat → Int32)) : va_W := [(a_o, .inr (9, [.int v_o_thrown, .ref a_o_text, .int v_o_textSize, .int v_o_place, .int v_o_rows, .ref a_o_many, .ref a_o_views, .ref a_o_aisles, .int v_o_readRows, .ref a_o_readMany, .ref a_o_readViews, .ref a_o_readAisles, .ref a_o_readPage, .ref a_o_page, .ref a_o_trial, .ref a_o_book, .int v_o_doings, .ref a_o_kept, .ref a_o_isKept, .int v_o_seen, .ref a_o_seenSeat, .ref a_o_seenWas, .long v_o_seed, .int v_o_found, .int v_o_foundViews, .int v_o_foundMany])), (a_o_text, .inl (cI, (80, .inl d_o_text))), (a_o_readMany, .inl (cI, (4, .inl d_o_readMany))), (a_o_readViews, .inl (cI, (36, .inl d_o_readViews))), (a_o_readAisles, .inl (cZ, (36, .inl d_o_readAisles))), (a_o_readPage, .inl (cI, (229, .inl d_o_readPage)))]
set_option maxRecDepth 20000 in
theorem iX9_readHall_X9 : ∀ w ∈ wsX90, w ∈ wsX9_readHall := by decide +kernel
def fX9_readHall_57 : Nat → Int32 → Int32 → Int32 → (Nat → Int32) → (Nat → Int32) → (Nat → Int32) → (Nat → Int32) → (Nat → Int32) → Option (Int32 × Int32 × Int32 × (Nat → Int32) × (Nat → Int32) × (Nat → Int32) × (Nat → Int32))
  | 0, _, _, _, _, _, _, _, _ => none
  | n + 1, v_o_textSize, v_o_place, v_o_readRows, d_o_text, d_o_readMany, d_o_readViews, d_o_readAisles, d_o_readPage => (if v_o_textSize ≤ v_o_place then some ((-9 : Int32), v_o_place, v_o_readRows, d_o_readMany, d_o_readViews, d_o_readAisles, d_o_readPage) else ((fX9_readRow v_o_textSize v_o_place v_o_readRows d_o_text d_o_readMany d_o_readViews d_o_readAisles d_o_readPage).bind fun q1 => (if q1.1 = 0 then some (q1.2.1, q1.2.1, q1.2.2.1, q1.2.2.2.1, q1.2.2.2.2.1, q1.2.2.2.2.2.1, q1.2.2.2.2.2.2) else fX9_readHall_57 n v_o_textSize q1.2.1 q1.2.2.1 d_o_text q1.2.2.2.1 q1.2.2.2.2.1 q1.2.2.2.2.2.1 q1.2.2.2.2.2.2)))
set_option maxRecDepth 100000 in
set_option maxHeartbeats 4000000 in
theorem tX9_readHall_57 {p : Program} {l : Launch} {e : Env} {s : State} {m : MethodId} {args : Array Value} {below : List Frame} {meth : Method} {c : Code} {D : va_G} {cI cJ cZ cB : ClassId} {a_o : Nat} {a_o_text : Nat} {a_o_many : Nat} {a_o_views : Nat} {a_o_aisles : Nat} {a_o_readMany : Nat} {a_o_readViews : Nat} {a_o_readAisles : Nat} {a_o_readPage : Nat} {a_o_page : Nat} {a_o_trial : Nat} {a_o_book : Nat} {a_o_kept : Nat} {a_o_isKept : Nat} {a_o_seenSeat : Nat} {a_o_seenWas : Nat} {A : Nat → Prop} (C : Cx p s m args meth c cX9_readHall 2 (some .int) wsX9_readHall RX9) (hK : Kw D (tyL cI cJ cZ cB) s) (hA : ∀ q : Nat, s.heap.size ≤ q → A q) : ∀ (n : Nat), ∀ (v_o_thrown : Int32) (v_o_textSize : Int32) (v_o_place : Int32) (v_o_rows : Int32) (v_o_readRows : Int32) (v_o_doings : Int32) (v_o_seen : Int32) (v_o_seed : Int64) (v_o_found : Int32) (v_o_foundViews : Int32) (v_o_foundMany : Int32) (d_o_text : (Nat → Int32)) (d_o_readMany : (Nat → Int32)) (d_o_readViews : (Nat → Int32)) (d_o_readAisles : (Nat → Int32)) (d_o_readPage : (Nat → Int32))  (H : Heap) (locs : List Loc) (ls : Array Slot) (res : Int32 × Int32 × Int32 × (Nat → Int32) × (Nat → Int32) × (Nat → Int32) × (Nat → Int32)), va_P D vwCl (WX9_readHall cI cJ cZ cB a_o a_o_text a_o_many a_o_views a_o_aisles a_o_readMany a_o_readViews a_o_readAisles a_o_readPage a_o_page a_o_trial a_o_book a_o_kept a_o_isKept a_o_seenSeat a_o_seenWas v_o_thrown v_o_textSize v_o_place v_o_rows v_o_readRows v_o_doings v_o_seen v_o_seed v_o_found v_o_foundViews v_o_foundMany d_o_text d_o_readMany d_o_readViews d_o_readAisles d_o_readPage) H → va_D A (WX9_readHall cI cJ cZ cB a_o a_o_text a_o_many a_o_views a_o_aisles a_o_readMany a_o_readViews a_o_readAisles a_o_readPage a_o_page a_o_trial a_o_book a_o_kept a_o_isKept a_o_seenSeat a_o_seenWas v_o_thrown v_o_textSize v_o_place v_o_rows v_o_readRows v_o_doings v_o_seen v_o_seed v_o_found v_o_foundViews v_o_foundMany d_o_text d_o_readMany d_o_readViews d_o_readAisles d_o_readPage) → va_S A s.heap H locs → lv_has ls 2 [(0, .ref a_o)] → fX9_readHall_57 n v_o_textSize v_o_place v_o_readRows d_o_text d_o_readMany d_o_readViews d_o_readAisles d_o_readPage = some res → W p l e ({ frames := 3, cells := 0, slots := 0, locals := 73 } : Room) s m args below meth c H locs 0 0 (MQ below (QRw D A (WX9_readHall cI cJ cZ cB a_o a_o_text a_o_many a_o_views a_o_aisles a_o_readMany a_o_readViews a_o_readAisles a_o_readPage a_o_page a_o_trial a_o_book a_o_kept a_o_isKept a_o_seenSeat a_o_seenWas v_o_thrown v_o_textSize res.2.1 v_o_rows res.2.2.1 v_o_doings v_o_seen v_o_seed v_o_found v_o_foundViews v_o_foundMany d_o_text res.2.2.2.1 res.2.2.2.2.1 res.2.2.2.2.2.1 res.2.2.2.2.2.2) (some (.int res.1))) args s 0 0 A) (F0 m 57 ls []) := by
  obtain ⟨hx, hb, hr, hml, hts, hown, hlk⟩ := id C
  intro n
  induction n with
  | zero =>
    intro v_o_thrown v_o_textSize v_o_place v_o_rows v_o_readRows v_o_doings v_o_seen v_o_seed v_o_found v_o_foundViews v_o_foundMany d_o_text d_o_readMany d_o_readViews d_o_readAisles d_o_readPage H locs ls res hP hD hS hl hf
    rw [fX9_readHall_57] at hf
    cases hf
  | succ n ih =>
    intro v_o_thrown v_o_textSize v_o_place v_o_rows v_o_readRows v_o_doings v_o_seen v_o_seed v_o_found v_o_foundViews v_o_foundMany d_o_text d_o_readMany d_o_readViews d_o_readAisles d_o_readPage H locs ls res hP hD hS hl hf
    rw [fX9_readHall_57] at hf
    refine lv_aload_n hx hb dX9_readHall_57 rfl (lv_at hl 0 rfl) ?_
    refine va_get (D := D) (ci := 9) (v := .int v_o_place) (C := RX9) (T := TX9) (N := 26) hx hb hts iX9_readHall_X9 hown hK.1 hP 0 rfl rfl 3 (by decide) (hts (.fieldLink RX9 79 "LoneSeatsModel" "place" "I") (by decide +kernel)) (fun _ h9 => h9) rfl dX9_readHall_58 ?_
    refine lv_aload_n hx hb dX9_readHall_61 rfl (lv_at hl 0 rfl) ?_
    refine va_get (D := D) (ci := 9) (v := .int v_o_textSize) (C := RX9) (T := TX9) (N := 26) hx hb hts iX9_readHall_X9 hown hK.1 hP 0 rfl rfl 2 (by decide) (hts (.fieldLink RX9 76 "LoneSeatsModel" "textSize" "I") (by decide +kernel)) (fun _ h9 => h9) rfl dX9_readHall_62 ?_
    refine lv_icmp_ge (tgt := 80) hx hb dX9_readHall_65 (by decide) (fun hc => ?_) (fun hc => ?_)
    · have hf := pf_t hc hf
      refine lv_bipush (v := (-9 : Int32)) hx hb dX9_readHall_80 (by decide) ?_
      cases hf
      exact W.iret hx hb hr (fun t ht hW => ⟨⟨rfl, by rw [ht]; exact hP, hD⟩, hS.F ht⟩) hS.2.2 dX9_readHall_82
    · have hf := pf_f hc hf
      refine lv_aload_n hx hb dX9_readHall_68 rfl (lv_at hl 0 rfl) ?_
      obtain ⟨q1, hq2, hf⟩ := pf_b hf
      have hPc := hP.sub (ws' := (WX9_readRow cI cJ cZ cB a_o a_o_text a_o_many a_o_views a_o_aisles a_o_readMany a_o_readViews a_o_readAisles a_o_readPage a_o_page a_o_trial a_o_book a_o_kept a_o_isKept a_o_seenSeat a_o_seenWas v_o_thrown v_o_textSize v_o_place v_o_rows v_o_readRows v_o_doings v_o_seen v_o_seed v_o_found v_o_foundViews v_o_foundMany d_o_text d_o_readMany d_o_readViews d_o_readAisles d_o_readPage)) [0, 1, 2, 3, 4, 5] rfl
      have hDc := hD.sub (ws' := (WX9_readRow cI cJ cZ cB a_o a_o_text a_o_many a_o_views a_o_aisles a_o_readMany a_o_readViews a_o_readAisles a_o_readPage a_o_page a_o_trial a_o_book a_o_kept a_o_isKept a_o_seenSeat a_o_seenWas v_o_thrown v_o_textSize v_o_place v_o_rows v_o_readRows v_o_doings v_o_seen v_o_seed v_o_found v_o_foundViews v_o_foundMany d_o_text d_o_readMany d_o_readViews d_o_readAisles d_o_readPage)) [0, 1, 2, 3, 4, 5] (by decide) rfl
      refine cl_rwi (wr := []) (wsN := (WX9_readHall cI cJ cZ cB a_o a_o_text a_o_many a_o_views a_o_aisles a_o_readMany a_o_readViews a_o_readAisles a_o_readPage a_o_page a_o_trial a_o_book a_o_kept a_o_isKept a_o_seenSeat a_o_seenWas v_o_thrown v_o_textSize q1.2.1 v_o_rows q1.2.2.1 v_o_doings v_o_seen v_o_seed v_o_found v_o_foundViews v_o_foundMany d_o_text q1.2.2.2.1 q1.2.2.2.2.1 q1.2.2.2.2.2.1 q1.2.2.2.2.2.2)) (va_runV (As := []) (rest := []) ⟨hx, hb, hml, hown, hts⟩ ((kX9_readRow l D cI cJ cZ cB a_o a_o_text a_o_many a_o_views a_o_aisles a_o_readMany a_o_readViews a_o_readAisles a_o_readPage a_o_page a_o_trial a_o_book a_o_kept a_o_isKept a_o_seenSeat a_o_seenWas v_o_thrown v_o_textSize v_o_place v_o_rows v_o_readRows v_o_doings v_o_seen v_o_seed v_o_found v_o_foundViews v_o_foundMany d_o_text d_o_readMany d_o_readViews d_o_readAisles d_o_readPage q1 hq2) _) (cwV 0 hts gX9_readHall_X9_readRow rfl rfl rfl (by decide +kernel) ⟨Nat.le_of_ble_eq_true rfl, Nat.le_of_ble_eq_true rfl⟩) ⟨PRw.blind, va_recv hK.1 hPc (ci := 9) (q0 := 0) rfl rfl, PRw.at hK hPc hDc⟩ rfl rfl hl.1 rfl (lv_room (Nat.le_of_ble_eq_true rfl)) dX9_readHall_69 ⟨Nat.zero_le _, Nat.zero_le _⟩) hP hD hS hA [0, 1, 2, 3, 4, 5] [] [0, 1, 2, 3, 4, 5] rfl rfl (by decide) (by decide) rfl (by decide) (fun H locs hP hD hS => ?_)
      refine lv_if_ne (tgt := 57) hx hb dX9_readHall_72 (by decide) (fun hc => ?_) (fun hc => ?_)
      · have hf := pf_f hc hf
        exact ih v_o_thrown v_o_textSize q1.2.1 v_o_rows q1.2.2.1 v_o_doings v_o_seen v_o_seed v_o_found v_o_foundViews v_o_foundMany d_o_text q1.2.2.2.1 q1.2.2.2.2.1 q1.2.2.2.2.2.1 q1.2.2.2.2.2.2 _ _ ls _ hP hD hS (lv_sub hl [0] rfl) hf
      · have hf := pf_t hc hf
        refine lv_aload_n hx hb dX9_readHall_75 rfl (lv_at hl 0 rfl) ?_
        refine va_get (D := D) (ci := 9) (v := .int q1.2.1) (C := RX9) (T := TX9) (N := 26) hx hb hts iX9_readHall_X9 hown hK.1 hP 0 rfl rfl 3 (by decide) (hts (.fieldLink RX9 79 "LoneSeatsModel" "place" "I") (by decide +kernel)) (fun _ h9 => h9) rfl dX9_readHall_76 ?_
        cases hf
        exact W.iret hx hb hr (fun t ht hW => ⟨⟨rfl, by rw [ht]; exact hP, hD⟩, hS.F ht⟩) hS.2.2 dX9_readHall_79
def fX9_readHall_12 : Nat → Int32 → Int32 → Int32 → (Nat → Int32) → (Nat → Int32) → (Nat → Int32) → (Nat → Int32) → (Nat → Int32) → Int32 → Option (Int32 × Int32 × Int32 × (Nat → Int32) × (Nat → Int32) × (Nat → Int32) × (Nat → Int32))
  | 0, _, _, _, _, _, _, _, _, _ => none
  | n + 1, v_o_textSize, v_o_place, v_o_readRows, d_o_text, d_o_readMany, d_o_readViews, d_o_readAisles, d_o_readPage, x1 => (if (229 : Int32) ≤ x1 then (if v_o_textSize = 0 then some ((0 : Int32), v_o_place, v_o_readRows, d_o_readMany, d_o_readViews, d_o_readAisles, d_o_readPage) else (if (d_o_text ((0 : Int32)).toNatClampNeg) = (72 : Int32) then fX9_readHall_57 FU v_o_textSize (1 : Int32) v_o_readRows d_o_text d_o_readMany d_o_readViews d_o_readAisles d_o_readPage else some ((0 : Int32), v_o_place, v_o_readRows, d_o_readMany, d_o_readViews, d_o_readAisles, d_o_readPage))) else (if x1 < 0 ∨ 229 ≤ (x1).toNatClampNeg then none else fX9_readHall_12 n v_o_textSize v_o_place v_o_readRows d_o_text d_o_readMany d_o_readViews d_o_readAisles (upd d_o_readPage ((x1).toNatClampNeg) (0 : Int32)) (x1 + (1 : Int32))))
set_option maxRecDepth 100000 in
set_option maxHeartbeats 4000000 in
theorem tX9_readHall_12 {p : Program} {l : Launch} {e : Env} {s : State} {m : MethodId} {args : Array Value} {below : List Frame} {meth : Method} {c : Code} {D : va_G} {cI cJ cZ cB : ClassId} {a_o : Nat} {a_o_text : Nat} {a_o_many : Nat} {a_o_views : Nat} {a_o_aisles : Nat} {a_o_readMany : Nat} {a_o_readViews : Nat} {a_o_readAisles : Nat} {a_o_readPage : Nat} {a_o_page : Nat} {a_o_trial : Nat} {a_o_book : Nat} {a_o_kept : Nat} {a_o_isKept : Nat} {a_o_seenSeat : Nat} {a_o_seenWas : Nat} {A : Nat → Prop} (C : Cx p s m args meth c cX9_readHall 2 (some .int) wsX9_readHall RX9) (hK : Kw D (tyL cI cJ cZ cB) s) (hA : ∀ q : Nat, s.heap.size ≤ q → A q) : ∀ (n : Nat), ∀ (v_o_thrown : Int32) (v_o_textSize : Int32) (v_o_place : Int32) (v_o_rows : Int32) (v_o_readRows : Int32) (v_o_doings : Int32) (v_o_seen : Int32) (v_o_seed : Int64) (v_o_found : Int32) (v_o_foundViews : Int32) (v_o_foundMany : Int32) (d_o_text : (Nat → Int32)) (d_o_readMany : (Nat → Int32)) (d_o_readViews : (Nat → Int32)) (d_o_readAisles : (Nat → Int32)) (d_o_readPage : (Nat → Int32)) (x1 : Int32) (H : Heap) (locs : List Loc) (ls : Array Slot) (res : Int32 × Int32 × Int32 × (Nat → Int32) × (Nat → Int32) × (Nat → Int32) × (Nat → Int32)), va_P D vwCl (WX9_readHall cI cJ cZ cB a_o a_o_text a_o_many a_o_views a_o_aisles a_o_readMany a_o_readViews a_o_readAisles a_o_readPage a_o_page a_o_trial a_o_book a_o_kept a_o_isKept a_o_seenSeat a_o_seenWas v_o_thrown v_o_textSize v_o_place v_o_rows v_o_readRows v_o_doings v_o_seen v_o_seed v_o_found v_o_foundViews v_o_foundMany d_o_text d_o_readMany d_o_readViews d_o_readAisles d_o_readPage) H → va_D A (WX9_readHall cI cJ cZ cB a_o a_o_text a_o_many a_o_views a_o_aisles a_o_readMany a_o_readViews a_o_readAisles a_o_readPage a_o_page a_o_trial a_o_book a_o_kept a_o_isKept a_o_seenSeat a_o_seenWas v_o_thrown v_o_textSize v_o_place v_o_rows v_o_readRows v_o_doings v_o_seen v_o_seed v_o_found v_o_foundViews v_o_foundMany d_o_text d_o_readMany d_o_readViews d_o_readAisles d_o_readPage) → va_S A s.heap H locs → lv_has ls 2 [(0, .ref a_o), (1, .int x1)] → fX9_readHall_12 n v_o_textSize v_o_place v_o_readRows d_o_text d_o_readMany d_o_readViews d_o_readAisles d_o_readPage x1 = some res → W p l e ({ frames := 3, cells := 0, slots := 0, locals := 73 } : Room) s m args below meth c H locs 0 0 (MQ below (QRw D A (WX9_readHall cI cJ cZ cB a_o a_o_text a_o_many a_o_views a_o_aisles a_o_readMany a_o_readViews a_o_readAisles a_o_readPage a_o_page a_o_trial a_o_book a_o_kept a_o_isKept a_o_seenSeat a_o_seenWas v_o_thrown v_o_textSize res.2.1 v_o_rows res.2.2.1 v_o_doings v_o_seen v_o_seed v_o_found v_o_foundViews v_o_foundMany d_o_text res.2.2.2.1 res.2.2.2.2.1 res.2.2.2.2.2.1 res.2.2.2.2.2.2) (some (.int res.1))) args s 0 0 A) (F0 m 12 ls []) := by
  obtain ⟨hx, hb, hr, hml, hts, hown, hlk⟩ := id C
  intro n
  induction n with
  | zero =>
    intro v_o_thrown v_o_textSize v_o_place v_o_rows v_o_readRows v_o_doings v_o_seen v_o_seed v_o_found v_o_foundViews v_o_foundMany d_o_text d_o_readMany d_o_readViews d_o_readAisles d_o_readPage x1 H locs ls res hP hD hS hl hf
    rw [fX9_readHall_12] at hf
    cases hf
  | succ n ih =>
    intro v_o_thrown v_o_textSize v_o_place v_o_rows v_o_readRows v_o_doings v_o_seen v_o_seed v_o_found v_o_foundViews v_o_foundMany d_o_text d_o_readMany d_o_readViews d_o_readAisles d_o_readPage x1 H locs ls res hP hD hS hl hf
    rw [fX9_readHall_12] at hf
    refine lv_iload_n hx hb dX9_readHall_12 rfl (lv_at hl 1 rfl) ?_
    refine lv_sipush (v := (229 : Int32)) hx hb dX9_readHall_13 (by decide) ?_
    refine lv_icmp_ge (tgt := 32) hx hb dX9_readHall_16 (by decide) (fun hc => ?_) (fun hc => ?_)
    · have hf := pf_t hc hf
      refine lv_aload_n hx hb dX9_readHall_32 rfl (lv_at hl 0 rfl) ?_
      refine va_get (D := D) (ci := 9) (v := .int v_o_textSize) (C := RX9) (T := TX9) (N := 26) hx hb hts iX9_readHall_X9 hown hK.1 hP 0 rfl rfl 2 (by decide) (hts (.fieldLink RX9 76 "LoneSeatsModel" "textSize" "I") (by decide +kernel)) (fun _ h9 => h9) rfl dX9_readHall_33 ?_
      refine lv_if_eq (tgt := 50) hx hb dX9_readHall_36 (by decide) (fun hc => ?_) (fun hc => ?_)
      · have hf := pf_t hc hf
        refine lv_iconst (v := (0 : Int32)) hx hb dX9_readHall_50 (by decide) ?_
        cases hf
        exact W.iret hx hb hr (fun t ht hW => ⟨⟨rfl, by rw [ht]; exact hP, hD⟩, hS.F ht⟩) hS.2.2 dX9_readHall_51
      · have hf := pf_f hc hf
        refine lv_aload_n hx hb dX9_readHall_39 rfl (lv_at hl 0 rfl) ?_
        refine va_get (D := D) (ci := 9) (v := .ref a_o_text) (C := RX9) (T := TX9) (N := 26) hx hb hts iX9_readHall_X9 hown hK.1 hP 0 rfl rfl 1 (by decide) (hts (.fieldLink RX9 7 "LoneSeatsModel" "text" "[I") (by decide +kernel)) (fun _ h9 => h9) rfl dX9_readHall_40 ?_
        refine lv_iconst (v := (0 : Int32)) hx hb dX9_readHall_43 (by decide) ?_
        refine va_iald hx hb hK.1 hP 1 0 rfl rfl (show ¬ ((0 : Int32) < 0 ∨ 80 ≤ ((0 : Int32)).toNatClampNeg) by decide) dX9_readHall_44 ?_
        refine lv_bipush (v := (72 : Int32)) hx hb dX9_readHall_45 (by decide) ?_
        refine lv_icmp_eq (tgt := 52) hx hb dX9_readHall_47 (by decide) (fun hc => ?_) (fun hc => ?_)
        · have hf := pf_t hc hf
          refine lv_aload_n hx hb dX9_readHall_52 rfl (lv_at hl 0 rfl) ?_
          refine lv_iconst (v := (1 : Int32)) hx hb dX9_readHall_53 (by decide) ?_
          refine va_put (D := D) (ci := 9) (v := .int (1 : Int32)) (ty := .int) (C := RX9) (T := TX9) (N := 26) hx hb hts iX9_readHall_X9 tyX9 tyX9_ok nmX9 hown hK.1 hP hD hS 0 rfl rfl 3 (by decide) (hts (.fieldLink RX9 79 "LoneSeatsModel" "place" "I") (by decide +kernel)) (fun _ h9 => h9) rfl (by decide +kernel) rfl rfl (Nat.le_of_ble_eq_true rfl) dX9_readHall_54 (fun H locs hP hD hS => ?_)
          have hP : va_P D vwCl (WX9_readHall cI cJ cZ cB a_o a_o_text a_o_many a_o_views a_o_aisles a_o_readMany a_o_readViews a_o_readAisles a_o_readPage a_o_page a_o_trial a_o_book a_o_kept a_o_isKept a_o_seenSeat a_o_seenWas v_o_thrown v_o_textSize (1 : Int32) v_o_rows v_o_readRows v_o_doings v_o_seen v_o_seed v_o_found v_o_foundViews v_o_foundMany d_o_text d_o_readMany d_o_readViews d_o_readAisles d_o_readPage) H := hP
          have hD : va_D A (WX9_readHall cI cJ cZ cB a_o a_o_text a_o_many a_o_views a_o_aisles a_o_readMany a_o_readViews a_o_readAisles a_o_readPage a_o_page a_o_trial a_o_book a_o_kept a_o_isKept a_o_seenSeat a_o_seenWas v_o_thrown v_o_textSize (1 : Int32) v_o_rows v_o_readRows v_o_doings v_o_seen v_o_seed v_o_found v_o_foundViews v_o_foundMany d_o_text d_o_readMany d_o_readViews d_o_readAisles d_o_readPage) := hD
          exact tX9_readHall_57 C hK hA  FU v_o_thrown v_o_textSize (1 : Int32) v_o_rows v_o_readRows v_o_doings v_o_seen v_o_seed v_o_found v_o_foundViews v_o_foundMany d_o_text d_o_readMany d_o_readViews d_o_readAisles d_o_readPage _ _ ls _ hP hD hS (lv_sub hl [0] rfl) hf
        · have hf := pf_f hc hf
          refine lv_iconst (v := (0 : Int32)) hx hb dX9_readHall_50 (by decide) ?_
          cases hf
          exact W.iret hx hb hr (fun t ht hW => ⟨⟨rfl, by rw [ht]; exact hP, hD⟩, hS.F ht⟩) hS.2.2 dX9_readHall_51
    · have hf := pf_f hc hf
      refine lv_aload_n hx hb dX9_readHall_19 rfl (lv_at hl 0 rfl) ?_
      refine va_get (D := D) (ci := 9) (v := .ref a_o_readPage) (C := RX9) (T := TX9) (N := 26) hx hb hts iX9_readHall_X9 hown hK.1 hP 0 rfl rfl 12 (by decide) (hts (.fieldLink RX9 32 "LoneSeatsModel" "readPage" "[I") (by decide +kernel)) (fun _ h9 => h9) rfl dX9_readHall_20 ?_
      refine lv_iload_n hx hb dX9_readHall_23 rfl (lv_at hl 1 rfl) ?_
      refine lv_iconst (v := (0 : Int32)) hx hb dX9_readHall_24 (by decide) ?_
      obtain ⟨hg1, hf⟩ := pf_x hf
      refine va_iast hx hb hK.1 hP hD hS 5 0 rfl rfl hg1 dX9_readHall_25 (fun H locs hP hD hS => ?_)
      have hP : va_P D vwCl (WX9_readHall cI cJ cZ cB a_o a_o_text a_o_many a_o_views a_o_aisles a_o_readMany a_o_readViews a_o_readAisles a_o_readPage a_o_page a_o_trial a_o_book a_o_kept a_o_isKept a_o_seenSeat a_o_seenWas v_o_thrown v_o_textSize v_o_place v_o_rows v_o_readRows v_o_doings v_o_seen v_o_seed v_o_found v_o_foundViews v_o_foundMany d_o_text d_o_readMany d_o_readViews d_o_readAisles (upd d_o_readPage ((x1).toNatClampNeg) (0 : Int32))) H := hP
      have hD : va_D A (WX9_readHall cI cJ cZ cB a_o a_o_text a_o_many a_o_views a_o_aisles a_o_readMany a_o_readViews a_o_readAisles a_o_readPage a_o_page a_o_trial a_o_book a_o_kept a_o_isKept a_o_seenSeat a_o_seenWas v_o_thrown v_o_textSize v_o_place v_o_rows v_o_readRows v_o_doings v_o_seen v_o_seed v_o_found v_o_foundViews v_o_foundMany d_o_text d_o_readMany d_o_readViews d_o_readAisles (upd d_o_readPage ((x1).toNatClampNeg) (0 : Int32))) := hD
      refine lv_iinc (v := (x1 + (1 : Int32))) (lv' := [(1, .int (x1 + (1 : Int32))), (0, .ref a_o)]) hx hb dX9_readHall_26 hl (k := 1) rfl rfl (by decide) rfl (fun ls hl => ?_)
      refine lv_goto (tgt := 12) hx hb dX9_readHall_29 (by decide) ?_
      exact ih v_o_thrown v_o_textSize v_o_place v_o_rows v_o_readRows v_o_doings v_o_seen v_o_seed v_o_found v_o_foundViews v_o_foundMany d_o_text d_o_readMany d_o_readViews d_o_readAisles (upd d_o_readPage ((x1).toNatClampNeg) (0 : Int32)) (x1 + (1 : Int32)) _ _ ls _ hP hD hS (lv_sub hl [1, 0] rfl) hf
def fX9_readHall (v_o_textSize : Int32) (v_o_place : Int32) (v_o_readRows : Int32) (d_o_text : (Nat → Int32)) (d_o_readMany : (Nat → Int32)) (d_o_readViews : (Nat → Int32)) (d_o_readAisles : (Nat → Int32)) (d_o_readPage : (Nat → Int32)) : Option (Int32 × Int32 × Int32 × (Nat → Int32) × (Nat → Int32) × (Nat → Int32) × (Nat → Int32)) := fX9_readHall_12 FU v_o_textSize (0 : Int32) (0 : Int32) d_o_text d_o_readMany d_o_readViews d_o_readAisles d_o_readPage (0 : Int32)
set_option maxRecDepth 100000 in
set_option maxHeartbeats 4000000 in
theorem kX9_readHall (l : Launch) (D : va_G) (cI cJ cZ cB : ClassId) (a_o : Nat) (a_o_text : Nat) (a_o_many : Nat) (a_o_views : Nat) (a_o_aisles : Nat) (a_o_readMany : Nat) (a_o_readViews : Nat) (a_o_readAisles : Nat) (a_o_readPage : Nat) (a_o_page : Nat) (a_o_trial : Nat) (a_o_book : Nat) (a_o_kept : Nat) (a_o_isKept : Nat) (a_o_seenSeat : Nat) (a_o_seenWas : Nat) (v_o_thrown : Int32) (v_o_textSize : Int32) (v_o_place : Int32) (v_o_rows : Int32) (v_o_readRows : Int32) (v_o_doings : Int32) (v_o_seen : Int32) (v_o_seed : Int64) (v_o_found : Int32) (v_o_foundViews : Int32) (v_o_foundMany : Int32) (d_o_text : (Nat → Int32)) (d_o_readMany : (Nat → Int32)) (d_o_readViews : (Nat → Int32)) (d_o_readAisles : (Nat → Int32)) (d_o_readPage : (Nat → Int32)) (res : Int32 × Int32 × Int32 × (Nat → Int32) × (Nat → Int32) × (Nat → Int32) × (Nat → Int32)) (hf : fX9_readHall v_o_textSize v_o_place v_o_readRows d_o_text d_o_readMany d_o_readViews d_o_readAisles d_o_readPage = some res) : Rw l yX9_readHall wsX9_readHall ({ frames := 3, cells := 0, slots := 0, locals := 73 } : Room) D (tyL cI cJ cZ cB) [.ref a_o] (WX9_readHall cI cJ cZ cB a_o a_o_text a_o_many a_o_views a_o_aisles a_o_readMany a_o_readViews a_o_readAisles a_o_readPage a_o_page a_o_trial a_o_book a_o_kept a_o_isKept a_o_seenSeat a_o_seenWas v_o_thrown v_o_textSize v_o_place v_o_rows v_o_readRows v_o_doings v_o_seen v_o_seed v_o_found v_o_foundViews v_o_foundMany d_o_text d_o_readMany d_o_readViews d_o_readAisles d_o_readPage) (some (.int res.1)) (WX9_readHall cI cJ cZ cB a_o a_o_text a_o_many a_o_views a_o_aisles a_o_readMany a_o_readViews a_o_readAisles a_o_readPage a_o_page a_o_trial a_o_book a_o_kept a_o_isKept a_o_seenSeat a_o_seenWas v_o_thrown v_o_textSize res.2.1 v_o_rows res.2.2.1 v_o_doings v_o_seen v_o_seed v_o_found v_o_foundViews v_o_foundMany d_o_text res.2.2.2.1 res.2.2.2.2.1 res.2.2.2.2.2.1 res.2.2.2.2.2.2) := by
  refine Rw.of (cc := cX9_readHall) (maxL := 2) (ret := (some .int)) (own := RX9) (by decide) rfl rfl (Nat.le_of_ble_eq_true rfl) ?_
  intro p e s m below meth c A ls C hK hA hP hD hS hl
  obtain ⟨hx, hb, hr, hml, hts, hown, hlk⟩ := id C
  have hl : lv_has ls 2 [(0, .ref a_o)] := hl
  unfold fX9_readHall at hf
  refine lv_aload_n hx hb dX9_readHall_0 rfl (lv_at hl 0 rfl) ?_
  refine lv_iconst (v := (0 : Int32)) hx hb dX9_readHall_1 (by decide) ?_
  refine va_put (D := D) (ci := 9) (v := .int (0 : Int32)) (ty := .int) (C := RX9) (T := TX9) (N := 26) hx hb hts iX9_readHall_X9 tyX9 tyX9_ok nmX9 hown hK.1 hP hD hS 0 rfl rfl 3 (by decide) (hts (.fieldLink RX9 79 "LoneSeatsModel" "place" "I") (by decide +kernel)) (fun _ h9 => h9) rfl (by decide +kernel) rfl rfl (Nat.le_of_ble_eq_true rfl) dX9_readHall_2 (fun H locs hP hD hS => ?_)
  have hP : va_P D vwCl (WX9_readHall cI cJ cZ cB a_o a_o_text a_o_many a_o_views a_o_aisles a_o_readMany a_o_readViews a_o_readAisles a_o_readPage a_o_page a_o_trial a_o_book a_o_kept a_o_isKept a_o_seenSeat a_o_seenWas v_o_thrown v_o_textSize (0 : Int32) v_o_rows v_o_readRows v_o_doings v_o_seen v_o_seed v_o_found v_o_foundViews v_o_foundMany d_o_text d_o_readMany d_o_readViews d_o_readAisles d_o_readPage) H := hP
  have hD : va_D A (WX9_readHall cI cJ cZ cB a_o a_o_text a_o_many a_o_views a_o_aisles a_o_readMany a_o_readViews a_o_readAisles a_o_readPage a_o_page a_o_trial a_o_book a_o_kept a_o_isKept a_o_seenSeat a_o_seenWas v_o_thrown v_o_textSize (0 : Int32) v_o_rows v_o_readRows v_o_doings v_o_seen v_o_seed v_o_found v_o_foundViews v_o_foundMany d_o_text d_o_readMany d_o_readViews d_o_readAisles d_o_readPage) := hD
  refine lv_aload_n hx hb dX9_readHall_5 rfl (lv_at hl 0 rfl) ?_
  refine lv_iconst (v := (0 : Int32)) hx hb dX9_readHall_6 (by decide) ?_
  refine va_put (D := D) (ci := 9) (v := .int (0 : Int32)) (ty := .int) (C := RX9) (T := TX9) (N := 26) hx hb hts iX9_readHall_X9 tyX9 tyX9_ok nmX9 hown hK.1 hP hD hS 0 rfl rfl 8 (by decide) (hts (.fieldLink RX9 82 "LoneSeatsModel" "readRows" "I") (by decide +kernel)) (fun _ h9 => h9) rfl (by decide +kernel) rfl rfl (Nat.le_of_ble_eq_true rfl) dX9_readHall_7 (fun H locs hP hD hS => ?_)
  have hP : va_P D vwCl (WX9_readHall cI cJ cZ cB a_o a_o_text a_o_many a_o_views a_o_aisles a_o_readMany a_o_readViews a_o_readAisles a_o_readPage a_o_page a_o_trial a_o_book a_o_kept a_o_isKept a_o_seenSeat a_o_seenWas v_o_thrown v_o_textSize (0 : Int32) v_o_rows (0 : Int32) v_o_doings v_o_seen v_o_seed v_o_found v_o_foundViews v_o_foundMany d_o_text d_o_readMany d_o_readViews d_o_readAisles d_o_readPage) H := hP
  have hD : va_D A (WX9_readHall cI cJ cZ cB a_o a_o_text a_o_many a_o_views a_o_aisles a_o_readMany a_o_readViews a_o_readAisles a_o_readPage a_o_page a_o_trial a_o_book a_o_kept a_o_isKept a_o_seenSeat a_o_seenWas v_o_thrown v_o_textSize (0 : Int32) v_o_rows (0 : Int32) v_o_doings v_o_seen v_o_seed v_o_found v_o_foundViews v_o_foundMany d_o_text d_o_readMany d_o_readViews d_o_readAisles d_o_readPage) := hD
  refine lv_iconst (v := (0 : Int32)) hx hb dX9_readHall_10 (by decide) ?_
  refine lv_istore_n (lv' := [(1, .int (0 : Int32)), (0, .ref a_o)]) hx hb dX9_readHall_11 rfl hl (by decide) rfl (fun ls hl => ?_)
  exact tX9_readHall_12 C hK hA  FU v_o_thrown v_o_textSize (0 : Int32) v_o_rows (0 : Int32) v_o_doings v_o_seen v_o_seed v_o_found v_o_foundViews v_o_foundMany d_o_text d_o_readMany d_o_readViews d_o_readAisles d_o_readPage (0 : Int32) _ _ ls _ hP hD hS (lv_sub hl [1, 0] rfl) hf
abbrev WX9_fault (cI cJ cZ cB : ClassId) (a_o : Nat) (a_o_text : Nat) (a_o_many : Nat) (a_o_views : Nat) (a_o_aisles : Nat) (a_o_readMany : Nat) (a_o_readViews : Nat) (a_o_readAisles : Nat) (a_o_readPage : Nat) (a_o_page : Nat) (a_o_trial : Nat) (a_o_book : Nat) (a_o_kept : Nat) (a_o_isKept : Nat) (a_o_seenSeat : Nat) (a_o_seenWas : Nat) (v_o_thrown : Int32) (v_o_textSize : Int32) (v_o_place : Int32) (v_o_rows : Int32) (v_o_readRows : Int32) (v_o_doings : Int32) (v_o_seen : Int32) (v_o_seed : Int64) (v_o_found : Int32) (v_o_foundViews : Int32) (v_o_foundMany : Int32) (d_o_text : (Nat → Int32)) (d_o_readMany : (Nat → Int32)) (d_o_readViews : (Nat → Int32)) (d_o_readAisles : (Nat → Int32)) (d_o_readPage : (Nat → Int32)) : va_W := [(a_o, .inr (9, [.int v_o_thrown, .ref a_o_text, .int v_o_textSize, .int v_o_place, .int v_o_rows, .ref a_o_many, .ref a_o_views, .ref a_o_aisles, .int v_o_readRows, .ref a_o_readMany, .ref a_o_readViews, .ref a_o_readAisles, .ref a_o_readPage, .ref a_o_page, .ref a_o_trial, .ref a_o_book, .int v_o_doings, .ref a_o_kept, .ref a_o_isKept, .int v_o_seen, .ref a_o_seenSeat, .ref a_o_seenWas, .long v_o_seed, .int v_o_found, .int v_o_foundViews, .int v_o_foundMany])), (a_o_text, .inl (cI, (80, .inl d_o_text))), (a_o_readMany, .inl (cI, (4, .inl d_o_readMany))), (a_o_readViews, .inl (cI, (36, .inl d_o_readViews))), (a_o_readAisles, .inl (cZ, (36, .inl d_o_readAisles))), (a_o_readPage, .inl (cI, (229, .inl d_o_readPage)))]
set_option maxRecDepth 20000 in
theorem iX9_fault_X9 : ∀ w ∈ wsX90, w ∈ wsX9_fault := by decide +kernel
def fX9_fault (v_o_thrown : Int32) (v_o_textSize : Int32) (v_o_place : Int32) (v_o_readRows : Int32) (d_o_text : (Nat → Int32)) (d_o_readMany : (Nat → Int32)) (d_o_readViews : (Nat → Int32)) (d_o_readAisles : (Nat → Int32)) (d_o_readPage : (Nat → Int32)) : Option (Int32 × Int32 × Int32 × Int32 × (Nat → Int32) × (Nat → Int32) × (Nat → Int32) × (Nat → Int32)) := ((fX9_readHall v_o_textSize v_o_place v_o_readRows d_o_text d_o_readMany d_o_readViews d_o_readAisles d_o_readPage).bind fun q1 => some (q1.1, (0 : Int32), q1.2.1, q1.2.2.1, q1.2.2.2.1, q1.2.2.2.2.1, q1.2.2.2.2.2.1, q1.2.2.2.2.2.2))
set_option maxRecDepth 100000 in
set_option maxHeartbeats 4000000 in
theorem kX9_fault (l : Launch) (D : va_G) (cI cJ cZ cB : ClassId) (a_o : Nat) (a_o_text : Nat) (a_o_many : Nat) (a_o_views : Nat) (a_o_aisles : Nat) (a_o_readMany : Nat) (a_o_readViews : Nat) (a_o_readAisles : Nat) (a_o_readPage : Nat) (a_o_page : Nat) (a_o_trial : Nat) (a_o_book : Nat) (a_o_kept : Nat) (a_o_isKept : Nat) (a_o_seenSeat : Nat) (a_o_seenWas : Nat) (v_o_thrown : Int32) (v_o_textSize : Int32) (v_o_place : Int32) (v_o_rows : Int32) (v_o_readRows : Int32) (v_o_doings : Int32) (v_o_seen : Int32) (v_o_seed : Int64) (v_o_found : Int32) (v_o_foundViews : Int32) (v_o_foundMany : Int32) (d_o_text : (Nat → Int32)) (d_o_readMany : (Nat → Int32)) (d_o_readViews : (Nat → Int32)) (d_o_readAisles : (Nat → Int32)) (d_o_readPage : (Nat → Int32)) (res : Int32 × Int32 × Int32 × Int32 × (Nat → Int32) × (Nat → Int32) × (Nat → Int32) × (Nat → Int32)) (hf : fX9_fault v_o_thrown v_o_textSize v_o_place v_o_readRows d_o_text d_o_readMany d_o_readViews d_o_readAisles d_o_readPage = some res) : Rw l yX9_fault wsX9_fault ({ frames := 4, cells := 0, slots := 0, locals := 94 } : Room) D (tyL cI cJ cZ cB) [.ref a_o] (WX9_fault cI cJ cZ cB a_o a_o_text a_o_many a_o_views a_o_aisles a_o_readMany a_o_readViews a_o_readAisles a_o_readPage a_o_page a_o_trial a_o_book a_o_kept a_o_isKept a_o_seenSeat a_o_seenWas v_o_thrown v_o_textSize v_o_place v_o_rows v_o_readRows v_o_doings v_o_seen v_o_seed v_o_found v_o_foundViews v_o_foundMany d_o_text d_o_readMany d_o_readViews d_o_readAisles d_o_readPage) (some (.int res.1)) (WX9_fault cI cJ cZ cB a_o a_o_text a_o_many a_o_views a_o_aisles a_o_readMany a_o_readViews a_o_readAisles a_o_readPage a_o_page a_o_trial a_o_book a_o_kept a_o_isKept a_o_seenSeat a_o_seenWas res.2.1 v_o_textSize res.2.2.1 v_o_rows res.2.2.2.1 v_o_doings v_o_seen v_o_seed v_o_found v_o_foundViews v_o_foundMany d_o_text res.2.2.2.2.1 res.2.2.2.2.2.1 res.2.2.2.2.2.2.1 res.2.2.2.2.2.2.2) := by
  refine Rw.of (cc := cX9_fault) (maxL := 1) (ret := (some .int)) (own := RX9) (by decide) rfl rfl (Nat.le_of_ble_eq_true rfl) ?_
  intro p e s m below meth c A ls C hK hA hP hD hS hl
  obtain ⟨hx, hb, hr, hml, hts, hown, hlk⟩ := id C
  have hl : lv_has ls 1 [(0, .ref a_o)] := hl
  unfold fX9_fault at hf
  refine lv_aload_n hx hb dX9_fault_0 rfl (lv_at hl 0 rfl) ?_
  refine lv_iconst (v := (0 : Int32)) hx hb dX9_fault_1 (by decide) ?_
  refine va_put (D := D) (ci := 9) (v := .int (0 : Int32)) (ty := .int) (C := RX9) (T := TX9) (N := 26) hx hb hts iX9_fault_X9 tyX9 tyX9_ok nmX9 hown hK.1 hP hD hS 0 rfl rfl 0 (by decide) (hts (.fieldLink RX9 60 "LoneSeatsModel" "thrown" "I") (by decide +kernel)) (fun _ h9 => h9) rfl (by decide +kernel) rfl rfl (Nat.le_of_ble_eq_true rfl) dX9_fault_2 (fun H locs hP hD hS => ?_)
  have hP : va_P D vwCl (WX9_fault cI cJ cZ cB a_o a_o_text a_o_many a_o_views a_o_aisles a_o_readMany a_o_readViews a_o_readAisles a_o_readPage a_o_page a_o_trial a_o_book a_o_kept a_o_isKept a_o_seenSeat a_o_seenWas (0 : Int32) v_o_textSize v_o_place v_o_rows v_o_readRows v_o_doings v_o_seen v_o_seed v_o_found v_o_foundViews v_o_foundMany d_o_text d_o_readMany d_o_readViews d_o_readAisles d_o_readPage) H := hP
  have hD : va_D A (WX9_fault cI cJ cZ cB a_o a_o_text a_o_many a_o_views a_o_aisles a_o_readMany a_o_readViews a_o_readAisles a_o_readPage a_o_page a_o_trial a_o_book a_o_kept a_o_isKept a_o_seenSeat a_o_seenWas (0 : Int32) v_o_textSize v_o_place v_o_rows v_o_readRows v_o_doings v_o_seen v_o_seed v_o_found v_o_foundViews v_o_foundMany d_o_text d_o_readMany d_o_readViews d_o_readAisles d_o_readPage) := hD
  refine lv_aload_n hx hb dX9_fault_5 rfl (lv_at hl 0 rfl) ?_
  obtain ⟨q1, hq2, hf⟩ := pf_b hf
  have hPc := hP.sub (ws' := (WX9_readHall cI cJ cZ cB a_o a_o_text a_o_many a_o_views a_o_aisles a_o_readMany a_o_readViews a_o_readAisles a_o_readPage a_o_page a_o_trial a_o_book a_o_kept a_o_isKept a_o_seenSeat a_o_seenWas (0 : Int32) v_o_textSize v_o_place v_o_rows v_o_readRows v_o_doings v_o_seen v_o_seed v_o_found v_o_foundViews v_o_foundMany d_o_text d_o_readMany d_o_readViews d_o_readAisles d_o_readPage)) [0, 1, 2, 3, 4, 5] rfl
  have hDc := hD.sub (ws' := (WX9_readHall cI cJ cZ cB a_o a_o_text a_o_many a_o_views a_o_aisles a_o_readMany a_o_readViews a_o_readAisles a_o_readPage a_o_page a_o_trial a_o_book a_o_kept a_o_isKept a_o_seenSeat a_o_seenWas (0 : Int32) v_o_textSize v_o_place v_o_rows v_o_readRows v_o_doings v_o_seen v_o_seed v_o_found v_o_foundViews v_o_foundMany d_o_text d_o_readMany d_o_readViews d_o_readAisles d_o_readPage)) [0, 1, 2, 3, 4, 5] (by decide) rfl
  refine cl_rwi (wr := []) (wsN := (WX9_fault cI cJ cZ cB a_o a_o_text a_o_many a_o_views a_o_aisles a_o_readMany a_o_readViews a_o_readAisles a_o_readPage a_o_page a_o_trial a_o_book a_o_kept a_o_isKept a_o_seenSeat a_o_seenWas (0 : Int32) v_o_textSize q1.2.1 v_o_rows q1.2.2.1 v_o_doings v_o_seen v_o_seed v_o_found v_o_foundViews v_o_foundMany d_o_text q1.2.2.2.1 q1.2.2.2.2.1 q1.2.2.2.2.2.1 q1.2.2.2.2.2.2)) (va_runV (As := []) (rest := []) ⟨hx, hb, hml, hown, hts⟩ ((kX9_readHall l D cI cJ cZ cB a_o a_o_text a_o_many a_o_views a_o_aisles a_o_readMany a_o_readViews a_o_readAisles a_o_readPage a_o_page a_o_trial a_o_book a_o_kept a_o_isKept a_o_seenSeat a_o_seenWas (0 : Int32) v_o_textSize v_o_place v_o_rows v_o_readRows v_o_doings v_o_seen v_o_seed v_o_found v_o_foundViews v_o_foundMany d_o_text d_o_readMany d_o_readViews d_o_readAisles d_o_readPage q1 hq2) _) (cwV 0 hts gX9_fault_X9_readHall rfl rfl rfl (by decide +kernel) ⟨Nat.le_of_ble_eq_true rfl, Nat.le_of_ble_eq_true rfl⟩) ⟨PRw.blind, va_recv hK.1 hPc (ci := 9) (q0 := 0) rfl rfl, PRw.at hK hPc hDc⟩ rfl rfl hl.1 rfl (lv_room (Nat.le_of_ble_eq_true rfl)) dX9_fault_6 ⟨Nat.zero_le _, Nat.zero_le _⟩) hP hD hS hA [0, 1, 2, 3, 4, 5] [] [0, 1, 2, 3, 4, 5] rfl rfl (by decide) (by decide) rfl (by decide) (fun H locs hP hD hS => ?_)
  cases hf
  exact W.iret hx hb hr (fun t ht hW => ⟨⟨rfl, by rw [ht]; exact hP, hD⟩, hS.F ht⟩) hS.2.2 dX9_fault_9
abbrev WX9_hall (cI cJ cZ cB : ClassId) (a_o : Nat) (a_o_text : Nat) (a_o_many : Nat) (a_o_views : Nat) (a_o_aisles : Nat) (a_o_readMany : Nat) (a_o_readViews : Nat) (a_o_readAisles : Nat) (a_o_readPage : Nat) (a_o_page : Nat) (a_o_trial : Nat) (a_o_book : Nat) (a_o_kept : Nat) (a_o_isKept : Nat) (a_o_seenSeat : Nat) (a_o_seenWas : Nat) (v_o_thrown : Int32) (v_o_textSize : Int32) (v_o_place : Int32) (v_o_rows : Int32) (v_o_readRows : Int32) (v_o_doings : Int32) (v_o_seen : Int32) (v_o_seed : Int64) (v_o_found : Int32) (v_o_foundViews : Int32) (v_o_foundMany : Int32) (d_o_text : (Nat → Int32)) (d_o_many : (Nat → Int32)) (d_o_views : (Nat → Int32)) (d_o_aisles : (Nat → Int32)) (d_o_readMany : (Nat → Int32)) (d_o_readViews : (Nat → Int32)) (d_o_readAisles : (Nat → Int32)) (d_o_readPage : (Nat → Int32)) (d_o_page : (Nat → Int32)) (d_o_isKept : (Nat → Int32)) : va_W := [(a_o, .inr (9, [.int v_o_thrown, .ref a_o_text, .int v_o_textSize, .int v_o_place, .int v_o_rows, .ref a_o_many, .ref a_o_views, .ref a_o_aisles, .int v_o_readRows, .ref a_o_readMany, .ref a_o_readViews, .ref a_o_readAisles, .ref a_o_readPage, .ref a_o_page, .ref a_o_trial, .ref a_o_book, .int v_o_doings, .ref a_o_kept, .ref a_o_isKept, .int v_o_seen, .ref a_o_seenSeat, .ref a_o_seenWas, .long v_o_seed, .int v_o_found, .int v_o_foundViews, .int v_o_foundMany])), (a_o_text, .inl (cI, (80, .inl d_o_text))), (a_o_many, .inl (cI, (4, .inl d_o_many))), (a_o_views, .inl (cI, (36, .inl d_o_views))), (a_o_aisles, .inl (cZ, (36, .inl d_o_aisles))), (a_o_readMany, .inl (cI, (4, .inl d_o_readMany))), (a_o_readViews, .inl (cI, (36, .inl d_o_readViews))), (a_o_readAisles, .inl (cZ, (36, .inl d_o_readAisles))), (a_o_readPage, .inl (cI, (229, .inl d_o_readPage))), (a_o_page, .inl (cI, (229, .inl d_o_page))), (a_o_isKept, .inl (cZ, (2, .inl d_o_isKept)))]
set_option maxRecDepth 20000 in
theorem iX9_hall_X9 : ∀ w ∈ wsX90, w ∈ wsX9_hall := by decide +kernel
def fX9_hall_52 : Nat → Int32 → Int32 → Int32 → Int32 → Int32 → Int32 → (Nat → Int32) → (Nat → Int32) → (Nat → Int32) → (Nat → Int32) → (Nat → Int32) → (Nat → Int32) → (Nat → Int32) → (Nat → Int32) → (Nat → Int32) → (Nat → Int32) → Int32 → Option (Int32 × Int32 × Int32 × Int32 × Int32 × Int32 × (Nat → Int32) × (Nat → Int32) × (Nat → Int32) × (Nat → Int32) × (Nat → Int32) × (Nat → Int32) × (Nat → Int32) × (Nat → Int32) × (Nat → Int32))
  | 0, _, _, _, _, _, _, _, _, _, _, _, _, _, _, _, _, _ => none
  | n + 1, v_o_thrown, v_o_textSize, v_o_place, v_o_rows, v_o_readRows, v_o_doings, d_o_text, d_o_many, d_o_views, d_o_aisles, d_o_readMany, d_o_readViews, d_o_readAisles, d_o_readPage, d_o_page, d_o_isKept, x1 => (if (36 : Int32) ≤ x1 then ((fX9_copy d_o_readPage d_o_page).bind fun q1 => some (v_o_rows, v_o_thrown, v_o_place, v_o_rows, v_o_readRows, (0 : Int32), d_o_many, d_o_views, d_o_aisles, d_o_readMany, d_o_readViews, d_o_readAisles, d_o_readPage, q1, (upd (upd d_o_isKept (((0 : Int32)).toNatClampNeg) (vp_nar .boolean (0 : Int32))) (((1 : Int32)).toNatClampNeg) (vp_nar .boolean (0 : Int32))))) else (if x1 < 0 ∨ 36 ≤ (x1).toNatClampNeg then none else (if x1 < 0 ∨ 36 ≤ (x1).toNatClampNeg then none else (if x1 < 0 ∨ 36 ≤ (x1).toNatClampNeg then none else (if x1 < 0 ∨ 36 ≤ (x1).toNatClampNeg then none else fX9_hall_52 n v_o_thrown v_o_textSize v_o_place v_o_rows v_o_readRows v_o_doings d_o_text d_o_many (upd d_o_views ((x1).toNatClampNeg) (d_o_readViews (x1).toNatClampNeg)) (upd d_o_aisles ((x1).toNatClampNeg) (vp_nar .boolean (d_o_readAisles (x1).toNatClampNeg))) d_o_readMany d_o_readViews d_o_readAisles d_o_readPage d_o_page d_o_isKept (x1 + (1 : Int32)))))))
set_option maxRecDepth 100000 in
set_option maxHeartbeats 4000000 in
theorem tX9_hall_52 {p : Program} {l : Launch} {e : Env} {s : State} {m : MethodId} {args : Array Value} {below : List Frame} {meth : Method} {c : Code} {D : va_G} {cI cJ cZ cB : ClassId} {a_o : Nat} {a_o_text : Nat} {a_o_many : Nat} {a_o_views : Nat} {a_o_aisles : Nat} {a_o_readMany : Nat} {a_o_readViews : Nat} {a_o_readAisles : Nat} {a_o_readPage : Nat} {a_o_page : Nat} {a_o_trial : Nat} {a_o_book : Nat} {a_o_kept : Nat} {a_o_isKept : Nat} {a_o_seenSeat : Nat} {a_o_seenWas : Nat} {A : Nat → Prop} (C : Cx p s m args meth c cX9_hall 2 (some .int) wsX9_hall RX9) (hK : Kw D (tyL cI cJ cZ cB) s) (hA : ∀ q : Nat, s.heap.size ≤ q → A q) : ∀ (n : Nat), ∀ (v_o_thrown : Int32) (v_o_textSize : Int32) (v_o_place : Int32) (v_o_rows : Int32) (v_o_readRows : Int32) (v_o_doings : Int32) (v_o_seen : Int32) (v_o_seed : Int64) (v_o_found : Int32) (v_o_foundViews : Int32) (v_o_foundMany : Int32) (d_o_text : (Nat → Int32)) (d_o_many : (Nat → Int32)) (d_o_views : (Nat → Int32)) (d_o_aisles : (Nat → Int32)) (d_o_readMany : (Nat → Int32)) (d_o_readViews : (Nat → Int32)) (d_o_readAisles : (Nat → Int32)) (d_o_readPage : (Nat → Int32)) (d_o_page : (Nat → Int32)) (d_o_isKept : (Nat → Int32)) (x1 : Int32) (H : Heap) (locs : List Loc) (ls : Array Slot) (res : Int32 × Int32 × Int32 × Int32 × Int32 × Int32 × (Nat → Int32) × (Nat → Int32) × (Nat → Int32) × (Nat → Int32) × (Nat → Int32) × (Nat → Int32) × (Nat → Int32) × (Nat → Int32) × (Nat → Int32)), va_P D vwCl (WX9_hall cI cJ cZ cB a_o a_o_text a_o_many a_o_views a_o_aisles a_o_readMany a_o_readViews a_o_readAisles a_o_readPage a_o_page a_o_trial a_o_book a_o_kept a_o_isKept a_o_seenSeat a_o_seenWas v_o_thrown v_o_textSize v_o_place v_o_rows v_o_readRows v_o_doings v_o_seen v_o_seed v_o_found v_o_foundViews v_o_foundMany d_o_text d_o_many d_o_views d_o_aisles d_o_readMany d_o_readViews d_o_readAisles d_o_readPage d_o_page d_o_isKept) H → va_D A (WX9_hall cI cJ cZ cB a_o a_o_text a_o_many a_o_views a_o_aisles a_o_readMany a_o_readViews a_o_readAisles a_o_readPage a_o_page a_o_trial a_o_book a_o_kept a_o_isKept a_o_seenSeat a_o_seenWas v_o_thrown v_o_textSize v_o_place v_o_rows v_o_readRows v_o_doings v_o_seen v_o_seed v_o_found v_o_foundViews v_o_foundMany d_o_text d_o_many d_o_views d_o_aisles d_o_readMany d_o_readViews d_o_readAisles d_o_readPage d_o_page d_o_isKept) → va_S A s.heap H locs → lv_has ls 2 [(0, .ref a_o), (1, .int x1)] → fX9_hall_52 n v_o_thrown v_o_textSize v_o_place v_o_rows v_o_readRows v_o_doings d_o_text d_o_many d_o_views d_o_aisles d_o_readMany d_o_readViews d_o_readAisles d_o_readPage d_o_page d_o_isKept x1 = some res → W p l e ({ frames := 4, cells := 0, slots := 0, locals := 94 } : Room) s m args below meth c H locs 0 0 (MQ below (QRw D A (WX9_hall cI cJ cZ cB a_o a_o_text a_o_many a_o_views a_o_aisles a_o_readMany a_o_readViews a_o_readAisles a_o_readPage a_o_page a_o_trial a_o_book a_o_kept a_o_isKept a_o_seenSeat a_o_seenWas res.2.1 v_o_textSize res.2.2.1 res.2.2.2.1 res.2.2.2.2.1 res.2.2.2.2.2.1 v_o_seen v_o_seed v_o_found v_o_foundViews v_o_foundMany d_o_text res.2.2.2.2.2.2.1 res.2.2.2.2.2.2.2.1 res.2.2.2.2.2.2.2.2.1 res.2.2.2.2.2.2.2.2.2.1 res.2.2.2.2.2.2.2.2.2.2.1 res.2.2.2.2.2.2.2.2.2.2.2.1 res.2.2.2.2.2.2.2.2.2.2.2.2.1 res.2.2.2.2.2.2.2.2.2.2.2.2.2.1 res.2.2.2.2.2.2.2.2.2.2.2.2.2.2) (some (.int res.1))) args s 0 0 A) (F0 m 52 ls []) := by
  obtain ⟨hx, hb, hr, hml, hts, hown, hlk⟩ := id C
  intro n
  induction n with
  | zero =>
    intro v_o_thrown v_o_textSize v_o_place v_o_rows v_o_readRows v_o_doings v_o_seen v_o_seed v_o_found v_o_foundViews v_o_foundMany d_o_text d_o_many d_o_views d_o_aisles d_o_readMany d_o_readViews d_o_readAisles d_o_readPage d_o_page d_o_isKept x1 H locs ls res hP hD hS hl hf
    rw [fX9_hall_52] at hf
    cases hf
  | succ n ih =>
    intro v_o_thrown v_o_textSize v_o_place v_o_rows v_o_readRows v_o_doings v_o_seen v_o_seed v_o_found v_o_foundViews v_o_foundMany d_o_text d_o_many d_o_views d_o_aisles d_o_readMany d_o_readViews d_o_readAisles d_o_readPage d_o_page d_o_isKept x1 H locs ls res hP hD hS hl hf
    rw [fX9_hall_52] at hf
    refine lv_iload_n hx hb dX9_hall_52 rfl (lv_at hl 1 rfl) ?_
    refine lv_bipush (v := (36 : Int32)) hx hb dX9_hall_53 (by decide) ?_
    refine lv_icmp_ge (tgt := 88) hx hb dX9_hall_55 (by decide) (fun hc => ?_) (fun hc => ?_)
    · have hf := pf_t hc hf
      refine lv_aload_n hx hb dX9_hall_88 rfl (lv_at hl 0 rfl) ?_
      refine va_get (D := D) (ci := 9) (v := .ref a_o_readPage) (C := RX9) (T := TX9) (N := 26) hx hb hts iX9_hall_X9 hown hK.1 hP 0 rfl rfl 12 (by decide) (hts (.fieldLink RX9 32 "LoneSeatsModel" "readPage" "[I") (by decide +kernel)) (fun _ h9 => h9) rfl dX9_hall_89 ?_
      refine lv_aload_n hx hb dX9_hall_92 rfl (lv_at hl 0 rfl) ?_
      refine va_get (D := D) (ci := 9) (v := .ref a_o_page) (C := RX9) (T := TX9) (N := 26) hx hb hts iX9_hall_X9 hown hK.1 hP 0 rfl rfl 13 (by decide) (hts (.fieldLink RX9 35 "LoneSeatsModel" "page" "[I") (by decide +kernel)) (fun _ h9 => h9) rfl dX9_hall_93 ?_
      obtain ⟨q1, hq2, hf⟩ := pf_b hf
      have hPc := hP.sub (ws' := (WX9_copy cI cJ cZ cB a_o_readPage a_o_page d_o_readPage d_o_page)) [8, 9] rfl
      have hDc := hD.sub (ws' := (WX9_copy cI cJ cZ cB a_o_readPage a_o_page d_o_readPage d_o_page)) [8, 9] (by decide) rfl
      refine cl_rwv (wr := [(a_o, .inr (9, [.int v_o_thrown, .ref a_o_text, .int v_o_textSize, .int v_o_place, .int v_o_rows, .ref a_o_many, .ref a_o_views, .ref a_o_aisles, .int v_o_readRows, .ref a_o_readMany, .ref a_o_readViews, .ref a_o_readAisles, .ref a_o_readPage, .ref a_o_page, .ref a_o_trial, .ref a_o_book, .int v_o_doings, .ref a_o_kept, .ref a_o_isKept, .int v_o_seen, .ref a_o_seenSeat, .ref a_o_seenWas, .long v_o_seed, .int v_o_found, .int v_o_foundViews, .int v_o_foundMany])), (a_o_text, .inl (cI, (80, .inl d_o_text))), (a_o_many, .inl (cI, (4, .inl d_o_many))), (a_o_views, .inl (cI, (36, .inl d_o_views))), (a_o_aisles, .inl (cZ, (36, .inl d_o_aisles))), (a_o_readMany, .inl (cI, (4, .inl d_o_readMany))), (a_o_readViews, .inl (cI, (36, .inl d_o_readViews))), (a_o_readAisles, .inl (cZ, (36, .inl d_o_readAisles))), (a_o_isKept, .inl (cZ, (2, .inl d_o_isKept)))]) (wsN := (WX9_hall cI cJ cZ cB a_o a_o_text a_o_many a_o_views a_o_aisles a_o_readMany a_o_readViews a_o_readAisles a_o_readPage a_o_page a_o_trial a_o_book a_o_kept a_o_isKept a_o_seenSeat a_o_seenWas v_o_thrown v_o_textSize v_o_place v_o_rows v_o_readRows v_o_doings v_o_seen v_o_seed v_o_found v_o_foundViews v_o_foundMany d_o_text d_o_many d_o_views d_o_aisles d_o_readMany d_o_readViews d_o_readAisles d_o_readPage q1 d_o_isKept)) (va_runS (As := [.ref a_o_readPage, .ref a_o_page]) (rest := []) ⟨hx, hb, hml, hown, hts⟩ ((kX9_copy l D cI cJ cZ cB a_o_readPage a_o_page d_o_readPage d_o_page q1 hq2) _) (va_cwS 2 hts gX9_hall_X9_copy rfl rfl rfl (by decide +kernel) ⟨Nat.le_of_ble_eq_true rfl, Nat.le_of_ble_eq_true rfl⟩) ⟨PRw.blind, PRw.at hK hPc hDc⟩ rfl rfl hl.1 rfl (lv_room (Nat.le_of_ble_eq_true rfl)) dX9_hall_96 ⟨Nat.zero_le _, Nat.zero_le _⟩) hP hD hS hA [8, 9] [0, 1, 2, 3, 4, 5, 6, 7, 10] [0, 1, 2, 3, 4, 5, 6, 7, 9, 10, 8] rfl rfl (by decide) (by decide) rfl (by decide) (fun H locs hP hD hS => ?_)
      refine lv_aload_n hx hb dX9_hall_99 rfl (lv_at hl 0 rfl) ?_
      refine lv_iconst (v := (0 : Int32)) hx hb dX9_hall_100 (by decide) ?_
      refine va_put (D := D) (ci := 9) (v := .int (0 : Int32)) (ty := .int) (C := RX9) (T := TX9) (N := 26) hx hb hts iX9_hall_X9 tyX9 tyX9_ok nmX9 hown hK.1 hP hD hS 0 rfl rfl 16 (by decide) (hts (.fieldLink RX9 105 "LoneSeatsModel" "doings" "I") (by decide +kernel)) (fun _ h9 => h9) rfl (by decide +kernel) rfl rfl (Nat.le_of_ble_eq_true rfl) dX9_hall_101 (fun H locs hP hD hS => ?_)
      have hP : va_P D vwCl (WX9_hall cI cJ cZ cB a_o a_o_text a_o_many a_o_views a_o_aisles a_o_readMany a_o_readViews a_o_readAisles a_o_readPage a_o_page a_o_trial a_o_book a_o_kept a_o_isKept a_o_seenSeat a_o_seenWas v_o_thrown v_o_textSize v_o_place v_o_rows v_o_readRows (0 : Int32) v_o_seen v_o_seed v_o_found v_o_foundViews v_o_foundMany d_o_text d_o_many d_o_views d_o_aisles d_o_readMany d_o_readViews d_o_readAisles d_o_readPage q1 d_o_isKept) H := hP
      have hD : va_D A (WX9_hall cI cJ cZ cB a_o a_o_text a_o_many a_o_views a_o_aisles a_o_readMany a_o_readViews a_o_readAisles a_o_readPage a_o_page a_o_trial a_o_book a_o_kept a_o_isKept a_o_seenSeat a_o_seenWas v_o_thrown v_o_textSize v_o_place v_o_rows v_o_readRows (0 : Int32) v_o_seen v_o_seed v_o_found v_o_foundViews v_o_foundMany d_o_text d_o_many d_o_views d_o_aisles d_o_readMany d_o_readViews d_o_readAisles d_o_readPage q1 d_o_isKept) := hD
      refine lv_aload_n hx hb dX9_hall_104 rfl (lv_at hl 0 rfl) ?_
      refine va_get (D := D) (ci := 9) (v := .ref a_o_isKept) (C := RX9) (T := TX9) (N := 26) hx hb hts iX9_hall_X9 hown hK.1 hP 0 rfl rfl 18 (by decide) (hts (.fieldLink RX9 47 "LoneSeatsModel" "isKept" "[Z") (by decide +kernel)) (fun _ h9 => h9) rfl dX9_hall_105 ?_
      refine lv_iconst (v := (0 : Int32)) hx hb dX9_hall_108 (by decide) ?_
      refine lv_iconst (v := (0 : Int32)) hx hb dX9_hall_109 (by decide) ?_
      refine va_zast hx hb hK.1 hP hD hS 10 2 rfl rfl (show ¬ ((0 : Int32) < 0 ∨ 2 ≤ ((0 : Int32)).toNatClampNeg) by decide) dX9_hall_110 (fun H locs hP hD hS => ?_)
      have hP : va_P D vwCl (WX9_hall cI cJ cZ cB a_o a_o_text a_o_many a_o_views a_o_aisles a_o_readMany a_o_readViews a_o_readAisles a_o_readPage a_o_page a_o_trial a_o_book a_o_kept a_o_isKept a_o_seenSeat a_o_seenWas v_o_thrown v_o_textSize v_o_place v_o_rows v_o_readRows (0 : Int32) v_o_seen v_o_seed v_o_found v_o_foundViews v_o_foundMany d_o_text d_o_many d_o_views d_o_aisles d_o_readMany d_o_readViews d_o_readAisles d_o_readPage q1 (upd d_o_isKept (((0 : Int32)).toNatClampNeg) (vp_nar .boolean (0 : Int32)))) H := hP
      have hD : va_D A (WX9_hall cI cJ cZ cB a_o a_o_text a_o_many a_o_views a_o_aisles a_o_readMany a_o_readViews a_o_readAisles a_o_readPage a_o_page a_o_trial a_o_book a_o_kept a_o_isKept a_o_seenSeat a_o_seenWas v_o_thrown v_o_textSize v_o_place v_o_rows v_o_readRows (0 : Int32) v_o_seen v_o_seed v_o_found v_o_foundViews v_o_foundMany d_o_text d_o_many d_o_views d_o_aisles d_o_readMany d_o_readViews d_o_readAisles d_o_readPage q1 (upd d_o_isKept (((0 : Int32)).toNatClampNeg) (vp_nar .boolean (0 : Int32)))) := hD
      refine lv_aload_n hx hb dX9_hall_111 rfl (lv_at hl 0 rfl) ?_
      refine va_get (D := D) (ci := 9) (v := .ref a_o_isKept) (C := RX9) (T := TX9) (N := 26) hx hb hts iX9_hall_X9 hown hK.1 hP 0 rfl rfl 18 (by decide) (hts (.fieldLink RX9 47 "LoneSeatsModel" "isKept" "[Z") (by decide +kernel)) (fun _ h9 => h9) rfl dX9_hall_112 ?_
      refine lv_iconst (v := (1 : Int32)) hx hb dX9_hall_115 (by decide) ?_
      refine lv_iconst (v := (0 : Int32)) hx hb dX9_hall_116 (by decide) ?_
      refine va_zast hx hb hK.1 hP hD hS 10 2 rfl rfl (show ¬ ((1 : Int32) < 0 ∨ 2 ≤ ((1 : Int32)).toNatClampNeg) by decide) dX9_hall_117 (fun H locs hP hD hS => ?_)
      have hP : va_P D vwCl (WX9_hall cI cJ cZ cB a_o a_o_text a_o_many a_o_views a_o_aisles a_o_readMany a_o_readViews a_o_readAisles a_o_readPage a_o_page a_o_trial a_o_book a_o_kept a_o_isKept a_o_seenSeat a_o_seenWas v_o_thrown v_o_textSize v_o_place v_o_rows v_o_readRows (0 : Int32) v_o_seen v_o_seed v_o_found v_o_foundViews v_o_foundMany d_o_text d_o_many d_o_views d_o_aisles d_o_readMany d_o_readViews d_o_readAisles d_o_readPage q1 (upd (upd d_o_isKept (((0 : Int32)).toNatClampNeg) (vp_nar .boolean (0 : Int32))) (((1 : Int32)).toNatClampNeg) (vp_nar .boolean (0 : Int32)))) H := hP
      have hD : va_D A (WX9_hall cI cJ cZ cB a_o a_o_text a_o_many a_o_views a_o_aisles a_o_readMany a_o_readViews a_o_readAisles a_o_readPage a_o_page a_o_trial a_o_book a_o_kept a_o_isKept a_o_seenSeat a_o_seenWas v_o_thrown v_o_textSize v_o_place v_o_rows v_o_readRows (0 : Int32) v_o_seen v_o_seed v_o_found v_o_foundViews v_o_foundMany d_o_text d_o_many d_o_views d_o_aisles d_o_readMany d_o_readViews d_o_readAisles d_o_readPage q1 (upd (upd d_o_isKept (((0 : Int32)).toNatClampNeg) (vp_nar .boolean (0 : Int32))) (((1 : Int32)).toNatClampNeg) (vp_nar .boolean (0 : Int32)))) := hD
      refine lv_aload_n hx hb dX9_hall_118 rfl (lv_at hl 0 rfl) ?_
      refine va_get (D := D) (ci := 9) (v := .int v_o_rows) (C := RX9) (T := TX9) (N := 26) hx hb hts iX9_hall_X9 hown hK.1 hP 0 rfl rfl 4 (by decide) (hts (.fieldLink RX9 63 "LoneSeatsModel" "rows" "I") (by decide +kernel)) (fun _ h9 => h9) rfl dX9_hall_119 ?_
      cases hf
      exact W.iret hx hb hr (fun t ht hW => ⟨⟨rfl, by rw [ht]; exact hP, hD⟩, hS.F ht⟩) hS.2.2 dX9_hall_122
    · have hf := pf_f hc hf
      refine lv_aload_n hx hb dX9_hall_58 rfl (lv_at hl 0 rfl) ?_
      refine va_get (D := D) (ci := 9) (v := .ref a_o_views) (C := RX9) (T := TX9) (N := 26) hx hb hts iX9_hall_X9 hown hK.1 hP 0 rfl rfl 6 (by decide) (hts (.fieldLink RX9 16 "LoneSeatsModel" "views" "[I") (by decide +kernel)) (fun _ h9 => h9) rfl dX9_hall_59 ?_
      refine lv_iload_n hx hb dX9_hall_62 rfl (lv_at hl 1 rfl) ?_
      refine lv_aload_n hx hb dX9_hall_63 rfl (lv_at hl 0 rfl) ?_
      refine va_get (D := D) (ci := 9) (v := .ref a_o_readViews) (C := RX9) (T := TX9) (N := 26) hx hb hts iX9_hall_X9 hown hK.1 hP 0 rfl rfl 10 (by decide) (hts (.fieldLink RX9 26 "LoneSeatsModel" "readViews" "[I") (by decide +kernel)) (fun _ h9 => h9) rfl dX9_hall_64 ?_
      refine lv_iload_n hx hb dX9_hall_67 rfl (lv_at hl 1 rfl) ?_
      obtain ⟨hg3, hf⟩ := pf_x hf
      refine va_iald hx hb hK.1 hP 6 0 rfl rfl hg3 dX9_hall_68 ?_
      obtain ⟨hg4, hf⟩ := pf_x hf
      refine va_iast hx hb hK.1 hP hD hS 3 0 rfl rfl hg4 dX9_hall_69 (fun H locs hP hD hS => ?_)
      have hP : va_P D vwCl (WX9_hall cI cJ cZ cB a_o a_o_text a_o_many a_o_views a_o_aisles a_o_readMany a_o_readViews a_o_readAisles a_o_readPage a_o_page a_o_trial a_o_book a_o_kept a_o_isKept a_o_seenSeat a_o_seenWas v_o_thrown v_o_textSize v_o_place v_o_rows v_o_readRows v_o_doings v_o_seen v_o_seed v_o_found v_o_foundViews v_o_foundMany d_o_text d_o_many (upd d_o_views ((x1).toNatClampNeg) (d_o_readViews (x1).toNatClampNeg)) d_o_aisles d_o_readMany d_o_readViews d_o_readAisles d_o_readPage d_o_page d_o_isKept) H := hP
      have hD : va_D A (WX9_hall cI cJ cZ cB a_o a_o_text a_o_many a_o_views a_o_aisles a_o_readMany a_o_readViews a_o_readAisles a_o_readPage a_o_page a_o_trial a_o_book a_o_kept a_o_isKept a_o_seenSeat a_o_seenWas v_o_thrown v_o_textSize v_o_place v_o_rows v_o_readRows v_o_doings v_o_seen v_o_seed v_o_found v_o_foundViews v_o_foundMany d_o_text d_o_many (upd d_o_views ((x1).toNatClampNeg) (d_o_readViews (x1).toNatClampNeg)) d_o_aisles d_o_readMany d_o_readViews d_o_readAisles d_o_readPage d_o_page d_o_isKept) := hD
      refine lv_aload_n hx hb dX9_hall_70 rfl (lv_at hl 0 rfl) ?_
      refine va_get (D := D) (ci := 9) (v := .ref a_o_aisles) (C := RX9) (T := TX9) (N := 26) hx hb hts iX9_hall_X9 hown hK.1 hP 0 rfl rfl 7 (by decide) (hts (.fieldLink RX9 19 "LoneSeatsModel" "aisles" "[Z") (by decide +kernel)) (fun _ h9 => h9) rfl dX9_hall_71 ?_
      refine lv_iload_n hx hb dX9_hall_74 rfl (lv_at hl 1 rfl) ?_
      refine lv_aload_n hx hb dX9_hall_75 rfl (lv_at hl 0 rfl) ?_
      refine va_get (D := D) (ci := 9) (v := .ref a_o_readAisles) (C := RX9) (T := TX9) (N := 26) hx hb hts iX9_hall_X9 hown hK.1 hP 0 rfl rfl 11 (by decide) (hts (.fieldLink RX9 29 "LoneSeatsModel" "readAisles" "[Z") (by decide +kernel)) (fun _ h9 => h9) rfl dX9_hall_76 ?_
      refine lv_iload_n hx hb dX9_hall_79 rfl (lv_at hl 1 rfl) ?_
      obtain ⟨hg5, hf⟩ := pf_x hf
      refine va_zald hx hb hK.1 hP 7 2 rfl rfl hg5 dX9_hall_80 ?_
      obtain ⟨hg6, hf⟩ := pf_x hf
      refine va_zast hx hb hK.1 hP hD hS 4 2 rfl rfl hg6 dX9_hall_81 (fun H locs hP hD hS => ?_)
      have hP : va_P D vwCl (WX9_hall cI cJ cZ cB a_o a_o_text a_o_many a_o_views a_o_aisles a_o_readMany a_o_readViews a_o_readAisles a_o_readPage a_o_page a_o_trial a_o_book a_o_kept a_o_isKept a_o_seenSeat a_o_seenWas v_o_thrown v_o_textSize v_o_place v_o_rows v_o_readRows v_o_doings v_o_seen v_o_seed v_o_found v_o_foundViews v_o_foundMany d_o_text d_o_many (upd d_o_views ((x1).toNatClampNeg) (d_o_readViews (x1).toNatClampNeg)) (upd d_o_aisles ((x1).toNatClampNeg) (vp_nar .boolean (d_o_readAisles (x1).toNatClampNeg))) d_o_readMany d_o_readViews d_o_readAisles d_o_readPage d_o_page d_o_isKept) H := hP
      have hD : va_D A (WX9_hall cI cJ cZ cB a_o a_o_text a_o_many a_o_views a_o_aisles a_o_readMany a_o_readViews a_o_readAisles a_o_readPage a_o_page a_o_trial a_o_book a_o_kept a_o_isKept a_o_seenSeat a_o_seenWas v_o_thrown v_o_textSize v_o_place v_o_rows v_o_readRows v_o_doings v_o_seen v_o_seed v_o_found v_o_foundViews v_o_foundMany d_o_text d_o_many (upd d_o_views ((x1).toNatClampNeg) (d_o_readViews (x1).toNatClampNeg)) (upd d_o_aisles ((x1).toNatClampNeg) (vp_nar .boolean (d_o_readAisles (x1).toNatClampNeg))) d_o_readMany d_o_readViews d_o_readAisles d_o_readPage d_o_page d_o_isKept) := hD
      refine lv_iinc (v := (x1 + (1 : Int32))) (lv' := [(1, .int (x1 + (1 : Int32))), (0, .ref a_o)]) hx hb dX9_hall_82 hl (k := 1) rfl rfl (by decide) rfl (fun ls hl => ?_)
      refine lv_goto (tgt := 52) hx hb dX9_hall_85 (by decide) ?_
      exact ih v_o_thrown v_o_textSize v_o_place v_o_rows v_o_readRows v_o_doings v_o_seen v_o_seed v_o_found v_o_foundViews v_o_foundMany d_o_text d_o_many (upd d_o_views ((x1).toNatClampNeg) (d_o_readViews (x1).toNatClampNeg)) (upd d_o_aisles ((x1).toNatClampNeg) (vp_nar .boolean (d_o_readAisles (x1).toNatClampNeg))) d_o_readMany d_o_readViews d_o_readAisles d_o_readPage d_o_page d_o_isKept (x1 + (1 : Int32)) _ _ ls _ hP hD hS (lv_sub hl [1, 0] rfl) hf
def fX9_hall_27 : Nat → Int32 → Int32 → Int32 → Int32 → Int32 → Int32 → (Nat → Int32) → (Nat → Int32) → (Nat → Int32) → (Nat → Int32) → (Nat → Int32) → (Nat → Int32) → (Nat → Int32) → (Nat → Int32) → (Nat → Int32) → (Nat → Int32) → Int32 → Option (Int32 × Int32 × Int32 × Int32 × Int32 × Int32 × (Nat → Int32) × (Nat → Int32) × (Nat → Int32) × (Nat → Int32) × (Nat → Int32) × (Nat → Int32) × (Nat → Int32) × (Nat → Int32) × (Nat → Int32))
  | 0, _, _, _, _, _, _, _, _, _, _, _, _, _, _, _, _, _ => none
  | n + 1, v_o_thrown, v_o_textSize, v_o_place, v_o_rows, v_o_readRows, v_o_doings, d_o_text, d_o_many, d_o_views, d_o_aisles, d_o_readMany, d_o_readViews, d_o_readAisles, d_o_readPage, d_o_page, d_o_isKept, x1 => (if (4 : Int32) ≤ x1 then fX9_hall_52 FU v_o_thrown v_o_textSize v_o_place v_o_rows v_o_readRows v_o_doings d_o_text d_o_many d_o_views d_o_aisles d_o_readMany d_o_readViews d_o_readAisles d_o_readPage d_o_page d_o_isKept (0 : Int32) else (if x1 < 0 ∨ 4 ≤ (x1).toNatClampNeg then none else (if x1 < 0 ∨ 4 ≤ (x1).toNatClampNeg then none else fX9_hall_27 n v_o_thrown v_o_textSize v_o_place v_o_rows v_o_readRows v_o_doings d_o_text (upd d_o_many ((x1).toNatClampNeg) (d_o_readMany (x1).toNatClampNeg)) d_o_views d_o_aisles d_o_readMany d_o_readViews d_o_readAisles d_o_readPage d_o_page d_o_isKept (x1 + (1 : Int32)))))
set_option maxRecDepth 100000 in
set_option maxHeartbeats 4000000 in
theorem tX9_hall_27 {p : Program} {l : Launch} {e : Env} {s : State} {m : MethodId} {args : Array Value} {below : List Frame} {meth : Method} {c : Code} {D : va_G} {cI cJ cZ cB : ClassId} {a_o : Nat} {a_o_text : Nat} {a_o_many : Nat} {a_o_views : Nat} {a_o_aisles : Nat} {a_o_readMany : Nat} {a_o_readViews : Nat} {a_o_readAisles : Nat} {a_o_readPage : Nat} {a_o_page : Nat} {a_o_trial : Nat} {a_o_book : Nat} {a_o_kept : Nat} {a_o_isKept : Nat} {a_o_seenSeat : Nat} {a_o_seenWas : Nat} {A : Nat → Prop} (C : Cx p s m args meth c cX9_hall 2 (some .int) wsX9_hall RX9) (hK : Kw D (tyL cI cJ cZ cB) s) (hA : ∀ q : Nat, s.heap.size ≤ q → A q) : ∀ (n : Nat), ∀ (v_o_thrown : Int32) (v_o_textSize : Int32) (v_o_place : Int32) (v_o_rows : Int32) (v_o_readRows : Int32) (v_o_doings : Int32) (v_o_seen : Int32) (v_o_seed : Int64) (v_o_found : Int32) (v_o_foundViews : Int32) (v_o_foundMany : Int32) (d_o_text : (Nat → Int32)) (d_o_many : (Nat → Int32)) (d_o_views : (Nat → Int32)) (d_o_aisles : (Nat → Int32)) (d_o_readMany : (Nat → Int32)) (d_o_readViews : (Nat → Int32)) (d_o_readAisles : (Nat → Int32)) (d_o_readPage : (Nat → Int32)) (d_o_page : (Nat → Int32)) (d_o_isKept : (Nat → Int32)) (x1 : Int32) (H : Heap) (locs : List Loc) (ls : Array Slot) (res : Int32 × Int32 × Int32 × Int32 × Int32 × Int32 × (Nat → Int32) × (Nat → Int32) × (Nat → Int32) × (Nat → Int32) × (Nat → Int32) × (Nat → Int32) × (Nat → Int32) × (Nat → Int32) × (Nat → Int32)), va_P D vwCl (WX9_hall cI cJ cZ cB a_o a_o_text a_o_many a_o_views a_o_aisles a_o_readMany a_o_readViews a_o_readAisles a_o_readPage a_o_page a_o_trial a_o_book a_o_kept a_o_isKept a_o_seenSeat a_o_seenWas v_o_thrown v_o_textSize v_o_place v_o_rows v_o_readRows v_o_doings v_o_seen v_o_seed v_o_found v_o_foundViews v_o_foundMany d_o_text d_o_many d_o_views d_o_aisles d_o_readMany d_o_readViews d_o_readAisles d_o_readPage d_o_page d_o_isKept) H → va_D A (WX9_hall cI cJ cZ cB a_o a_o_text a_o_many a_o_views a_o_aisles a_o_readMany a_o_readViews a_o_readAisles a_o_readPage a_o_page a_o_trial a_o_book a_o_kept a_o_isKept a_o_seenSeat a_o_seenWas v_o_thrown v_o_textSize v_o_place v_o_rows v_o_readRows v_o_doings v_o_seen v_o_seed v_o_found v_o_foundViews v_o_foundMany d_o_text d_o_many d_o_views d_o_aisles d_o_readMany d_o_readViews d_o_readAisles d_o_readPage d_o_page d_o_isKept) → va_S A s.heap H locs → lv_has ls 2 [(0, .ref a_o), (1, .int x1)] → fX9_hall_27 n v_o_thrown v_o_textSize v_o_place v_o_rows v_o_readRows v_o_doings d_o_text d_o_many d_o_views d_o_aisles d_o_readMany d_o_readViews d_o_readAisles d_o_readPage d_o_page d_o_isKept x1 = some res → W p l e ({ frames := 4, cells := 0, slots := 0, locals := 94 } : Room) s m args below meth c H locs 0 0 (MQ below (QRw D A (WX9_hall cI cJ cZ cB a_o a_o_text a_o_many a_o_views a_o_aisles a_o_readMany a_o_readViews a_o_readAisles a_o_readPage a_o_page a_o_trial a_o_book a_o_kept a_o_isKept a_o_seenSeat a_o_seenWas res.2.1 v_o_textSize res.2.2.1 res.2.2.2.1 res.2.2.2.2.1 res.2.2.2.2.2.1 v_o_seen v_o_seed v_o_found v_o_foundViews v_o_foundMany d_o_text res.2.2.2.2.2.2.1 res.2.2.2.2.2.2.2.1 res.2.2.2.2.2.2.2.2.1 res.2.2.2.2.2.2.2.2.2.1 res.2.2.2.2.2.2.2.2.2.2.1 res.2.2.2.2.2.2.2.2.2.2.2.1 res.2.2.2.2.2.2.2.2.2.2.2.2.1 res.2.2.2.2.2.2.2.2.2.2.2.2.2.1 res.2.2.2.2.2.2.2.2.2.2.2.2.2.2) (some (.int res.1))) args s 0 0 A) (F0 m 27 ls []) := by
  obtain ⟨hx, hb, hr, hml, hts, hown, hlk⟩ := id C
  intro n
  induction n with
  | zero =>
    intro v_o_thrown v_o_textSize v_o_place v_o_rows v_o_readRows v_o_doings v_o_seen v_o_seed v_o_found v_o_foundViews v_o_foundMany d_o_text d_o_many d_o_views d_o_aisles d_o_readMany d_o_readViews d_o_readAisles d_o_readPage d_o_page d_o_isKept x1 H locs ls res hP hD hS hl hf
    rw [fX9_hall_27] at hf
    cases hf
  | succ n ih =>
    intro v_o_thrown v_o_textSize v_o_place v_o_rows v_o_readRows v_o_doings v_o_seen v_o_seed v_o_found v_o_foundViews v_o_foundMany d_o_text d_o_many d_o_views d_o_aisles d_o_readMany d_o_readViews d_o_readAisles d_o_readPage d_o_page d_o_isKept x1 H locs ls res hP hD hS hl hf
    rw [fX9_hall_27] at hf
    refine lv_iload_n hx hb dX9_hall_27 rfl (lv_at hl 1 rfl) ?_
    refine lv_iconst (v := (4 : Int32)) hx hb dX9_hall_28 (by decide) ?_
    refine lv_icmp_ge (tgt := 50) hx hb dX9_hall_29 (by decide) (fun hc => ?_) (fun hc => ?_)
    · have hf := pf_t hc hf
      refine lv_iconst (v := (0 : Int32)) hx hb dX9_hall_50 (by decide) ?_
      refine lv_istore_n (lv' := [(1, .int (0 : Int32)), (0, .ref a_o)]) hx hb dX9_hall_51 rfl hl (by decide) rfl (fun ls hl => ?_)
      exact tX9_hall_52 C hK hA  FU v_o_thrown v_o_textSize v_o_place v_o_rows v_o_readRows v_o_doings v_o_seen v_o_seed v_o_found v_o_foundViews v_o_foundMany d_o_text d_o_many d_o_views d_o_aisles d_o_readMany d_o_readViews d_o_readAisles d_o_readPage d_o_page d_o_isKept (0 : Int32) _ _ ls _ hP hD hS (lv_sub hl [1, 0] rfl) hf
    · have hf := pf_f hc hf
      refine lv_aload_n hx hb dX9_hall_32 rfl (lv_at hl 0 rfl) ?_
      refine va_get (D := D) (ci := 9) (v := .ref a_o_many) (C := RX9) (T := TX9) (N := 26) hx hb hts iX9_hall_X9 hown hK.1 hP 0 rfl rfl 5 (by decide) (hts (.fieldLink RX9 13 "LoneSeatsModel" "many" "[I") (by decide +kernel)) (fun _ h9 => h9) rfl dX9_hall_33 ?_
      refine lv_iload_n hx hb dX9_hall_36 rfl (lv_at hl 1 rfl) ?_
      refine lv_aload_n hx hb dX9_hall_37 rfl (lv_at hl 0 rfl) ?_
      refine va_get (D := D) (ci := 9) (v := .ref a_o_readMany) (C := RX9) (T := TX9) (N := 26) hx hb hts iX9_hall_X9 hown hK.1 hP 0 rfl rfl 9 (by decide) (hts (.fieldLink RX9 23 "LoneSeatsModel" "readMany" "[I") (by decide +kernel)) (fun _ h9 => h9) rfl dX9_hall_38 ?_
      refine lv_iload_n hx hb dX9_hall_41 rfl (lv_at hl 1 rfl) ?_
      obtain ⟨hg1, hf⟩ := pf_x hf
      refine va_iald hx hb hK.1 hP 5 0 rfl rfl hg1 dX9_hall_42 ?_
      obtain ⟨hg2, hf⟩ := pf_x hf
      refine va_iast hx hb hK.1 hP hD hS 2 0 rfl rfl hg2 dX9_hall_43 (fun H locs hP hD hS => ?_)
      have hP : va_P D vwCl (WX9_hall cI cJ cZ cB a_o a_o_text a_o_many a_o_views a_o_aisles a_o_readMany a_o_readViews a_o_readAisles a_o_readPage a_o_page a_o_trial a_o_book a_o_kept a_o_isKept a_o_seenSeat a_o_seenWas v_o_thrown v_o_textSize v_o_place v_o_rows v_o_readRows v_o_doings v_o_seen v_o_seed v_o_found v_o_foundViews v_o_foundMany d_o_text (upd d_o_many ((x1).toNatClampNeg) (d_o_readMany (x1).toNatClampNeg)) d_o_views d_o_aisles d_o_readMany d_o_readViews d_o_readAisles d_o_readPage d_o_page d_o_isKept) H := hP
      have hD : va_D A (WX9_hall cI cJ cZ cB a_o a_o_text a_o_many a_o_views a_o_aisles a_o_readMany a_o_readViews a_o_readAisles a_o_readPage a_o_page a_o_trial a_o_book a_o_kept a_o_isKept a_o_seenSeat a_o_seenWas v_o_thrown v_o_textSize v_o_place v_o_rows v_o_readRows v_o_doings v_o_seen v_o_seed v_o_found v_o_foundViews v_o_foundMany d_o_text (upd d_o_many ((x1).toNatClampNeg) (d_o_readMany (x1).toNatClampNeg)) d_o_views d_o_aisles d_o_readMany d_o_readViews d_o_readAisles d_o_readPage d_o_page d_o_isKept) := hD
      refine lv_iinc (v := (x1 + (1 : Int32))) (lv' := [(1, .int (x1 + (1 : Int32))), (0, .ref a_o)]) hx hb dX9_hall_44 hl (k := 1) rfl rfl (by decide) rfl (fun ls hl => ?_)
      refine lv_goto (tgt := 27) hx hb dX9_hall_47 (by decide) ?_
      exact ih v_o_thrown v_o_textSize v_o_place v_o_rows v_o_readRows v_o_doings v_o_seen v_o_seed v_o_found v_o_foundViews v_o_foundMany d_o_text (upd d_o_many ((x1).toNatClampNeg) (d_o_readMany (x1).toNatClampNeg)) d_o_views d_o_aisles d_o_readMany d_o_readViews d_o_readAisles d_o_readPage d_o_page d_o_isKept (x1 + (1 : Int32)) _ _ ls _ hP hD hS (lv_sub hl [1, 0] rfl) hf
def fX9_hall (v_o_thrown : Int32) (v_o_textSize : Int32) (v_o_place : Int32) (v_o_rows : Int32) (v_o_readRows : Int32) (v_o_doings : Int32) (d_o_text : (Nat → Int32)) (d_o_many : (Nat → Int32)) (d_o_views : (Nat → Int32)) (d_o_aisles : (Nat → Int32)) (d_o_readMany : (Nat → Int32)) (d_o_readViews : (Nat → Int32)) (d_o_readAisles : (Nat → Int32)) (d_o_readPage : (Nat → Int32)) (d_o_page : (Nat → Int32)) (d_o_isKept : (Nat → Int32)) : Option (Int32 × Int32 × Int32 × Int32 × Int32 × Int32 × (Nat → Int32) × (Nat → Int32) × (Nat → Int32) × (Nat → Int32) × (Nat → Int32) × (Nat → Int32) × (Nat → Int32) × (Nat → Int32) × (Nat → Int32)) := ((fX9_readHall v_o_textSize v_o_place v_o_readRows d_o_text d_o_readMany d_o_readViews d_o_readAisles d_o_readPage).bind fun q1 => (if q1.1 = (-9 : Int32) then fX9_hall_27 FU (0 : Int32) v_o_textSize q1.2.1 q1.2.2.1 q1.2.2.1 v_o_doings d_o_text d_o_many d_o_views d_o_aisles q1.2.2.2.1 q1.2.2.2.2.1 q1.2.2.2.2.2.1 q1.2.2.2.2.2.2 d_o_page d_o_isKept (0 : Int32) else some ((-3 : Int32), (0 : Int32), q1.2.1, v_o_rows, q1.2.2.1, v_o_doings, d_o_many, d_o_views, d_o_aisles, q1.2.2.2.1, q1.2.2.2.2.1, q1.2.2.2.2.2.1, q1.2.2.2.2.2.2, d_o_page, d_o_isKept)))
set_option maxRecDepth 100000 in
set_option maxHeartbeats 4000000 in
theorem kX9_hall (l : Launch) (D : va_G) (cI cJ cZ cB : ClassId) (a_o : Nat) (a_o_text : Nat) (a_o_many : Nat) (a_o_views : Nat) (a_o_aisles : Nat) (a_o_readMany : Nat) (a_o_readViews : Nat) (a_o_readAisles : Nat) (a_o_readPage : Nat) (a_o_page : Nat) (a_o_trial : Nat) (a_o_book : Nat) (a_o_kept : Nat) (a_o_isKept : Nat) (a_o_seenSeat : Nat) (a_o_seenWas : Nat) (v_o_thrown : Int32) (v_o_textSize : Int32) (v_o_place : Int32) (v_o_rows : Int32) (v_o_readRows : Int32) (v_o_doings : Int32) (v_o_seen : Int32) (v_o_seed : Int64) (v_o_found : Int32) (v_o_foundViews : Int32) (v_o_foundMany : Int32) (d_o_text : (Nat → Int32)) (d_o_many : (Nat → Int32)) (d_o_views : (Nat → Int32)) (d_o_aisles : (Nat → Int32)) (d_o_readMany : (Nat → Int32)) (d_o_readViews : (Nat → Int32)) (d_o_readAisles : (Nat → Int32)) (d_o_readPage : (Nat → Int32)) (d_o_page : (Nat → Int32)) (d_o_isKept : (Nat → Int32)) (res : Int32 × Int32 × Int32 × Int32 × Int32 × Int32 × (Nat → Int32) × (Nat → Int32) × (Nat → Int32) × (Nat → Int32) × (Nat → Int32) × (Nat → Int32) × (Nat → Int32) × (Nat → Int32) × (Nat → Int32)) (hf : fX9_hall v_o_thrown v_o_textSize v_o_place v_o_rows v_o_readRows v_o_doings d_o_text d_o_many d_o_views d_o_aisles d_o_readMany d_o_readViews d_o_readAisles d_o_readPage d_o_page d_o_isKept = some res) : Rw l yX9_hall wsX9_hall ({ frames := 4, cells := 0, slots := 0, locals := 94 } : Room) D (tyL cI cJ cZ cB) [.ref a_o] (WX9_hall cI cJ cZ cB a_o a_o_text a_o_many a_o_views a_o_aisles a_o_readMany a_o_readViews a_o_readAisles a_o_readPage a_o_page a_o_trial a_o_book a_o_kept a_o_isKept a_o_seenSeat a_o_seenWas v_o_thrown v_o_textSize v_o_place v_o_rows v_o_readRows v_o_doings v_o_seen v_o_seed v_o_found v_o_foundViews v_o_foundMany d_o_text d_o_many d_o_views d_o_aisles d_o_readMany d_o_readViews d_o_readAisles d_o_readPage d_o_page d_o_isKept) (some (.int res.1)) (WX9_hall cI cJ cZ cB a_o a_o_text a_o_many a_o_views a_o_aisles a_o_readMany a_o_readViews a_o_readAisles a_o_readPage a_o_page a_o_trial a_o_book a_o_kept a_o_isKept a_o_seenSeat a_o_seenWas res.2.1 v_o_textSize res.2.2.1 res.2.2.2.1 res.2.2.2.2.1 res.2.2.2.2.2.1 v_o_seen v_o_seed v_o_found v_o_foundViews v_o_foundMany d_o_text res.2.2.2.2.2.2.1 res.2.2.2.2.2.2.2.1 res.2.2.2.2.2.2.2.2.1 res.2.2.2.2.2.2.2.2.2.1 res.2.2.2.2.2.2.2.2.2.2.1 res.2.2.2.2.2.2.2.2.2.2.2.1 res.2.2.2.2.2.2.2.2.2.2.2.2.1 res.2.2.2.2.2.2.2.2.2.2.2.2.2.1 res.2.2.2.2.2.2.2.2.2.2.2.2.2.2) := by
  refine Rw.of (cc := cX9_hall) (maxL := 2) (ret := (some .int)) (own := RX9) (by decide) rfl rfl (Nat.le_of_ble_eq_true rfl) ?_
  intro p e s m below meth c A ls C hK hA hP hD hS hl
  obtain ⟨hx, hb, hr, hml, hts, hown, hlk⟩ := id C
  have hl : lv_has ls 2 [(0, .ref a_o)] := hl
  unfold fX9_hall at hf
  refine lv_aload_n hx hb dX9_hall_0 rfl (lv_at hl 0 rfl) ?_
  refine lv_iconst (v := (0 : Int32)) hx hb dX9_hall_1 (by decide) ?_
  refine va_put (D := D) (ci := 9) (v := .int (0 : Int32)) (ty := .int) (C := RX9) (T := TX9) (N := 26) hx hb hts iX9_hall_X9 tyX9 tyX9_ok nmX9 hown hK.1 hP hD hS 0 rfl rfl 0 (by decide) (hts (.fieldLink RX9 60 "LoneSeatsModel" "thrown" "I") (by decide +kernel)) (fun _ h9 => h9) rfl (by decide +kernel) rfl rfl (Nat.le_of_ble_eq_true rfl) dX9_hall_2 (fun H locs hP hD hS => ?_)
  have hP : va_P D vwCl (WX9_hall cI cJ cZ cB a_o a_o_text a_o_many a_o_views a_o_aisles a_o_readMany a_o_readViews a_o_readAisles a_o_readPage a_o_page a_o_trial a_o_book a_o_kept a_o_isKept a_o_seenSeat a_o_seenWas (0 : Int32) v_o_textSize v_o_place v_o_rows v_o_readRows v_o_doings v_o_seen v_o_seed v_o_found v_o_foundViews v_o_foundMany d_o_text d_o_many d_o_views d_o_aisles d_o_readMany d_o_readViews d_o_readAisles d_o_readPage d_o_page d_o_isKept) H := hP
  have hD : va_D A (WX9_hall cI cJ cZ cB a_o a_o_text a_o_many a_o_views a_o_aisles a_o_readMany a_o_readViews a_o_readAisles a_o_readPage a_o_page a_o_trial a_o_book a_o_kept a_o_isKept a_o_seenSeat a_o_seenWas (0 : Int32) v_o_textSize v_o_place v_o_rows v_o_readRows v_o_doings v_o_seen v_o_seed v_o_found v_o_foundViews v_o_foundMany d_o_text d_o_many d_o_views d_o_aisles d_o_readMany d_o_readViews d_o_readAisles d_o_readPage d_o_page d_o_isKept) := hD
  refine lv_aload_n hx hb dX9_hall_5 rfl (lv_at hl 0 rfl) ?_
  obtain ⟨q1, hq2, hf⟩ := pf_b hf
  have hPc := hP.sub (ws' := (WX9_readHall cI cJ cZ cB a_o a_o_text a_o_many a_o_views a_o_aisles a_o_readMany a_o_readViews a_o_readAisles a_o_readPage a_o_page a_o_trial a_o_book a_o_kept a_o_isKept a_o_seenSeat a_o_seenWas (0 : Int32) v_o_textSize v_o_place v_o_rows v_o_readRows v_o_doings v_o_seen v_o_seed v_o_found v_o_foundViews v_o_foundMany d_o_text d_o_readMany d_o_readViews d_o_readAisles d_o_readPage)) [0, 1, 5, 6, 7, 8] rfl
  have hDc := hD.sub (ws' := (WX9_readHall cI cJ cZ cB a_o a_o_text a_o_many a_o_views a_o_aisles a_o_readMany a_o_readViews a_o_readAisles a_o_readPage a_o_page a_o_trial a_o_book a_o_kept a_o_isKept a_o_seenSeat a_o_seenWas (0 : Int32) v_o_textSize v_o_place v_o_rows v_o_readRows v_o_doings v_o_seen v_o_seed v_o_found v_o_foundViews v_o_foundMany d_o_text d_o_readMany d_o_readViews d_o_readAisles d_o_readPage)) [0, 1, 5, 6, 7, 8] (by decide) rfl
  refine cl_rwi (wr := [(a_o_many, .inl (cI, (4, .inl d_o_many))), (a_o_views, .inl (cI, (36, .inl d_o_views))), (a_o_aisles, .inl (cZ, (36, .inl d_o_aisles))), (a_o_page, .inl (cI, (229, .inl d_o_page))), (a_o_isKept, .inl (cZ, (2, .inl d_o_isKept)))]) (wsN := (WX9_hall cI cJ cZ cB a_o a_o_text a_o_many a_o_views a_o_aisles a_o_readMany a_o_readViews a_o_readAisles a_o_readPage a_o_page a_o_trial a_o_book a_o_kept a_o_isKept a_o_seenSeat a_o_seenWas (0 : Int32) v_o_textSize q1.2.1 v_o_rows q1.2.2.1 v_o_doings v_o_seen v_o_seed v_o_found v_o_foundViews v_o_foundMany d_o_text d_o_many d_o_views d_o_aisles q1.2.2.2.1 q1.2.2.2.2.1 q1.2.2.2.2.2.1 q1.2.2.2.2.2.2 d_o_page d_o_isKept)) (va_runV (As := []) (rest := []) ⟨hx, hb, hml, hown, hts⟩ ((kX9_readHall l D cI cJ cZ cB a_o a_o_text a_o_many a_o_views a_o_aisles a_o_readMany a_o_readViews a_o_readAisles a_o_readPage a_o_page a_o_trial a_o_book a_o_kept a_o_isKept a_o_seenSeat a_o_seenWas (0 : Int32) v_o_textSize v_o_place v_o_rows v_o_readRows v_o_doings v_o_seen v_o_seed v_o_found v_o_foundViews v_o_foundMany d_o_text d_o_readMany d_o_readViews d_o_readAisles d_o_readPage q1 hq2) _) (cwV 0 hts gX9_hall_X9_readHall rfl rfl rfl (by decide +kernel) ⟨Nat.le_of_ble_eq_true rfl, Nat.le_of_ble_eq_true rfl⟩) ⟨PRw.blind, va_recv hK.1 hPc (ci := 9) (q0 := 0) rfl rfl, PRw.at hK hPc hDc⟩ rfl rfl hl.1 rfl (lv_room (Nat.le_of_ble_eq_true rfl)) dX9_hall_6 ⟨Nat.zero_le _, Nat.zero_le _⟩) hP hD hS hA [0, 1, 5, 6, 7, 8] [2, 3, 4, 9, 10] [5, 6, 0, 1, 2, 7, 8, 9, 10, 3, 4] rfl rfl (by decide) (by decide) rfl (by decide) (fun H locs hP hD hS => ?_)
  refine lv_bipush (v := (-9 : Int32)) hx hb dX9_hall_9 (by decide) ?_
  refine lv_icmp_eq (tgt := 17) hx hb dX9_hall_11 (by decide) (fun hc => ?_) (fun hc => ?_)
  · have hf := pf_t hc hf
    refine lv_aload_n hx hb dX9_hall_17 rfl (lv_at hl 0 rfl) ?_
    refine lv_aload_n hx hb dX9_hall_18 rfl (lv_at hl 0 rfl) ?_
    refine va_get (D := D) (ci := 9) (v := .int q1.2.2.1) (C := RX9) (T := TX9) (N := 26) hx hb hts iX9_hall_X9 hown hK.1 hP 0 rfl rfl 8 (by decide) (hts (.fieldLink RX9 82 "LoneSeatsModel" "readRows" "I") (by decide +kernel)) (fun _ h9 => h9) rfl dX9_hall_19 ?_
    refine va_put (D := D) (ci := 9) (v := .int q1.2.2.1) (ty := .int) (C := RX9) (T := TX9) (N := 26) hx hb hts iX9_hall_X9 tyX9 tyX9_ok nmX9 hown hK.1 hP hD hS 0 rfl rfl 4 (by decide) (hts (.fieldLink RX9 63 "LoneSeatsModel" "rows" "I") (by decide +kernel)) (fun _ h9 => h9) rfl (by decide +kernel) rfl rfl (Nat.le_of_ble_eq_true rfl) dX9_hall_22 (fun H locs hP hD hS => ?_)
    have hP : va_P D vwCl (WX9_hall cI cJ cZ cB a_o a_o_text a_o_many a_o_views a_o_aisles a_o_readMany a_o_readViews a_o_readAisles a_o_readPage a_o_page a_o_trial a_o_book a_o_kept a_o_isKept a_o_seenSeat a_o_seenWas (0 : Int32) v_o_textSize q1.2.1 q1.2.2.1 q1.2.2.1 v_o_doings v_o_seen v_o_seed v_o_found v_o_foundViews v_o_foundMany d_o_text d_o_many d_o_views d_o_aisles q1.2.2.2.1 q1.2.2.2.2.1 q1.2.2.2.2.2.1 q1.2.2.2.2.2.2 d_o_page d_o_isKept) H := hP
    have hD : va_D A (WX9_hall cI cJ cZ cB a_o a_o_text a_o_many a_o_views a_o_aisles a_o_readMany a_o_readViews a_o_readAisles a_o_readPage a_o_page a_o_trial a_o_book a_o_kept a_o_isKept a_o_seenSeat a_o_seenWas (0 : Int32) v_o_textSize q1.2.1 q1.2.2.1 q1.2.2.1 v_o_doings v_o_seen v_o_seed v_o_found v_o_foundViews v_o_foundMany d_o_text d_o_many d_o_views d_o_aisles q1.2.2.2.1 q1.2.2.2.2.1 q1.2.2.2.2.2.1 q1.2.2.2.2.2.2 d_o_page d_o_isKept) := hD
    refine lv_iconst (v := (0 : Int32)) hx hb dX9_hall_25 (by decide) ?_
    refine lv_istore_n (lv' := [(1, .int (0 : Int32)), (0, .ref a_o)]) hx hb dX9_hall_26 rfl hl (by decide) rfl (fun ls hl => ?_)
    exact tX9_hall_27 C hK hA  FU (0 : Int32) v_o_textSize q1.2.1 q1.2.2.1 q1.2.2.1 v_o_doings v_o_seen v_o_seed v_o_found v_o_foundViews v_o_foundMany d_o_text d_o_many d_o_views d_o_aisles q1.2.2.2.1 q1.2.2.2.2.1 q1.2.2.2.2.2.1 q1.2.2.2.2.2.2 d_o_page d_o_isKept (0 : Int32) _ _ ls _ hP hD hS (lv_sub hl [1, 0] rfl) hf
  · have hf := pf_f hc hf
    refine lv_bipush (v := (-3 : Int32)) hx hb dX9_hall_14 (by decide) ?_
    cases hf
    exact W.iret hx hb hr (fun t ht hW => ⟨⟨rfl, by rw [ht]; exact hP, hD⟩, hS.F ht⟩) hS.2.2 dX9_hall_16
abbrev WX9_isFree (cI cJ cZ cB : ClassId) (a_o : Nat) (d_o : (Nat → Int32)) : va_W := [(a_o, .inl (cI, (229, .inl d_o)))]
def fX9_isFree (d_o : (Nat → Int32)) (x1 : Int32) (x2 : Int32) : Option (Int32) := (if (((13 : Int32) + ((9 : Int32) * x1)) + x2) < 0 ∨ 229 ≤ ((((13 : Int32) + ((9 : Int32) * x1)) + x2)).toNatClampNeg then none else (if (d_o ((((13 : Int32) + ((9 : Int32) * x1)) + x2)).toNatClampNeg) = 0 then some (1 : Int32) else some (0 : Int32)))
set_option maxRecDepth 100000 in
set_option maxHeartbeats 4000000 in
theorem kX9_isFree (l : Launch) (D : va_G) (cI cJ cZ cB : ClassId) (a_o : Nat) (d_o : (Nat → Int32)) (x1 : Int32) (x2 : Int32) (res : Int32) (hf : fX9_isFree d_o x1 x2 = some res) : Ro l yX9_isFree wsX9_isFree ({ frames := 0, cells := 0, slots := 0, locals := 0 } : Room) D (tyL cI cJ cZ cB) [.ref a_o, .int x1, .int x2] (WX9_isFree cI cJ cZ cB a_o d_o) (some (.int res)) := by
  refine Ro.of (cc := cX9_isFree) (maxL := 3) (ret := (some .boolean)) (own := RX9) (by decide) rfl rfl (Nat.le_of_ble_eq_true rfl) ?_
  intro p e s m below meth c ls C hK hP hl
  obtain ⟨hx, hb, hr, hml, hts, hown, hlk⟩ := id C
  have hl : lv_has ls 3 [(0, .ref a_o), (1, .int x1), (2, .int x2)] := hl
  unfold fX9_isFree at hf
  refine lv_aload_n hx hb dX9_isFree_0 rfl (lv_at hl 0 rfl) ?_
  refine lv_bipush (v := (13 : Int32)) hx hb dX9_isFree_1 (by decide) ?_
  refine lv_bipush (v := (9 : Int32)) hx hb dX9_isFree_3 (by decide) ?_
  refine lv_iload_n hx hb dX9_isFree_5 rfl (lv_at hl 1 rfl) ?_
  refine lv_imul hx hb dX9_isFree_6 ?_
  refine lv_iadd hx hb dX9_isFree_7 ?_
  refine lv_iload_n hx hb dX9_isFree_8 rfl (lv_at hl 2 rfl) ?_
  refine lv_iadd hx hb dX9_isFree_9 ?_
  obtain ⟨hg1, hf⟩ := pf_x hf
  refine va_iald hx hb hK.1 hP 0 0 rfl rfl hg1 dX9_isFree_10 ?_
  refine lv_if_ne (tgt := 18) hx hb dX9_isFree_11 (by decide) (fun hc => ?_) (fun hc => ?_)
  · have hf := pf_f hc hf
    refine lv_iconst (v := (0 : Int32)) hx hb dX9_isFree_18 (by decide) ?_
    cases hf
    exact W.zret hx hb hr (nar_b (by decide)) (fun t ht hW => ⟨rfl, ht⟩) (fun _ h => absurd h List.not_mem_nil) dX9_isFree_19
  · have hf := pf_t hc hf
    refine lv_iconst (v := (1 : Int32)) hx hb dX9_isFree_14 (by decide) ?_
    refine lv_goto (tgt := 19) hx hb dX9_isFree_15 (by decide) ?_
    cases hf
    exact W.zret hx hb hr (nar_b (by decide)) (fun t ht hW => ⟨rfl, ht⟩) (fun _ h => absurd h List.not_mem_nil) dX9_isFree_19
abbrev WX9_isLone (cI cJ cZ cB : ClassId) (a_o : Nat) (a_o_text : Nat) (a_o_many : Nat) (a_o_views : Nat) (a_o_aisles : Nat) (a_o_readMany : Nat) (a_o_readViews : Nat) (a_o_readAisles : Nat) (a_o_readPage : Nat) (a_o_page : Nat) (a_o_trial : Nat) (a_o_book : Nat) (a_o_kept : Nat) (a_o_isKept : Nat) (a_o_seenSeat : Nat) (a_o_seenWas : Nat) (a_p1 : Nat) (v_o_thrown : Int32) (v_o_textSize : Int32) (v_o_place : Int32) (v_o_rows : Int32) (v_o_readRows : Int32) (v_o_doings : Int32) (v_o_seen : Int32) (v_o_seed : Int64) (v_o_found : Int32) (v_o_foundViews : Int32) (v_o_foundMany : Int32) (d_o_many : (Nat → Int32)) (d_o_aisles : (Nat → Int32)) (d_p1 : (Nat → Int32)) : va_W := [(a_o, .inr (9, [.int v_o_thrown, .ref a_o_text, .int v_o_textSize, .int v_o_place, .int v_o_rows, .ref a_o_many, .ref a_o_views, .ref a_o_aisles, .int v_o_readRows, .ref a_o_readMany, .ref a_o_readViews, .ref a_o_readAisles, .ref a_o_readPage, .ref a_o_page, .ref a_o_trial, .ref a_o_book, .int v_o_doings, .ref a_o_kept, .ref a_o_isKept, .int v_o_seen, .ref a_o_seenSeat, .ref a_o_seenWas, .long v_o_seed, .int v_o_found, .int v_o_foundViews, .int v_o_foundMany])), (a_o_many, .inl (cI, (4, .inl d_o_many))), (a_o_aisles, .inl (cZ, (36, .inl d_o_aisles))), (a_p1, .inl (cI, (229, .inl d_p1)))]
set_option maxRecDepth 20000 in
theorem iX9_isLone_X9 : ∀ w ∈ wsX90, w ∈ wsX9_isLone := by decide +kernel
def fX9_isLone_80 (d_o_many : (Nat → Int32)) (d_o_aisles : (Nat → Int32)) (d_p1 : (Nat → Int32)) (x2 : Int32) (x3 : Int32) (x4 : Int32) (k0 : Int32) : Option (Int32) := ((fX9_isFree d_p1 x2 x3).bind fun q1 => (if q1 = 0 then some (0 : Int32) else (if x4 = 0 then (if k0 = 0 then some (1 : Int32) else some (0 : Int32)) else some (0 : Int32))))
set_option maxRecDepth 100000 in
set_option maxHeartbeats 4000000 in
theorem tX9_isLone_80 {p : Program} {l : Launch} {e : Env} {s : State} {m : MethodId} {args : Array Value} {below : List Frame} {meth : Method} {c : Code} {D : va_G} {cI cJ cZ cB : ClassId} {a_o : Nat} {a_o_text : Nat} {a_o_many : Nat} {a_o_views : Nat} {a_o_aisles : Nat} {a_o_readMany : Nat} {a_o_readViews : Nat} {a_o_readAisles : Nat} {a_o_readPage : Nat} {a_o_page : Nat} {a_o_trial : Nat} {a_o_book : Nat} {a_o_kept : Nat} {a_o_isKept : Nat} {a_o_seenSeat : Nat} {a_o_seenWas : Nat} {a_p1 : Nat} (C : Cx p s m args meth c cX9_isLone 6 (some .boolean) wsX9_isLone RX9) (hK : Kw D (tyL cI cJ cZ cB) s) : ∀ (v_o_thrown : Int32) (v_o_textSize : Int32) (v_o_place : Int32) (v_o_rows : Int32) (v_o_readRows : Int32) (v_o_doings : Int32) (v_o_seen : Int32) (v_o_seed : Int64) (v_o_found : Int32) (v_o_foundViews : Int32) (v_o_foundMany : Int32) (d_o_many : (Nat → Int32)) (d_o_aisles : (Nat → Int32)) (d_p1 : (Nat → Int32)) (x2 : Int32) (x3 : Int32) (x4 : Int32) (k0 : Int32) (ls : Array Slot) (res : Int32), va_P D vwCl (WX9_isLone cI cJ cZ cB a_o a_o_text a_o_many a_o_views a_o_aisles a_o_readMany a_o_readViews a_o_readAisles a_o_readPage a_o_page a_o_trial a_o_book a_o_kept a_o_isKept a_o_seenSeat a_o_seenWas a_p1 v_o_thrown v_o_textSize v_o_place v_o_rows v_o_readRows v_o_doings v_o_seen v_o_seed v_o_found v_o_foundViews v_o_foundMany d_o_many d_o_aisles d_p1) s.heap → lv_has ls 6 [(1, .ref a_p1), (2, .int x2), (3, .int x3), (4, .int x4)] → fX9_isLone_80 d_o_many d_o_aisles d_p1 x2 x3 x4 k0 = some res → W p l e ({ frames := 1, cells := 0, slots := 0, locals := 22 } : Room) s m args below meth c s.heap [] 0 0 (MQ below (QRo (some (.int res))) args s 0 0 (fun _ => False)) (F0 m 80 ls [.int k0]) := by
  obtain ⟨hx, hb, hr, hml, hts, hown, hlk⟩ := id C
  intro v_o_thrown v_o_textSize v_o_place v_o_rows v_o_readRows v_o_doings v_o_seen v_o_seed v_o_found v_o_foundViews v_o_foundMany d_o_many d_o_aisles d_p1 x2 x3 x4 k0 ls res hP hl hf
  unfold fX9_isLone_80 at hf
  refine lv_istore (lv' := [(5, .int k0), (1, .ref a_p1), (2, .int x2), (3, .int x3), (4, .int x4)]) hx hb dX9_isLone_80 hl (by decide) rfl (fun ls hl => ?_)
  refine lv_aload_n hx hb dX9_isLone_82 rfl (lv_at hl 1 rfl) ?_
  refine lv_iload_n hx hb dX9_isLone_83 rfl (lv_at hl 2 rfl) ?_
  refine lv_iload_n hx hb dX9_isLone_84 rfl (lv_at hl 3 rfl) ?_
  obtain ⟨q1, hq2, hf⟩ := pf_b hf
  have hPc := hP.sub (ws' := (WX9_isFree cI cJ cZ cB a_p1 d_p1)) [3] rfl
  refine cl_roi (va_runS (As := [.ref a_p1, .int x2, .int x3]) (rest := []) ⟨hx, hb, hml, hown, hts⟩ (kX9_isFree l D cI cJ cZ cB a_p1 d_p1 x2 x3 q1 hq2) (va_cwS 3 hts gX9_isLone_X9_isFree rfl rfl rfl (by decide +kernel) ⟨Nat.le_of_ble_eq_true rfl, Nat.le_of_ble_eq_true rfl⟩) ⟨PRo.blind, PRo.at hK hPc⟩ rfl rfl hl.1 rfl (lv_room (Nat.le_of_ble_eq_true rfl)) dX9_isLone_85 ⟨Nat.zero_le _, Nat.zero_le _⟩) ?_
  refine lv_if_eq (tgt := 105) hx hb dX9_isLone_88 (by decide) (fun hc => ?_) (fun hc => ?_)
  · have hf := pf_t hc hf
    refine lv_iconst (v := (0 : Int32)) hx hb dX9_isLone_105 (by decide) ?_
    cases hf
    exact W.zret hx hb hr (nar_b (by decide)) (fun t ht hW => ⟨rfl, ht⟩) (fun _ h => absurd h List.not_mem_nil) dX9_isLone_106
  · have hf := pf_f hc hf
    refine lv_iload hx hb dX9_isLone_91 (lv_at hl 4 rfl) ?_
    refine lv_if_ne (tgt := 105) hx hb dX9_isLone_93 (by decide) (fun hc => ?_) (fun hc => ?_)
    · have hf := pf_f hc hf
      refine lv_iconst (v := (0 : Int32)) hx hb dX9_isLone_105 (by decide) ?_
      cases hf
      exact W.zret hx hb hr (nar_b (by decide)) (fun t ht hW => ⟨rfl, ht⟩) (fun _ h => absurd h List.not_mem_nil) dX9_isLone_106
    · have hf := pf_t hc hf
      refine lv_iload hx hb dX9_isLone_96 (lv_at hl 0 rfl) ?_
      refine lv_if_ne (tgt := 105) hx hb dX9_isLone_98 (by decide) (fun hc => ?_) (fun hc => ?_)
      · have hf := pf_f hc hf
        refine lv_iconst (v := (0 : Int32)) hx hb dX9_isLone_105 (by decide) ?_
        cases hf
        exact W.zret hx hb hr (nar_b (by decide)) (fun t ht hW => ⟨rfl, ht⟩) (fun _ h => absurd h List.not_mem_nil) dX9_isLone_106
      · have hf := pf_t hc hf
        refine lv_iconst (v := (1 : Int32)) hx hb dX9_isLone_101 (by decide) ?_
        refine lv_goto (tgt := 106) hx hb dX9_isLone_102 (by decide) ?_
        cases hf
        exact W.zret hx hb hr (nar_b (by decide)) (fun t ht hW => ⟨rfl, ht⟩) (fun _ h => absurd h List.not_mem_nil) dX9_isLone_106
def fX9_isLone_79 (d_o_many : (Nat → Int32)) (d_o_aisles : (Nat → Int32)) (d_p1 : (Nat → Int32)) (x2 : Int32) (x3 : Int32) (x4 : Int32) : Option (Int32) := fX9_isLone_80 d_o_many d_o_aisles d_p1 x2 x3 x4 (0 : Int32)
set_option maxRecDepth 100000 in
set_option maxHeartbeats 4000000 in
theorem tX9_isLone_79 {p : Program} {l : Launch} {e : Env} {s : State} {m : MethodId} {args : Array Value} {below : List Frame} {meth : Method} {c : Code} {D : va_G} {cI cJ cZ cB : ClassId} {a_o : Nat} {a_o_text : Nat} {a_o_many : Nat} {a_o_views : Nat} {a_o_aisles : Nat} {a_o_readMany : Nat} {a_o_readViews : Nat} {a_o_readAisles : Nat} {a_o_readPage : Nat} {a_o_page : Nat} {a_o_trial : Nat} {a_o_book : Nat} {a_o_kept : Nat} {a_o_isKept : Nat} {a_o_seenSeat : Nat} {a_o_seenWas : Nat} {a_p1 : Nat} (C : Cx p s m args meth c cX9_isLone 6 (some .boolean) wsX9_isLone RX9) (hK : Kw D (tyL cI cJ cZ cB) s) : ∀ (v_o_thrown : Int32) (v_o_textSize : Int32) (v_o_place : Int32) (v_o_rows : Int32) (v_o_readRows : Int32) (v_o_doings : Int32) (v_o_seen : Int32) (v_o_seed : Int64) (v_o_found : Int32) (v_o_foundViews : Int32) (v_o_foundMany : Int32) (d_o_many : (Nat → Int32)) (d_o_aisles : (Nat → Int32)) (d_p1 : (Nat → Int32)) (x2 : Int32) (x3 : Int32) (x4 : Int32) (ls : Array Slot) (res : Int32), va_P D vwCl (WX9_isLone cI cJ cZ cB a_o a_o_text a_o_many a_o_views a_o_aisles a_o_readMany a_o_readViews a_o_readAisles a_o_readPage a_o_page a_o_trial a_o_book a_o_kept a_o_isKept a_o_seenSeat a_o_seenWas a_p1 v_o_thrown v_o_textSize v_o_place v_o_rows v_o_readRows v_o_doings v_o_seen v_o_seed v_o_found v_o_foundViews v_o_foundMany d_o_many d_o_aisles d_p1) s.heap → lv_has ls 6 [(1, .ref a_p1), (2, .int x2), (3, .int x3), (4, .int x4)] → fX9_isLone_79 d_o_many d_o_aisles d_p1 x2 x3 x4 = some res → W p l e ({ frames := 1, cells := 0, slots := 0, locals := 22 } : Room) s m args below meth c s.heap [] 0 0 (MQ below (QRo (some (.int res))) args s 0 0 (fun _ => False)) (F0 m 79 ls []) := by
  obtain ⟨hx, hb, hr, hml, hts, hown, hlk⟩ := id C
  intro v_o_thrown v_o_textSize v_o_place v_o_rows v_o_readRows v_o_doings v_o_seen v_o_seed v_o_found v_o_foundViews v_o_foundMany d_o_many d_o_aisles d_p1 x2 x3 x4 ls res hP hl hf
  unfold fX9_isLone_79 at hf
  refine lv_iconst (v := (0 : Int32)) hx hb dX9_isLone_79 (by decide) ?_
  exact tX9_isLone_80 C hK  v_o_thrown v_o_textSize v_o_place v_o_rows v_o_readRows v_o_doings v_o_seen v_o_seed v_o_found v_o_foundViews v_o_foundMany d_o_many d_o_aisles d_p1 x2 x3 x4 (0 : Int32) ls _ hP (lv_sub hl [0, 1, 2, 3] rfl) hf
def fX9_isLone_36 (d_o_many : (Nat → Int32)) (d_o_aisles : (Nat → Int32)) (d_p1 : (Nat → Int32)) (x2 : Int32) (x3 : Int32) (k0 : Int32) : Option (Int32) := (if x2 < 0 ∨ 4 ≤ (x2).toNatClampNeg then none else (if (d_o_many (x2).toNatClampNeg) ≤ (x3 + (1 : Int32)) then fX9_isLone_79 d_o_many d_o_aisles d_p1 x2 x3 k0 else (if (((9 : Int32) * x2) + x3) < 0 ∨ 36 ≤ ((((9 : Int32) * x2) + x3)).toNatClampNeg then none else (if (d_o_aisles ((((9 : Int32) * x2) + x3)).toNatClampNeg) = 0 then ((fX9_isFree d_p1 x2 (x3 + (1 : Int32))).bind fun q3 => (if q3 = 0 then fX9_isLone_79 d_o_many d_o_aisles d_p1 x2 x3 k0 else fX9_isLone_80 d_o_many d_o_aisles d_p1 x2 x3 k0 (1 : Int32))) else fX9_isLone_79 d_o_many d_o_aisles d_p1 x2 x3 k0))))
set_option maxRecDepth 100000 in
set_option maxHeartbeats 4000000 in
theorem tX9_isLone_36 {p : Program} {l : Launch} {e : Env} {s : State} {m : MethodId} {args : Array Value} {below : List Frame} {meth : Method} {c : Code} {D : va_G} {cI cJ cZ cB : ClassId} {a_o : Nat} {a_o_text : Nat} {a_o_many : Nat} {a_o_views : Nat} {a_o_aisles : Nat} {a_o_readMany : Nat} {a_o_readViews : Nat} {a_o_readAisles : Nat} {a_o_readPage : Nat} {a_o_page : Nat} {a_o_trial : Nat} {a_o_book : Nat} {a_o_kept : Nat} {a_o_isKept : Nat} {a_o_seenSeat : Nat} {a_o_seenWas : Nat} {a_p1 : Nat} (C : Cx p s m args meth c cX9_isLone 6 (some .boolean) wsX9_isLone RX9) (hK : Kw D (tyL cI cJ cZ cB) s) : ∀ (v_o_thrown : Int32) (v_o_textSize : Int32) (v_o_place : Int32) (v_o_rows : Int32) (v_o_readRows : Int32) (v_o_doings : Int32) (v_o_seen : Int32) (v_o_seed : Int64) (v_o_found : Int32) (v_o_foundViews : Int32) (v_o_foundMany : Int32) (d_o_many : (Nat → Int32)) (d_o_aisles : (Nat → Int32)) (d_p1 : (Nat → Int32)) (x2 : Int32) (x3 : Int32) (k0 : Int32) (ls : Array Slot) (res : Int32), va_P D vwCl (WX9_isLone cI cJ cZ cB a_o a_o_text a_o_many a_o_views a_o_aisles a_o_readMany a_o_readViews a_o_readAisles a_o_readPage a_o_page a_o_trial a_o_book a_o_kept a_o_isKept a_o_seenSeat a_o_seenWas a_p1 v_o_thrown v_o_textSize v_o_place v_o_rows v_o_readRows v_o_doings v_o_seen v_o_seed v_o_found v_o_foundViews v_o_foundMany d_o_many d_o_aisles d_p1) s.heap → lv_has ls 6 [(0, .ref a_o), (1, .ref a_p1), (2, .int x2), (3, .int x3)] → fX9_isLone_36 d_o_many d_o_aisles d_p1 x2 x3 k0 = some res → W p l e ({ frames := 1, cells := 0, slots := 0, locals := 22 } : Room) s m args below meth c s.heap [] 0 0 (MQ below (QRo (some (.int res))) args s 0 0 (fun _ => False)) (F0 m 36 ls [.int k0]) := by
  obtain ⟨hx, hb, hr, hml, hts, hown, hlk⟩ := id C
  intro v_o_thrown v_o_textSize v_o_place v_o_rows v_o_readRows v_o_doings v_o_seen v_o_seed v_o_found v_o_foundViews v_o_foundMany d_o_many d_o_aisles d_p1 x2 x3 k0 ls res hP hl hf
  unfold fX9_isLone_36 at hf
  refine lv_istore (lv' := [(4, .int k0), (0, .ref a_o), (1, .ref a_p1), (2, .int x2), (3, .int x3)]) hx hb dX9_isLone_36 hl (by decide) rfl (fun ls hl => ?_)
  refine lv_iload_n hx hb dX9_isLone_38 rfl (lv_at hl 4 rfl) ?_
  refine lv_iconst (v := (1 : Int32)) hx hb dX9_isLone_39 (by decide) ?_
  refine lv_iadd hx hb dX9_isLone_40 ?_
  refine lv_aload_n hx hb dX9_isLone_41 rfl (lv_at hl 1 rfl) ?_
  refine va_get (D := D) (ci := 9) (v := .ref a_o_many) (C := RX9) (T := TX9) (N := 26) hx hb hts iX9_isLone_X9 hown hK.1 hP 0 rfl rfl 5 (by decide) (hts (.fieldLink RX9 13 "LoneSeatsModel" "many" "[I") (by decide +kernel)) (fun _ h9 => h9) rfl dX9_isLone_42 ?_
  refine lv_iload_n hx hb dX9_isLone_45 rfl (lv_at hl 3 rfl) ?_
  obtain ⟨hg1, hf⟩ := pf_x hf
  refine va_iald hx hb hK.1 hP 1 0 rfl rfl hg1 dX9_isLone_46 ?_
  refine lv_icmp_ge (tgt := 79) hx hb dX9_isLone_47 (by decide) (fun hc => ?_) (fun hc => ?_)
  · have hf := pf_t hc hf
    exact tX9_isLone_79 C hK  v_o_thrown v_o_textSize v_o_place v_o_rows v_o_readRows v_o_doings v_o_seen v_o_seed v_o_found v_o_foundViews v_o_foundMany d_o_many d_o_aisles d_p1 x2 x3 k0 ls _ hP (lv_sub hl [2, 3, 4, 0] rfl) hf
  · have hf := pf_f hc hf
    refine lv_aload_n hx hb dX9_isLone_50 rfl (lv_at hl 1 rfl) ?_
    refine va_get (D := D) (ci := 9) (v := .ref a_o_aisles) (C := RX9) (T := TX9) (N := 26) hx hb hts iX9_isLone_X9 hown hK.1 hP 0 rfl rfl 7 (by decide) (hts (.fieldLink RX9 19 "LoneSeatsModel" "aisles" "[Z") (by decide +kernel)) (fun _ h9 => h9) rfl dX9_isLone_51 ?_
    refine lv_bipush (v := (9 : Int32)) hx hb dX9_isLone_54 (by decide) ?_
    refine lv_iload_n hx hb dX9_isLone_56 rfl (lv_at hl 3 rfl) ?_
    refine lv_imul hx hb dX9_isLone_57 ?_
    refine lv_iload_n hx hb dX9_isLone_58 rfl (lv_at hl 4 rfl) ?_
    refine lv_iadd hx hb dX9_isLone_59 ?_
    obtain ⟨hg2, hf⟩ := pf_x hf
    refine va_zald hx hb hK.1 hP 2 2 rfl rfl hg2 dX9_isLone_60 ?_
    refine lv_if_ne (tgt := 79) hx hb dX9_isLone_61 (by decide) (fun hc => ?_) (fun hc => ?_)
    · have hf := pf_f hc hf
      exact tX9_isLone_79 C hK  v_o_thrown v_o_textSize v_o_place v_o_rows v_o_readRows v_o_doings v_o_seen v_o_seed v_o_found v_o_foundViews v_o_foundMany d_o_many d_o_aisles d_p1 x2 x3 k0 ls _ hP (lv_sub hl [2, 3, 4, 0] rfl) hf
    · have hf := pf_t hc hf
      refine lv_aload_n hx hb dX9_isLone_64 rfl (lv_at hl 2 rfl) ?_
      refine lv_iload_n hx hb dX9_isLone_65 rfl (lv_at hl 3 rfl) ?_
      refine lv_iload_n hx hb dX9_isLone_66 rfl (lv_at hl 4 rfl) ?_
      refine lv_iconst (v := (1 : Int32)) hx hb dX9_isLone_67 (by decide) ?_
      refine lv_iadd hx hb dX9_isLone_68 ?_
      obtain ⟨q3, hq4, hf⟩ := pf_b hf
      have hPc := hP.sub (ws' := (WX9_isFree cI cJ cZ cB a_p1 d_p1)) [3] rfl
      refine cl_roi (va_runS (As := [.ref a_p1, .int x2, .int (x3 + (1 : Int32))]) (rest := []) ⟨hx, hb, hml, hown, hts⟩ (kX9_isFree l D cI cJ cZ cB a_p1 d_p1 x2 (x3 + (1 : Int32)) q3 hq4) (va_cwS 3 hts gX9_isLone_X9_isFree rfl rfl rfl (by decide +kernel) ⟨Nat.le_of_ble_eq_true rfl, Nat.le_of_ble_eq_true rfl⟩) ⟨PRo.blind, PRo.at hK hPc⟩ rfl rfl hl.1 rfl (lv_room (Nat.le_of_ble_eq_true rfl)) dX9_isLone_69 ⟨Nat.zero_le _, Nat.zero_le _⟩) ?_
      refine lv_if_eq (tgt := 79) hx hb dX9_isLone_72 (by decide) (fun hc => ?_) (fun hc => ?_)
      · have hf := pf_t hc hf
        exact tX9_isLone_79 C hK  v_o_thrown v_o_textSize v_o_place v_o_rows v_o_readRows v_o_doings v_o_seen v_o_seed v_o_found v_o_foundViews v_o_foundMany d_o_many d_o_aisles d_p1 x2 x3 k0 ls _ hP (lv_sub hl [2, 3, 4, 0] rfl) hf
      · have hf := pf_f hc hf
        refine lv_iconst (v := (1 : Int32)) hx hb dX9_isLone_75 (by decide) ?_
        refine lv_goto (tgt := 80) hx hb dX9_isLone_76 (by decide) ?_
        exact tX9_isLone_80 C hK  v_o_thrown v_o_textSize v_o_place v_o_rows v_o_readRows v_o_doings v_o_seen v_o_seed v_o_found v_o_foundViews v_o_foundMany d_o_many d_o_aisles d_p1 x2 x3 k0 (1 : Int32) ls _ hP (lv_sub hl [2, 3, 4, 0] rfl) hf
def fX9_isLone_35 (d_o_many : (Nat → Int32)) (d_o_aisles : (Nat → Int32)) (d_p1 : (Nat → Int32)) (x2 : Int32) (x3 : Int32) : Option (Int32) := fX9_isLone_36 d_o_many d_o_aisles d_p1 x2 x3 (0 : Int32)
set_option maxRecDepth 100000 in
set_option maxHeartbeats 4000000 in
theorem tX9_isLone_35 {p : Program} {l : Launch} {e : Env} {s : State} {m : MethodId} {args : Array Value} {below : List Frame} {meth : Method} {c : Code} {D : va_G} {cI cJ cZ cB : ClassId} {a_o : Nat} {a_o_text : Nat} {a_o_many : Nat} {a_o_views : Nat} {a_o_aisles : Nat} {a_o_readMany : Nat} {a_o_readViews : Nat} {a_o_readAisles : Nat} {a_o_readPage : Nat} {a_o_page : Nat} {a_o_trial : Nat} {a_o_book : Nat} {a_o_kept : Nat} {a_o_isKept : Nat} {a_o_seenSeat : Nat} {a_o_seenWas : Nat} {a_p1 : Nat} (C : Cx p s m args meth c cX9_isLone 6 (some .boolean) wsX9_isLone RX9) (hK : Kw D (tyL cI cJ cZ cB) s) : ∀ (v_o_thrown : Int32) (v_o_textSize : Int32) (v_o_place : Int32) (v_o_rows : Int32) (v_o_readRows : Int32) (v_o_doings : Int32) (v_o_seen : Int32) (v_o_seed : Int64) (v_o_found : Int32) (v_o_foundViews : Int32) (v_o_foundMany : Int32) (d_o_many : (Nat → Int32)) (d_o_aisles : (Nat → Int32)) (d_p1 : (Nat → Int32)) (x2 : Int32) (x3 : Int32) (ls : Array Slot) (res : Int32), va_P D vwCl (WX9_isLone cI cJ cZ cB a_o a_o_text a_o_many a_o_views a_o_aisles a_o_readMany a_o_readViews a_o_readAisles a_o_readPage a_o_page a_o_trial a_o_book a_o_kept a_o_isKept a_o_seenSeat a_o_seenWas a_p1 v_o_thrown v_o_textSize v_o_place v_o_rows v_o_readRows v_o_doings v_o_seen v_o_seed v_o_found v_o_foundViews v_o_foundMany d_o_many d_o_aisles d_p1) s.heap → lv_has ls 6 [(0, .ref a_o), (1, .ref a_p1), (2, .int x2), (3, .int x3)] → fX9_isLone_35 d_o_many d_o_aisles d_p1 x2 x3 = some res → W p l e ({ frames := 1, cells := 0, slots := 0, locals := 22 } : Room) s m args below meth c s.heap [] 0 0 (MQ below (QRo (some (.int res))) args s 0 0 (fun _ => False)) (F0 m 35 ls []) := by
  obtain ⟨hx, hb, hr, hml, hts, hown, hlk⟩ := id C
  intro v_o_thrown v_o_textSize v_o_place v_o_rows v_o_readRows v_o_doings v_o_seen v_o_seed v_o_found v_o_foundViews v_o_foundMany d_o_many d_o_aisles d_p1 x2 x3 ls res hP hl hf
  unfold fX9_isLone_35 at hf
  refine lv_iconst (v := (0 : Int32)) hx hb dX9_isLone_35 (by decide) ?_
  exact tX9_isLone_36 C hK  v_o_thrown v_o_textSize v_o_place v_o_rows v_o_readRows v_o_doings v_o_seen v_o_seed v_o_found v_o_foundViews v_o_foundMany d_o_many d_o_aisles d_p1 x2 x3 (0 : Int32) ls _ hP (lv_sub hl [0, 1, 2, 3] rfl) hf
def fX9_isLone (d_o_many : (Nat → Int32)) (d_o_aisles : (Nat → Int32)) (d_p1 : (Nat → Int32)) (x2 : Int32) (x3 : Int32) : Option (Int32) := (if x3 ≤ 0 then fX9_isLone_35 d_o_many d_o_aisles d_p1 x2 x3 else (if ((((9 : Int32) * x2) + x3) - (1 : Int32)) < 0 ∨ 36 ≤ (((((9 : Int32) * x2) + x3) - (1 : Int32))).toNatClampNeg then none else (if (d_o_aisles (((((9 : Int32) * x2) + x3) - (1 : Int32))).toNatClampNeg) = 0 then ((fX9_isFree d_p1 x2 (x3 - (1 : Int32))).bind fun q2 => (if q2 = 0 then fX9_isLone_35 d_o_many d_o_aisles d_p1 x2 x3 else fX9_isLone_36 d_o_many d_o_aisles d_p1 x2 x3 (1 : Int32))) else fX9_isLone_35 d_o_many d_o_aisles d_p1 x2 x3)))
set_option maxRecDepth 100000 in
set_option maxHeartbeats 4000000 in
theorem kX9_isLone (l : Launch) (D : va_G) (cI cJ cZ cB : ClassId) (a_o : Nat) (a_o_text : Nat) (a_o_many : Nat) (a_o_views : Nat) (a_o_aisles : Nat) (a_o_readMany : Nat) (a_o_readViews : Nat) (a_o_readAisles : Nat) (a_o_readPage : Nat) (a_o_page : Nat) (a_o_trial : Nat) (a_o_book : Nat) (a_o_kept : Nat) (a_o_isKept : Nat) (a_o_seenSeat : Nat) (a_o_seenWas : Nat) (a_p1 : Nat) (v_o_thrown : Int32) (v_o_textSize : Int32) (v_o_place : Int32) (v_o_rows : Int32) (v_o_readRows : Int32) (v_o_doings : Int32) (v_o_seen : Int32) (v_o_seed : Int64) (v_o_found : Int32) (v_o_foundViews : Int32) (v_o_foundMany : Int32) (d_o_many : (Nat → Int32)) (d_o_aisles : (Nat → Int32)) (d_p1 : (Nat → Int32)) (x2 : Int32) (x3 : Int32) (res : Int32) (hf : fX9_isLone d_o_many d_o_aisles d_p1 x2 x3 = some res) : Ro l yX9_isLone wsX9_isLone ({ frames := 1, cells := 0, slots := 0, locals := 22 } : Room) D (tyL cI cJ cZ cB) [.ref a_o, .ref a_p1, .int x2, .int x3] (WX9_isLone cI cJ cZ cB a_o a_o_text a_o_many a_o_views a_o_aisles a_o_readMany a_o_readViews a_o_readAisles a_o_readPage a_o_page a_o_trial a_o_book a_o_kept a_o_isKept a_o_seenSeat a_o_seenWas a_p1 v_o_thrown v_o_textSize v_o_place v_o_rows v_o_readRows v_o_doings v_o_seen v_o_seed v_o_found v_o_foundViews v_o_foundMany d_o_many d_o_aisles d_p1) (some (.int res)) := by
  refine Ro.of (cc := cX9_isLone) (maxL := 6) (ret := (some .boolean)) (own := RX9) (by decide) rfl rfl (Nat.le_of_ble_eq_true rfl) ?_
  intro p e s m below meth c ls C hK hP hl
  obtain ⟨hx, hb, hr, hml, hts, hown, hlk⟩ := id C
  have hl : lv_has ls 6 [(0, .ref a_o), (1, .ref a_p1), (2, .int x2), (3, .int x3)] := hl
  unfold fX9_isLone at hf
  refine lv_iload_n hx hb dX9_isLone_0 rfl (lv_at hl 3 rfl) ?_
  refine lv_if_le (tgt := 35) hx hb dX9_isLone_1 (by decide) (fun hc => ?_) (fun hc => ?_)
  · have hf := pf_t hc hf
    exact tX9_isLone_35 C hK  v_o_thrown v_o_textSize v_o_place v_o_rows v_o_readRows v_o_doings v_o_seen v_o_seed v_o_found v_o_foundViews v_o_foundMany d_o_many d_o_aisles d_p1 x2 x3 ls _ hP (lv_sub hl [0, 1, 2, 3] rfl) hf
  · have hf := pf_f hc hf
    refine lv_aload_n hx hb dX9_isLone_4 rfl (lv_at hl 0 rfl) ?_
    refine va_get (D := D) (ci := 9) (v := .ref a_o_aisles) (C := RX9) (T := TX9) (N := 26) hx hb hts iX9_isLone_X9 hown hK.1 hP 0 rfl rfl 7 (by decide) (hts (.fieldLink RX9 19 "LoneSeatsModel" "aisles" "[Z") (by decide +kernel)) (fun _ h9 => h9) rfl dX9_isLone_5 ?_
    refine lv_bipush (v := (9 : Int32)) hx hb dX9_isLone_8 (by decide) ?_
    refine lv_iload_n hx hb dX9_isLone_10 rfl (lv_at hl 2 rfl) ?_
    refine lv_imul hx hb dX9_isLone_11 ?_
    refine lv_iload_n hx hb dX9_isLone_12 rfl (lv_at hl 3 rfl) ?_
    refine lv_iadd hx hb dX9_isLone_13 ?_
    refine lv_iconst (v := (1 : Int32)) hx hb dX9_isLone_14 (by decide) ?_
    refine lv_isub hx hb dX9_isLone_15 ?_
    obtain ⟨hg1, hf⟩ := pf_x hf
    refine va_zald hx hb hK.1 hP 2 2 rfl rfl hg1 dX9_isLone_16 ?_
    refine lv_if_ne (tgt := 35) hx hb dX9_isLone_17 (by decide) (fun hc => ?_) (fun hc => ?_)
    · have hf := pf_f hc hf
      exact tX9_isLone_35 C hK  v_o_thrown v_o_textSize v_o_place v_o_rows v_o_readRows v_o_doings v_o_seen v_o_seed v_o_found v_o_foundViews v_o_foundMany d_o_many d_o_aisles d_p1 x2 x3 ls _ hP (lv_sub hl [0, 1, 2, 3] rfl) hf
    · have hf := pf_t hc hf
      refine lv_aload_n hx hb dX9_isLone_20 rfl (lv_at hl 1 rfl) ?_
      refine lv_iload_n hx hb dX9_isLone_21 rfl (lv_at hl 2 rfl) ?_
      refine lv_iload_n hx hb dX9_isLone_22 rfl (lv_at hl 3 rfl) ?_
      refine lv_iconst (v := (1 : Int32)) hx hb dX9_isLone_23 (by decide) ?_
      refine lv_isub hx hb dX9_isLone_24 ?_
      obtain ⟨q2, hq3, hf⟩ := pf_b hf
      have hPc := hP.sub (ws' := (WX9_isFree cI cJ cZ cB a_p1 d_p1)) [3] rfl
      refine cl_roi (va_runS (As := [.ref a_p1, .int x2, .int (x3 - (1 : Int32))]) (rest := []) ⟨hx, hb, hml, hown, hts⟩ (kX9_isFree l D cI cJ cZ cB a_p1 d_p1 x2 (x3 - (1 : Int32)) q2 hq3) (va_cwS 3 hts gX9_isLone_X9_isFree rfl rfl rfl (by decide +kernel) ⟨Nat.le_of_ble_eq_true rfl, Nat.le_of_ble_eq_true rfl⟩) ⟨PRo.blind, PRo.at hK hPc⟩ rfl rfl hl.1 rfl (lv_room (Nat.le_of_ble_eq_true rfl)) dX9_isLone_25 ⟨Nat.zero_le _, Nat.zero_le _⟩) ?_
      refine lv_if_eq (tgt := 35) hx hb dX9_isLone_28 (by decide) (fun hc => ?_) (fun hc => ?_)
      · have hf := pf_t hc hf
        exact tX9_isLone_35 C hK  v_o_thrown v_o_textSize v_o_place v_o_rows v_o_readRows v_o_doings v_o_seen v_o_seed v_o_found v_o_foundViews v_o_foundMany d_o_many d_o_aisles d_p1 x2 x3 ls _ hP (lv_sub hl [0, 1, 2, 3] rfl) hf
      · have hf := pf_f hc hf
        refine lv_iconst (v := (1 : Int32)) hx hb dX9_isLone_31 (by decide) ?_
        refine lv_goto (tgt := 36) hx hb dX9_isLone_32 (by decide) ?_
        exact tX9_isLone_36 C hK  v_o_thrown v_o_textSize v_o_place v_o_rows v_o_readRows v_o_doings v_o_seen v_o_seed v_o_found v_o_foundViews v_o_foundMany d_o_many d_o_aisles d_p1 x2 x3 (1 : Int32) ls _ hP (lv_sub hl [0, 1, 2, 3] rfl) hf
abbrev WX9_loneIn (cI cJ cZ cB : ClassId) (a_o : Nat) (a_o_text : Nat) (a_o_many : Nat) (a_o_views : Nat) (a_o_aisles : Nat) (a_o_readMany : Nat) (a_o_readViews : Nat) (a_o_readAisles : Nat) (a_o_readPage : Nat) (a_o_page : Nat) (a_o_trial : Nat) (a_o_book : Nat) (a_o_kept : Nat) (a_o_isKept : Nat) (a_o_seenSeat : Nat) (a_o_seenWas : Nat) (a_p1 : Nat) (v_o_thrown : Int32) (v_o_textSize : Int32) (v_o_place : Int32) (v_o_rows : Int32) (v_o_readRows : Int32) (v_o_doings : Int32) (v_o_seen : Int32) (v_o_seed : Int64) (v_o_found : Int32) (v_o_foundViews : Int32) (v_o_foundMany : Int32) (d_o_many : (Nat → Int32)) (d_o_aisles : (Nat → Int32)) (d_p1 : (Nat → Int32)) : va_W := [(a_o, .inr (9, [.int v_o_thrown, .ref a_o_text, .int v_o_textSize, .int v_o_place, .int v_o_rows, .ref a_o_many, .ref a_o_views, .ref a_o_aisles, .int v_o_readRows, .ref a_o_readMany, .ref a_o_readViews, .ref a_o_readAisles, .ref a_o_readPage, .ref a_o_page, .ref a_o_trial, .ref a_o_book, .int v_o_doings, .ref a_o_kept, .ref a_o_isKept, .int v_o_seen, .ref a_o_seenSeat, .ref a_o_seenWas, .long v_o_seed, .int v_o_found, .int v_o_foundViews, .int v_o_foundMany])), (a_o_many, .inl (cI, (4, .inl d_o_many))), (a_o_aisles, .inl (cZ, (36, .inl d_o_aisles))), (a_p1, .inl (cI, (229, .inl d_p1)))]
set_option maxRecDepth 20000 in
theorem iX9_loneIn_X9 : ∀ w ∈ wsX90, w ∈ wsX9_loneIn := by decide +kernel
def fX9_loneIn_5 : Nat → (Nat → Int32) → (Nat → Int32) → (Nat → Int32) → Int32 → Int32 → Int32 → Option (Int32)
  | 0, _, _, _, _, _, _ => none
  | n + 1, d_o_many, d_o_aisles, d_p1, x2, x3, x4 => (if x2 < 0 ∨ 4 ≤ (x2).toNatClampNeg then none else (if (d_o_many (x2).toNatClampNeg) ≤ x4 then some x3 else ((fX9_isLone d_o_many d_o_aisles d_p1 x2 x4).bind fun q2 => (if q2 = 0 then fX9_loneIn_5 n d_o_many d_o_aisles d_p1 x2 (x3 ||| (0 : Int32)) (x4 + (1 : Int32)) else fX9_loneIn_5 n d_o_many d_o_aisles d_p1 x2 (x3 ||| ((1 : Int32) <<< (x4 &&& 31))) (x4 + (1 : Int32))))))
set_option maxRecDepth 100000 in
set_option maxHeartbeats 4000000 in
theorem tX9_loneIn_5 {p : Program} {l : Launch} {e : Env} {s : State} {m : MethodId} {args : Array Value} {below : List Frame} {meth : Method} {c : Code} {D : va_G} {cI cJ cZ cB : ClassId} {a_o : Nat} {a_o_text : Nat} {a_o_many : Nat} {a_o_views : Nat} {a_o_aisles : Nat} {a_o_readMany : Nat} {a_o_readViews : Nat} {a_o_readAisles : Nat} {a_o_readPage : Nat} {a_o_page : Nat} {a_o_trial : Nat} {a_o_book : Nat} {a_o_kept : Nat} {a_o_isKept : Nat} {a_o_seenSeat : Nat} {a_o_seenWas : Nat} {a_p1 : Nat} (C : Cx p s m args meth c cX9_loneIn 5 (some .int) wsX9_loneIn RX9) (hK : Kw D (tyL cI cJ cZ cB) s) : ∀ (n : Nat), ∀ (v_o_thrown : Int32) (v_o_textSize : Int32) (v_o_place : Int32) (v_o_rows : Int32) (v_o_readRows : Int32) (v_o_doings : Int32) (v_o_seen : Int32) (v_o_seed : Int64) (v_o_found : Int32) (v_o_foundViews : Int32) (v_o_foundMany : Int32) (d_o_many : (Nat → Int32)) (d_o_aisles : (Nat → Int32)) (d_p1 : (Nat → Int32)) (x2 : Int32) (x3 : Int32) (x4 : Int32) (ls : Array Slot) (res : Int32), va_P D vwCl (WX9_loneIn cI cJ cZ cB a_o a_o_text a_o_many a_o_views a_o_aisles a_o_readMany a_o_readViews a_o_readAisles a_o_readPage a_o_page a_o_trial a_o_book a_o_kept a_o_isKept a_o_seenSeat a_o_seenWas a_p1 v_o_thrown v_o_textSize v_o_place v_o_rows v_o_readRows v_o_doings v_o_seen v_o_seed v_o_found v_o_foundViews v_o_foundMany d_o_many d_o_aisles d_p1) s.heap → lv_has ls 5 [(0, .ref a_o), (1, .ref a_p1), (2, .int x2), (3, .int x3), (4, .int x4)] → fX9_loneIn_5 n d_o_many d_o_aisles d_p1 x2 x3 x4 = some res → W p l e ({ frames := 2, cells := 0, slots := 0, locals := 47 } : Room) s m args below meth c s.heap [] 0 0 (MQ below (QRo (some (.int res))) args s 0 0 (fun _ => False)) (F0 m 5 ls []) := by
  obtain ⟨hx, hb, hr, hml, hts, hown, hlk⟩ := id C
  intro n
  induction n with
  | zero =>
    intro v_o_thrown v_o_textSize v_o_place v_o_rows v_o_readRows v_o_doings v_o_seen v_o_seed v_o_found v_o_foundViews v_o_foundMany d_o_many d_o_aisles d_p1 x2 x3 x4 ls res hP hl hf
    rw [fX9_loneIn_5] at hf
    cases hf
  | succ n ih =>
    intro v_o_thrown v_o_textSize v_o_place v_o_rows v_o_readRows v_o_doings v_o_seen v_o_seed v_o_found v_o_foundViews v_o_foundMany d_o_many d_o_aisles d_p1 x2 x3 x4 ls res hP hl hf
    rw [fX9_loneIn_5] at hf
    refine lv_iload hx hb dX9_loneIn_5 (lv_at hl 4 rfl) ?_
    refine lv_aload_n hx hb dX9_loneIn_7 rfl (lv_at hl 0 rfl) ?_
    refine va_get (D := D) (ci := 9) (v := .ref a_o_many) (C := RX9) (T := TX9) (N := 26) hx hb hts iX9_loneIn_X9 hown hK.1 hP 0 rfl rfl 5 (by decide) (hts (.fieldLink RX9 13 "LoneSeatsModel" "many" "[I") (by decide +kernel)) (fun _ h9 => h9) rfl dX9_loneIn_8 ?_
    refine lv_iload_n hx hb dX9_loneIn_11 rfl (lv_at hl 2 rfl) ?_
    obtain ⟨hg1, hf⟩ := pf_x hf
    refine va_iald hx hb hK.1 hP 1 0 rfl rfl hg1 dX9_loneIn_12 ?_
    refine lv_icmp_ge (tgt := 44) hx hb dX9_loneIn_13 (by decide) (fun hc => ?_) (fun hc => ?_)
    · have hf := pf_t hc hf
      refine lv_iload_n hx hb dX9_loneIn_44 rfl (lv_at hl 3 rfl) ?_
      cases hf
      exact W.iret hx hb hr (fun t ht hW => ⟨rfl, ht⟩) (fun _ h => absurd h List.not_mem_nil) dX9_loneIn_45
    · have hf := pf_f hc hf
      refine lv_iload_n hx hb dX9_loneIn_16 rfl (lv_at hl 3 rfl) ?_
      refine lv_aload_n hx hb dX9_loneIn_17 rfl (lv_at hl 0 rfl) ?_
      refine lv_aload_n hx hb dX9_loneIn_18 rfl (lv_at hl 1 rfl) ?_
      refine lv_iload_n hx hb dX9_loneIn_19 rfl (lv_at hl 2 rfl) ?_
      refine lv_iload hx hb dX9_loneIn_20 (lv_at hl 4 rfl) ?_
      obtain ⟨q2, hq3, hf⟩ := pf_b hf
      have hPc := hP.sub (ws' := (WX9_isLone cI cJ cZ cB a_o a_o_text a_o_many a_o_views a_o_aisles a_o_readMany a_o_readViews a_o_readAisles a_o_readPage a_o_page a_o_trial a_o_book a_o_kept a_o_isKept a_o_seenSeat a_o_seenWas a_p1 v_o_thrown v_o_textSize v_o_place v_o_rows v_o_readRows v_o_doings v_o_seen v_o_seed v_o_found v_o_foundViews v_o_foundMany d_o_many d_o_aisles d_p1)) [0, 1, 2, 3] rfl
      refine cl_roi (va_runV (As := [.ref a_p1, .int x2, .int x4]) (rest := [.int x3]) ⟨hx, hb, hml, hown, hts⟩ (kX9_isLone l D cI cJ cZ cB a_o a_o_text a_o_many a_o_views a_o_aisles a_o_readMany a_o_readViews a_o_readAisles a_o_readPage a_o_page a_o_trial a_o_book a_o_kept a_o_isKept a_o_seenSeat a_o_seenWas a_p1 v_o_thrown v_o_textSize v_o_place v_o_rows v_o_readRows v_o_doings v_o_seen v_o_seed v_o_found v_o_foundViews v_o_foundMany d_o_many d_o_aisles d_p1 x2 x4 q2 hq3) (cwV 3 hts gX9_loneIn_X9_isLone rfl rfl rfl (by decide +kernel) ⟨Nat.le_of_ble_eq_true rfl, Nat.le_of_ble_eq_true rfl⟩) ⟨PRo.blind, va_recv hK.1 hPc (ci := 9) (q0 := 0) rfl rfl, PRo.at hK hPc⟩ rfl rfl hl.1 rfl (lv_room (Nat.le_of_ble_eq_true rfl)) dX9_loneIn_22 ⟨Nat.zero_le _, Nat.zero_le _⟩) ?_
      refine lv_if_eq (tgt := 35) hx hb dX9_loneIn_25 (by decide) (fun hc => ?_) (fun hc => ?_)
      · have hf := pf_t hc hf
        refine lv_iconst (v := (0 : Int32)) hx hb dX9_loneIn_35 (by decide) ?_
        refine lv_ior hx hb dX9_loneIn_36 ?_
        refine lv_istore_n (lv' := [(3, .int (x3 ||| (0 : Int32))), (0, .ref a_o), (1, .ref a_p1), (2, .int x2), (4, .int x4)]) hx hb dX9_loneIn_37 rfl hl (by decide) rfl (fun ls hl => ?_)
        refine lv_iinc (v := (x4 + (1 : Int32))) (lv' := [(4, .int (x4 + (1 : Int32))), (3, .int (x3 ||| (0 : Int32))), (0, .ref a_o), (1, .ref a_p1), (2, .int x2)]) hx hb dX9_loneIn_38 hl (k := 4) rfl rfl (by decide) rfl (fun ls hl => ?_)
        refine lv_goto (tgt := 5) hx hb dX9_loneIn_41 (by decide) ?_
        exact ih v_o_thrown v_o_textSize v_o_place v_o_rows v_o_readRows v_o_doings v_o_seen v_o_seed v_o_found v_o_foundViews v_o_foundMany d_o_many d_o_aisles d_p1 x2 (x3 ||| (0 : Int32)) (x4 + (1 : Int32)) ls _ hP (lv_sub hl [2, 3, 4, 1, 0] rfl) hf
      · have hf := pf_f hc hf
        refine lv_iconst (v := (1 : Int32)) hx hb dX9_loneIn_28 (by decide) ?_
        refine lv_iload hx hb dX9_loneIn_29 (lv_at hl 4 rfl) ?_
        refine lv_ishl hx hb dX9_loneIn_31 ?_
        refine lv_goto (tgt := 36) hx hb dX9_loneIn_32 (by decide) ?_
        refine lv_ior hx hb dX9_loneIn_36 ?_
        refine lv_istore_n (lv' := [(3, .int (x3 ||| ((1 : Int32) <<< (x4 &&& 31)))), (0, .ref a_o), (1, .ref a_p1), (2, .int x2), (4, .int x4)]) hx hb dX9_loneIn_37 rfl hl (by decide) rfl (fun ls hl => ?_)
        refine lv_iinc (v := (x4 + (1 : Int32))) (lv' := [(4, .int (x4 + (1 : Int32))), (3, .int (x3 ||| ((1 : Int32) <<< (x4 &&& 31)))), (0, .ref a_o), (1, .ref a_p1), (2, .int x2)]) hx hb dX9_loneIn_38 hl (k := 4) rfl rfl (by decide) rfl (fun ls hl => ?_)
        refine lv_goto (tgt := 5) hx hb dX9_loneIn_41 (by decide) ?_
        exact ih v_o_thrown v_o_textSize v_o_place v_o_rows v_o_readRows v_o_doings v_o_seen v_o_seed v_o_found v_o_foundViews v_o_foundMany d_o_many d_o_aisles d_p1 x2 (x3 ||| ((1 : Int32) <<< (x4 &&& 31))) (x4 + (1 : Int32)) ls _ hP (lv_sub hl [2, 3, 4, 1, 0] rfl) hf
def fX9_loneIn (d_o_many : (Nat → Int32)) (d_o_aisles : (Nat → Int32)) (d_p1 : (Nat → Int32)) (x2 : Int32) : Option (Int32) := fX9_loneIn_5 FU d_o_many d_o_aisles d_p1 x2 (0 : Int32) (0 : Int32)
set_option maxRecDepth 100000 in
set_option maxHeartbeats 4000000 in
theorem kX9_loneIn (l : Launch) (D : va_G) (cI cJ cZ cB : ClassId) (a_o : Nat) (a_o_text : Nat) (a_o_many : Nat) (a_o_views : Nat) (a_o_aisles : Nat) (a_o_readMany : Nat) (a_o_readViews : Nat) (a_o_readAisles : Nat) (a_o_readPage : Nat) (a_o_page : Nat) (a_o_trial : Nat) (a_o_book : Nat) (a_o_kept : Nat) (a_o_isKept : Nat) (a_o_seenSeat : Nat) (a_o_seenWas : Nat) (a_p1 : Nat) (v_o_thrown : Int32) (v_o_textSize : Int32) (v_o_place : Int32) (v_o_rows : Int32) (v_o_readRows : Int32) (v_o_doings : Int32) (v_o_seen : Int32) (v_o_seed : Int64) (v_o_found : Int32) (v_o_foundViews : Int32) (v_o_foundMany : Int32) (d_o_many : (Nat → Int32)) (d_o_aisles : (Nat → Int32)) (d_p1 : (Nat → Int32)) (x2 : Int32) (res : Int32) (hf : fX9_loneIn d_o_many d_o_aisles d_p1 x2 = some res) : Ro l yX9_loneIn wsX9_loneIn ({ frames := 2, cells := 0, slots := 0, locals := 47 } : Room) D (tyL cI cJ cZ cB) [.ref a_o, .ref a_p1, .int x2] (WX9_loneIn cI cJ cZ cB a_o a_o_text a_o_many a_o_views a_o_aisles a_o_readMany a_o_readViews a_o_readAisles a_o_readPage a_o_page a_o_trial a_o_book a_o_kept a_o_isKept a_o_seenSeat a_o_seenWas a_p1 v_o_thrown v_o_textSize v_o_place v_o_rows v_o_readRows v_o_doings v_o_seen v_o_seed v_o_found v_o_foundViews v_o_foundMany d_o_many d_o_aisles d_p1) (some (.int res)) := by
  refine Ro.of (cc := cX9_loneIn) (maxL := 5) (ret := (some .int)) (own := RX9) (by decide) rfl rfl (Nat.le_of_ble_eq_true rfl) ?_
  intro p e s m below meth c ls C hK hP hl
  obtain ⟨hx, hb, hr, hml, hts, hown, hlk⟩ := id C
  have hl : lv_has ls 5 [(0, .ref a_o), (1, .ref a_p1), (2, .int x2)] := hl
  unfold fX9_loneIn at hf
  refine lv_iconst (v := (0 : Int32)) hx hb dX9_loneIn_0 (by decide) ?_
  refine lv_istore_n (lv' := [(3, .int (0 : Int32)), (0, .ref a_o), (1, .ref a_p1), (2, .int x2)]) hx hb dX9_loneIn_1 rfl hl (by decide) rfl (fun ls hl => ?_)
  refine lv_iconst (v := (0 : Int32)) hx hb dX9_loneIn_2 (by decide) ?_
  refine lv_istore (lv' := [(4, .int (0 : Int32)), (3, .int (0 : Int32)), (0, .ref a_o), (1, .ref a_p1), (2, .int x2)]) hx hb dX9_loneIn_3 hl (by decide) rfl (fun ls hl => ?_)
  exact tX9_loneIn_5 C hK  FU v_o_thrown v_o_textSize v_o_place v_o_rows v_o_readRows v_o_doings v_o_seen v_o_seed v_o_found v_o_foundViews v_o_foundMany d_o_many d_o_aisles d_p1 x2 (0 : Int32) (0 : Int32) ls _ hP (lv_sub hl [2, 3, 4, 1, 0] rfl) hf
