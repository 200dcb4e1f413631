/-! what every contract stands on: nest links, the two forms of a contract (reads only; writes), starts and calls -/
def nwL : List (String × Nat × MethodName × String) := [
  ("LoneSeats", 11, ⟨"LoneSeats$Text", "<init>", "()V"⟩, "LoneSeats"),
  ("LoneSeats", 18, ⟨"LoneSeats$Plan", "<init>", "()V"⟩, "LoneSeats"),
  ("LoneSeats", 28, ⟨"LoneSeats$Bookings", "<init>", "()V"⟩, "LoneSeats"),
  ("LoneSeats$Past", 17, ⟨"LoneSeats$Bookings", "<init>", "()V"⟩, "LoneSeats"),
  ("LoneSeats$Slots", 21, ⟨"LoneSeats$Bookings", "<init>", "()V"⟩, "LoneSeats"),
  ("LoneSeats", 52, ⟨"LoneSeats$Sights", "<init>", "()V"⟩, "LoneSeats"),
  ("LoneSeats", 59, ⟨"LoneSeats$Finder", "<init>", "()V"⟩, "LoneSeats"),
  ("LoneSeats", 66, ⟨"LoneSeats$Odds", "<init>", "()V"⟩, "LoneSeats"),
  ("LoneSeats$Bookings", 42, ⟨"LoneSeats", "span", "(II)I"⟩, "LoneSeats"),
  ("LoneSeats$Bookings", 92, ⟨"LoneSeats", "placeAt", "(II)I"⟩, "LoneSeats"),
  ("LoneSeats$Finder", 55, ⟨"LoneSeats", "span", "(II)I"⟩, "LoneSeats"),
  ("LoneSeats$Plan", 79, ⟨"LoneSeats", "span", "(II)I"⟩, "LoneSeats"),
  ("LoneSeats$Finder", 62, ⟨"LoneSeats", "placeAt", "(II)I"⟩, "LoneSeats"),
  ("LoneSeats$Plan", 91, ⟨"LoneSeats", "rowOf", "(I)I"⟩, "LoneSeats"),
  ("LoneSeats$Plan", 94, ⟨"LoneSeats", "firstOf", "(I)I"⟩, "LoneSeats"),
  ("LoneSeats$Bookings", 74, ⟨"LoneSeats", "rowOf", "(I)I"⟩, "LoneSeats"),
  ("LoneSeats$Bookings", 77, ⟨"LoneSeats", "firstOf", "(I)I"⟩, "LoneSeats")]
def NW (U : State) : Prop := ∀ q ∈ nwL, va_Nw (.methodLinkNest q.1 q.2.1 q.2.2.1 q.2.2.2) U
theorem NW.warm {s U : State} (hW : s.WarmedH U.vm) (h : NW s) : NW U := fun q hq => va_Nw.warmM hW (h q hq)
theorem NW.same {u U : State} (e : u.vm = U.vm) (h : NW u) : NW U := fun q hq => va_Nw.same rfl e (h q hq)
theorem NW.at {U : State} (h : NW U) (i : Nat) {own : String} {k : Nat} {y : MethodName} {host : String} (hi : nwL[i]? = some (own, k, y, host)) : va_Nw (.methodLinkNest own k y host) U := h _ (List.mem_of_getElem? hi)
abbrev tyL (cI cJ cZ cB : ClassId) : List (ClassId × FieldType) := [(cI, .int), (cJ, .long), (cZ, .boolean), (cB, .object RX0)]
def Kw (D : va_G) (tys : List (ClassId × FieldType)) (U : State) : Prop := va_K D vwCl tys U ∧ NW U
theorem Kw.warm {D : va_G} {tys : List (ClassId × FieldType)} {s U : State} (hW : s.WarmedH U.vm) (h : Kw D tys s) : Kw D tys U := ⟨va_K.moved hW.alike h.1, h.2.warm hW⟩
theorem Kw.call {D : va_G} {tys : List (ClassId × FieldType)} {U : State} {g : JFrame} {mk : MethodId} {a : Array Value} (h : Kw D tys U) : Kw D tys (U.calling g mk a) := ⟨va_K.moved (u := U) (U := U.calling g mk a) (Vm.Alike.refl U.vm) h.1, NW.same rfl h.2⟩
def QRo (o : Option Value) : Array Value → State → Outcome → State → Prop := fun _ st oc t => oc = .returned o ∧ t.heap = st.heap
def QRw (D : va_G) (A : Nat → Prop) (ws' : va_W) (o : Option Value) : Array Value → State → Outcome → State → Prop := fun _ st oc t => (oc = .returned o ∧ va_P D vwCl ws' t.heap ∧ va_D A ws') ∧ va_F A st t
def PRo (D : va_G) (tys : List (ClassId × FieldType)) (av : List Value) (ws : va_W) : Array Value → State → Prop := va_Pc av (fun U => va_P D vwCl ws U.heap ∧ Kw D tys U)
def PRw (D : va_G) (tys : List (ClassId × FieldType)) (av : List Value) (ws : va_W) (sz : Nat) : Array Value → State → Prop := va_Pc av (fun U => U.heap.size = sz ∧ va_P D vwCl ws U.heap ∧ Kw D tys U ∧ va_D (fun _ => True) ws)
/-- reads alone: the heap stays as it is -/
def Ro (l : Launch) (y : MethodName) (w : List Cond) (rm : Room) (D : va_G) (tys : List (ClassId × FieldType)) (av : List Value) (ws : va_W) (o : Option Value) : Prop := Met l y w rm (PRo D tys av ws) (QRo o) 0 0 (fun _ => False)
/-- writes in its own cells, makes none -/
def Rw (l : Launch) (y : MethodName) (w : List Cond) (rm : Room) (D : va_G) (tys : List (ClassId × FieldType)) (av : List Value) (ws : va_W) (o : Option Value) (ws' : va_W) : Prop := ∀ sz : Nat, Met l y w rm (PRw D tys av ws sz) (QRw D (va_A ws sz) ws' o) 0 0 (va_A ws sz)
def Cx (p : Program) (s : State) (m : MethodId) (args : Array Value) (meth : Method) (c : Code) (cc : ByteArray) (nL : Nat) (ret : Option FieldType) (w : List Cond) (own : String) : Prop :=
  p.tables.exec = Jvm.exec ∧ c.code = cc ∧ meth.sig.returnType = ret ∧ c.maxLocals = nL ∧ (∀ x ∈ w, x.before args s = true) ∧ s.vm.findClass own = some m.cls ∧ meth.locks = false
theorem PRo.blind {D : va_G} {tys : List (ClassId × FieldType)} {av : List Value} {ws : va_W} : FrameBlind (PRo D tys av ws) := fun _ _ _ _ q => ⟨q.1, q.2.1, q.2.2.call⟩
theorem PRw.blind {D : va_G} {tys : List (ClassId × FieldType)} {av : List Value} {ws : va_W} {sz : Nat} : FrameBlind (PRw D tys av ws sz) := fun _ _ _ _ q => ⟨q.1, q.2.1, q.2.2.1, q.2.2.2.1.call, q.2.2.2.2⟩
theorem PRo.at {D : va_G} {tys : List (ClassId × FieldType)} {av : List Value} {ws : va_W} {s : State} {H : Heap} (hK : Kw D tys s) (hP : va_P D vwCl ws H) : ∀ U : State, U.heap = H → s.WarmedH U.vm → PRo D tys av ws av.toArray U := fun U hU hW => ⟨rfl, by rw [hU]; exact hP, hK.warm hW⟩
theorem PRw.at {D : va_G} {tys : List (ClassId × FieldType)} {av : List Value} {ws : va_W} {s : State} {H : Heap} {A : Nat → Prop} (hK : Kw D tys s) (hP : va_P D vwCl ws H) (hD : va_D A ws) : ∀ U : State, U.heap = H → s.WarmedH U.vm → PRw D tys av ws H.size av.toArray U := fun U hU hW => ⟨rfl, by rw [hU], by rw [hU]; exact hP, hK.warm hW, hD.weaken (fun _ _ _ _ => trivial)⟩
theorem Ro.of {l : Launch} {y : MethodName} {w w' : List Cond} {rm : Room} {D : va_G} {tys : List (ClassId × FieldType)} {av : List Value} {ws : va_W} {o : Option Value} {cc : ByteArray} {maxL : Nat} {ret : Option FieldType} {own : String}
    (hy : plainName y.cls = true) (hw : w = Cond.code y cc maxL ret :: w') (ho : y.cls = own) (hle : (lg_sl av).length ≤ maxL)
    (body : ∀ (p : Program) (e : Env) (s : State) (m : MethodId) (below : List Frame) (meth : Method) (c : Code) (ls : Array Slot), Cx p s m av.toArray meth c cc maxL ret w own → Kw D tys s → va_P D vwCl ws s.heap → lv_has ls maxL (lv_args 0 av) → W p l e rm s m av.toArray below meth c s.heap [] 0 0 (MQ below (QRo o) av.toArray s 0 0 (fun _ => False)) (F0 m 0 ls [])) : Ro l y w rm D tys av ws o := by
  refine Met.ofW (cc := cc) (maxL := maxL) (ret := ret) hy hw ?_
  intro p e s m args below meth c s₁ B hml hv
  obtain ⟨rfl, hP, hK⟩ := hv
  rw [lg_entry_eq]
  exact body p e s m below meth c _ ⟨B.exec, B.bytes, B.returns, hml, atoms_spec (ws := w) B.pre, ho ▸ findClass_of_methodNamed B.named, B.notSynchronized⟩ hK hP (lv_entry av hle)
theorem Rw.of {l : Launch} {y : MethodName} {w w' : List Cond} {rm : Room} {D : va_G} {tys : List (ClassId × FieldType)} {av : List Value} {ws ws' : va_W} {o : Option Value} {cc : ByteArray} {maxL : Nat} {ret : Option FieldType} {own : String}
    (hy : plainName y.cls = true) (hw : w = Cond.code y cc maxL ret :: w') (ho : y.cls = own) (hle : (lg_sl av).length ≤ maxL)
    (body : ∀ (p : Program) (e : Env) (s : State) (m : MethodId) (below : List Frame) (meth : Method) (c : Code) (A : Nat → Prop) (ls : Array Slot), Cx p s m av.toArray meth c cc maxL ret w own → Kw D tys s → (∀ q : Nat, s.heap.size ≤ q → A q) → va_P D vwCl ws s.heap → va_D A ws → va_S A s.heap s.heap [] → lv_has ls maxL (lv_args 0 av) → W p l e rm s m av.toArray below meth c s.heap [] 0 0 (MQ below (QRw D A ws' o) av.toArray s 0 0 A) (F0 m 0 ls [])) : Rw l y w rm D tys av ws o ws' := by
  intro sz
  refine Met.ofW (cc := cc) (maxL := maxL) (ret := ret) hy hw ?_
  intro p e s m args below meth c s₁ B hml hv
  obtain ⟨rfl, hsz, hP, hK, hD⟩ := hv
  subst hsz
  rw [lg_entry_eq]
  exact body p e s m below meth c _ _ ⟨B.exec, B.bytes, B.returns, hml, atoms_spec (ws := w) B.pre, ho ▸ findClass_of_methodNamed B.named, B.notSynchronized⟩ hK (fun q h => Or.inr h) hP hD.self va_S.rf (lv_entry av hle)
section CLS
variable {p : Program} {l : Launch} {e : Env} {R : Room} {s : State} {m : MethodId} {args : Array Value} {below : List Frame} {meth : Method} {c : Code} {H : Heap} {locs : List Loc} {cells slots : Nat} {Q : State → Prop}
variable {pc : Nat} {ls : Array Slot} {rest st0 : List Value} {a : Array Value} {A : Nat → Prop} {H0 : Heap}
theorem cl_ro {o : Option Value} (hr : va_Run p l e R s m args below meth c H locs cells slots 0 0 (F0 m pc ls st0) rest (QRo o a) (fun _ => False))
    (kk : W p l e R s m args below meth c H locs cells slots Q (F0 m (pc + 3) ls (o.toList ++ rest))) : W p l e R s m args below meth c H locs cells slots Q (F0 m pc ls st0) := by
  intro T hT X
  obtain ⟨v, st₀, t, T', L, h0, X', hL, e1, e2, ⟨hv, hh⟩, st⟩ := hr T hT X
  cases hv
  have hL0 : L = [] := by
    cases L with
    | nil => rfl
    | cons q L => exact absurd (hL q List.mem_cons_self) id
  subst hL0
  rw [List.append_nil] at X'
  obtain ⟨t2, a1, b1⟩ := kk T' (by rw [e1, hh, h0]) X'
  exact ⟨t2, st t2 a1, b1⟩
theorem cl_rw {o : Option Value} {D : va_G} {ws wc wc' wr wsN : va_W} (hr : va_Run p l e R s m args below meth c H locs cells slots 0 0 (F0 m pc ls st0) rest (QRw D (va_A wc H.size) wc' o a) (va_A wc H.size))
    (hP : va_P D vwCl ws H) (hD : va_D A ws) (hS : va_S A H0 H locs) (hA : ∀ q : Nat, H0.size ≤ q → A q)
    (isC isR perm : List Nat) (hC : isC.map (fun i => ws[i]?) = wc.map some) (hR : isR.map (fun i => ws[i]?) = wr.map some) (hn : va_nd isR = true) (hdis : ∀ i ∈ isR, i ∉ isC)
    (hN : perm.map (fun i => (wr ++ wc')[i]?) = wsN.map some) (hnp : va_nd perm = true)
    (kk : ∀ (H1 : Heap) (locs1 : List Loc), va_P D vwCl wsN H1 → va_D A wsN → va_S A H0 H1 locs1 → W p l e R s m args below meth c H1 locs1 cells slots Q (F0 m (pc + 3) ls (o.toList ++ rest))) : W p l e R s m args below meth c H locs cells slots Q (F0 m pc ls st0) := by
  have hF := va_free (wc := wc) hD hS hA isC hC
  intro T hT X
  obtain ⟨v, st₀, t, T', L, h0, X', hL, e1, e2, ⟨⟨hv, hP1, hD1⟩, hz, hk⟩, st⟩ := hr T hT X
  cases hv
  rw [h0] at hz hk
  rw [← e1] at hP1 hz hk
  obtain ⟨hPj, hDj⟩ := va_join hP hD isC isR hC hR hn hdis hk hF hP1 hD1
  have hDn : va_D A wsN := hDj.sub perm hnp hN
  have hPn : va_P D vwCl wsN T'.heap := by
    intro k q hq
    have h1 : (perm.map (fun i => (wr ++ wc')[i]?))[k]? = some (some q) := by rw [hN, List.getElem?_map, hq]; rfl
    rw [List.getElem?_map] at h1
    cases hi : perm[k]? with
    | none => rw [hi] at h1; cases h1
    | some i => rw [hi] at h1; exact hPj i q (Option.some.inj h1)
  obtain ⟨t2, a1, b1⟩ := kk T'.heap (locs ++ L) hPn hDn
    ⟨Nat.le_trans hS.1 hz, fun q h1 h2 => by rw [hk q (Nat.lt_of_lt_of_le h1 hS.1) (fun z => h2 (hF q z))]; exact hS.2.1 q h1 h2, fun q hq => by
      rcases List.mem_append.mp hq with h | h
      · exact hS.2.2 q h
      · exact hF _ (hL q h)⟩ T' rfl X'
  exact ⟨t2, st t2 a1, b1⟩
theorem cl_roi {r : Int32} (hr : va_Run p l e R s m args below meth c H locs cells slots 0 0 (F0 m pc ls st0) rest (QRo (some (.int r)) a) (fun _ => False))
    (kk : W p l e R s m args below meth c H locs cells slots Q (F0 m (pc + 3) ls (.int r :: rest))) : W p l e R s m args below meth c H locs cells slots Q (F0 m pc ls st0) := cl_ro hr kk
theorem cl_rol {r : Int64} (hr : va_Run p l e R s m args below meth c H locs cells slots 0 0 (F0 m pc ls st0) rest (QRo (some (.long r)) a) (fun _ => False))
    (kk : W p l e R s m args below meth c H locs cells slots Q (F0 m (pc + 3) ls (.long r :: rest))) : W p l e R s m args below meth c H locs cells slots Q (F0 m pc ls st0) := cl_ro hr kk
theorem cl_rov (hr : va_Run p l e R s m args below meth c H locs cells slots 0 0 (F0 m pc ls st0) rest (QRo none a) (fun _ => False))
    (kk : W p l e R s m args below meth c H locs cells slots Q (F0 m (pc + 3) ls rest)) : W p l e R s m args below meth c H locs cells slots Q (F0 m pc ls st0) := cl_ro hr kk
theorem cl_rwi {r : Int32} {D : va_G} {ws wc wc' wr wsN : va_W} (hr : va_Run p l e R s m args below meth c H locs cells slots 0 0 (F0 m pc ls st0) rest (QRw D (va_A wc H.size) wc' (some (.int r)) a) (va_A wc H.size))
    (hP : va_P D vwCl ws H) (hD : va_D A ws) (hS : va_S A H0 H locs) (hA : ∀ q : Nat, H0.size ≤ q → A q)
    (isC isR perm : List Nat) (hC : isC.map (fun i => ws[i]?) = wc.map some) (hR : isR.map (fun i => ws[i]?) = wr.map some) (hn : va_nd isR = true) (hdis : ∀ i ∈ isR, i ∉ isC)
    (hN : perm.map (fun i => (wr ++ wc')[i]?) = wsN.map some) (hnp : va_nd perm = true)
    (kk : ∀ (H1 : Heap) (locs1 : List Loc), va_P D vwCl wsN H1 → va_D A wsN → va_S A H0 H1 locs1 → W p l e R s m args below meth c H1 locs1 cells slots Q (F0 m (pc + 3) ls (.int r :: rest))) : W p l e R s m args below meth c H locs cells slots Q (F0 m pc ls st0) := cl_rw hr hP hD hS hA isC isR perm hC hR hn hdis hN hnp kk
theorem cl_rwl {r : Int64} {D : va_G} {ws wc wc' wr wsN : va_W} (hr : va_Run p l e R s m args below meth c H locs cells slots 0 0 (F0 m pc ls st0) rest (QRw D (va_A wc H.size) wc' (some (.long r)) a) (va_A wc H.size))
    (hP : va_P D vwCl ws H) (hD : va_D A ws) (hS : va_S A H0 H locs) (hA : ∀ q : Nat, H0.size ≤ q → A q)
    (isC isR perm : List Nat) (hC : isC.map (fun i => ws[i]?) = wc.map some) (hR : isR.map (fun i => ws[i]?) = wr.map some) (hn : va_nd isR = true) (hdis : ∀ i ∈ isR, i ∉ isC)
    (hN : perm.map (fun i => (wr ++ wc')[i]?) = wsN.map some) (hnp : va_nd perm = true)
    (kk : ∀ (H1 : Heap) (locs1 : List Loc), va_P D vwCl wsN H1 → va_D A wsN → va_S A H0 H1 locs1 → W p l e R s m args below meth c H1 locs1 cells slots Q (F0 m (pc + 3) ls (.long r :: rest))) : W p l e R s m args below meth c H locs cells slots Q (F0 m pc ls st0) := cl_rw hr hP hD hS hA isC isR perm hC hR hn hdis hN hnp kk
theorem cl_rwv {D : va_G} {ws wc wc' wr wsN : va_W} (hr : va_Run p l e R s m args below meth c H locs cells slots 0 0 (F0 m pc ls st0) rest (QRw D (va_A wc H.size) wc' none a) (va_A wc H.size))
    (hP : va_P D vwCl ws H) (hD : va_D A ws) (hS : va_S A H0 H locs) (hA : ∀ q : Nat, H0.size ≤ q → A q)
    (isC isR perm : List Nat) (hC : isC.map (fun i => ws[i]?) = wc.map some) (hR : isR.map (fun i => ws[i]?) = wr.map some) (hn : va_nd isR = true) (hdis : ∀ i ∈ isR, i ∉ isC)
    (hN : perm.map (fun i => (wr ++ wc')[i]?) = wsN.map some) (hnp : va_nd perm = true)
    (kk : ∀ (H1 : Heap) (locs1 : List Loc), va_P D vwCl wsN H1 → va_D A wsN → va_S A H0 H1 locs1 → W p l e R s m args below meth c H1 locs1 cells slots Q (F0 m (pc + 3) ls rest)) : W p l e R s m args below meth c H locs cells slots Q (F0 m pc ls st0) := cl_rw hr hP hD hS hA isC isR perm hC hR hn hdis hN hnp kk
end CLS
/-! the pure side: what a step of an answer's computing says -/
theorem pf_t {α : Type} {c : Prop} [Decidable c] {A B r : α} (h : c) (hf : (if c then A else B) = r) : A = r := by rwa [if_pos h] at hf
theorem pf_f {α : Type} {c : Prop} [Decidable c] {A B r : α} (h : ¬ c) (hf : (if c then A else B) = r) : B = r := by rwa [if_neg h] at hf
theorem pf_nf {α : Type} {c : Prop} [Decidable c] {A B r : α} (h : c) (hf : (if ¬ c then A else B) = r) : B = r := by rwa [if_neg (fun k => k h)] at hf
theorem pf_g {α : Type} {c : Prop} [Decidable c] {A : Option α} {r : α} (hf : (if c then A else none) = some r) : c ∧ A = some r := by
  by_cases h : c
  · exact ⟨h, by rwa [if_pos h] at hf⟩
  · rw [if_neg h] at hf; cases hf
theorem pf_b {α β : Type} {o : Option α} {k : α → Option β} {r : β} (hf : o.bind k = some r) : ∃ x, o = some x ∧ k x = some r := by
  cases o with
  | none => cases hf
  | some x => exact ⟨x, rfl, hf⟩
theorem pf_x {α : Type} {c : Prop} [Decidable c] {A : Option α} {r : α} (hf : (if c then none else A) = some r) : ¬ c ∧ A = some r := by
  by_cases h : c
  · rw [if_pos h] at hf; cases hf
  · exact ⟨h, by rwa [if_neg h] at hf⟩
/-- how often a loop may go round: above all that any run needs -/
def FU : Nat := 5000
theorem nar_b {v : Int32} (h : v = 0 ∨ v = 1) : narrow .boolean (.int v) = .int v := by
  rcases h with rfl | rfl <;> rfl
