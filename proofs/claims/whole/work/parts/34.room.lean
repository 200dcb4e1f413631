/-! room -/
def FrR (R : Nat) (N : Nat → Nat) (pr fr w : Nat → Int32) : Prop := (∀ r, r < R → pr r = w r ∧ ∃ v, 1 ≤ v ∧ v ≤ 9 ∧ w r = nI v) ∧ ∀ r, r < R → fr r = Mk (FA N w r)
theorem FrR_of {R : Nat} {N : Nat → Nat} {a e c i m : Nat} {pr fr sz lm pc pd qu : Nat → Int32} {ask wai fee tak : Int32} {w : Nat → Int32} (B : BKg R N a e c i m pr fr sz lm pc pd qu ask wai fee tak w) : FrR R N pr fr w := ⟨B.2.2.2.2.1, B.2.2.2.2.2.1.1⟩
theorem HCr {R : Nat} {N : Nat → Nat} {al : Nat → Nat → Bool} {vw : Nat → Nat → Nat} {se jo vi : Nat → Int32} (H : HallP R N al vw se jo vi) {pr fr w : Nat → Int32} (B : FrR R N pr fr w) : HallC R N (JA N al) (FA N w) vw (pv w) se jo vi pr fr := by
  obtain ⟨hR, hvw, hrow⟩ := H
  obtain ⟨hpr, hfr⟩ := B
  refine ⟨hR, hvw, fun r hr => ?_⟩
  obtain ⟨hN, h1, h2, h3⟩ := hrow r hr
  obtain ⟨p1, p2⟩ := hpr r hr
  obtain ⟨g1, g2, g3⟩ := pv_of p2
  refine ⟨hN, h1, h2, hfr r hr, fun k hk => ?_, h3, by rw [p1]; exact g1, by omega⟩
  unfold FA
  rw [decide_eq_false (by omega)]
  rfl
theorem F_look {R : Nat} {N : Nat → Nat} {al : Nat → Nat → Bool} {vw : Nat → Nat → Nat} {se jo vi : Nat → Int32} (H : HallP R N al vw se jo vi) {pr fr w : Nat → Int32} (B : FrR R N pr fr w) {n lim o : Nat} (h1 : 1 ≤ n) (hn : n ≤ 6) (hl : lim ≤ 9) (ho : o < 16) (f1 f2 f3 f4 : Int32) : fX1_look f1 f2 f3 f4 (nI R) se jo vi pr fr (nI n) (nI lim) 0 (nI o) = some (plI (bestS R N (JA N al) (FA N w) vw (pv w) n lim o 0), repC (bestS R N (JA N al) (FA N w) vw (pv w) n lim o 0)) := c_look (HCr H B) (d := 0) h1 hn (by omega) ho (by decide) (by decide) (by decide) f1 f2 f3 f4
theorem F_place {R : Nat} {N : Nat → Nat} {al : Nat → Nat → Bool} {vw : Nat → Nat → Nat} {mn am vm : Nat → Int32} (H : HallM R N al vw mn am vm) {pr fr w : Nat → Int32} (B : FrR R N pr fr w) {n lim o : Nat} (h1 : 1 ≤ n) (hn : n ≤ 6) (hl : lim ≤ 9) (ho : o < 16) (f1 f2 f3 : Int32) : fX9_findPlace (nI R) f1 f2 f3 mn vm am w (nI n) (nI lim) (nI o) (nI (fb_sm (loneW N al w) R)) = some (plI (bestS R N (JA N al) (FA N w) vw (pv w) n lim o 0), fvI (bestS R N (JA N al) (FA N w) vw (pv w) n lim o 0), nI (bestS R N (JA N al) (FA N w) vw (pv w) n lim o 0).1, w) := by
  obtain ⟨hR, hvw, hrow⟩ := id H
  obtain ⟨hpr, hfr⟩ := B
  have hb := lone_bound (a := al) (w := w) (fun r hr => (hrow r hr).1.2)
  rw [m_findPlace H (p := pv w) h1 hn ho (by omega) (by omega) (fun r hr => ⟨(pv_of (hpr r hr).2).1, by have := (pv_of (hpr r hr).2).2.2; omega⟩), best_same (fun r hr => (hrow r hr).1.2) h1, Int.sub_self]
theorem F_find {R : Nat} {N : Nat → Nat} {al : Nat → Nat → Bool} {vw : Nat → Nat → Nat} {mn am vm : Nat → Int32} (H : HallM R N al vw mn am vm) {pr fr w : Nat → Int32} (B : FrR R N pr fr w) {n lim : Nat} (h1 : 1 ≤ n) (hn : n ≤ 6) (hl : lim ≤ 9) (f1 f2 f3 : Int32) : fX9_findBest (nI R) f1 f2 f3 mn vm am w (nI n) (nI lim) = some (plI (bst R N al vw w n lim), fvI (bst R N al vw w n lim), nI (bst R N al vw w n lim).1, w) := by
  unfold fX9_findBest
  rw [m_allLone H, Option.bind_some, show (15 : Int32) = nI 15 from rfl, F_place H B h1 hn hl (by decide), Option.bind_some]
  rfl
theorem F_ok {R : Nat} {N : Nat → Nat} {al : Nat → Nat → Bool} {vw : Nat → Nat → Nat} {se jo vi : Nat → Int32} (H : HallP R N al vw se jo vi) {pr fr w : Nat → Int32} (B : FrR R N pr fr w) {n : Nat} (hn : n ≤ 6) (lim o : Nat) (d : Int) : accOk (bestS R N (JA N al) (FA N w) vw (pv w) n lim o d) 36 := by
  obtain ⟨hR, hvw, hrow⟩ := H
  obtain ⟨hpr, hfr⟩ := B
  exact (allS_ok hR (fun k hk => (hrow k hk).1.2) (quS_lt hvw hn) (fun k hk => by have := (pv_of (hpr k hk).2).2.2; omega)).up (by omega)
theorem F_take {R : Nat} {N : Nat → Nat} {pr fr w : Nat → Int32} (hR : R ≤ 4) (hN : ∀ r, r < R → N r ≤ 9) (B : FrR R N pr fr w) {r s n : Nat} (hr : r < R) (hs : s + n ≤ N r) : FrR R N pr (upd fr r (fr r &&& (Mk (spn s n) ^^^ (-1)))) (layF w r s n 31) := by
  obtain ⟨hpr, hfr⟩ := B
  have hN9 := hN r hr
  refine ⟨fun r' hr' => ?_, fun r' hr' => ?_⟩
  · rw [layF_out (by omega)]
    exact hpr r' hr'
  · by_cases e : r' = r
    · subst e
      rw [upd_at, hfr r' hr', Mk_not]
      refine Mk_cong (fun k hk => ?_)
      unfold FA
      rw [fr_lay, Bool.and_assoc]
    · rw [upd_ne e, hfr r' hr']
      have := hN r' hr'
      exact FA_cong (fun k hk => (fr_lay_ne e (by omega) (by omega)).symm)
theorem sm_less {f g : Nat → Nat} {R r : Nat} (h : ∀ k, k < R → f k ≤ g k) (hr : r < R) (h1 : f r + 1 ≤ g r) : fb_sm f R + 1 ≤ fb_sm g R := by
  have e := fb_sm_upd f (f r + 1) hr
  have l : fb_sm (fun k => if k = r then f r + 1 else f k) R ≤ fb_sm g R := fb_sm_le (fun k hk => by
    by_cases c : k = r
    · subst c
      rw [if_pos rfl]
      exact h1
    · rw [if_neg c]
      exact h k hk)
  omega
theorem fr_less {R : Nat} {N : Nat → Nat} {w : Nat → Int32} (hR : R ≤ 4) (hN : ∀ r, r < R → N r ≤ 9) {r s n : Nat} (hr : r < R) (hs : s + n ≤ N r) (n1 : 1 ≤ n) (hfree : ∀ k, k < n → w (13 + 9 * r + (s + k)) = 0) : fb_sm (frS N (layF w r s n 31)) R + 1 ≤ fb_sm (frS N w) R := by
  have hN9 := hN r hr
  have hsub : ∀ r' k, frW (layF w r s n 31) r' k = true → frW w r' k = true := fun r' k h => by
    unfold frW layF at h
    by_cases c : 13 + 9 * r + s ≤ 13 + 9 * r' + k ∧ 13 + 9 * r' + k < 13 + 9 * r + s + n
    · rw [if_pos c] at h
      exact absurd (of_decide_eq_true h) (by decide)
    · rw [if_neg c] at h
      exact h
  refine sm_less (fun k hk => fb_ct_sub (fun j hj => hsub k j)) hr ?_
  have hno : frW (layF w r s n 31) r s = false := by
    unfold frW
    rw [layF_in (by omega)]
    rfl
  have hd := fb_ct_or (p := frW (layF w r s n 31) r) (q := fun k => decide (k = s)) (n := N r) (fun k hk h => by
    have e := of_decide_eq_true h.2
    rw [e, hno] at h
    cases h.1)
  have h1 : 0 < fb_ct (fun k => decide (k = s)) (N r) := fb_ct_pos.mpr ⟨s, by omega, decide_eq_true rfl⟩
  have h2 : fb_ct (fun k => frW (layF w r s n 31) r k || decide (k = s)) (N r) ≤ fb_ct (frW w r) (N r) := fb_ct_sub (fun k hk h => by
    rw [Bool.or_eq_true] at h
    rcases h with h | h
    · exact hsub r k h
    · rw [of_decide_eq_true h]
      have := hfree 0 (by omega)
      rw [Nat.add_zero] at this
      exact decide_eq_true this)
  unfold frS
  omega
theorem fr_bound {R : Nat} {N : Nat → Nat} {w : Nat → Int32} (hR : R ≤ 4) (hN : ∀ r, r < R → N r ≤ 9) : fb_sm (frS N w) R ≤ 36 := by
  have := fb_sm_bound (f := frS N w) (c := 9) (n := R) (fun k hk => Nat.le_trans (fb_ct_le _ _) (hN k hk))
  omega
theorem fr_some {R : Nat} {N : Nat → Nat} {al : Nat → Nat → Bool} {vw : Nat → Nat → Nat} {w : Nat → Int32} {n lim : Nat} (n1 : 1 ≤ n) (h : (bst R N al vw w n lim).1 ≠ 0) : 1 ≤ fb_sm (frS N w) R := by
  obtain ⟨r, s, hr, hs, -, hfree, -⟩ := bst_at h
  have h0 := fb_sm_part (frS N w) hr
  have : 0 < frS N w r := fb_ct_pos.mpr ⟨s, by omega, decide_eq_true (hfree 0 (by omega))⟩
  omega
theorem L_room {R : Nat} {N : Nat → Nat} {al : Nat → Nat → Bool} {vw : Nat → Nat → Nat} {se jo vi mn am vm : Nat → Int32} (H : HallP R N al vw se jo vi) (HM : HallM R N al vw mn am vm) {nask nwai nfee ntak ca cw ce ct th : Int32} {npr nfr nsz nlm npc npd nqu cp cs cl cc cd cq page : Nat → Int32} {n : Nat} (n1 : 1 ≤ n) (n6 : n ≤ 6) :
    ∀ (t fu x2 : Nat) (w fr : Nat → Int32) (f1 f2 f3 f4 : Int32), fb_sm (frS N w) R ≤ t → x2 + t ≤ 36 → t + 1 ≤ fu → FrR R N cp fr w → (x2 + t = 36) →
    ∃ (ans g1 g2 g3 g4 k1 k2 k3 : Int32) (fr' w' : Nat → Int32),
      fX8_room_23 fu (nI R) se jo vi nask nwai nfee ntak npr nfr nsz nlm npc npd nqu ca cw ce ct cp fr cs cl cc cd cq f1 f2 f3 f4 (nI n) (nI x2) = some (ans, ca, cw, ce, ct, cp, fr', cs, cl, cc, cd, cq, g1, g2, g3, g4) ∧
      fX9_room_44 fu th (nI R) (plI (bst R N al vw w n 9)) (fvI (bst R N al vw w n 9)) (nI (bst R N al vw w n 9).1) mn vm am page w (nI n) (nI x2) = some (ans, th, k1, k2, k3, w') := by
  obtain ⟨hR, hN, hse⟩ := HallP_N H
  intro t
  induction t with
  | zero =>
    intro fu x2 w fr f1 f2 f3 f4 ht hx hfu F hx36
    obtain ⟨fu, rfl⟩ : ∃ k, fu = k + 1 := ⟨fu - 1, by omega⟩
    have hx2 : x2 = 36 := by omega
    subst hx2
    have c0 : (bst R N al vw w n 9).1 = 0 := by
      by_cases c : (bst R N al vw w n 9).1 = 0
      · exact c
      · have := fr_some n1 c
        omega
    rw [fX8_room_23, if_pos (show (36 : Int32) ≤ nI 36 from by decide), fX9_room_44, c0, if_pos (show nI 0 ≤ (0 : Int32) from by decide)]
    exact ⟨_, _, _, _, _, _, _, _, fr, w, rfl, rfl⟩
  | succ t ih =>
    intro fu x2 w fr f1 f2 f3 f4 ht hx hfu F hx36
    obtain ⟨fu, rfl⟩ : ∃ k, fu = k + 1 := ⟨fu - 1, by omega⟩
    have hok := F_ok H F n6 9 15 0
    have hlook : fX1_look f1 f2 f3 f4 (nI R) se jo vi cp fr (nI n) (9 : Int32) 0 15 = some (plI (bst R N al vw w n 9), repC (bst R N al vw w n 9)) := F_look H F (n := n) (lim := 9) (o := 15) n1 n6 (by omega) (by decide) f1 f2 f3 f4
    rw [fX8_room_23, if_neg (show ¬ (36 : Int32) ≤ nI x2 from nI_ge (b := 36) (by omega) (by decide)), hlook, Option.bind_some, fX9_room_44]
    dsimp only
    by_cases c0 : (bst R N al vw w n 9).1 = 0
    · rw [if_pos (show plI (bst R N al vw w n 9) = -9 from (plI_9 hok).mpr c0), if_pos ((le0 (by have := hok.1; have e : (bst R N al vw w n 9).1 ≤ 36 := this; omega)).mpr c0)]
      exact ⟨_, _, _, _, _, _, _, _, fr, w, rfl, rfl⟩
    · obtain ⟨r, s, hr, hs, epl, hfree, -⟩ := bst_at c0
      have hN9 := hN r hr
      have hb : (bst R N al vw w n 9).1 ≤ 36 := hok.1
      have F2 := F_take hR hN F hr hs
      have hl := fr_less hR hN hr hs n1 hfree
      rw [if_neg (show ¬ plI (bst R N al vw w n 9) = -9 from fun e => c0 ((plI_9 hok).mp e)), if_neg (fun e => c0 ((le0 (by omega)).mp e))]
      have hfind : ∀ e1 e2 e3 : Int32, fX9_findBest (nI R) e1 e2 e3 mn vm am (layF w r s n (nI 31)) (nI n) (9 : Int32) = _ := fun e1 e2 e3 => F_find HM F2 (lim := 9) n1 n6 (by omega) e1 e2 e3
      rw [epl, c_take (by omega) n6 (by omega), Option.bind_some, rem10 (by omega) (by omega), div10 (by omega) (by omega), show (31 : Int32) = nI 31 from rfl, m_lay (by omega) (by omega), Option.bind_some, hfind, Option.bind_some, pl1]
      exact ih fu (x2 + 1) _ _ _ _ _ _ (by show fb_sm (frS N (layF w r s n 31)) R ≤ t; omega) (by omega) (by omega) F2 (by omega)
theorem O_room {R : Nat} {N : Nat → Nat} {al : Nat → Nat → Bool} {vw : Nat → Nat → Nat} {se jo vi mn am vm : Nat → Int32} (H : HallP R N al vw se jo vi) (HM : HallM R N al vw mn am vm) {pr fr sz lm pc pd qu w tr cp cf cs cl cc cd cq : Nat → Int32} {ask wai fee tak ca cw ce ct : Int32} (B : BK R N pr fr sz lm pc pd qu ask wai fee tak w) (f1 f2 f3 f4 th h1 h2 h3 x1 : Int32) :
    ∃ (ans g1 g2 g3 g4 k1 k2 k3 ca' cw' ce' ct' : Int32) (cp' cf' cs' cl' cc' cd' cq' tr' : Nat → Int32),
      fX8_room (nI R) se jo vi ask wai fee tak pr fr sz lm pc pd qu ca cw ce ct cp cf cs cl cc cd cq f1 f2 f3 f4 x1 = some (ans, ca', cw', ce', ct', cp', cf', cs', cl', cc', cd', cq', g1, g2, g3, g4) ∧ fX9_room th (nI R) h1 h2 h3 mn vm am w tr x1 = some (ans, 0, k1, k2, k3, tr') := by
  obtain ⟨hR, hN, hse⟩ := HallP_N H
  obtain ⟨a, q, BC⟩ := L_copy (o0 := cp) (o1 := cf) (o2 := cs) (o3 := cl) (o4 := cc) (o5 := cd) (o6 := cq) hR hN B (w' := fa_fill w tr 229) (fun k hk => fa_fill_in hk)
  have F := FrR_of BC
  unfold fX8_room fX9_room
  rw [c_isSizeR, Option.bind_some, m_in16, Option.bind_some]
  cases hs : inR x1 1 6 with
  | false =>
    rw [ib_f, ib_f]
    exact ⟨_, _, _, _, _, _, _, _, _, _, _, _, _, _, _, _, _, _, _, _, rfl, rfl⟩
  | true =>
    obtain ⟨n, n1, n6, rfl⟩ := inR_at (by decide) (by decide) hs
    have hb := fr_bound (w := fa_fill w tr 229) hR hN
    obtain ⟨ans, g1, g2, g3, g4, k1, k2, k3, fr', w', e1, e2⟩ := L_room H HM (nask := ask) (nwai := wai) (nfee := fee) (ntak := tak) (npr := pr) (nfr := fr) (nsz := sz) (nlm := lm) (npc := pc) (npd := pd) (nqu := qu) (ca := ask) (cw := wai) (ce := fee) (ct := tak) (cs := va_cpy sz cs 0 0 31) (cl := va_cpy lm cl 0 0 31) (cc := va_cpy pc cc 0 0 31) (cd := va_cpy pd cd 0 0 31) (cq := va_cpy qu cq 0 0 5) (page := w) (th := 0) n1 n6 36 FU 0 _ _ f1 f2 f3 f4 hb (by omega) (by have := FU_ge (k := 40) (by decide); omega) F (by omega)
    unfold fX0_copyFrom
    rw [ib_t, ib_t, Option.bind_some, m_copy, Option.bind_some, show fX9_findBest (nI R) h1 h2 h3 mn vm am (fa_fill w tr 229) (nI n) (9 : Int32) = _ from F_find HM F (lim := 9) n1 n6 (by omega) h1 h2 h3, Option.bind_some]
    exact ⟨_, _, _, _, _, _, _, _, _, _, _, _, _, _, _, _, _, _, _, _, e1, e2⟩
