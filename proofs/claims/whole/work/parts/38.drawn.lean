/-! drawn: random events -/
theorem u64_lN (x : UInt64) : x.toInt64 = lN x.toNat := by
  apply Int64.toBitVec_inj.mp
  show x.toBitVec = BitVec.ofNat 64 x.toBitVec.toNat
  rw [BitVec.ofNat_toNat, BitVec.setWidth_eq]
theorem sh33 : ((33 : Int32).toInt64.toUInt64 &&& Int64.toUInt64 63) = (33 : UInt64) := by decide
theorem rnd (S : Int64) : ∃ v, v < 2 ^ 31 ∧ ((S.toUInt64 >>> ((33 : Int32).toInt64.toUInt64 &&& Int64.toUInt64 63)).toInt64).toInt32 = nI v := by
  refine ⟨(S.toUInt64 >>> ((33 : Int32).toInt64.toUInt64 &&& Int64.toUInt64 63)).toNat, ?_, ?_⟩
  · rw [sh33, UInt64.toNat_shiftRight, show (33 : UInt64).toNat % 64 = 33 from rfl, Nat.shiftRight_eq_div_pow]
    have := S.toUInt64.toNat_lt
    omega
  · rw [u64_lN, lN_i]
theorem c_seatedAt {R : Nat} {N : Nat → Nat} {a q : Nat} {pr fr sz lm pc pd qu : Nat → Int32} {ask wai fee tak : Int32} {w : Nat → Int32} (hR : R ≤ 4) (hN : ∀ r, r < R → N r ≤ 9) (B : BKg R N a 0 q q 0 pr fr sz lm pc pd qu ask wai fee tak w) {i : Nat} (hi : i < a) (hS : stS w i = true) : fX0_seatedAt (nI a) pc (nI (fb_ct (stS w) i)) = some (nI (i + 1)) := by
  have ha := B.1.1
  have hL : ∀ fu j, j ≤ i → i + 1 ≤ j + fu → fX0_seatedAt_4 fu (nI a) pc (nI (fb_ct (stS w) i)) (nI (fb_ct (stS w) j)) (nI (j + 1)) = some (nI (i + 1)) := by
    intro fu
    induction fu with
    | zero => intro j h1 h2; omega
    | succ fu ih =>
      intro j h1 h2
      have hlej := fb_ct_le (stS w) j
      have hlei := fb_ct_le (stS w) i
      rw [fX0_seatedAt_4, if_neg (show ¬ nI a < nI (j + 1) from nI_nlt (by omega) (by omega)), c_isSeated ha (by omega) (by omega), Option.bind_some, decide_eq_decide.mpr (seated_iff hR hN B (p := j + 1) (by omega) (by omega) (by omega)), nI_1, nI_1]
      show (if bI (stS w j) = 0 then _ else _) = _
      by_cases e : j = i
      · subst e
        rw [hS, ib_t, if_pos rfl]
      · have ih2 := ih (j + 1) (by omega) (by omega)
        rw [fb_ct_succ (stS w) j] at ih2
        cases hb : stS w j with
        | false =>
          rw [hb] at ih2
          rw [ib_f]
          exact ih2
        | true =>
          have hm := fb_ct_mono (stS w) (show j + 1 ≤ i by omega)
          rw [fb_ct_succ (stS w) j, hb] at hm
          rw [hb] at ih2
          rw [ib_t, if_neg (show ¬ nI (fb_ct (stS w) j) = nI (fb_ct (stS w) i) from fun g => by have := nI_inj (by omega) (by omega) g; simp at hm; omega)]
          exact ih2
  exact hL FU 0 (by omega) (by have := FU_ge (k := 50) (by decide); omega)
theorem m_returnAt {R a i : Nat} {w mn vm am : Nat → Int32} {h1 h2 h3 : Int32} (ha : a ≤ 30) (hw6 : w 6 = nI a) (hi : i < a) (hS : stS w i = true) : fX9_returnAt (nI R) h1 h2 h3 mn vm am w (nI (fb_ct (stS w) i)) = ((fX9_returnOn (nI R) h1 h2 h3 mn vm am w (nI (i + 1))).bind fun q4 => some (q4.2.1, q4.2.2.1, q4.2.2.2.1, q4.2.2.2.2)) := by
  have hL : ∀ fu j, j ≤ i → i + 1 ≤ j + fu → fX9_returnAt_4 fu (nI R) h1 h2 h3 mn vm am w (nI (fb_ct (stS w) i - fb_ct (stS w) j)) (nI (j + 1)) = ((fX9_returnOn (nI R) h1 h2 h3 mn vm am w (nI (i + 1))).bind fun q4 => some (q4.2.1, q4.2.2.1, q4.2.2.2.1, q4.2.2.2.2)) := by
    intro fu
    induction fu with
    | zero => intro j g1 g2; omega
    | succ fu ih =>
      intro j g1 g2
      have hlej := fb_ct_le (stS w) j
      have hlei := fb_ct_le (stS w) i
      rw [fX9_returnAt_4, c6, hw6, if_neg (show ¬ nI a < nI (j + 1) from nI_nlt (by omega) (by omega)), m_at (by omega), Option.bind_some, pl2, if_neg (nI_in (by omega) (by decide)), nI_clamp (by omega), show 43 + 6 * (j + 1) + 2 = 45 + 6 * (j + 1) by omega, nI_1]
      by_cases e : j = i
      · subst e
        rw [if_pos (show w (45 + 6 * (j + 1)) = (1 : Int32) from of_decide_eq_true hS), Nat.sub_self, if_pos (show nI 0 = (0 : Int32) from rfl)]
      · have ih2 := ih (j + 1) (by omega) (by omega)
        rw [fb_ct_succ (stS w) j] at ih2
        have hm := fb_ct_mono (stS w) (show j + 1 ≤ i by omega)
        rw [fb_ct_succ (stS w) j] at hm
        by_cases hb : w (45 + 6 * (j + 1)) = nI 1
        · have hb2 : stS w j = true := decide_eq_true hb
          rw [hb2, if_pos rfl] at ih2 hm
          have em : nI (fb_ct (stS w) i - fb_ct (stS w) j) + (-1 : Int32) = nI (fb_ct (stS w) i - (fb_ct (stS w) j + 1)) := by
            rw [← Int32.sub_eq_add_neg, show (1 : Int32) = nI 1 from rfl, sub1 (by omega)]
            congr 1
          rw [if_pos (show w (45 + 6 * (j + 1)) = (1 : Int32) from hb), if_neg (fun g => by have := (eq0 (by omega)).mp g; omega), em]
          exact ih2
        · have hb2 : stS w j = false := decide_eq_false hb
          rw [hb2] at ih2
          rw [if_neg (show ¬ w (45 + 6 * (j + 1)) = (1 : Int32) from hb)]
          exact ih2
  have h := hL FU 0 (by omega) (by have := FU_ge (k := 50) (by decide); omega)
  exact h
theorem L_drawn {R : Nat} {N : Nat → Nat} {al : Nat → Nat → Bool} {vw : Nat → Nat → Nat} {se jo vi mn am vm : Nat → Int32} (H : HallP R N al vw se jo vi) (HM : HallM R N al vw mn am vm) {nask nwai nfee ntak th : Int32} {npr nfr nsz nlm npc npd nqu page : Nat → Int32} {n : Nat} (hn : n ≤ 20) (hnt : ntak = page 5) :
    ∀ (m k fu : Nat) (sd : Int64) (ask wai fee tak f1 f2 f3 f4 h1 h2 h3 : Int32) (pr fr sz lm pc pd qu w : Nat → Int32), k + m = n → m + 1 ≤ fu → BK R N pr fr sz lm pc pd qu ask wai fee tak w →
    ∃ (sd' : Int64) (ans g1 g2 g3 g4 k1 k2 k3 ca' cw' ce' ct' : Int32) (cp' cf' cs' cl' cc' cd' cq' w' : Nat → Int32),
      fX8_drawn_27 fu sd (nI R) se jo vi nask nwai nfee ntak npr nfr nsz nlm npc npd nqu ask wai fee tak pr fr sz lm pc pd qu f1 f2 f3 f4 (nI n) (nI k) = some (ans, sd', ca', cw', ce', ct', cp', cf', cs', cl', cc', cd', cq', g1, g2, g3, g4) ∧
      fX9_drawn_33 fu th (nI R) sd h1 h2 h3 mn vm am page w (nI n) (nI k) = some (ans, th, sd', k1, k2, k3, w') := by
  obtain ⟨hR, hN, hse⟩ := HallP_N H
  intro m
  induction m with
  | zero =>
    intro k fu sd ask wai fee tak f1 f2 f3 f4 h1 h2 h3 pr fr sz lm pc pd qu w hk hfu B
    obtain ⟨fu, rfl⟩ : ∃ z, fu = z + 1 := ⟨fu - 1, by omega⟩
    have hkn : k = n := by omega
    subst hkn
    obtain ⟨a, q, B⟩ := B
    have htak := B.2.2.2.2.2.2.1.2
    rw [fX8_drawn_27, fX9_drawn_33, if_pos (nI_le (Nat.le_refl _) (by omega)), if_pos (nI_le (Nat.le_refl _) (by omega))]
    unfold fX0_takings
    rw [Option.bind_some, Option.bind_some, hnt, htak, c5]
    exact ⟨_, _, _, _, _, _, _, _, _, _, _, _, _, _, _, _, _, _, _, _, _, rfl, rfl⟩
  | succ m ih =>
    intro k fu sd ask wai fee tak f1 f2 f3 f4 h1 h2 h3 pr fr sz lm pc pd qu w hk hfu B
    obtain ⟨fu, rfl⟩ : ∃ z, fu = z + 1 := ⟨fu - 1, by omega⟩
    have B0 := B
    obtain ⟨a, q, B⟩ := B
    obtain ⟨⟨ha, hask, hw6⟩, -, -, -, hpr, ⟨hfr, -⟩, ⟨hfee, htak⟩, ⟨-, hq5, hwai, -⟩, -⟩ := id B
    rw [Nat.add_zero] at hwai
    subst hask
    rw [fX8_drawn_27, fX9_drawn_33, if_neg (nI_ge (by omega) (by omega)), if_neg (nI_ge (by omega) (by omega))]
    obtain ⟨v, hv, ev⟩ := rnd (sd * (6364136223846793005 : Int64) + (1442695040888963407 : Int64))
    rw [ev]
    generalize sd * (6364136223846793005 : Int64) + (1442695040888963407 : Int64) = sd2
    unfold fX8_happen
    have q4 : nI v - nI v / (4 : Int32) * (4 : Int32) = nI (v % 4) := by
      rw [show (4 : Int32) = nI 4 from rfl, pk_rem (by omega) (by decide) (by decide)]
    have d4 : nI v / (4 : Int32) = nI (v / 4) := by rw [show (4 : Int32) = nI 4 from rfl, pk_div (by omega) (by decide) (by decide)]
    have d24 : nI v / (24 : Int32) = nI (v / 24) := by rw [show (24 : Int32) = nI 24 from rfl, pk_div (by omega) (by decide) (by decide)]
    have q6 : (1 : Int32) + (nI (v / 4) - nI (v / 4) / (6 : Int32) * (6 : Int32)) = nI (1 + v / 4 % 6) := by
      rw [show (6 : Int32) = nI 6 from rfl, pk_rem (by omega) (by decide) (by decide), show (1 : Int32) = nI 1 from rfl, nI_add]
    have q9 : (1 : Int32) + (nI (v / 24) - nI (v / 24) / (9 : Int32) * (9 : Int32)) = nI (1 + v / 24 % 9) := by
      rw [show (9 : Int32) = nI 9 from rfl, pk_rem (by omega) (by decide) (by decide), show (1 : Int32) = nI 1 from rfl, nI_add]
    rw [q4, d4, d24, q6, q9, m_seated ha hw6, Option.bind_some, c_seated hR hN B, Option.bind_some, nI_1]
    have hle := fb_ct_le (stS w) a
    by_cases c3 : v % 4 = 3
    · rw [if_pos (show nI (v % 4) = (3 : Int32) from by rw [c3]; rfl), if_pos (show nI (v % 4) = (3 : Int32) from by rw [c3]; rfl)]
      by_cases c0 : fb_ct (stS w) a = 0
      · rw [if_pos ((le0 (by omega)).mpr c0), if_pos ((le0 (by omega)).mpr c0), Option.bind_some]
        exact ih (k + 1) fu _ _ _ _ _ _ _ _ _ _ _ _ _ _ _ _ _ _ _ _ (by omega) (by omega) B0
      · have hidx : v / 4 % fb_ct (stS w) a < fb_ct (stS w) a := Nat.mod_lt _ (by omega)
        obtain ⟨i, hi, hS, hci⟩ := fb_ct_kth hidx
        have qc : nI (v / 4) - nI (v / 4) / nI (fb_ct (stS w) a) * nI (fb_ct (stS w) a) = nI (fb_ct (stS w) i) := by
          rw [pk_rem (by omega) (by omega) (by omega), hci]
        rw [if_neg (fun g => c0 ((le0 (by omega)).mp g)), if_neg (fun g => c0 ((le0 (by omega)).mp g)), if_neg (fun g => c0 ((eq0 (by omega)).mp g)), if_neg (fun g => c0 ((eq0 (by omega)).mp g)), qc, c_seatedAt hR hN B hi hS, Option.bind_some, m_returnAt ha hw6 hi hS]
        have hst : w (45 + 6 * (i + 1)) = nI 1 := of_decide_eq_true hS
        obtain ⟨bk, tak1, g1, g2, g3, g4, wai', tak', k1, k2, k3, fr1, pc1, pd1, fr', pc', pd', qu', w', q', r1, r2, r3, B2⟩ := L_return H HM B (p := i + 1) (by omega) (by omega) hst f1 f2 f3 f4 h1 h2 h3
        unfold fX8_givesBack
        rw [c_isSeated ha (by omega) (by omega), decide_eq_true ((seated_iff hR hN B (p := i + 1) (by omega) (by omega) (by omega)).mpr hst), Option.bind_some, ib_t, r1, Option.bind_some, r2, Option.bind_some, Option.bind_some, Option.bind_some, r3, Option.bind_some, Option.bind_some]
        exact ih (k + 1) fu _ _ _ _ _ _ _ _ _ _ _ _ _ _ _ _ _ _ _ _ (by omega) (by omega) ⟨a, q', B2⟩
    · have n3 : ¬ nI (v % 4) = (3 : Int32) := fun g => c3 (nI_inj (y := 3) (by omega) (by decide) g)
      obtain ⟨sn, esn, n1, n6⟩ : ∃ sn, 1 + v / 4 % 6 = sn ∧ 1 ≤ sn ∧ sn ≤ 6 := ⟨_, rfl, by omega, by omega⟩
      obtain ⟨ln, eln, l1, l9⟩ : ∃ ln, 1 + v / 24 % 9 = ln ∧ 1 ≤ ln ∧ ln ≤ 9 := ⟨_, rfl, by omega, by omega⟩
      have hok := bst_ok H B n6 ln
      subst hwai
      rw [if_neg n3, if_neg n3, esn, eln, L_look H B n1 n6 l9, Option.bind_some, c_isFullFor hok ha (by omega), Option.bind_some, m_mayAsk HM B n1 n6 l9 hok.1, Option.bind_some]
      unfold repC
      dsimp only
      cases hf : fullS a q (bst R N al vw w sn ln) with
      | true =>
        rw [ib_t, Bool.not_true, ib_f, Option.bind_some]
        exact ih (k + 1) fu _ _ _ _ _ _ _ _ _ _ _ _ _ _ _ _ _ _ _ _ (by omega) (by omega) B0
      | false =>
        obtain ⟨wai', tak', fr', pc', pd', qu', w', q', a1, a2, B2⟩ := L_admit H HM B n1 n6 l1 l9 hf (plI (bst R N al vw w sn ln)) (fvI (bst R N al vw w sn ln)) (nI (bst R N al vw w sn ln).1)
        rw [ib_f, a1, Option.bind_some, Option.bind_some, Bool.not_false, ib_t, a2, Option.bind_some]
        exact ih (k + 1) fu _ _ _ _ _ _ _ _ _ _ _ _ _ _ _ _ _ _ _ _ (by omega) (by omega) ⟨a + 1, q', B2⟩
theorem c_rg20 {α : Type} {x : Int32} (a b : α) : (if x < 1 then a else if x ≤ 20 then b else a) = (if bI (inR x 1 20) = 0 then a else b) := c_rgP (lo := 1) (hi := 20) a b
theorem O_drawn {R : Nat} {N : Nat → Nat} {al : Nat → Nat → Bool} {vw : Nat → Nat → Nat} {se jo vi mn am vm : Nat → Int32} (H : HallP R N al vw se jo vi) (HM : HallM R N al vw mn am vm) {pr fr sz lm pc pd qu w tr cp cf cs cl cc cd cq : Nat → Int32} {ask wai fee tak ca cw ce ct : Int32} (B : BK R N pr fr sz lm pc pd qu ask wai fee tak w) (sd : Int64) (f1 f2 f3 f4 th h1 h2 h3 x1 : Int32) :
    ∃ (sd' : Int64) (ans g1 g2 g3 g4 k1 k2 k3 ca' cw' ce' ct' : Int32) (cp' cf' cs' cl' cc' cd' cq' tr' : Nat → Int32),
      fX8_drawn sd (nI R) se jo vi ask wai fee tak pr fr sz lm pc pd qu ca cw ce ct cp cf cs cl cc cd cq f1 f2 f3 f4 x1 = some (ans, sd', ca', cw', ce', ct', cp', cf', cs', cl', cc', cd', cq', g1, g2, g3, g4) ∧ fX9_drawn th (nI R) sd h1 h2 h3 mn vm am w tr x1 = some (ans, 0, sd', k1, k2, k3, tr') := by
  obtain ⟨hR, hN, hse⟩ := HallP_N H
  have BC := L_copy (o0 := cp) (o1 := cf) (o2 := cs) (o3 := cl) (o4 := cc) (o5 := cd) (o6 := cq) hR hN B (w' := fa_fill w tr 229) (fun k hk => fa_fill_in hk)
  unfold fX8_drawn fX9_drawn
  rw [show fX9_in x1.toInt64 (1 : Int64) (20 : Int64) = some (bI (inR x1 1 20)) from m_inR x1 1 20, Option.bind_some, c_rg20]
  cases hs : inR x1 1 20 with
  | false =>
    rw [ib_f, ib_f]
    exact ⟨_, _, _, _, _, _, _, _, _, _, _, _, _, _, _, _, _, _, _, _, _, rfl, rfl⟩
  | true =>
    obtain ⟨n, n1, n20, rfl⟩ := inR_at (by decide) (by decide) hs
    obtain ⟨a, q, B⟩ := B
    obtain ⟨sd', ans, g1, g2, g3, g4, k1, k2, k3, ca', cw', ce', ct', cp', cf', cs', cl', cc', cd', cq', w', a1, a2⟩ := L_drawn H HM (nask := ask) (nwai := wai) (nfee := fee) (ntak := tak) (npr := pr) (nfr := fr) (nsz := sz) (nlm := lm) (npc := pc) (npd := pd) (nqu := qu) (page := w) (th := 0) (n := n) n20 B.2.2.2.2.2.2.1.2 n 0 FU sd _ _ _ _ f1 f2 f3 f4 h1 h2 h3 _ _ _ _ _ _ _ _ (by omega) (by have := FU_ge (k := 50) (by decide); omega) BC
    rw [show nI 0 = (0 : Int32) from rfl] at a1 a2
    unfold fX0_copyFrom
    rw [ib_t, ib_t, Option.bind_some, m_copy, Option.bind_some]
    exact ⟨_, _, _, _, _, _, _, _, _, _, _, _, _, _, _, _, _, _, _, _, _, a1, a2⟩
