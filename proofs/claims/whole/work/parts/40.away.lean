/-! away: weights against a sum over sets -/
theorem sm_mul (c : Nat) (f : Nat → Nat) : ∀ n, fb_sm (fun k => c * f k) n = c * fb_sm f n := by
  intro n
  induction n with
  | zero => exact (Nat.mul_zero c).symm
  | succ n ih => rw [fb_sm_succ, fb_sm_succ, ih, Nat.mul_add]
def En (x y : Nat) (z : Nat → Nat) : Nat → (Nat → Nat) → Nat
  | 0, g => g 0
  | n + 1, g => x * En x y z n g + y * En x y z n (fun s => g (s + z n))
theorem En_add {x y : Nat} {z : Nat → Nat} : ∀ n (g h : Nat → Nat), En x y z n (fun s => g s + h s) = En x y z n g + En x y z n h := by
  intro n
  induction n with
  | zero => intro g h; rfl
  | succ n ih =>
    intro g h
    show x * En x y z n (fun s => g s + h s) + y * En x y z n (fun s => g (s + z n) + h (s + z n)) = _
    rw [ih g h, ih (fun s => g (s + z n)) (fun s => h (s + z n)), Nat.mul_add, Nat.mul_add]
    show _ = (x * En x y z n g + y * En x y z n (fun s => g (s + z n))) + (x * En x y z n h + y * En x y z n (fun s => h (s + z n)))
    omega
theorem En_zero {x y : Nat} {z : Nat → Nat} : ∀ n, En x y z n (fun _ => 0) = 0 := by
  intro n
  induction n with
  | zero => rfl
  | succ n ih =>
    show x * En x y z n (fun _ => 0) + y * En x y z n (fun _ => 0) = 0
    rw [ih, Nat.mul_zero, Nat.mul_zero]
theorem En_sum {x y : Nat} {z : Nat → Nat} (n : Nat) (G : Nat → Nat → Nat) : ∀ m, En x y z n (fun s => fb_sm (fun k => G k s) m) = fb_sm (fun k => En x y z n (G k)) m := by
  intro m
  induction m with
  | zero => exact En_zero n
  | succ m ih =>
    rw [fb_sm_succ, ← ih, ← En_add]
    rfl
theorem En_cong {x y : Nat} {z : Nat → Nat} : ∀ n (g h : Nat → Nat), (∀ s, s ≤ fb_sm z n → g s = h s) → En x y z n g = En x y z n h := by
  intro n
  induction n with
  | zero => intro g h e; exact e 0 (Nat.le_refl 0)
  | succ n ih =>
    intro g h e
    show x * En x y z n g + y * En x y z n (fun s => g (s + z n)) = x * En x y z n h + y * En x y z n (fun s => h (s + z n))
    rw [ih g h (fun s hs => e s (by rw [fb_sm_succ]; omega)), ih (fun s => g (s + z n)) (fun s => h (s + z n)) (fun s hs => e (s + z n) (by rw [fb_sm_succ]; omega))]
theorem En_le {x y : Nat} {z : Nat → Nat} : ∀ n (g : Nat → Nat), (∀ s, g s ≤ 1) → En x y z n g ≤ (x + y) ^ n := by
  intro n
  induction n with
  | zero => intro g h; exact h 0
  | succ n ih =>
    intro g h
    show x * En x y z n g + y * En x y z n (fun s => g (s + z n)) ≤ (x + y) ^ (n + 1)
    have h1 := Nat.mul_le_mul_left x (ih g h)
    have h2 := Nat.mul_le_mul_left y (ih (fun s => g (s + z n)) (fun s => h _))
    rw [Nat.pow_succ, Nat.mul_comm ((x + y) ^ n), Nat.add_mul]
    omega
def sumS (z : Nat → Nat) (o n : Nat) : Nat := fb_sm (fun k => if o.testBit k then z k else 0) n
def cntS (o n : Nat) : Nat := fb_ct (fun k => o.testBit k) n
theorem En_sets {x y : Nat} {z : Nat → Nat} : ∀ n (g : Nat → Nat), fb_sm (fun o => g (sumS z o n) * (y ^ cntS o n * x ^ (n - cntS o n))) (2 ^ n) = En x y z n g := by
  intro n
  induction n with
  | zero =>
    intro g
    show fb_sm (fun o => g (sumS z o 0) * (y ^ cntS o 0 * x ^ (0 - cntS o 0))) 1 = g 0
    rw [fb_sm_succ]
    show 0 + g 0 * (1 * 1) = g 0
    omega
  | succ n ih =>
    intro g
    rw [Nat.pow_succ, Nat.mul_two, fb_sm_split]
    show _ = x * En x y z n g + y * En x y z n (fun s => g (s + z n))
    rw [← ih g, ← ih (fun s => g (s + z n)), ← sm_mul, ← sm_mul]
    congr 1
    · refine fb_sm_cong (fun o ho => ?_)
      have hb : o.testBit n = false := Nat.testBit_lt_two_pow ho
      have hc := fb_ct_le (fun k => o.testBit k) n
      have e1 : sumS z o (n + 1) = sumS z o n := by
        unfold sumS
        rw [fb_sm_succ, hb]
        rfl
      have e2 : cntS o (n + 1) = cntS o n := by
        unfold cntS
        rw [fb_ct_succ, hb]
        rfl
      have hcn : cntS o n ≤ n := hc
      rw [e1, e2, show n + 1 - cntS o n = (n - cntS o n) + 1 by omega, Nat.pow_succ, ← Nat.mul_assoc, ← Nat.mul_assoc, Nat.mul_comm _ x, Nat.mul_assoc (g _)]
    · refine fb_sm_cong (fun o ho => ?_)
      have hb : o.testBit n = false := Nat.testBit_lt_two_pow ho
      have hbt : (2 ^ n + o).testBit n = true := by rw [Nat.testBit_two_pow_add_eq, hb]; rfl
      have hlow : ∀ k, k < n → (2 ^ n + o).testBit k = o.testBit k := fun k hk => Nat.testBit_two_pow_add_gt hk o
      have hc := fb_ct_le (fun k => o.testBit k) n
      have e1 : sumS z (2 ^ n + o) (n + 1) = sumS z o n + z n := by
        unfold sumS
        rw [fb_sm_succ, hbt, fb_sm_cong (fun k hk => by rw [hlow k hk])]
        rfl
      have e2 : cntS (2 ^ n + o) (n + 1) = cntS o n + 1 := by
        unfold cntS
        rw [fb_ct_succ, hbt, fb_ct_cong hlow]
        rfl
      have hcn : cntS o n ≤ n := hc
      rw [e1, e2, show n + 1 - (cntS o n + 1) = n - cntS o n by omega, Nat.pow_succ, Nat.mul_comm (y ^ cntS o n) y, Nat.mul_assoc y, Nat.mul_left_comm]
def eqG (i s : Nat) : Nat := if s = i then 1 else 0
def geG (v s : Nat) : Nat := if v ≤ s then 1 else 0
theorem En_at {x y : Nat} {z : Nat → Nat} (n i : Nat) : En x y z (n + 1) (eqG i) = En x y z n (eqG i) * x + (if z n ≤ i then En x y z n (eqG (i - z n)) * y else 0) := by
  show x * En x y z n (eqG i) + y * En x y z n (fun s => eqG i (s + z n)) = _
  rw [Nat.mul_comm x]
  congr 1
  by_cases h : z n ≤ i
  · rw [if_pos h, Nat.mul_comm y]
    congr 2
    funext s
    unfold eqG
    by_cases g : s = i - z n
    · rw [if_pos g, if_pos (by omega)]
    · rw [if_neg g, if_neg (by omega)]
  · rw [if_neg h]
    have e : (fun s => eqG i (s + z n)) = fun _ => 0 := by
      funext s
      unfold eqG
      rw [if_neg (by omega)]
    rw [e, En_zero, Nat.mul_zero]
theorem En_ge {x y : Nat} {z : Nat → Nat} {n v : Nat} (hz : fb_sm z n ≤ 9) (hv : v ≤ 9) : fb_sm (fun k => En x y z n (eqG (v + k))) (10 - v) = En x y z n (geG v) := by
  rw [← En_sum n (fun k => eqG (v + k))]
  refine En_cong n _ _ (fun s hs => ?_)
  have hall : ∀ m, fb_sm (fun k => eqG (v + k) s) m = if v ≤ s ∧ s < v + m then 1 else 0 := by
    intro m
    induction m with
    | zero =>
      rw [if_neg (by omega)]
      rfl
    | succ m ih =>
      rw [fb_sm_succ, ih]
      unfold eqG
      by_cases e : s = v + m
      · rw [if_pos e, if_neg (by omega), if_pos (by omega)]
      · rw [if_neg e]
        by_cases g : v ≤ s ∧ s < v + m
        · rw [if_pos g, if_pos (by omega)]
        · rw [if_neg g, if_neg (by omega)]
  rw [hall]
  unfold geG
  by_cases g : v ≤ s
  · rw [if_pos g, if_pos (by omega)]
  · rw [if_neg g, if_neg (by omega)]
/-- the class's weights -/
theorem c_begin (wh : Int64) (wt : Nat → Int64) : ∃ wt', fX2_begin wh wt = some (1, wt') ∧ ∀ i, i < 10 → wt' i = lN (eqG i 0) := by
  have hL : ∀ fu i (f : Nat → Int64), i ≤ 10 → 11 ≤ i + fu → (∀ j, j < i → f j = 0) → ∃ wt', fX2_begin_2 fu wh f (nI i) = some (1, wt') ∧ ∀ i, i < 10 → wt' i = lN (eqG i 0) := by
    intro fu
    induction fu with
    | zero => intro i f h1 h2; omega
    | succ fu ih =>
      intro i f h1 h2 hf
      rw [fX2_begin_2]
      by_cases h : i = 10
      · subst h
        rw [if_pos (show (9 : Int32) < nI 10 from by decide)]
        refine ⟨_, rfl, fun i hi => ?_⟩
        by_cases e : i = 0
        · subst e
          rfl
        · show vp_updL f 0 1 i = _
          rw [pk_uLn e, hf i hi]
          unfold eqG
          rw [if_neg (fun g => e g.symm)]
          rfl
      · rw [if_neg (show ¬ (9 : Int32) < nI i from nI_nlt (a := 9) (by omega) (by decide)), if_neg (nI_in (by omega) (by decide)), nI_clamp (by omega), nI_1]
        refine ih (i + 1) _ (by omega) (by omega) (fun j hj => ?_)
        by_cases e : j = i
        · subst e
          exact pk_uLs
        · rw [pk_uLn e]
          exact hf j (by omega)
  exact hL FU 0 wt (by omega) (by have := FU_ge (k := 20) (by decide); omega) (fun j hj => by omega)
theorem c_add {x s n : Nat} {z : Nat → Nat} {wh : Int64} {wt : Nat → Int64} (hx : x ≤ 10) (s1 : 1 ≤ s) (s6 : s ≤ 6) (hzn : z n = s) (hw : ∀ i, i < 10 → wt i = lN (En x (10 - x) z n (eqG i))) : ∃ wt', fX2_add wh wt (nI s) (nI x) = some (wh * 10, wt') ∧ ∀ i, i < 10 → wt' i = lN (En x (10 - x) z (n + 1) (eqG i)) := by
  have hm : ∀ m : Nat, nI (m + 1) + (-1 : Int32) = nI m := fun m => by
    rw [← Int32.sub_eq_add_neg, show (1 : Int32) = nI 1 from rfl, sub1 (by omega)]
    rfl
  have hL : ∀ m fu (f : Nat → Int64), m ≤ 10 → m + 1 ≤ fu → (∀ j, j < m → f j = lN (En x (10 - x) z n (eqG j))) → (∀ j, m ≤ j → j < 10 → f j = lN (En x (10 - x) z (n + 1) (eqG j))) → ∃ wt', fX2_add_8 fu wh f (nI s) (nI x) (nI m + (-1 : Int32)) = some (wh * 10, wt') ∧ ∀ i, i < 10 → wt' i = lN (En x (10 - x) z (n + 1) (eqG i)) := by
    intro m
    induction m with
    | zero =>
      intro fu f h1 h2 h3 h4
      obtain ⟨fu, rfl⟩ : ∃ k, fu = k + 1 := ⟨fu - 1, by omega⟩
      rw [fX2_add_8, if_pos (show nI 0 + (-1 : Int32) < 0 from by decide)]
      exact ⟨f, rfl, fun i hi => h4 i (by omega) hi⟩
    | succ m ih =>
      intro fu f h1 h2 h3 h4
      obtain ⟨fu, rfl⟩ : ∃ k, fu = k + 1 := ⟨fu - 1, by omega⟩
      rw [fX2_add_8, hm m, if_neg (nI_pos (by omega))]
      have h35 : ∀ k0 : Int64, f m * lN x + k0 = lN (En x (10 - x) z (n + 1) (eqG m)) → ∃ wt', fX2_add_35 (fX2_add_8 fu) wh f (nI s) (nI x) (nI m) k0 = some (wh * 10, wt') ∧ ∀ i, i < 10 → wt' i = lN (En x (10 - x) z (n + 1) (eqG i)) := fun k0 e => by
        unfold fX2_add_35
        rw [if_neg (nI_in (by omega) (by decide)), if_neg (nI_in (by omega) (by decide)), nI_clamp (by omega), nI_l (by omega), e]
        refine ih fu _ (by omega) (by omega) (fun j hj => ?_) (fun j hj hj2 => ?_)
        · rw [pk_uLn (by omega)]
          exact h3 j (by omega)
        · by_cases g : j = m
          · subst g
            exact pk_uLs
          · rw [pk_uLn g]
            exact h4 j (by omega) hj2
      have ef : f m = lN (En x (10 - x) z n (eqG m)) := h3 m (by omega)
      have eat := En_at (x := x) (y := 10 - x) (z := z) n m
      rw [hzn] at eat
      by_cases c : m < s
      · rw [if_pos (nI_lt' c (by omega))]
        refine h35 0 ?_
        rw [if_neg (by omega)] at eat
        rw [eat, ef, lN_mul, show (0 : Int64) = lN 0 from rfl, lN_add]
      · rw [if_neg (show ¬ nI m < nI s from nI_nlt (by omega) (by omega)), pk_sub (by omega), if_neg (nI_in (by omega) (by decide)), nI_clamp (by omega), show (10 : Int32) = nI 10 from rfl, pk_sub (by omega), nI_l (by omega)]
        refine h35 _ ?_
        rw [if_pos (by omega)] at eat
        rw [eat, ef, h3 (m - s) (by omega), lN_mul, lN_mul, lN_add]
  unfold fX2_add
  rw [if_pos (show (0 : Int32) ≤ nI s from nI_le' (a := 0) (by omega) (by omega))]
  exact hL 10 FU wt (by omega) (by have := FU_ge (k := 20) (by decide); omega) hw (fun j h1 h2 => by omega)
theorem c_atLeast {x n v : Nat} {z : Nat → Nat} {wt : Nat → Int64} (hv : v ≤ 9) (hz : fb_sm z n ≤ 9) (hw : ∀ i, i < 10 → wt i = lN (En x (10 - x) z n (eqG i))) : fX2_atLeast wt (nI v) = some (lN (En x (10 - x) z n (geG v))) := by
  have hL : ∀ fu i, i ≤ 10 - v → 10 - v + 1 ≤ i + fu → fX2_atLeast_9 fu wt (lN (fb_sm (fun k => En x (10 - x) z n (eqG (v + k))) i)) (nI (v + i)) = some (lN (fb_sm (fun k => En x (10 - x) z n (eqG (v + k))) (10 - v))) := by
    intro fu
    induction fu with
    | zero => intro i h1 h2; omega
    | succ fu ih =>
      intro i h1 h2
      rw [fX2_atLeast_9]
      by_cases h : i = 10 - v
      · subst h
        rw [if_pos (show (9 : Int32) < nI (v + (10 - v)) from nI_lt' (a := 9) (by omega) (by omega))]
      · rw [if_neg (show ¬ (9 : Int32) < nI (v + i) from nI_nlt (a := 9) (by omega) (by decide)), if_neg (nI_in (by omega) (by decide)), nI_clamp (by omega), hw (v + i) (by omega), lN_add, nI_1, Nat.add_assoc]
        exact ih (i + 1) (by omega) (by omega)
  unfold fX2_atLeast
  have e : (if (0 : Int32) < nI v then nI v else 0) = nI v := by
    by_cases h : v = 0
    · subst h
      rfl
    · rw [if_pos ((pos0 (by omega)).mpr (by omega))]
  rw [e, ← En_ge hz hv]
  exact hL FU 0 (by omega) (by have := FU_ge (k := 20) (by decide); omega)
