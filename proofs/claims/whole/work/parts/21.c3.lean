/-! sets of lost signs, by what either half lost and what both lost -/
def DS (h : Nat) (f : Nat → Nat → Int) : Int := fb_si (fun a => fb_si (fun b => f a b) (2 ^ h)) (2 ^ h)
theorem DS_cong {h : Nat} {f g : Nat → Nat → Int} (H : ∀ a, a < 2 ^ h → ∀ b, b < 2 ^ h → f a b = g a b) : DS h f = DS h g :=
  fb_si_cong (fun a ha => fb_si_cong (fun b hb => H a ha b hb))
theorem DS_mul (h : Nat) (c : Int) (f : Nat → Nat → Int) : DS h (fun a b => c * f a b) = c * DS h f := by
  unfold DS
  rw [← fb_si_mul]
  exact fb_si_cong (fun a _ => fb_si_mul c (fun b => f a b) (2 ^ h))
theorem DS_zero (h : Nat) : DS h (fun _ _ => 0) = 0 := by
  unfold DS
  exact si_all0 (fun a _ => si_zero (2 ^ h))
theorem DS_all0 {h : Nat} {f : Nat → Nat → Int} (H : ∀ a, a < 2 ^ h → ∀ b, b < 2 ^ h → f a b = 0) : DS h f = 0 := (DS_cong (g := fun _ _ => 0) H).trans (DS_zero h)
theorem DS_succ (h : Nat) (f : Nat → Nat → Int) : DS (h + 1) f = DS h f + DS h (fun a b => f a (2 ^ h + b)) + (DS h (fun a b => f (2 ^ h + a) b) + DS h (fun a b => f (2 ^ h + a) (2 ^ h + b))) := by
  have e1 : fb_si (fun a => fb_si (fun b => f a b) (2 ^ (h + 1))) (2 ^ h) = DS h f + DS h (fun a b => f a (2 ^ h + b)) := by
    unfold DS
    rw [← fb_si_add]
    exact fb_si_cong (fun a _ => si_two (fun b => f a b) h)
  have e2 : fb_si (fun a => fb_si (fun b => f (2 ^ h + a) b) (2 ^ (h + 1))) (2 ^ h) = DS h (fun a b => f (2 ^ h + a) b) + DS h (fun a b => f (2 ^ h + a) (2 ^ h + b)) := by
    unfold DS
    rw [← fb_si_add]
    exact fb_si_cong (fun a _ => si_two (fun b => f (2 ^ h + a) b) h)
  rw [← e1, ← e2]
  exact si_two _ h
theorem top_b {n y : Nat} (hy : y < 2 ^ n) (i : Nat) : (2 ^ n + y).testBit i = (y.testBit i || decide (i = n)) := by
  rw [Nat.add_comm, add_or hy]; exact fb_bit_set y n i
theorem or_t0 {n a b : Nat} (ha : a < 2 ^ n) (hb : b < 2 ^ n) : a ||| (2 ^ n + b) = 2 ^ n + (a ||| b) := by
  apply Nat.eq_of_testBit_eq
  intro i
  rw [Nat.testBit_or, top_b hb, top_b (Nat.or_lt_two_pow ha hb), Nat.testBit_or, Bool.or_assoc]
theorem or_t1 {n a b : Nat} (ha : a < 2 ^ n) (hb : b < 2 ^ n) : (2 ^ n + a) ||| b = 2 ^ n + (a ||| b) := by
  rw [Nat.or_comm, or_t0 hb ha, Nat.or_comm]
theorem or_t2 {n a b : Nat} (ha : a < 2 ^ n) (hb : b < 2 ^ n) : (2 ^ n + a) ||| (2 ^ n + b) = 2 ^ n + (a ||| b) := by
  apply Nat.eq_of_testBit_eq
  intro i
  rw [Nat.testBit_or, top_b ha, top_b hb, top_b (Nat.or_lt_two_pow ha hb), Nat.testBit_or]
  cases a.testBit i <;> cases b.testBit i <;> cases decide (i = n) <;> rfl
theorem and_t0 {n a b : Nat} (ha : a < 2 ^ n) (hb : b < 2 ^ n) : a &&& (2 ^ n + b) = a &&& b := by
  apply Nat.eq_of_testBit_eq
  intro i
  rw [Nat.testBit_and, top_b hb, Nat.testBit_and]
  by_cases q : i = n
  · subst q; rw [Nat.testBit_lt_two_pow ha]; rfl
  · rw [decide_eq_false q, Bool.or_false]
theorem and_t1 {n a b : Nat} (ha : a < 2 ^ n) (hb : b < 2 ^ n) : (2 ^ n + a) &&& b = a &&& b := by
  rw [Nat.and_comm, and_t0 hb ha, Nat.and_comm]
theorem and_t2 {n a b : Nat} (ha : a < 2 ^ n) (hb : b < 2 ^ n) : (2 ^ n + a) &&& (2 ^ n + b) = 2 ^ n + (a &&& b) := by
  apply Nat.eq_of_testBit_eq
  intro i
  rw [Nat.testBit_and, top_b ha, top_b hb, top_b (Nat.and_lt_two_pow a hb), Nat.testBit_and]
  cases a.testBit i <;> cases b.testBit i <;> cases decide (i = n) <;> rfl
theorem pc_sub {E B : Nat} (h : B &&& E = B) (n : Nat) : pcN n B ≤ pcN n E := by
  refine fb_ct_sub (fun k _ hk => ?_)
  have : (B &&& E).testBit k = B.testBit k := by rw [h]
  rw [Nat.testBit_and, hk] at this
  simpa using this
def prT (h : Nat) (f : Nat → Nat → Int) (E B : Nat) : Int := if B &&& E = B then ((2 ^ (pcN h E - pcN h B) : Nat) : Int) * f E B else 0
theorem pair_sum : ∀ (h : Nat) (f : Nat → Nat → Int), DS h (fun a b => f (a ||| b) (a &&& b)) = DS h (prT h f) := by
  intro h
  induction h with
  | zero =>
    intro f
    show (0 : Int) + (0 + f 0 0) = 0 + (0 + prT 0 f 0 0)
    unfold prT
    rw [if_pos (Nat.zero_and 0)]
    show (0 : Int) + (0 + f 0 0) = 0 + (0 + 1 * f 0 0)
    rw [Int.one_mul]
  | succ h ih =>
    intro f
    rw [DS_succ, DS_succ]
    have a1 : DS h (fun a b => f (a ||| (2 ^ h + b)) (a &&& (2 ^ h + b))) = DS h (fun a b => (fun E B => f (2 ^ h + E) B) (a ||| b) (a &&& b)) := DS_cong (fun a ha b hb => by rw [or_t0 ha hb, and_t0 ha hb])
    have a2 : DS h (fun a b => f ((2 ^ h + a) ||| b) ((2 ^ h + a) &&& b)) = DS h (fun a b => (fun E B => f (2 ^ h + E) B) (a ||| b) (a &&& b)) := DS_cong (fun a ha b hb => by rw [or_t1 ha hb, and_t1 ha hb])
    have a3 : DS h (fun a b => f ((2 ^ h + a) ||| (2 ^ h + b)) ((2 ^ h + a) &&& (2 ^ h + b))) = DS h (fun a b => (fun E B => f (2 ^ h + E) (2 ^ h + B)) (a ||| b) (a &&& b)) := DS_cong (fun a ha b hb => by rw [or_t2 ha hb, and_t2 ha hb])
    have b0 : DS h (prT (h + 1) f) = DS h (prT h f) := DS_cong (fun a ha b hb => by unfold prT; rw [pc_low ha, pc_low hb])
    have b1 : DS h (fun a b => prT (h + 1) f a (2 ^ h + b)) = 0 := by
      refine DS_all0 (fun a ha b hb => ?_)
      unfold prT
      rw [and_t1 hb ha]
      have := Nat.lt_of_le_of_lt (Nat.and_le_left (n := b) (m := a)) hb
      rw [if_neg (by omega)]
    have b2 : DS h (fun a b => prT (h + 1) f (2 ^ h + a) b) = 2 * DS h (prT h (fun E B => f (2 ^ h + E) B)) := by
      rw [← DS_mul]
      refine DS_cong (fun a ha b hb => ?_)
      unfold prT
      rw [and_t0 hb ha, pc_low hb, pc_top ha]
      by_cases q : b &&& a = b
      · have hle := pc_sub q h
        rw [if_pos q, if_pos q, show pcN h a + 1 - pcN h b = pcN h a - pcN h b + 1 by omega, Nat.pow_succ, ← Int.mul_assoc]
        congr 1
        omega
      · rw [if_neg q, if_neg q]; rfl
    have b3 : DS h (fun a b => prT (h + 1) f (2 ^ h + a) (2 ^ h + b)) = DS h (prT h (fun E B => f (2 ^ h + E) (2 ^ h + B))) := by
      refine DS_cong (fun a ha b hb => ?_)
      unfold prT
      rw [and_t2 hb ha, pc_top hb, pc_top ha, show pcN h a + 1 - (pcN h b + 1) = pcN h a - pcN h b by omega]
      by_cases q : b &&& a = b
      · rw [if_pos q, if_pos (by rw [q])]
      · rw [if_neg q, if_neg (by omega)]
    rw [a1, a2, a3, b0, b1, b2, b3, ih f, ih (fun E B => f (2 ^ h + E) B), ih (fun E B => f (2 ^ h + E) (2 ^ h + B))]
    omega
theorem si_mul (f : Nat → Int) (n : Nat) : ∀ m, fb_si f (n * m) = fb_si (fun i => fb_si (fun j => f (n * i + j)) n) m := by
  intro m
  induction m with
  | zero => rfl
  | succ m ih => rw [Nat.mul_succ, fb_si_split, ih, fb_si_succ]
theorem pc_oa (a b : Nat) : ∀ n, pcN n (a ||| b) + pcN n (a &&& b) = pcN n a + pcN n b := by
  intro n
  induction n with
  | zero => rfl
  | succ n ih =>
    rw [pc_succ, pc_succ, pc_succ, pc_succ, Nat.testBit_and, Nat.testBit_or]
    cases a.testBit n <;> cases b.testBit n <;> simp only [Bool.false_and, Bool.true_and, Bool.or_false, Bool.or_true, Bool.false_eq_true, if_true, if_false, reduceIte] <;> omega
theorem pc_two {h a b : Nat} (hb : b < 2 ^ h) : pcN (h + h) (2 ^ h * a + b) = pcN h b + pcN h a := by
  have e1 : (2 ^ h * a + b) / 2 ^ h = a := by
    rw [Nat.mul_add_div (Nat.two_pow_pos h), Nat.div_eq_of_lt hb, Nat.add_zero]
  have e2 : (2 ^ h * a + b) % 2 ^ h = b := by
    rw [Nat.mul_add_mod, Nat.mod_eq_of_lt hb]
  have e3 := pc_mod (Nat.le_refl h) (2 ^ h * a + b)
  rw [e2] at e3
  rw [pc_split, e1, e3]
/-- the losing of places -/
theorem ls_0 {h a b : Nat} (h0 : 0 < h) (ha : a < 2 ^ h) (hb : b < 2 ^ h) : rowOfB (lsN h (h + h) (2 ^ h * a + b)) (h + h) = 2 ^ h * (a &&& b) + (a ||| b) := by
  apply Nat.eq_of_testBit_eq
  intro i
  rw [rb_b, Nat.testBit_two_pow_mul_add _ (Nat.or_lt_two_pow ha hb)]
  unfold lsN
  simp only [Nat.testBit_two_pow_mul_add _ hb]
  by_cases q : i < h
  · have d0 : i / h % 2 = 0 := by rw [Nat.div_eq_of_lt q]
    simp only [if_pos q, if_pos d0, if_neg (show ¬ i + h < h by omega), decide_eq_true (show i < h + h by omega), show i + h - h = i by omega, Nat.testBit_or, Bool.true_and]
    exact Bool.or_comm _ _
  · by_cases q2 : i < h + h
    · have d0 : ¬ i / h % 2 = 0 := by
        rw [show i / h = 1 from Nat.div_eq_of_lt_le (by omega) (by omega)]
        decide
      simp only [if_neg q, if_neg d0, if_pos (show i - h < h by omega), decide_eq_true q2, Nat.testBit_and, Bool.true_and]
      exact Bool.and_comm _ _
    · have hz : a.testBit (i - h) = false := Nat.testBit_lt_two_pow (Nat.lt_of_lt_of_le ha (Nat.pow_le_pow_right (by decide) (show h ≤ i - h by omega)))
      simp only [if_neg q, decide_eq_false q2, Bool.false_and, Nat.testBit_and, hz]
theorem ls_1 {q h u v : Nat} (hu : u < 2 ^ h) (hv : v < 2 ^ h) (H1 : ∀ p, p < h → p / q % 2 = 0 → p + q < h) (H3 : ∀ p, h ≤ p → p / q % 2 = (p - h) / q % 2) (H4 : ∀ p, h ≤ p → p - h < h → ¬ p / q % 2 = 0 → q + h ≤ p) : rowOfB (lsN q (h + h) (2 ^ h * v + u)) (h + h) = 2 ^ h * rowOfB (lsN q h v) h + rowOfB (lsN q h u) h := by
  apply Nat.eq_of_testBit_eq
  intro i
  rw [rb_b, Nat.testBit_two_pow_mul_add _ (rb_lt _ h), rb_b, rb_b]
  unfold lsN
  simp only [Nat.testBit_two_pow_mul_add _ hu]
  by_cases c : i < h
  · by_cases d : i / q % 2 = 0
    · simp only [if_pos c, if_pos d, if_pos (H1 i c d), decide_eq_true (show i < h + h by omega), decide_eq_true c]
    · simp only [if_pos c, if_neg d, if_pos (show i - q < h by omega), decide_eq_true (show i < h + h by omega), decide_eq_true c]
  · have h3 := H3 i (by omega)
    by_cases c2 : i < h + h
    · by_cases d : (i - h) / q % 2 = 0
      · have := H1 (i - h) (by omega) d
        simp only [if_neg c, h3, if_pos d, if_neg (show ¬ i + q < h by omega), show i + q - h = i - h + q by omega, decide_eq_true c2, decide_eq_true (show i - h < h by omega)]
      · have := H4 i (by omega) (by omega) (by rw [h3]; exact d)
        simp only [if_neg c, h3, if_neg d, if_neg (show ¬ i - q < h by omega), show i - q - h = i - h - q by omega, decide_eq_true c2, decide_eq_true (show i - h < h by omega)]
    · simp only [if_neg c, decide_eq_false c2, decide_eq_false (show ¬ i - h < h by omega), Bool.false_and]
def LPh (h v : Nat) : Nat := match h with
  | 1 => v
  | 2 => rowOfB (lsN 1 2 v) 2
  | 4 => rowOfB (lsN 1 4 (rowOfB (lsN 2 4 v) 4)) 4
  | _ => rowOfB (lsN 1 8 (rowOfB (lsN 2 8 (rowOfB (lsN 4 8 v) 8)) 8)) 8
theorem lost_two {N h a b : Nat} (hN : Nok4 N) (hh : N = h + h) (ha : a < 2 ^ h) (hb : b < 2 ^ h) : lostN N (2 ^ h * a + b) = 2 ^ h * LPh h (a &&& b) + LPh h (a ||| b) ∧ LPh h (a ||| b) < 2 ^ h := by
  have ho := Nat.or_lt_two_pow ha hb
  have hd := Nat.and_lt_two_pow a hb
  rcases hN with rfl | rfl | rfl | rfl
  · obtain rfl : h = 1 := by omega
    exact ⟨ls_0 (h := 1) (by decide) ha hb, ho⟩
  · obtain rfl : h = 2 := by omega
    refine ⟨?_, rb_lt _ 2⟩
    have e := ls_0 (h := 2) (by decide) ha hb
    show rowOfB (lsN 1 (2 + 2) (rowOfB (lsN 2 (2 + 2) (2 ^ 2 * a + b)) (2 + 2))) (2 + 2) = _
    rw [e, ls_1 (q := 1) (h := 2) ho hd (by omega) (by omega) (by omega)]
    rfl
  · obtain rfl : h = 4 := by omega
    refine ⟨?_, rb_lt _ 4⟩
    have e := ls_0 (h := 4) (by decide) ha hb
    show rowOfB (lsN 1 (4 + 4) (rowOfB (lsN 2 (4 + 4) (rowOfB (lsN 4 (4 + 4) (2 ^ 4 * a + b)) (4 + 4))) (4 + 4))) (4 + 4) = _
    rw [e, ls_1 (q := 2) (h := 4) ho hd (by omega) (by omega) (by omega), ls_1 (q := 1) (h := 4) (rb_lt _ 4) (rb_lt _ 4) (by omega) (by omega) (by omega)]
    rfl
  · obtain rfl : h = 8 := by omega
    refine ⟨?_, rb_lt _ 8⟩
    have e := ls_0 (h := 8) (by decide) ha hb
    show rowOfB (lsN 1 (8 + 8) (rowOfB (lsN 2 (8 + 8) (rowOfB (lsN 4 (8 + 8) (rowOfB (lsN 8 (8 + 8) (2 ^ 8 * a + b)) (8 + 8))) (8 + 8))) (8 + 8))) (8 + 8) = _
    rw [e, ls_1 (q := 4) (h := 8) ho hd (by omega) (by omega) (by omega), ls_1 (q := 2) (h := 8) (rb_lt _ 8) (rb_lt _ 8) (by omega) (by omega) (by omega), ls_1 (q := 1) (h := 8) (rb_lt _ 8) (rb_lt _ 8) (by omega) (by omega) (by omega)]
    rfl
def kBad (h G E B : Nat) : Bool := (LPh h E &&& (G % 2 ^ h) != 0) || (LPh h B &&& (G / 2 ^ h) != 0)
theorem and_two (h G u v : Nat) (hu : u < 2 ^ h) : ((2 ^ h * v + u) &&& G != 0) = ((u &&& (G % 2 ^ h) != 0) || (v &&& (G / 2 ^ h) != 0)) := by
  have e1 : ((2 ^ h * v + u) &&& G) % 2 ^ h = u &&& (G % 2 ^ h) := by
    rw [Nat.and_mod_two_pow, Nat.mul_add_mod, Nat.mod_eq_of_lt hu]
  have e2 : ((2 ^ h * v + u) &&& G) / 2 ^ h = v &&& (G / 2 ^ h) := by
    rw [Nat.and_div_two_pow, Nat.mul_add_div (Nat.two_pow_pos h), Nat.div_eq_of_lt hu, Nat.add_zero]
  rw [← e1, ← e2]
  generalize (2 ^ h * v + u) &&& G = X
  have e3 := Nat.div_add_mod X (2 ^ h)
  by_cases c1 : X % 2 ^ h = 0
  · by_cases c2 : X / 2 ^ h = 0
    · have : X = 0 := by rw [← e3, c1, c2, Nat.mul_zero]
      rw [this]; simp
    · have : X ≠ 0 := fun z => c2 (by rw [z]; simp)
      rw [bne_iff_ne.mpr this, bne_iff_ne.mpr c2, Bool.or_true]
  · have : X ≠ 0 := fun z => c1 (by rw [z]; simp)
    rw [bne_iff_ne.mpr this, bne_iff_ne.mpr c1, Bool.true_or]
theorem CF_pair {N h : Nat} (hN : Nok4 N) (hh : N = h + h) (G t : Nat) : (CF N G t : Int) = fb_si (fun E => fb_si (fun m => (fun B => ((2 ^ (pcN h E - pcN h B) : Nat) : Int) * bZ (pcN h E + pcN h B == t && kBad h G E B)) (spN E m h)) (2 ^ pcN h E)) (2 ^ h) := by
  have e1 : (CF N G t : Int) = fb_si (fun x => bZ (pcN N x == t && (lostN N x &&& G != 0))) (2 ^ N) := (si_ct _ _).symm
  rw [e1, show 2 ^ N = 2 ^ h * 2 ^ h by rw [hh, Nat.pow_add], si_mul]
  have e2 : fb_si (fun i => fb_si (fun j => bZ (pcN N (2 ^ h * i + j) == t && (lostN N (2 ^ h * i + j) &&& G != 0))) (2 ^ h)) (2 ^ h) = DS h (fun a b => (fun E B => bZ (pcN h E + pcN h B == t && kBad h G E B)) (a ||| b) (a &&& b)) := DS_cong (fun a ha b hb => by
    obtain ⟨l1, l2⟩ := lost_two hN hh ha hb
    have e3 : pcN N (2 ^ h * a + b) = pcN h (a ||| b) + pcN h (a &&& b) := by
      rw [hh, pc_two hb, pc_oa, Nat.add_comm]
    rw [e3, l1, and_two h G _ _ l2]
    rfl)
  rw [e2, pair_sum h (fun E B => bZ (pcN h E + pcN h B == t && kBad h G E B))]
  refine fb_si_cong (fun E hE => ?_)
  rw [kSub E h (fun B => ((2 ^ (pcN h E - pcN h B) : Nat) : Int) * bZ (pcN h E + pcN h B == t && kBad h G E B))]
  rfl
