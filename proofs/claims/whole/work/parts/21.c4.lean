/-! the reference's counts -/
def od1 (s v : Nat) : Nat := v ^^^ v / 2 ^ s
theorem od_x (s a b : Nat) : od1 s (a ^^^ b) = od1 s a ^^^ od1 s b := by
  unfold od1
  rw [Nat.xor_div_two_pow]
  apply Nat.eq_of_testBit_eq
  intro i
  simp only [Nat.testBit_xor]
  cases a.testBit i <;> cases b.testBit i <;> cases (a / 2 ^ s).testBit i <;> cases (b / 2 ^ s).testBit i <;> rfl
theorem od_lt {s v : Nat} (h : v < 2 ^ 16) : od1 s v < 2 ^ 16 := Nat.xor_lt_two_pow h (Nat.lt_of_le_of_lt (Nat.div_le_self _ _) h)
theorem pc_x0 (a b : Nat) : ∀ n, pcN n (a ^^^ b) % 2 = (pcN n a + pcN n b) % 2 := by
  intro n
  induction n with
  | zero => rfl
  | succ n ih =>
    rw [pc_succ, pc_succ, pc_succ, Nat.testBit_xor]
    cases a.testBit n <;> cases b.testBit n <;> simp only [Bool.xor_false, Bool.false_xor, Bool.xor_self, Bool.xor_true, Bool.true_xor, Bool.not_false, Bool.not_true, Bool.false_eq_true, if_true, if_false, reduceIte] <;> omega
theorem od_b : ∀ j, j < 16 → (od1 1 (od1 2 (od1 4 (od1 8 (od1 16 (2 ^ j)))))).testBit 0 = decide (pcN 16 (2 ^ j) % 2 = 1) := by decide +kernel
theorem od_par {v : Nat} (hv : v < 2 ^ 16) : (od1 1 (od1 2 (od1 4 (od1 8 (od1 16 v))))).testBit 0 = decide (pcN 16 v % 2 = 1) :=
  lin_ext (f := fun v => (od1 1 (od1 2 (od1 4 (od1 8 (od1 16 v))))).testBit 0) (g := fun v => decide (pcN 16 v % 2 = 1)) (fun a b => by
    show (od1 1 (od1 2 (od1 4 (od1 8 (od1 16 (a ^^^ b)))))).testBit 0 = _
    rw [od_x, od_x, od_x, od_x, od_x, Nat.testBit_xor]) (fun a b => by
    show decide (pcN 16 (a ^^^ b) % 2 = 1) = (decide (pcN 16 a % 2 = 1) ^^ decide (pcN 16 b % 2 = 1))
    rw [pc_x0]
    by_cases h1 : pcN 16 a % 2 = 1 <;> by_cases h2 : pcN 16 b % 2 = 1
    · rw [decide_eq_true h1, decide_eq_true h2, decide_eq_false (by omega)]; rfl
    · rw [decide_eq_true h1, decide_eq_false h2, decide_eq_true (by omega)]; rfl
    · rw [decide_eq_false h1, decide_eq_true h2, decide_eq_true (by omega)]; rfl
    · rw [decide_eq_false h1, decide_eq_false h2, decide_eq_false (by omega)]; rfl) 16 od_b v hv
theorem e_od {v s : Nat} (hv : v < 2 ^ 16) (hs : s < 64) : lN v ^^^ gLshr (lN v) (nI s) = lN (od1 s v) := by
  rw [e_shrN (by omega) hs, fb_xorL]; rfl
theorem e_isOdd (K : Nat) {N v : Nat} (hN : N ≤ 16) (hv : v < 2 ^ N) : f_X10_isOdd K (lN v) = some (bI (decide (pcN N v % 2 = 1))) := by
  have hp : 2 ^ N ≤ 2 ^ 16 := Nat.pow_le_pow_right (by decide) hN
  have h0 : v < 2 ^ 16 := by omega
  have h1 := od_lt (s := 16) h0
  have h2 := od_lt (s := 8) h1
  have h3 := od_lt (s := 4) h2
  have h4 := od_lt (s := 2) h3
  have h5 := od_lt (s := 1) h4
  have e1 : lN v ^^^ gLshr (lN v) 16 = lN (od1 16 v) := e_od (s := 16) h0 (by decide)
  have e2 : lN (od1 16 v) ^^^ gLshr (lN (od1 16 v)) 8 = lN (od1 8 (od1 16 v)) := e_od (s := 8) h1 (by decide)
  have e3 : lN (od1 8 (od1 16 v)) ^^^ gLshr (lN (od1 8 (od1 16 v))) 4 = lN (od1 4 (od1 8 (od1 16 v))) := e_od (s := 4) h2 (by decide)
  have e4 : lN (od1 4 (od1 8 (od1 16 v))) ^^^ gLshr (lN (od1 4 (od1 8 (od1 16 v)))) 2 = lN (od1 2 (od1 4 (od1 8 (od1 16 v)))) := e_od (s := 2) h3 (by decide)
  have e5 : lN (od1 2 (od1 4 (od1 8 (od1 16 v)))) ^^^ gLshr (lN (od1 2 (od1 4 (od1 8 (od1 16 v))))) 1 = lN (od1 1 (od1 2 (od1 4 (od1 8 (od1 16 v))))) := e_od (s := 1) h4 (by decide)
  unfold f_X10_isOdd
  simp only [gLet]
  rw [e1, e2, e3, e4, e5, wb_a1 (by omega)]
  have e6 := bit_mod (od1 1 (od1 2 (od1 4 (od1 8 (od1 16 v))))) 0
  rw [Nat.pow_zero, Nat.div_one, od_par h0] at e6
  rw [e6, ← pc_lt hN hv]
  cases decide (pcN 16 v % 2 = 1) with
  | false => rw [if_neg nft, if_neg (by decide)]; rfl
  | true => rw [if_pos rfl, if_pos (by decide)]; rfl
def orP (N G x k : Nat) : Prop := ∀ p, p < N → G.testBit p = true → k ≤ pcN p G → pcN N (x &&& FO N (2 ^ p)) % 2 = 0
theorem l_isAcross (K : Nat) {N G x : Nat} (hN : Nok4 N) (hx : x < 2 ^ N) (gv : Nat → Int64) (hv : ∀ p, p < N → G.testBit p = true → gv (pcN p G) = lN (FO N (2 ^ p))) : ∀ (m k f : Nat), k + m = pcN N G → m < f → ∃ r : Int32, fL_X10_isAcross_2 K (lN x) (nI (pcN N G)) gv f (nI k) = some r ∧ ((r = 1 ∧ orP N G x k) ∨ (r = 0 ∧ ¬ orP N G x k)) := by
  have hN16 : N ≤ 16 := by rcases hN with rfl | rfl | rfl | rfl <;> omega
  have hpN := pc_le N G
  intro m
  induction m with
  | zero =>
    intro k f hi hk
    obtain ⟨f, rfl⟩ : ∃ q, f = q + 1 := ⟨f - 1, by omega⟩
    refine ⟨1, by rw [fL_X10_isAcross_2, if_pos (nI_le (by omega) (by omega))], Or.inl ⟨rfl, ?_⟩⟩
    intro p hp hg hkp
    have h1 := pc_mono G (show p + 1 ≤ N by omega)
    rw [pc_succ, hg, if_pos rfl] at h1
    omega
  | succ m ih =>
    intro k f hi hk
    obtain ⟨f, rfl⟩ : ∃ q, f = q + 1 := ⟨f - 1, by omega⟩
    obtain ⟨p0, hp0, hg0, hk0⟩ := fb_ct_kth (p := fun j => G.testBit j) (k := k) (n := N) (show k < pcN N G by omega)
    have hk0 : pcN p0 G = k := hk0
    have hvk := hv p0 hp0 hg0
    rw [hk0] at hvk
    have hlt : x &&& FO N (2 ^ p0) < 2 ^ N := Nat.lt_of_le_of_lt Nat.and_le_left hx
    rw [fL_X10_isAcross_2, if_neg (nI_ge (show k < pcN N G by omega) (by omega)), gIx_nI _ (show k < 32 by omega) (by decide), tnN (by omega), hvk, fb_andL, e_isOdd K hN16 hlt, Option.bind_some]
    by_cases q : pcN N (x &&& FO N (2 ^ p0)) % 2 = 1
    · rw [decide_eq_true q, if_neg (show ¬ bI true = 0 by decide)]
      refine ⟨0, rfl, Or.inr ⟨rfl, fun h => ?_⟩⟩
      have := h p0 hp0 hg0 (by omega)
      omega
    · rw [decide_eq_false q, if_pos (show bI false = 0 by rfl), gLet, nI_1]
      obtain ⟨r, r1, r2⟩ := ih (k + 1) f (by omega) (by omega)
      have heq : orP N G x k ↔ orP N G x (k + 1) := by
        constructor
        · intro h p hp hg hkp
          exact h p hp hg (by omega)
        · intro h p hp hg hkp
          by_cases c : pcN p G = k
          · have : p = p0 := fb_ct_kth_one (p := fun j => G.testBit j) hg hg0 (show pcN p G = pcN p0 G by rw [c, hk0])
            rw [this]
            omega
          · exact h p hp hg (by omega)
      refine ⟨r, r1, ?_⟩
      rw [heq]
      exact r2
theorem e_isAcross (K : Nat) (hK : 200000 ≤ K) {N G x : Nat} (hN : Nok4 N) (hx : x < 2 ^ N) (gv : Nat → Int64) (hv : ∀ p, p < N → G.testBit p = true → gv (pcN p G) = lN (FO N (2 ^ p))) : f_X10_isAcross K (lN x) (nI (pcN N G)) gv = some (bI (orN N G x)) := by
  have hN16 : N ≤ 16 := by rcases hN with rfl | rfl | rfl | rfl <;> omega
  have hpN := pc_le N G
  obtain ⟨r, r1, r2⟩ := l_isAcross K hN hx gv hv (pcN N G) 0 K (by omega) (by omega)
  have r1' : fL_X10_isAcross_2 K (lN x) (nI (pcN N G)) gv K 0 = some r := r1
  rw [f_X10_isAcross, r1']
  unfold orN
  rcases r2 with ⟨rfl, h⟩ | ⟨rfl, h⟩
  · rw [decide_eq_true (show ∀ p, p < N → G.testBit p = true → pcN N (x &&& FO N (2 ^ p)) % 2 = 0 from fun p hp hg => h p hp hg (by omega))]; rfl
  · rw [decide_eq_false (show ¬ ∀ p, p < N → G.testBit p = true → pcN N (x &&& FO N (2 ^ p)) % 2 = 0 from fun z => h (fun p hp hg _ => z p hp hg))]; rfl
/-- a stage of the losing, block by block -/
theorem ls_step {v f h : Nat} (hv : v < 2 ^ 64) (i : Nat) : ((v &&& ((((2 ^ h - 1) * 2 ^ h ||| (2 ^ h - 1)) * 2 ^ f) ^^^ (2 ^ 64 - 1))) ||| ((v / 2 ^ f % 2 ^ h ||| v / 2 ^ (f + h) % 2 ^ h) * 2 ^ f ||| (v / 2 ^ f % 2 ^ h &&& v / 2 ^ (f + h) % 2 ^ h) * 2 ^ (f + h))).testBit i = if f ≤ i ∧ i < f + h then (v.testBit i || v.testBit (i + h)) else if f + h ≤ i ∧ i < f + 2 * h then (v.testBit (i - h) && v.testBit i) else v.testBit i := by
  rw [Nat.testBit_or, andn_b hv]
  simp only [Nat.testBit_or, tb_mul, Nat.testBit_two_pow_sub_one, Nat.testBit_and, Nat.testBit_mod_two_pow, Nat.testBit_div_two_pow]
  by_cases c1 : f ≤ i
  · by_cases c2 : i < f + h
    · rw [if_pos ⟨c1, c2⟩]
      simp only [decide_eq_true c1, decide_eq_false (show ¬ h ≤ i - f by omega), decide_eq_true (show i - f < h by omega), decide_eq_false (show ¬ f + h ≤ i by omega), show i - f + f = i by omega, show i - f + (f + h) = i + h by omega, Bool.true_and, Bool.false_and, Bool.false_or, Bool.or_false, Bool.not_true, Bool.and_false]
    · rw [if_neg (by omega)]
      by_cases c3 : i < f + 2 * h
      · rw [if_pos ⟨by omega, c3⟩]
        simp only [decide_eq_true c1, decide_eq_true (show h ≤ i - f by omega), decide_eq_true (show i - f - h < h by omega), decide_eq_false (show ¬ i - f < h by omega), decide_eq_true (show f + h ≤ i by omega), decide_eq_true (show i - (f + h) < h by omega), show i - (f + h) + f = i - h by omega, show i - (f + h) + (f + h) = i by omega, Bool.true_and, Bool.false_and, Bool.false_or, Bool.or_false, Bool.not_true, Bool.and_false, Bool.true_or]
      · rw [if_neg (by omega)]
        simp only [decide_eq_true c1, decide_eq_true (show h ≤ i - f by omega), decide_eq_false (show ¬ i - f - h < h by omega), decide_eq_false (show ¬ i - f < h by omega), decide_eq_true (show f + h ≤ i by omega), decide_eq_false (show ¬ i - (f + h) < h by omega), Bool.true_and, Bool.false_and, Bool.false_or, Bool.or_false, Bool.not_false, Bool.and_false, Bool.and_true]
  · rw [if_neg (by omega), if_neg (by omega)]
    simp only [decide_eq_false c1, decide_eq_false (show ¬ f + h ≤ i by omega), Bool.false_and, Bool.false_or, Bool.or_false, Bool.not_false, Bool.and_true]
theorem l_failI (K n h : Nat) (hn : n ≤ 16) (h0 : 0 < h) (h1 : h ≤ 8) : ∀ (m t k v : Nat), 2 * h * t + 2 * h * m = n → m < k → v < 2 ^ n → ∃ v', fL_X10_isFailing_18 K (nI h) (nI n) k (nI (2 * h * t), lN v) = some (nI n, lN v') ∧ v' < 2 ^ n ∧ ∀ i, v'.testBit i = if 2 * h * t ≤ i ∧ i < n then lsN h n v i else v.testBit i := by
  have hp16 : 2 ^ n ≤ 2 ^ 16 := Nat.pow_le_pow_right (by decide) hn
  intro m
  induction m with
  | zero =>
    intro t k v ht hk hv
    obtain ⟨k, rfl⟩ : ∃ q, k = q + 1 := ⟨k - 1, by omega⟩
    have e : 2 * h * t = n := by omega
    refine ⟨v, by rw [fL_X10_isFailing_18, e, if_pos (nI_le (Nat.le_refl _) (by omega))], hv, fun i => ?_⟩
    rw [e, if_neg (by omega)]
  | succ m ih =>
    intro t k v ht hk hv
    obtain ⟨k, rfl⟩ : ∃ q, k = q + 1 := ⟨k - 1, by omega⟩
    have e2 : 2 * h * (t + 1) = 2 * h * t + 2 * h := by rw [Nat.mul_add, Nat.mul_one]
    have e3 : 2 * h * (m + 1) = 2 * h * m + 2 * h := by rw [Nat.mul_add, Nat.mul_one]
    obtain ⟨f, hf⟩ : ∃ f, f = 2 * h * t := ⟨_, rfl⟩
    have hfn : f + 2 * h ≤ n := by omega
    obtain ⟨v1, hv1⟩ : ∃ v1, v1 = (v &&& ((((2 ^ h - 1) * 2 ^ h ||| (2 ^ h - 1)) * 2 ^ f) ^^^ (2 ^ 64 - 1))) ||| ((v / 2 ^ f % 2 ^ h ||| v / 2 ^ (f + h) % 2 ^ h) * 2 ^ f ||| (v / 2 ^ f % 2 ^ h &&& v / 2 ^ (f + h) % 2 ^ h) * 2 ^ (f + h)) := ⟨_, rfl⟩
    have hb1 : ∀ i, v1.testBit i = if f ≤ i ∧ i < f + h then (v.testBit i || v.testBit (i + h)) else if f + h ≤ i ∧ i < f + 2 * h then (v.testBit (i - h) && v.testBit i) else v.testBit i := fun i => by
      rw [hv1]
      exact ls_step (by omega) i
    have hv1n : v1 < 2 ^ n := by
      apply Nat.lt_pow_two_of_testBit
      intro i hi
      rw [hb1, if_neg (by omega), if_neg (by omega)]
      exact Nat.testBit_lt_two_pow (Nat.lt_of_lt_of_le hv (Nat.pow_le_pow_right (by decide) hi))
    obtain ⟨v', r1, r2, r3⟩ := ih (t + 1) k v1 (by omega) (by omega) hv1n
    refine ⟨v', ?_, r2, ?_⟩
    · have e4 : ∀ X : Nat, gLshl (lN X) (nI f) = lN (X * 2 ^ f) := fun X => wb_shl X (by omega)
      have e5 : nI f + 2 * nI h = nI (2 * h * (t + 1)) := by
        have : (2 : Int32) * nI h = nI (2 * h) := pk_mul 2 h
        rw [this, nI_add]
        congr 1
        omega
      have e6 : gLshl (lN (2 ^ h - 1)) (nI h) = lN ((2 ^ h - 1) * 2 ^ h) := wb_shl _ (by omega)
      have e7 : ∀ X : Nat, gLshl (lN X) (nI (f + h)) = lN (X * 2 ^ (f + h)) := fun X => wb_shl X (by omega)
      rw [fL_X10_isFailing_18, ← hf, if_neg (nI_ge (show f < n by omega) (by omega))]
      simp only [gLet]
      rw [e_mask1 (by omega), nI_add, e_shrN (by omega) (by omega), e_shrN (by omega) (by omega), fb_andL, fb_andL, Nat.and_two_pow_sub_one_eq_mod, Nat.and_two_pow_sub_one_eq_mod, e6, fb_orL, e4, e_m1, fb_xorL, fb_andL, fb_orL, fb_andL, e4, e7, fb_orL, fb_orL, ← hv1, e5]
      exact r1
    · intro i
      rw [r3, e2, ← hf]
      by_cases c0 : i < n
      · by_cases c1 : f ≤ i
        · rw [if_pos (show f ≤ i ∧ i < n from ⟨c1, c0⟩)]
          by_cases c2 : f + 2 * h ≤ i
          · rw [if_pos ⟨c2, c0⟩]
            unfold lsN
            have a1 : v1.testBit i = v.testBit i := by rw [hb1, if_neg (by omega), if_neg (by omega)]
            have a2 : v1.testBit (i + h) = v.testBit (i + h) := by rw [hb1, if_neg (by omega), if_neg (by omega)]
            by_cases d : i / h % 2 = 0
            · rw [if_pos d, if_pos d, a1, a2]
            · have d1 : 2 * t + 2 ≤ i / h := by
                rw [Nat.le_div_iff_mul_le h0, Nat.add_mul, Nat.mul_comm (2 * t) h, ← Nat.mul_assoc, Nat.mul_comm h 2, ← hf]
                exact c2
              have d2 : 2 * t + 3 ≤ i / h := by omega
              rw [Nat.le_div_iff_mul_le h0, Nat.add_mul, Nat.mul_comm (2 * t) h, ← Nat.mul_assoc, Nat.mul_comm h 2, ← hf] at d2
              have a3 : v1.testBit (i - h) = v.testBit (i - h) := by rw [hb1, if_neg (by omega), if_neg (by omega)]
              rw [if_neg d, if_neg d, a1, a3]
          · rw [if_neg (show ¬ (f + 2 * h ≤ i ∧ i < n) by omega), hb1]
            unfold lsN
            by_cases c3 : i < f + h
            · have hd : i / h = 2 * t := by
                apply Nat.div_eq_of_lt_le
                · rw [Nat.mul_comm (2 * t) h, ← Nat.mul_assoc, Nat.mul_comm h 2, ← hf]; exact c1
                · rw [Nat.add_mul, Nat.one_mul, Nat.mul_comm (2 * t) h, ← Nat.mul_assoc, Nat.mul_comm h 2, ← hf]; exact c3
              rw [if_pos ⟨c1, c3⟩, if_pos (show i / h % 2 = 0 by omega)]
            · have hd : i / h = 2 * t + 1 := by
                apply Nat.div_eq_of_lt_le
                · rw [Nat.add_mul, Nat.one_mul, Nat.mul_comm (2 * t) h, ← Nat.mul_assoc, Nat.mul_comm h 2, ← hf]; omega
                · rw [Nat.add_mul, Nat.add_mul, Nat.one_mul, Nat.mul_comm (2 * t) h, ← Nat.mul_assoc, Nat.mul_comm h 2, ← hf]; omega
              rw [if_neg (by omega), if_pos (by omega), if_neg (show ¬ i / h % 2 = 0 by omega)]
        · rw [if_neg (by omega), if_neg (by omega), hb1, if_neg (by omega), if_neg (by omega)]
      · rw [if_neg (by omega), if_neg (by omega), hb1, if_neg (by omega), if_neg (by omega)]
theorem e_failI (K : Nat) (hK : 200000 ≤ K) {N q v : Nat} (hN : N ≤ 16) (h0 : 0 < q) (h1 : q ≤ 8) (m : Nat) (hm : 2 * q * m = N) (hv : v < 2 ^ N) : fL_X10_isFailing_18 K (nI q) (nI N) K (0, lN v) = some (nI N, lN (rowOfB (lsN q N v) N)) := by
  have hmk : m < K := by
    have : m ≤ 2 * q * m := Nat.le_mul_of_pos_left m (by omega)
    omega
  obtain ⟨v', r1, r2, r3⟩ := l_failI K N q hN h0 h1 m 0 K v (by rw [Nat.mul_zero, Nat.zero_add]; exact hm) hmk hv
  rw [Nat.mul_zero] at r1
  have e : v' = rowOfB (lsN q N v) N := by
    apply Nat.eq_of_testBit_eq
    intro i
    rw [r3, rb_b]
    by_cases c : i < N
    · rw [if_pos ⟨by omega, c⟩, decide_eq_true c, Bool.true_and]
    · rw [if_neg (by omega), decide_eq_false c, Bool.false_and]
      exact Nat.testBit_lt_two_pow (Nat.lt_of_lt_of_le hv (Nat.pow_le_pow_right (by decide) (by omega)))
  rw [← e]
  exact r1
theorem l_fail10 (K : Nat) (hK : 200000 ≤ K) {N q v : Nat} (k q' : Nat) (hq : q / 2 = q') (hN : N ≤ 16) (h0 : 0 < q) (h1 : q ≤ 8) (m : Nat) (hm : 2 * q * m = N) (hv : v < 2 ^ N) : fL_X10_isFailing_10 K (nI N) (k + 1) (nI q, lN v) = fL_X10_isFailing_10 K (nI N) k (nI q', lN (rowOfB (lsN q N v) N)) := by
  have e : nI q / 2 = nI q' := by
    rw [← hq]
    exact pk_div (d := 2) (by omega) (by decide) (by decide)
  rw [fL_X10_isFailing_10, if_neg (show ¬ nI q ≤ (0 : Int32) from nI_ge (a := 0) h0 (by omega)), e_failI K hK hN h0 h1 m hm hv, Option.bind_some]
  dsimp only
  rw [gLet, e]
theorem l_fail10x (K N k : Nat) (v : Int64) : fL_X10_isFailing_10 K (nI N) (k + 1) (nI 0, v) = some (nI 0, v) := by
  rw [fL_X10_isFailing_10, if_pos (by decide)]
theorem lost_lt {N v : Nat} (hN : Nok4 N) : lostN N v < 2 ^ N := by
  rcases hN with rfl | rfl | rfl | rfl
  · exact rb_lt _ 2
  · exact rb_lt _ 4
  · exact rb_lt _ 8
  · exact rb_lt _ 16
theorem e_lost10 (K : Nat) (hK : 200000 ≤ K) {N v : Nat} (hN : Nok4 N) (hv : v < 2 ^ N) : fL_X10_isFailing_10 K (nI N) K (nI (N / 2), lN v) = some (nI 0, lN (lostN N v)) := by
  obtain ⟨k, hk⟩ : ∃ k, K = k + 5 := ⟨K - 5, by omega⟩
  rcases hN with rfl | rfl | rfl | rfl
  · show fL_X10_isFailing_10 K (nI 2) K (nI 1, lN v) = some (nI 0, lN (lostN 2 v))
    conv => lhs; arg 3; rw [hk]
    rw [l_fail10 K hK (q := 1) _ 0 (by decide) (by decide) (by decide) (by decide) 1 (by decide) hv, l_fail10x]; rfl
  · show fL_X10_isFailing_10 K (nI 4) K (nI 2, lN v) = some (nI 0, lN (lostN 4 v))
    conv => lhs; arg 3; rw [hk]
    rw [l_fail10 K hK (q := 2) _ 1 (by decide) (by decide) (by decide) (by decide) 1 (by decide) hv, l_fail10 K hK (q := 1) _ 0 (by decide) (by decide) (by decide) (by decide) 2 (by decide) (rb_lt _ 4), l_fail10x]; rfl
  · show fL_X10_isFailing_10 K (nI 8) K (nI 4, lN v) = some (nI 0, lN (lostN 8 v))
    conv => lhs; arg 3; rw [hk]
    rw [l_fail10 K hK (q := 4) _ 2 (by decide) (by decide) (by decide) (by decide) 1 (by decide) hv, l_fail10 K hK (q := 2) _ 1 (by decide) (by decide) (by decide) (by decide) 2 (by decide) (rb_lt _ 8), l_fail10 K hK (q := 1) _ 0 (by decide) (by decide) (by decide) (by decide) 4 (by decide) (rb_lt _ 8), l_fail10x]; rfl
  · show fL_X10_isFailing_10 K (nI 16) K (nI 8, lN v) = some (nI 0, lN (lostN 16 v))
    conv => lhs; arg 3; rw [hk]
    rw [l_fail10 K hK (q := 8) _ 4 (by decide) (by decide) (by decide) (by decide) 1 (by decide) hv, l_fail10 K hK (q := 4) _ 2 (by decide) (by decide) (by decide) (by decide) 2 (by decide) (rb_lt _ 16), l_fail10 K hK (q := 2) _ 1 (by decide) (by decide) (by decide) (by decide) 4 (by decide) (rb_lt _ 16), l_fail10 K hK (q := 1) _ 0 (by decide) (by decide) (by decide) (by decide) 8 (by decide) (rb_lt _ 16), l_fail10x]; rfl
def anB (G v : Nat) : Nat → Bool
  | 0 => false
  | n + 1 => anB G v n || (G.testBit n && v.testBit n)
theorem anB_iff (G v : Nat) : ∀ n, anB G v n = true ↔ ∃ p, p < n ∧ G.testBit p = true ∧ v.testBit p = true := by
  intro n
  induction n with
  | zero => exact ⟨fun h => absurd h nft, fun ⟨p, hp, _⟩ => absurd hp (by omega)⟩
  | succ n ih =>
    rw [anB, Bool.or_eq_true, ih, Bool.and_eq_true]
    constructor
    · rintro (⟨p, hp, h⟩ | h)
      · exact ⟨p, by omega, h⟩
      · exact ⟨n, by omega, h⟩
    · rintro ⟨p, hp, h⟩
      by_cases q : p = n
      · subst q; exact Or.inr h
      · exact Or.inl ⟨p, by omega, h⟩
theorem anB_and {N G v : Nat} (hv : v < 2 ^ N) : anB G v N = (v &&& G != 0) := by
  by_cases q : v &&& G = 0
  · rw [q]
    cases h : anB G v N with
    | false => rfl
    | true =>
      obtain ⟨p, _, h1, h2⟩ := (anB_iff G v N).mp h
      exact absurd ⟨h2, h1⟩ (apart_b q p)
  · rw [bne_iff_ne.mpr q]
    refine (anB_iff G v N).mpr ?_
    refine Classical.byContradiction (fun hn => q (apart_of (fun i hi => hn ⟨i, ?_, hi.2, hi.1⟩)))
    by_cases c : i < N
    · exact c
    · rw [Nat.testBit_lt_two_pow (Nat.lt_of_lt_of_le hv (Nat.pow_le_pow_right (by decide) (by omega)))] at hi
      exact absurd hi.1 nft
theorem l_124 (K N G v : Nat) (hN : N ≤ 16) (hv : v < 2 ^ 62) {mg : Nat → Int32} (hg : ∀ j, j < 32 → mg j = bI (G.testBit j)) : ∀ (m i k : Nat), i + m = N → m < k → fL_X10_isFailing_124 K (lN v) (nI N) mg k (nI i, bI (anB G v i)) = some (nI N, bI (anB G v N)) := by
  intro m
  induction m with
  | zero =>
    intro i k hi hk
    obtain ⟨k, rfl⟩ : ∃ q, k = q + 1 := ⟨k - 1, by omega⟩
    have hi : i = N := by omega
    subst hi
    rw [fL_X10_isFailing_124, if_pos (nI_le (Nat.le_refl _) (by omega))]
  | succ m ih =>
    intro i k hi hk
    obtain ⟨k, rfl⟩ : ∃ q, k = q + 1 := ⟨k - 1, by omega⟩
    have h := ih (i + 1) k (by omega) (by omega)
    have e1 : gLshr (lN v) (nI i) &&& 1 = lN (v / 2 ^ i % 2) := by
      rw [e_shrN hv (by omega), wb_a1 (Nat.lt_of_le_of_lt (Nat.div_le_self _ _) (by omega))]
    have e2 : (if bI (anB G v i) = 0 then (if bI (G.testBit i) = 0 then some 0 else if lg_cmp (lN (if v.testBit i then 1 else 0)) 1 = 0 then some 1 else some 0) else some 1) = some (bI (anB G v (i + 1))) := by
      rw [anB]
      cases anB G v i <;> cases G.testBit i <;> cases v.testBit i <;> decide
    rw [fL_X10_isFailing_124, if_neg (nI_ge (show i < N by omega) (by omega)), gIx_nI _ (show i < 32 by omega) (by decide), tnN (by omega), hg i (by omega), e1, bit_mod, e2, Option.bind_some, gLet, nI_1]
    exact h
theorem e_isFailing (K : Nat) (hK : 200000 ≤ K) {N G v : Nat} (hN : Nok4 N) (hv : v < 2 ^ N) {mg : Nat → Int32} (hg : ∀ j, j < 32 → mg j = bI (G.testBit j)) : f_X10_isFailing K (lN v) (nI N) mg = some (bI (lostN N v &&& G != 0)) := by
  have hN16 : N ≤ 16 := by rcases hN with rfl | rfl | rfl | rfl <;> omega
  have hp : 2 ^ N ≤ 2 ^ 16 := Nat.pow_le_pow_right (by decide) hN16
  have hl := lost_lt (v := v) hN
  have e : nI N / 2 = nI (N / 2) := pk_div (d := 2) (by omega) (by decide) (by decide)
  have h : fL_X10_isFailing_124 K (lN (lostN N v)) (nI N) mg K (0, 0) = some (nI N, bI (anB G (lostN N v) N)) := l_124 K N G (lostN N v) hN16 (by omega) hg N 0 K (by omega) (by omega)
  rw [f_X10_isFailing, gLet, e, e_lost10 K hK hN hv, Option.bind_some]
  dsimp only
  rw [h, Option.bind_some, anB_and hl]
  dsimp only
  cases (lostN N v &&& G != 0) <;> rfl
