/-! freezing, shares, sheets -/
theorem e9_isBit (K : Nat) (x : Int32) : f_X9_isBit K x = some (if 0 ≤ x.toInt ∧ x.toInt ≤ 1 then 1 else 0) := by
  unfold f_X9_isBit
  simp only [eqI, i_0, i_1]
  repeat' split
  all_goals first | rfl | (exfalso; omega)
theorem bI_nI (b : Bool) : bI b = nI (if b then 1 else 0) := by cases b <;> rfl
theorem e_bit01 (F j : Nat) : nI (F / 2 ^ j % 2) = bI (F.testBit j) := by
  rw [Nat.testBit_eq_decide_div_mod_eq]
  have h2 : F / 2 ^ j % 2 < 2 := Nat.mod_lt _ (by decide)
  rcases (show F / 2 ^ j % 2 = 0 ∨ F / 2 ^ j % 2 = 1 by omega) with h | h <;> rw [h] <;> rfl
theorem e_frozenBit (K : Nat) {j F : Nat} (hj : j < 64) (hF : F < 2 ^ 64) : f_X4_frozenBit K (nI j) (lN F) = some (bI (F.testBit j)) := by
  unfold f_X4_frozenBit
  have e : gLushr (lN F) (nI j) &&& 1 = lN (F / 2 ^ j % 2) := wb_bit hF hj
  rw [e, lN_i, e_bit01]
def bput (F j b : Nat) : Nat := bclr F j ||| b * 2 ^ j
theorem e_setFrozen (K : Nat) {j : Nat} (hj : j < 64) (G F b : Nat) (hb : b < 2) : f_X4_setFrozen K (nI j) (nI b) (lN G) (lN F) = some (lN (bclr G j), lN (bput F j b)) := by
  unfold f_X4_setFrozen
  have e : gLshl (Int32.toInt64 (nI b)) (nI j) = lN (b * 2 ^ j) := by
    rw [nI_l (by omega)]
    exact wb_shl b hj
  rw [gLet, gLet, e, e_shl1 hj, e_m1, fb_xorL, fb_andL, fb_andL, fb_orL]
  rfl
theorem bput_b {F j b : Nat} (hF : F < 2 ^ 64) (hb : b < 2) (i : Nat) : (bput F j b).testBit i = if i = j then decide (b = 1) else F.testBit i := by
  unfold bput
  rw [Nat.testBit_or, bclr_b hF]
  rcases (show b = 0 ∨ b = 1 by omega) with rfl | rfl
  · rw [Nat.zero_mul, Nat.zero_testBit]
    by_cases q : i = j <;> simp [q]
  · rw [Nat.one_mul, Nat.testBit_two_pow]
    by_cases q : i = j
    · subst q; simp
    · have q2 : ¬ j = i := fun z => q z.symm
      simp [q, q2]
theorem bput_lt {F j b N : Nat} (hF : F < 2 ^ N) (hj : j < N) (hb : b < 2) : bput F j b < 2 ^ N := by
  refine Nat.or_lt_two_pow (Nat.lt_of_le_of_lt (bclr_le F j) hF) ?_
  have h1 : 2 ^ j < 2 ^ N := Nat.pow_lt_pow_right (by decide) hj
  rcases (show b = 0 ∨ b = 1 by omega) with rfl | rfl <;> omega
/-- the lower number -/
theorem l_low (K N Q : Nat) (hN : N < 2 ^ 31) (hQ1 : 1 ≤ Q) (hQ : Q ≤ 8) : ∀ (m i k : Nat) (l : Int64), i + m = N → m < k → 1 ≤ l.toInt → l.toInt ≤ 1000000000000000 → ∃ r9 r10 : Int64, fL_X4_lowerNumber_4 K (nI N) (nI Q) k (nI i, l) = some r9 ∧ fL_X10_lowest_4 K (nI N) (nI Q) k (nI i, l) = some r10 ∧ ((r9 = r10 ∧ 1 ≤ r10.toInt ∧ r10.toInt ≤ 1000000000000000) ∨ (r9 = -9223372036854775808 ∧ r10 = -1)) := by
  intro m
  induction m with
  | zero =>
    intro i k l hi hk h1 h2
    obtain ⟨k, rfl⟩ : ∃ q, k = q + 1 := ⟨k - 1, by omega⟩
    have hi : i = N := by omega
    subst hi
    exact ⟨l, l, by rw [fL_X4_lowerNumber_4, if_pos (nI_le (Nat.le_refl _) hN)], by rw [fL_X10_lowest_4, if_pos (nI_le (Nat.le_refl _) hN)], Or.inl ⟨rfl, h1, h2⟩⟩
  | succ m ih =>
    intro i k l hi hk h1 h2
    obtain ⟨k, rfl⟩ : ∃ q, k = q + 1 := ⟨k - 1, by omega⟩
    have hc : ¬ nI N ≤ nI i := nI_ge (by omega) hN
    have hq : (Int32.toInt64 (nI Q)).toInt = (Q : Int) := by rw [Int32.toInt_toInt64, nI_toInt (by omega)]
    have hm1 : l.toInt ≤ l.toInt * (Q : Int) := by
      have : l.toInt * 1 ≤ l.toInt * (Q : Int) := Int.mul_le_mul_of_nonneg_left (by omega) (by omega)
      omega
    have hm2 : l.toInt * (Q : Int) ≤ 8000000000000000 := by
      have : l.toInt * (Q : Int) ≤ 1000000000000000 * 8 := Int.mul_le_mul h2 (by omega) (by omega) (by omega)
      omega
    have hy : (l * Int32.toInt64 (nI Q)).toInt = l.toInt * (Q : Int) := by
      rw [fb_mulL (by rw [hq]; omega) (by rw [hq]; omega), hq]
    by_cases hle : l.toInt * (Q : Int) ≤ 1000000000000000
    · obtain ⟨r9, r10, e1, e2, e3⟩ := ih (i + 1) k (l * Int32.toInt64 (nI Q)) (by omega) (by omega) (by rw [hy]; omega) (by rw [hy]; exact hle)
      have hl2 : lg_cmp (l * Int32.toInt64 (nI Q)) 1000000000000000 ≤ 0 := by
        rw [lgc_le, hy]; exact hle
      refine ⟨r9, r10, ?_, ?_, e3⟩
      · rw [fL_X4_lowerNumber_4, if_neg hc, gLet, if_pos hl2, gLet, nI_1]; exact e1
      · rw [fL_X10_lowest_4, if_neg hc, gLet, if_pos hl2, gLet, nI_1]; exact e2
    · have hl2 : ¬ lg_cmp (l * Int32.toInt64 (nI Q)) 1000000000000000 ≤ 0 := by
        rw [lgc_le, hy]; exact hle
      refine ⟨_, _, ?_, ?_, Or.inr ⟨rfl, rfl⟩⟩
      · rw [fL_X4_lowerNumber_4, if_neg hc, gLet, if_neg hl2]
      · rw [fL_X10_lowest_4, if_neg hc, gLet, if_neg hl2]
theorem e_low (K N Q : Nat) (hK : 200000 ≤ K) (hN : N ≤ 32) (hQ1 : 1 ≤ Q) (hQ : Q ≤ 8) : ∃ r9 r10 : Int64, f_X4_lowerNumber K (nI N) (nI Q) = some r9 ∧ f_X10_lowest K (nI N) (nI Q) = some r10 ∧ ((r9 = r10 ∧ 1 ≤ r10.toInt ∧ r10.toInt ≤ 1000000000000000) ∨ (r9 = -9223372036854775808 ∧ r10 = -1)) :=
  l_low K N Q (by omega) hQ1 hQ N 0 K 1 (by omega) (by omega) (by decide) (by decide)
/-- the upper numbers: both sides go the same way -/
theorem l_up (K : Nat) (x : Int32) : ∀ (k : Nat) (v : Int32 × Int64 × Int64), fL_X4_upperBelowLimit_21 K x k v = fL_X10_shareOf_21 K x k v := by
  intro k
  induction k with
  | zero => intro v; rfl
  | succ k ih =>
    intro ⟨h, d, u⟩
    rw [fL_X4_upperBelowLimit_21, fL_X10_shareOf_21]
    by_cases c : h < 1
    · rw [if_pos c, if_pos (by rw [leI, i_0]; rw [ltI, i_1] at c; omega)]
    · rw [if_neg c, if_neg (by rw [leI, i_0]; rw [ltI, i_1] at c; omega)]
      simp only [gLet, ih]
theorem l_upS (K : Nat) (x : Int32) : ∀ (m h k : Nat) (d u : Int64), h < 2 ^ m → m < k → h < 2 ^ 31 → ∃ s, fL_X10_shareOf_21 K x k (nI h, d, u) = some s := by
  intro m
  induction m with
  | zero =>
    intro h k d u h1 hk _
    obtain ⟨k, rfl⟩ : ∃ q, k = q + 1 := ⟨k - 1, by omega⟩
    have : h = 0 := by simpa using h1
    subst this
    rw [fL_X10_shareOf_21, if_pos (show nI 0 ≤ (0 : Int32) by decide)]
    exact ⟨_, rfl⟩
  | succ m ih =>
    intro h k d u h1 hk h2
    obtain ⟨k, rfl⟩ : ∃ q, k = q + 1 := ⟨k - 1, by omega⟩
    rw [fL_X10_shareOf_21]
    by_cases c : nI h ≤ (0 : Int32)
    · rw [if_pos c]; exact ⟨_, rfl⟩
    · rw [if_neg c]
      have e : nI h / 2 = nI (h / 2) := pk_div (d := 2) h2 (by decide) (by decide)
      have hp : 2 ^ (m + 1) = 2 ^ m * 2 := Nat.pow_succ 2 m
      by_cases c2 : x &&& nI h = 0
      · rw [if_pos c2, Option.bind_some, gLet, gLet, e]
        exact ih (h / 2) k _ _ (by omega) (by omega) (by omega)
      · rw [if_neg c2, Option.bind_some, gLet, gLet, e]
        exact ih (h / 2) k _ _ (by omega) (by omega) (by omega)
theorem e_up (K : Nat) (x n p q : Int32) : f_X4_upperBelowLimit K x n p q = f_X10_shareOf K x n p q := by
  unfold f_X4_upperBelowLimit f_X10_shareOf
  simp only [gLet, l_up]
theorem e_upS (K N : Nat) (hK : 200000 ≤ K) (hN : N ≤ 32) (x p q : Int32) : ∃ r, f_X10_shareOf K x (nI N) p q = some r := by
  unfold f_X10_shareOf
  have e : nI N / 2 = nI (N / 2) := pk_div (d := 2) (by omega) (by decide) (by decide)
  obtain ⟨s, hs⟩ := l_upS K x 6 (N / 2) K (Int32.toInt64 q) (Int32.toInt64 p) (by omega) (by omega) (by omega)
  simp only [gLet, e, hs, Option.bind_some]
  exact ⟨_, rfl⟩
theorem j_LOST : (-9223372036854775808 : Int64).toInt = -9223372036854775808 := by decide
theorem j_m1 : (-1 : Int64).toInt = -1 := by decide
/-- SHARE of a place on both sides -/
theorem e_share (K N Q : Nat) (hK : 200000 ≤ K) (hN : N ≤ 32) (hQ1 : 1 ≤ Q) (hQ : Q ≤ 8) (x p : Int32) : ∃ r r4 : Int64, f_X4_upperNumber K x (nI N) p (nI Q) = some r ∧ f_X10_lowest K (nI N) (nI Q) = some r4 ∧ ((0 ≤ r4.toInt ∧ f_X10_shareOf K x (nI N) p (nI Q) = some r) ∨ (r4.toInt < 0 ∧ r = -9223372036854775808)) := by
  obtain ⟨r9, r10, e1, e2, e3⟩ := e_low K N Q hK hN hQ1 hQ
  obtain ⟨u, hu⟩ := e_upS K N hK hN x p (nI Q)
  rcases e3 with ⟨rfl, h1, h2⟩ | ⟨rfl, rfl⟩
  · refine ⟨u, r9, ?_, e2, Or.inl ⟨by omega, hu⟩⟩
    rw [f_X4_upperNumber, e1, Option.bind_some, if_neg (by rw [lgc_eq, j_LOST]; omega), e_up, hu]
    rfl
  · refine ⟨-9223372036854775808, -1, ?_, e2, Or.inr ⟨by decide, rfl⟩⟩
    rw [f_X4_upperNumber, e1, Option.bind_some, if_pos (by rw [lgc_eq])]
/-- rows filled with 0 -/
theorem l_fillL (K : Nat) (x : Int64) (n : Nat) (hn : n < 2 ^ 31) : ∀ (m i k : Nat) (u : Nat → Int64), i + m = n → m < k → fL_J7_fill_d0a16_6 K (nI n) x n k (nI i, u) = some (nI n, fun j => if i ≤ j ∧ j < n then x else u j) := by
  intro m
  induction m with
  | zero =>
    intro i k u hi hk
    obtain ⟨k, rfl⟩ : ∃ q, k = q + 1 := ⟨k - 1, by omega⟩
    have hi : i = n := by omega
    subst hi
    rw [fL_J7_fill_d0a16_6, if_pos (nI_le (Nat.le_refl _) hn)]
    refine congrArg some (Prod.ext rfl ?_)
    funext j
    exact (if_neg (by omega)).symm
  | succ m ih =>
    intro i k u hi hk
    obtain ⟨k, rfl⟩ : ∃ q, k = q + 1 := ⟨k - 1, by omega⟩
    rw [fL_J7_fill_d0a16_6, if_neg (nI_ge (show i < n by omega) hn), gIx_nI _ (show i < n by omega) hn, gLet, gLet, nI_1, tnN (by omega), ih (i + 1) k _ (by omega) (by omega)]
    refine congrArg some (Prod.ext rfl ?_)
    funext j
    simp only [vp_updL]
    repeat' split
    all_goals first | rfl | (exfalso; omega)
theorem e_fillL (K : Nat) (hK : 200000 ≤ K) (x : Int64) (v : Nat → Int64) : f_J7_fill_d0a16 K x v 40 = some (fun j => if j < 40 then x else v j) := by
  have h := l_fillL K x 40 (by decide) 40 0 K v (by omega) (by omega)
  simp only [Nat.zero_le, true_and] at h
  unfold f_J7_fill_d0a16
  have h2 : fL_J7_fill_d0a16_6 K (Int32.ofNat 40) x 40 K (0, v) = some (nI 40, fun j => if j < 40 then x else v j) := h
  rw [gLet, h2]
  rfl
theorem e_40 (k i : Nat) : (40 * nI k) + nI i = nI (40 * k + i) := by
  have : (40 : Int32) * nI k = nI (40 * k) := pk_mul 40 k
  rw [this, nI_add]
theorem l_sheet (K k n : Nat) (hk4 : k < 4) (hn : n ≤ 40) : ∀ (m i f : Nat) (u : Nat → Int64), i + m = n → m < f → fL_X10_sheet_65 K (nI k) (nI n) f (nI i, u) = some (nI n, fun j => if 40 * k + i ≤ j ∧ j < 40 * k + n then 0 else u j) := by
  intro m
  induction m with
  | zero =>
    intro i f u hi hf
    obtain ⟨f, rfl⟩ : ∃ q, f = q + 1 := ⟨f - 1, by omega⟩
    have hi : i = n := by omega
    subst hi
    rw [fL_X10_sheet_65, if_pos (nI_le (Nat.le_refl _) (by omega))]
    refine congrArg some (Prod.ext rfl ?_)
    funext j
    exact (if_neg (by omega)).symm
  | succ m ih =>
    intro i f u hi hf
    obtain ⟨f, rfl⟩ : ∃ q, f = q + 1 := ⟨f - 1, by omega⟩
    rw [fL_X10_sheet_65, if_neg (nI_ge (show i < n by omega) (by omega)), e_40, gIx_nI _ (show 40 * k + i < 160 by omega) (by decide), gLet, gLet, nI_1, tnN (by omega), ih (i + 1) f _ (by omega) (by omega)]
    refine congrArg some (Prod.ext rfl ?_)
    funext j
    simp only [vp_updL]
    repeat' split
    all_goals first | rfl | (exfalso; omega)
theorem e_sheetL (K : Nat) (hK : 200000 ≤ K) {k n : Nat} (hk4 : k < 4) (hn : n ≤ 40) (u : Nat → Int64) : fL_X10_sheet_65 K (nI k) (nI n) K (0, u) = some (nI n, fun j => if 40 * k ≤ j ∧ j < 40 * k + n then 0 else u j) := by
  have h := l_sheet K k n hk4 hn n 0 K u (by omega) (by omega)
  exact h
