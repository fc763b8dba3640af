/-! comparisons, ranges, small facts on the walked functions -/
theorem lgc (x y : Int64) : (x.toInt < y.toInt ∧ lg_cmp x y = -1) ∨ (x.toInt = y.toInt ∧ lg_cmp x y = 0) ∨ (y.toInt < x.toInt ∧ lg_cmp x y = 1) := by
  unfold lg_cmp
  by_cases h1 : x > y
  · rw [if_pos h1]
    exact Or.inr (Or.inr ⟨(fa_lt64 y x).mp h1, rfl⟩)
  · rw [if_neg h1]
    by_cases h2 : x = y
    · rw [if_pos h2]
      exact Or.inr (Or.inl ⟨by rw [h2], rfl⟩)
    · rw [if_neg h2]
      refine Or.inl ⟨?_, rfl⟩
      have a1 : ¬ y.toInt < x.toInt := fun q => h1 ((fa_lt64 y x).mpr q)
      have a2 : ¬ x.toInt = y.toInt := fun q => h2 ((fa_eq64 x y).mpr q)
      omega
theorem lgc_eq (x y : Int64) : (lg_cmp x y = 0) = (x.toInt = y.toInt) := by
  rcases lgc x y with ⟨h, e⟩ | ⟨h, e⟩ | ⟨h, e⟩ <;> rw [e] <;> apply propext <;> constructor <;> intro q <;> first | omega | exact absurd q (by decide) | rfl | exact h
theorem lgc_lt (x y : Int64) : (lg_cmp x y < 0) = (x.toInt < y.toInt) := by
  rcases lgc x y with ⟨h, e⟩ | ⟨h, e⟩ | ⟨h, e⟩ <;> rw [e] <;> apply propext <;> constructor <;> intro q <;> first | omega | exact absurd q (by decide) | decide | exact h
theorem lgc_gt (x y : Int64) : (0 < lg_cmp x y) = (y.toInt < x.toInt) := by
  rcases lgc x y with ⟨h, e⟩ | ⟨h, e⟩ | ⟨h, e⟩ <;> rw [e] <;> apply propext <;> constructor <;> intro q <;> first | omega | exact absurd q (by decide) | decide | exact h
theorem lgc_ge (x y : Int64) : (0 ≤ lg_cmp x y) = (y.toInt ≤ x.toInt) := by
  rcases lgc x y with ⟨h, e⟩ | ⟨h, e⟩ | ⟨h, e⟩ <;> rw [e] <;> apply propext <;> constructor <;> intro q <;> first | omega | exact absurd q (by decide) | decide
theorem lgc_le (x y : Int64) : (lg_cmp x y ≤ 0) = (x.toInt ≤ y.toInt) := by
  rcases lgc x y with ⟨h, e⟩ | ⟨h, e⟩ | ⟨h, e⟩ <;> rw [e] <;> apply propext <;> constructor <;> intro q <;> first | omega | exact absurd q (by decide) | decide
theorem ltI (a b : Int32) : (a < b) = (a.toInt < b.toInt) := propext (fa_lt a b)
theorem leI (a b : Int32) : (a ≤ b) = (a.toInt ≤ b.toInt) := propext (fa_le a b)
theorem eqI (a b : Int32) : (a = b) = (a.toInt = b.toInt) := propext (fa_eq a b)
theorem i_0 : (0 : Int32).toInt = 0 := by decide
theorem i_1 : (1 : Int32).toInt = 1 := by decide
theorem i_2 : (2 : Int32).toInt = 2 := by decide
theorem i_3 : (3 : Int32).toInt = 3 := by decide
theorem i_4 : (4 : Int32).toInt = 4 := by decide
theorem i_8 : (8 : Int32).toInt = 8 := by decide
theorem i_12 : (12 : Int32).toInt = 12 := by decide
theorem i_16 : (16 : Int32).toInt = 16 := by decide
theorem i_32 : (32 : Int32).toInt = 32 := by decide
theorem i_40 : (40 : Int32).toInt = 40 := by decide
theorem i_64 : (64 : Int32).toInt = 64 := by decide
theorem i_m1 : (-1 : Int32).toInt = -1 := by decide
theorem j_0 : (0 : Int64).toInt = 0 := by decide
theorem j_1 : (1 : Int64).toInt = 1 := by decide
theorem j_2 : (2 : Int64).toInt = 2 := by decide
theorem j_3 : (3 : Int64).toInt = 3 := by decide
theorem j_8 : (8 : Int64).toInt = 8 := by decide
theorem j_64 : (64 : Int64).toInt = 64 := by decide
theorem j_w : (4294967295 : Int64).toInt = 4294967295 := by decide
theorem ite10 {c : Prop} [Decidable c] : ((if c then (1 : Int32) else 0) = 0) = ¬ c := by
  by_cases h : c
  · rw [if_pos h]; exact propext ⟨fun q => absurd q (by decide), fun q => absurd h q⟩
  · rw [if_neg h]; exact propext ⟨fun _ => h, fun _ => rfl⟩
theorem toN {x : Int32} (h : 0 ≤ x.toInt) : ∃ n : Nat, n < 2 ^ 31 ∧ x = nI n ∧ x.toInt = (n : Int) := by
  obtain ⟨j, hj, e⟩ := nI_of (x := x) (fun q => by rw [ltI, i_0] at q; omega)
  exact ⟨j, hj, e, by rw [e]; exact nI_toInt hj⟩
theorem toL {x : Int64} (h : 0 ≤ x.toInt) : ∃ n : Nat, n < 2 ^ 63 ∧ x = lN n ∧ x.toInt = (n : Int) := by
  obtain ⟨j, hj, e⟩ := pk_lOf (x := x) (fun q => by rw [fa_lt64, j_0] at q; omega)
  exact ⟨j, hj, e, by rw [e]; exact pk_lT hj⟩
theorem e_in (K : Nat) (x lo hi : Int64) : f_X10_in K x lo hi = some (if lo.toInt ≤ x.toInt ∧ x.toInt ≤ hi.toInt then 1 else 0) := by
  unfold f_X10_in
  simp only [lgc_lt, lgc_gt]
  repeat' split
  all_goals first | rfl | (exfalso; omega)
theorem e9_line (K : Nat) (x1 x2 p q : Int32) : f_X9_line K x1 x2 p q = if 1 ≤ x2.toInt ∧ x2.toInt ≤ 8 ∧ 0 ≤ x1.toInt ∧ x1.toInt ≤ x2.toInt then some (1, x1, x2) else some (-2, p, q) := by
  unfold f_X9_line
  simp only [ltI, leI, i_0, i_1, i_8]
  repeat' split
  all_goals first | rfl | (exfalso; omega)
theorem e10_line (K : Nat) (x1 x2 p q : Int32) : f_X10_line K x1 x2 p q = if 1 ≤ x2.toInt ∧ x2.toInt ≤ 8 ∧ 0 ≤ x1.toInt ∧ x1.toInt ≤ x2.toInt then some (1, x1, x2) else some (-2, p, q) := by
  unfold f_X10_line
  simp only [e_in, Option.bind_some, ite10, Int32.toInt_toInt64, j_0, j_1, j_8]
  repeat' split
  all_goals first | rfl | (exfalso; omega)
theorem e9_wide (K : Nat) (x1 w : Int32) : f_X9_wide K x1 w = if 1 ≤ x1.toInt ∧ x1.toInt ≤ 64 then some (w, x1) else some (-2, w) := by
  unfold f_X9_wide
  simp only [ltI, leI, i_1, i_64]
  repeat' split
  all_goals first | rfl | (exfalso; omega)
theorem e10_wide (K : Nat) (x1 w : Int32) : f_X10_wide K x1 w = if 1 ≤ x1.toInt ∧ x1.toInt ≤ 64 then some (w, x1) else some (-2, w) := by
  unfold f_X10_wide
  simp only [e_in, Option.bind_some, ite10, Int32.toInt_toInt64, j_1, j_64]
  repeat' split
  all_goals first | rfl | (exfalso; omega)
theorem e9_check (K : Nat) (x1 w : Int64) : f_X9_check K x1 w = if 0 ≤ x1.toInt ∧ x1.toInt ≤ 4294967295 then some (1, x1) else some (-2, w) := by
  unfold f_X9_check
  simp only [lgc_lt, lgc_le, j_0, j_w]
  repeat' split
  all_goals first | rfl | (exfalso; omega)
theorem e10_check (K : Nat) (x1 w : Int64) : f_X10_check K x1 w = if 0 ≤ x1.toInt ∧ x1.toInt ≤ 4294967295 then some (1, x1) else some (-2, w) := by
  unfold f_X10_check
  simp only [e_in, Option.bind_some, ite10, j_0, j_w]
  repeat' split
  all_goals first | rfl | (exfalso; omega)
/-- sheets -/
theorem e9_isSheet (K : Nat) (x : Int32) : f_X9_isSheet K x = some (if 0 ≤ x.toInt ∧ x.toInt ≤ 3 then 1 else 0) := by
  unfold f_X9_isSheet
  simp only [ltI, leI, i_0, i_4]
  repeat' split
  all_goals first | rfl | (exfalso; omega)
theorem e10_noSheet (K : Nat) (x : Int32) : f_X10_noSheet K x = some (if 0 ≤ x.toInt ∧ x.toInt ≤ 3 then 0 else 1) := by
  unfold f_X10_noSheet
  simp only [e_in, Option.bind_some, ite10, Int32.toInt_toInt64, j_0, j_3]
  repeat' split
  all_goals first | rfl | (exfalso; omega)
theorem e9_isLane (K : Nat) (x : Int32) : f_X9_isLane K x = some (if 0 ≤ x.toInt ∧ x.toInt ≤ 2 then 1 else 0) := by
  unfold f_X9_isLane
  simp only [ltI, leI, i_0, i_2]
  repeat' split
  all_goals first | rfl | (exfalso; omega)
theorem gIx_nI {α : Type} {i n : Nat} (x : Option α) (h : i < n) (hn : n < 2 ^ 31) : gIx (nI i) n x = x := by
  unfold gIx
  exact if_pos (decide_eq_true (nI_in h hn))
theorem tnN {i : Nat} (h : i < 2 ^ 31) : Int32.toNatClampNeg (nI i) = i := nI_clamp h
theorem ite01 {c : Prop} [Decidable c] : ((if c then (0 : Int32) else 1) = 0) = c := by
  by_cases h : c
  · rw [if_pos h]; exact propext ⟨fun _ => h, fun _ => rfl⟩
  · rw [if_neg h]; exact propext ⟨fun q => absurd q (by decide), fun q => absurd q h⟩
/-- places -/
theorem e9_has (K : Nat) (x n : Int32) : f_X4_has K x n = some (if 0 ≤ x.toInt ∧ x.toInt < n.toInt then 1 else 0) := by
  unfold f_X4_has
  simp only [ltI, leI, i_0]
  repeat' split
  all_goals first | rfl | (exfalso; omega)
theorem e10_noPlace (K N : Nat) (hN : N < 2 ^ 31) (x : Int32) : f_X10_noPlace K x (nI N) = some (if 0 ≤ x.toInt ∧ x.toInt < N then 0 else 1) := by
  unfold f_X10_noPlace
  have e : (Int32.toInt64 (nI N) - 1).toInt = (N : Int) - 1 := by
    rw [nI_l hN]
    have h1 : (lN N).toInt = (N : Int) := lN_toInt hN
    have h2 := fb_subL (x := lN N) (y := 1) (by rw [h1, j_1]; omega) (by rw [h1, j_1]; omega)
    rw [h2, h1, j_1]
  simp only [e_in, Option.bind_some, ite10, Int32.toInt_toInt64, j_0, e]
  repeat' split
  all_goals first | rfl | (exfalso; omega)
theorem e9_isGood (K : Nat) {j G : Nat} (hj : j < 64) (hG : G < 2 ^ 64) : f_X4_isGood K (nI j) (lN G) = some (bI (G.testBit j)) := by
  unfold f_X4_isGood
  have e : gLushr (lN G) (nI j) &&& 1 = lN (G / 2 ^ j % 2) := wb_bit hG hj
  rw [e]
  simp only [lgc_eq, j_0]
  have h2 : G / 2 ^ j % 2 < 2 := Nat.mod_lt _ (by decide)
  rw [lN_toInt (by omega)]
  rw [Nat.testBit_eq_decide_div_mod_eq]
  unfold bI
  by_cases h : G / 2 ^ j % 2 = 1
  · rw [if_neg (by omega), if_pos (by simp [h])]
  · rw [if_pos (by omega), if_neg (by simp [h])]
theorem vpn0 : vp_nar .boolean 0 = 0 := by rfl
theorem vpn1 : vp_nar .boolean 1 = 1 := by rfl
theorem l_size (K : Nat) : ∀ (m i k : Nat) (u1 u2 : Nat → Int32), i + m = 32 → m < k → fL_X10_size_43 K k (nI i, u1, u2) = some (nI 32, fun j => if i ≤ j ∧ j < 32 then 0 else u1 j, fun j => if i ≤ j ∧ j < 32 then 0 else u2 j) := by
  intro m
  induction m with
  | zero =>
    intro i k u1 u2 hi hk
    obtain ⟨k, rfl⟩ : ∃ q, k = q + 1 := ⟨k - 1, by omega⟩
    have hi : i = 32 := by omega
    subst hi
    rw [fL_X10_size_43, if_pos (show (32 : Int32) ≤ nI 32 by decide)]
    refine congrArg some (Prod.ext rfl (Prod.ext ?_ ?_)) <;> funext j <;> exact (if_neg (by omega)).symm
  | succ m ih =>
    intro i k u1 u2 hi hk
    obtain ⟨k, rfl⟩ : ∃ q, k = q + 1 := ⟨k - 1, by omega⟩
    have h1 : ¬ (32 : Int32) ≤ nI i := nI_ge (a := i) (b := 32) (by omega) (by decide)
    rw [fL_X10_size_43, if_neg h1, gIx_nI _ (show i < 32 by omega) (by decide), gLet, gIx_nI _ (show i < 32 by omega) (by decide), gLet, gLet, nI_1, tnN (show i < 2 ^ 31 by omega), vpn0, ih (i + 1) k _ _ (by omega) (by omega)]
    refine congrArg some (Prod.ext rfl (Prod.ext ?_ ?_)) <;> funext j <;> simp only [upd] <;> repeat' split
    all_goals first | rfl | (exfalso; omega)
theorem e10_sizeL (K : Nat) (hK : 200000 ≤ K) (u1 u2 : Nat → Int32) : fL_X10_size_43 K K (0, u1, u2) = some (nI 32, fun j => if j < 32 then 0 else u1 j, fun j => if j < 32 then 0 else u2 j) := by
  have h := l_size K 32 0 K u1 u2 (by omega) (by omega)
  simp only [Nat.zero_le, true_and] at h
  exact h
def Nok (N : Nat) : Prop := N = 2 ∨ N = 4 ∨ N = 8 ∨ N = 16 ∨ N = 32
theorem Nok_of {x : Int32} : (∃ N, Nok N ∧ x = nI N) ∨ (¬ x = 2 ∧ ¬ x = 4 ∧ ¬ x = 8 ∧ ¬ x = 16 ∧ ¬ x = 32) := by
  by_cases h2 : x = 2
  · exact Or.inl ⟨2, Or.inl rfl, h2⟩
  by_cases h4 : x = 4
  · exact Or.inl ⟨4, Or.inr (Or.inl rfl), h4⟩
  by_cases h8 : x = 8
  · exact Or.inl ⟨8, Or.inr (Or.inr (Or.inl rfl)), h8⟩
  by_cases h16 : x = 16
  · exact Or.inl ⟨16, Or.inr (Or.inr (Or.inr (Or.inl rfl))), h16⟩
  by_cases h32 : x = 32
  · exact Or.inl ⟨32, Or.inr (Or.inr (Or.inr (Or.inr rfl))), h32⟩
  exact Or.inr ⟨h2, h4, h8, h16, h32⟩
theorem e9_size1 (K : Nat) {N : Nat} (hN : Nok N) (n : Int32) (g f : Int64) (h a b c : Int32) : f_X9_size K (nI N) n g f h a b c = some (n, nI N, 0, 0, 0, 0, 0, 0) := by
  rcases hN with rfl | rfl | rfl | rfl | rfl
  · rw [f_X9_size, if_pos (show nI 2 = (2 : Int32) by decide)]; rfl
  · rw [f_X9_size, if_neg (show ¬ nI 4 = (2 : Int32) by decide), if_pos (show nI 4 = (4 : Int32) by decide)]; rfl
  · rw [f_X9_size, if_neg (show ¬ nI 8 = (2 : Int32) by decide), if_neg (show ¬ nI 8 = (4 : Int32) by decide), if_pos (show nI 8 = (8 : Int32) by decide)]; rfl
  · rw [f_X9_size, if_neg (show ¬ nI 16 = (2 : Int32) by decide), if_neg (show ¬ nI 16 = (4 : Int32) by decide), if_neg (show ¬ nI 16 = (8 : Int32) by decide), if_pos (show nI 16 = (16 : Int32) by decide)]; rfl
  · rw [f_X9_size, if_neg (show ¬ nI 32 = (2 : Int32) by decide), if_neg (show ¬ nI 32 = (4 : Int32) by decide), if_neg (show ¬ nI 32 = (8 : Int32) by decide), if_neg (show ¬ nI 32 = (16 : Int32) by decide), if_pos (show nI 32 = (32 : Int32) by decide)]; rfl
theorem e10_size1 (K : Nat) (hK : 200000 ≤ K) {N : Nat} (hN : Nok N) (n p c : Int32) (u1 u2 : Nat → Int32) : f_X10_size K (nI N) n p c u1 u2 = some (n, nI N, -9, 0, fun j => if j < 32 then 0 else u1 j, fun j => if j < 32 then 0 else u2 j) := by
  rcases hN with rfl | rfl | rfl | rfl | rfl
  · rw [f_X10_size, if_pos (show nI 2 = (2 : Int32) by decide), e10_sizeL K hK]; rfl
  · rw [f_X10_size, if_neg (show ¬ nI 4 = (2 : Int32) by decide), if_pos (show nI 4 = (4 : Int32) by decide), e10_sizeL K hK]; rfl
  · rw [f_X10_size, if_neg (show ¬ nI 8 = (2 : Int32) by decide), if_neg (show ¬ nI 8 = (4 : Int32) by decide), if_pos (show nI 8 = (8 : Int32) by decide), e10_sizeL K hK]; rfl
  · rw [f_X10_size, if_neg (show ¬ nI 16 = (2 : Int32) by decide), if_neg (show ¬ nI 16 = (4 : Int32) by decide), if_neg (show ¬ nI 16 = (8 : Int32) by decide), if_pos (show nI 16 = (16 : Int32) by decide), e10_sizeL K hK]; rfl
  · rw [f_X10_size, if_neg (show ¬ nI 32 = (2 : Int32) by decide), if_neg (show ¬ nI 32 = (4 : Int32) by decide), if_neg (show ¬ nI 32 = (8 : Int32) by decide), if_neg (show ¬ nI 32 = (16 : Int32) by decide), if_pos (show nI 32 = (32 : Int32) by decide), e10_sizeL K hK]; rfl
/-- one bit set, one bit taken off, of rows -/
def bset (G j : Nat) : Nat := G ||| 2 ^ j
def bclr (F j : Nat) : Nat := F &&& (2 ^ j ^^^ (2 ^ 64 - 1))
theorem bset_b (G j i : Nat) : (bset G j).testBit i = (G.testBit i || decide (i = j)) := fb_bit_set G j i
theorem bclr_b {F j : Nat} (hF : F < 2 ^ 64) (i : Nat) : (bclr F j).testBit i = (F.testBit i && !decide (i = j)) := by
  unfold bclr
  rw [Nat.testBit_and, Nat.testBit_xor, Nat.testBit_two_pow, Nat.testBit_two_pow_sub_one]
  by_cases h : i < 64
  · by_cases q : i = j
    · subst q; simp [h]
    · have q2 : ¬ j = i := fun z => q z.symm
      simp [h, q, q2]
  · have : F.testBit i = false := Nat.testBit_lt_two_pow (Nat.lt_of_lt_of_le hF (Nat.pow_le_pow_right (by decide) (by omega)))
    simp [this]
theorem bclr_le (F j : Nat) : bclr F j ≤ F := Nat.and_le_left
theorem bset_lt {G j N : Nat} (hG : G < 2 ^ N) (hj : j < N) : bset G j < 2 ^ N := Nat.or_lt_two_pow hG (Nat.pow_lt_pow_right (by decide) hj)
theorem e_shl1 {j : Nat} (hj : j < 64) : gLshl 1 (nI j) = lN (2 ^ j) := by
  have := wb_shl 1 hj
  rw [Nat.one_mul] at this
  exact this
theorem e_m1 : (-1 : Int64) = lN (2 ^ 64 - 1) := by decide
theorem e_setGood (K : Nat) {j : Nat} (hj : j < 64) (G F : Nat) : f_X4_setGood K (nI j) (lN G) (lN F) = some (lN (bset G j), lN (bclr F j)) := by
  unfold f_X4_setGood
  rw [gLet, gLet, e_shl1 hj, e_m1, fb_orL, fb_xorL, fb_andL]
  rfl
theorem apart_b {G F : Nat} (h : G &&& F = 0) (i : Nat) : ¬ (G.testBit i = true ∧ F.testBit i = true) := by
  intro q
  have := congrArg (fun x => x.testBit i) h
  simp [Nat.testBit_and, q.1, q.2] at this
theorem apart_of {G F : Nat} (h : ∀ i, ¬ (G.testBit i = true ∧ F.testBit i = true)) : G &&& F = 0 := by
  apply Nat.eq_of_testBit_eq
  intro i
  rw [Nat.testBit_and, Nat.zero_testBit]
  cases hg : G.testBit i with
  | false => rfl
  | true =>
    cases hf : F.testBit i with
    | false => rfl
    | true => exact absurd ⟨hg, hf⟩ (h i)
