/-! folding: both sides do the same stages -/
theorem stg_b {s : Nat} (hs : s < 5) {x : Nat} (hx : x < 2 ^ 32) (i : Nat) : (stg s x).testBit i = (x.testBit i ^^ (decide (i / 2 ^ s % 2 = 0) && x.testBit (i + 2 ^ s))) := by
  unfold stg
  rw [Nat.testBit_xor, Nat.testBit_and, Nat.testBit_shiftRight]
  have hm : ∀ s, s < 5 → ∀ i, i < 32 → (gFP s).toNatClampNeg.testBit i = decide (i / 2 ^ s % 2 = 0) := by decide +kernel
  by_cases h : i < 32
  · rw [hm s hs i h, Nat.add_comm (2 ^ s) i, Bool.and_comm]
  · have e : x.testBit (2 ^ s + i) = false := Nat.testBit_lt_two_pow (Nat.lt_of_lt_of_le hx (Nat.pow_le_pow_right (by decide) (by have := Nat.two_pow_pos s; omega)))
    rw [Nat.add_comm i, e]
    simp
theorem stg_lt {s : Nat} (hs : s < 5) {x N : Nat} (hN : N ≤ 32) (hx : x < 2 ^ N) : stg s x < 2 ^ N := by
  have h32 : 2 ^ N ≤ 2 ^ 32 := Nat.pow_le_pow_right (by decide) hN
  apply Nat.lt_pow_two_of_testBit
  intro i hi
  have h1 : x.testBit i = false := Nat.testBit_lt_two_pow (Nat.lt_of_lt_of_le hx (Nat.pow_le_pow_right (by decide) hi))
  have h2 : x.testBit (i + 2 ^ s) = false := Nat.testBit_lt_two_pow (Nat.lt_of_lt_of_le hx (Nat.pow_le_pow_right (by decide) (by have := Nat.two_pow_pos s; omega)))
  rw [stg_b hs (by omega), h1, h2]
  simp
theorem gFP_N : ∀ s, s < 5 → gFP s = lN (gFP s).toNatClampNeg := by decide +kernel
theorem shl_N : ∀ s, s < 5 → (1 : Int32) <<< (nI s &&& 31) = nI (2 ^ s) := by decide +kernel
theorem l_fold9 (K N : Nat) (k s x : Nat) (hs : s < 5) (hN : N ≤ 32) (h2 : 2 ^ s < N) (hx : x < 2 ^ 32) : fL_X9_folded_5 K (nI N) (k + 1) (nI s, lN x) = fL_X9_folded_5 K (nI N) k (nI (s + 1), lN (stg s x)) := by
  rw [fL_X9_folded_5, if_neg (show ¬ (5 : Int32) ≤ nI s from nI_ge (b := 5) hs (by decide)), shl_N s hs, if_neg (nI_ge h2 (by omega)), gIx_nI _ hs (by decide), gLet, gLet, nI_1, tnN (by omega)]
  have hp : 2 ^ s < 64 := by omega
  have e1 : gLushr (lN x) (nI (2 ^ s)) = lN (x / 2 ^ 2 ^ s) := e_ushrN (by omega) hp
  rw [e1, gFP_N s hs, fb_andL, fb_xorL, ← Nat.shiftRight_eq_div_pow]
  rfl
theorem l_fold9x (K N : Nat) (k s x : Nat) (hs : s ≤ 5) (hN : N ≤ 32) (h2 : s = 5 ∨ N ≤ 2 ^ s) : fL_X9_folded_5 K (nI N) (k + 1) (nI s, lN x) = some (nI s, lN x) := by
  rw [fL_X9_folded_5]
  by_cases h5 : s = 5
  · subst h5
    rw [if_pos (by decide)]
  · have hs5 : s < 5 := by omega
    rw [if_neg (show ¬ (5 : Int32) ≤ nI s from nI_ge (b := 5) hs5 (by decide)), shl_N s hs5]
    have hp : 2 ^ s ≤ 2 ^ 4 := Nat.pow_le_pow_right (by decide) (by omega)
    rw [if_pos (nI_le (by omega) (by omega))]
def Nok1 (N : Nat) : Prop := N = 1 ∨ N = 2 ∨ N = 4 ∨ N = 8 ∨ N = 16 ∨ N = 32
theorem e_fold9 (K : Nat) (hK : 200000 ≤ K) {N x : Nat} (hN : Nok1 N) (hx : x < 2 ^ N) : f_X9_folded K (lN x) (nI N) = some (lN (FO N x)) ∧ FO N x < 2 ^ N := by
  obtain ⟨k, rfl⟩ : ∃ k, K = k + 6 := ⟨K - 6, by omega⟩
  have h32 : N ≤ 32 := by rcases hN with rfl | rfl | rfl | rfl | rfl | rfl <;> omega
  have hp : 2 ^ N ≤ 2 ^ 32 := Nat.pow_le_pow_right (by decide) h32
  have z : (0 : Int32) = nI 0 := rfl
  have a0 := stg_lt (s := 0) (by decide) h32 hx
  have a1 := stg_lt (s := 1) (by decide) h32 a0
  have a2 := stg_lt (s := 2) (by decide) h32 a1
  have a3 := stg_lt (s := 3) (by decide) h32 a2
  have a4 := stg_lt (s := 4) (by decide) h32 a3
  unfold f_X9_folded
  rw [z]
  rcases hN with rfl | rfl | rfl | rfl | rfl | rfl
  · rw [l_fold9x _ 1 _ 0 x (by decide) h32 (by decide)]; exact ⟨rfl, hx⟩
  · rw [l_fold9 _ 2 _ 0 x (by decide) h32 (by decide) (by omega), l_fold9x _ 2 _ 1 _ (by decide) h32 (by decide)]; exact ⟨rfl, a0⟩
  · rw [l_fold9 _ 4 _ 0 x (by decide) h32 (by decide) (by omega), l_fold9 _ 4 _ 1 _ (by decide) h32 (by decide) (by omega), l_fold9x _ 4 _ 2 _ (by decide) h32 (by decide)]; exact ⟨rfl, a1⟩
  · rw [l_fold9 _ 8 _ 0 x (by decide) h32 (by decide) (by omega), l_fold9 _ 8 _ 1 _ (by decide) h32 (by decide) (by omega), l_fold9 _ 8 _ 2 _ (by decide) h32 (by decide) (by omega), l_fold9x _ 8 _ 3 _ (by decide) h32 (by decide)]; exact ⟨rfl, a2⟩
  · rw [l_fold9 _ 16 _ 0 x (by decide) h32 (by decide) (by omega), l_fold9 _ 16 _ 1 _ (by decide) h32 (by decide) (by omega), l_fold9 _ 16 _ 2 _ (by decide) h32 (by decide) (by omega), l_fold9 _ 16 _ 3 _ (by decide) h32 (by decide) (by omega), l_fold9x _ 16 _ 4 _ (by decide) h32 (by decide)]; exact ⟨rfl, a3⟩
  · rw [l_fold9 _ 32 _ 0 x (by decide) h32 (by decide) (by omega), l_fold9 _ 32 _ 1 _ (by decide) h32 (by decide) (by omega), l_fold9 _ 32 _ 2 _ (by decide) h32 (by decide) (by omega), l_fold9 _ 32 _ 3 _ (by decide) h32 (by decide) (by omega), l_fold9 _ 32 _ 4 _ (by decide) h32 (by decide) (by omega), l_fold9x _ 32 _ 5 _ (by decide) h32 (by decide)]; exact ⟨rfl, a4⟩
/-- the reference's stage, block by block -/
theorem e_shrN {a s : Nat} (ha : a < 2 ^ 62) (hs : s < 64) : gLshr (lN a) (nI s) = lN (a / 2 ^ s) := by
  unfold gLshr
  rw [wb_c s hs]
  exact pf_shr (by rw [wb_tb, wb_sm s hs, BitVec.toNat_ofNat, Nat.mod_eq_of_lt (by omega)]) ha
theorem e_mask1 {h : Nat} (hh : h < 63) : gLshl 1 (nI h) - 1 = lN (2 ^ h - 1) := by
  rw [e_shl1 (by omega)]
  exact lN_sub (b := 1) (Nat.two_pow_pos h)
theorem tb_mul (b f i : Nat) : (b * 2 ^ f).testBit i = (decide (f ≤ i) && b.testBit (i - f)) := by
  rw [Nat.mul_comm, Nat.testBit_two_pow_mul]
theorem l_foldI (K n h : Nat) (hn : n ≤ 32) (h0 : 0 < h) (h1 : h ≤ 16) : ∀ (m t k v : Nat), 2 * h * t + 2 * h * m = n → m < k → v < 2 ^ 32 → ∃ v', fL_X10_folded_14 K (nI h) (nI n) k (nI (2 * h * t), lN v) = some (nI n, lN v') ∧ v' < 2 ^ 32 ∧ ∀ i, v'.testBit i = (v.testBit i ^^ (decide (2 * h * t ≤ i ∧ i < n) && (decide (i / h % 2 = 0) && v.testBit (i + h)))) := by
  intro m
  induction m with
  | zero =>
    intro t k v ht hk hv
    obtain ⟨k, rfl⟩ : ∃ q, k = q + 1 := ⟨k - 1, by omega⟩
    have e : 2 * h * t = n := by omega
    refine ⟨v, by rw [fL_X10_folded_14, e, if_pos (nI_le (Nat.le_refl _) (by omega))], hv, fun i => ?_⟩
    rw [e, decide_eq_false (show ¬ (n ≤ i ∧ i < n) by omega)]
    simp
  | succ m ih =>
    intro t k v ht hk hv
    obtain ⟨k, rfl⟩ : ∃ q, k = q + 1 := ⟨k - 1, by omega⟩
    have e2 : 2 * h * (t + 1) = 2 * h * t + 2 * h := by rw [Nat.mul_add, Nat.mul_one]
    have e3 : 2 * h * (m + 1) = 2 * h * m + 2 * h := by rw [Nat.mul_add, Nat.mul_one]
    obtain ⟨f, hf⟩ : ∃ f, f = 2 * h * t := ⟨_, rfl⟩
    have hfn : f + 2 * h ≤ n := by omega
    have hb : v / 2 ^ (f + h) % 2 ^ h < 2 ^ h := Nat.mod_lt _ (Nat.two_pow_pos h)
    have hv1 : v ^^^ (v / 2 ^ (f + h) % 2 ^ h * 2 ^ f) < 2 ^ 32 := by
      refine Nat.xor_lt_two_pow hv ?_
      have : v / 2 ^ (f + h) % 2 ^ h * 2 ^ f < 2 ^ h * 2 ^ f := (Nat.mul_lt_mul_right (Nat.two_pow_pos f)).mpr hb
      rw [← Nat.pow_add] at this
      exact Nat.lt_of_lt_of_le this (Nat.pow_le_pow_right (by decide) (by omega))
    obtain ⟨v', r1, r2, r3⟩ := ih (t + 1) k _ (by omega) (by omega) hv1
    refine ⟨v', ?_, r2, ?_⟩
    · rw [fL_X10_folded_14, ← hf, if_neg (nI_ge (show f < n by omega) (by omega)), nI_add, e_shrN (by omega) (by omega), e_mask1 (by omega), fb_andL, Nat.and_two_pow_sub_one_eq_mod, gLet]
      have e4 : gLshl (lN (v / 2 ^ (f + h) % 2 ^ h)) (nI f) = lN (v / 2 ^ (f + h) % 2 ^ h * 2 ^ f) := wb_shl _ (by omega)
      have e5 : nI f + 2 * nI h = nI (2 * h * (t + 1)) := by
        have : (2 : Int32) * nI h = nI (2 * h) := pk_mul 2 h
        rw [this, nI_add]
        congr 1
        omega
      rw [e4, fb_xorL, gLet, gLet, e5]
      exact r1
    · intro i
      have hbit : ∀ i, (v ^^^ (v / 2 ^ (f + h) % 2 ^ h * 2 ^ f)).testBit i = (v.testBit i ^^ (decide (f ≤ i ∧ i < f + h) && v.testBit (i + h))) := by
        intro i
        rw [Nat.testBit_xor, tb_mul, Nat.testBit_mod_two_pow, Nat.testBit_div_two_pow]
        congr 1
        by_cases q1 : f ≤ i
        · by_cases q2 : i < f + h
          · rw [decide_eq_true q1, decide_eq_true (show i - f < h by omega), decide_eq_true (show f ≤ i ∧ i < f + h from ⟨q1, q2⟩), show i - f + (f + h) = i + h by omega]
            rfl
          · rw [decide_eq_false (show ¬ i - f < h by omega), decide_eq_false (show ¬ (f ≤ i ∧ i < f + h) by omega)]
            simp
        · rw [decide_eq_false q1, decide_eq_false (show ¬ (f ≤ i ∧ i < f + h) by omega)]
          rfl
      rw [r3, hbit, hbit, e2, ← hf]
      by_cases q1 : f ≤ i ∧ i < f + h
      · have hd : i / h % 2 = 0 := by
          have : i / h = 2 * t := by
            apply Nat.div_eq_of_lt_le
            · rw [Nat.mul_comm (2 * t) h, ← Nat.mul_assoc, Nat.mul_comm h 2, ← hf]; exact q1.1
            · rw [Nat.add_mul, Nat.one_mul, Nat.mul_comm (2 * t) h, ← Nat.mul_assoc, Nat.mul_comm h 2, ← hf]; exact q1.2
          omega
        rw [decide_eq_true q1, decide_eq_false (show ¬ (f + 2 * h ≤ i ∧ i < n) by omega), decide_eq_true (show f ≤ i ∧ i < n by omega), decide_eq_true hd]
        simp
      · by_cases q2 : f + 2 * h ≤ i ∧ i < n
        · rw [decide_eq_false q1, decide_eq_true q2, decide_eq_true (show f ≤ i ∧ i < n by omega), decide_eq_false (show ¬ (f ≤ i + h ∧ i + h < f + h) by omega)]
          simp
        · rw [decide_eq_false q1, decide_eq_false q2]
          by_cases q3 : f ≤ i ∧ i < n
          · have hd : ¬ i / h % 2 = 0 := by
              have : i / h = 2 * t + 1 := by
                apply Nat.div_eq_of_lt_le
                · rw [Nat.add_mul, Nat.one_mul, Nat.mul_comm (2 * t) h, ← Nat.mul_assoc, Nat.mul_comm h 2, ← hf]; omega
                · rw [Nat.add_mul, Nat.add_mul, Nat.one_mul, Nat.mul_comm (2 * t) h, ← Nat.mul_assoc, Nat.mul_comm h 2, ← hf]; omega
              omega
            rw [decide_eq_false hd]
            simp
          · rw [decide_eq_false q3]
            simp

/-- one stage of the reference is one stage of the class -/
theorem e_foldI (K : Nat) (hK : 200000 ≤ K) {N s x : Nat} (hN : N ≤ 32) (hs : s < 5) (m : Nat) (hm : 2 * 2 ^ s * m = N) (hx : x < 2 ^ N) : fL_X10_folded_14 K (nI (2 ^ s)) (nI N) K (0, lN x) = some (nI N, lN (stg s x)) := by
  have hp : 2 ^ N ≤ 2 ^ 32 := Nat.pow_le_pow_right (by decide) hN
  have h16 : 2 ^ s ≤ 2 ^ 4 := Nat.pow_le_pow_right (by decide) (by omega)
  have hs0 := Nat.two_pow_pos s
  have hmk : m < K := by
    have : m ≤ 2 * 2 ^ s * m := Nat.le_mul_of_pos_left m (by omega)
    omega
  obtain ⟨v', r1, r2, r3⟩ := l_foldI K N (2 ^ s) hN hs0 h16 m 0 K x (by rw [Nat.mul_zero, Nat.zero_add]; exact hm) hmk (by omega)
  rw [Nat.mul_zero] at r1
  have e : v' = stg s x := by
    apply Nat.eq_of_testBit_eq
    intro i
    rw [r3, stg_b hs (by omega)]
    congr 1
    by_cases q : i < N
    · rw [decide_eq_true (show 2 * 2 ^ s * 0 ≤ i ∧ i < N from ⟨by omega, q⟩)]
      rfl
    · have h2 : x.testBit (i + 2 ^ s) = false := Nat.testBit_lt_two_pow (Nat.lt_of_lt_of_le hx (Nat.pow_le_pow_right (by decide) (by omega)))
      rw [h2]
      simp
  rw [← e]
  exact r1
theorem l_fold10 (K : Nat) (hK : 200000 ≤ K) (N k s x m : Nat) (hs : s < 5) (hN : N ≤ 32) (hm : 2 * 2 ^ s * m = N) (h2 : 2 ^ s < N) (hx : x < 2 ^ N) : fL_X10_folded_5 K (nI N) (k + 1) (nI (2 ^ s), lN x) = fL_X10_folded_5 K (nI N) k (nI (2 ^ (s + 1)), lN (stg s x)) := by
  have e : nI (2 ^ s) * 2 = nI (2 ^ (s + 1)) := by
    have : nI (2 ^ s) * (2 : Int32) = nI (2 ^ s * 2) := pk_mul (2 ^ s) 2
    rw [this, Nat.pow_succ]
  rw [fL_X10_folded_5, if_neg (nI_ge h2 (by omega)), e_foldI K hK hN hs m hm hx, Option.bind_some]
  dsimp only
  rw [gLet, e]
theorem l_fold10x (K : Nat) (N k s x : Nat) (hN : N ≤ 2 ^ s) (h5 : 2 ^ s < 2 ^ 31) : fL_X10_folded_5 K (nI N) (k + 1) (nI (2 ^ s), lN x) = some (nI (2 ^ s), lN x) := by
  rw [fL_X10_folded_5, if_pos (nI_le hN h5)]
theorem e_fold10 (K : Nat) (hK : 200000 ≤ K) {N x : Nat} (hN : Nok1 N) (hx : x < 2 ^ N) : f_X10_folded K (lN x) (nI N) = some (lN (FO N x)) := by
  have h32 : N ≤ 32 := by rcases hN with rfl | rfl | rfl | rfl | rfl | rfl <;> omega
  have a0 := stg_lt (s := 0) (by decide) h32 hx
  have a1 := stg_lt (s := 1) (by decide) h32 a0
  have a2 := stg_lt (s := 2) (by decide) h32 a1
  have a3 := stg_lt (s := 3) (by decide) h32 a2
  have z : (1 : Int32) = nI (2 ^ 0) := rfl
  unfold f_X10_folded
  rw [z]
  obtain ⟨k, hk⟩ : ∃ k, K = k + 6 := ⟨K - 6, by omega⟩
  rcases hN with rfl | rfl | rfl | rfl | rfl | rfl
  · have : fL_X10_folded_5 K (nI 1) K (nI (2 ^ 0), lN x) = some (nI (2 ^ 0), lN x) := by
      conv => lhs; arg 3; rw [hk]
      rw [l_fold10x K 1 _ 0 _ (by decide) (by decide)]
    rw [this]; rfl
  · have : fL_X10_folded_5 K (nI 2) K (nI (2 ^ 0), lN x) = some (nI (2 ^ 1), lN (FO 2 x)) := by
      conv => lhs; arg 3; rw [hk]
      rw [l_fold10 K hK 2 _ 0 x 1 (by decide) h32 (by decide) (by decide) hx, l_fold10x K 2 _ 1 _ (by decide) (by decide)]; rfl
    rw [this]; rfl
  · have : fL_X10_folded_5 K (nI 4) K (nI (2 ^ 0), lN x) = some (nI (2 ^ 2), lN (FO 4 x)) := by
      conv => lhs; arg 3; rw [hk]
      rw [l_fold10 K hK 4 _ 0 x 2 (by decide) h32 (by decide) (by decide) hx, l_fold10 K hK 4 _ 1 _ 1 (by decide) h32 (by decide) (by decide) a0, l_fold10x K 4 _ 2 _ (by decide) (by decide)]; rfl
    rw [this]; rfl
  · have : fL_X10_folded_5 K (nI 8) K (nI (2 ^ 0), lN x) = some (nI (2 ^ 3), lN (FO 8 x)) := by
      conv => lhs; arg 3; rw [hk]
      rw [l_fold10 K hK 8 _ 0 x 4 (by decide) h32 (by decide) (by decide) hx, l_fold10 K hK 8 _ 1 _ 2 (by decide) h32 (by decide) (by decide) a0, l_fold10 K hK 8 _ 2 _ 1 (by decide) h32 (by decide) (by decide) a1, l_fold10x K 8 _ 3 _ (by decide) (by decide)]; rfl
    rw [this]; rfl
  · have : fL_X10_folded_5 K (nI 16) K (nI (2 ^ 0), lN x) = some (nI (2 ^ 4), lN (FO 16 x)) := by
      conv => lhs; arg 3; rw [hk]
      rw [l_fold10 K hK 16 _ 0 x 8 (by decide) h32 (by decide) (by decide) hx, l_fold10 K hK 16 _ 1 _ 4 (by decide) h32 (by decide) (by decide) a0, l_fold10 K hK 16 _ 2 _ 2 (by decide) h32 (by decide) (by decide) a1, l_fold10 K hK 16 _ 3 _ 1 (by decide) h32 (by decide) (by decide) a2, l_fold10x K 16 _ 4 _ (by decide) (by decide)]; rfl
    rw [this]; rfl
  · have : fL_X10_folded_5 K (nI 32) K (nI (2 ^ 0), lN x) = some (nI (2 ^ 5), lN (FO 32 x)) := by
      conv => lhs; arg 3; rw [hk]
      rw [l_fold10 K hK 32 _ 0 x 16 (by decide) h32 (by decide) (by decide) hx, l_fold10 K hK 32 _ 1 _ 8 (by decide) h32 (by decide) (by decide) a0, l_fold10 K hK 32 _ 2 _ 4 (by decide) h32 (by decide) (by decide) a1, l_fold10 K hK 32 _ 3 _ 2 (by decide) h32 (by decide) (by decide) a2, l_fold10 K hK 32 _ 4 _ 1 (by decide) h32 (by decide) (by decide) a3, l_fold10x K 32 _ 5 _ (by decide) (by decide)]; rfl
    rw [this]; rfl
/-- rows -/
theorem e_all9 (K : Nat) {N : Nat} (hN : N ≤ 32) : f_X4_allPlaces K (nI N) = some (lN (2 ^ N - 1)) := by
  rw [f_X4_allPlaces, e_mask1 (by omega)]
theorem e_all10 (K : Nat) {N : Nat} (hN : N ≤ 32) : f_X10_all K (nI N) = some (lN (2 ^ N - 1)) := by
  rw [f_X10_all, e_mask1 (by omega)]
theorem e_isRow (K : Nat) {N : Nat} (hN : N ≤ 32) (x : Int64) : f_X4_isRow K x (nI N) = some (if 0 ≤ x.toInt ∧ x.toInt ≤ (lN (2 ^ N - 1)).toInt then 1 else 0) := by
  unfold f_X4_isRow
  rw [e_all9 K hN]
  simp only [lgc_lt, lgc_gt, j_0, Option.bind_some]
  repeat' split
  all_goals first | rfl | (exfalso; omega)
theorem isRow_N {N : Nat} (hN : N ≤ 32) {x : Int64} (h : 0 ≤ x.toInt ∧ x.toInt ≤ (lN (2 ^ N - 1)).toInt) : ∃ X : Nat, x = lN X ∧ X < 2 ^ N := by
  obtain ⟨X, h1, h2, h3⟩ := toL h.1
  have hp : 2 ^ N ≤ 2 ^ 32 := Nat.pow_le_pow_right (by decide) hN
  have h0 := Nat.two_pow_pos N
  have h4 : (lN (2 ^ N - 1)).toInt = ((2 ^ N - 1 : Nat) : Int) := pk_lT (by omega)
  exact ⟨X, h2, by omega⟩
