/-! messages spread over the good places, and gathered again -/
theorem add_or {x n : Nat} (h : x < 2 ^ n) : x + 2 ^ n = x ||| 2 ^ n := by
  have := Nat.two_pow_add_eq_or_of_lt (b := x) (i := n) h 1
  rw [Nat.mul_one] at this
  rw [Nat.add_comm, this, Nat.or_comm]
theorem sp_succ (G m n : Nat) : spN G m (n + 1) = spN G m n + (if G.testBit n ∧ m.testBit (pcN n G) then 2 ^ n else 0) := rfl
theorem sp_lt (G m : Nat) : ∀ n, spN G m n < 2 ^ n := by
  intro n
  induction n with
  | zero => exact Nat.one_pos
  | succ n ih =>
    rw [sp_succ, Nat.pow_succ]
    have := Nat.two_pow_pos n
    split <;> omega
theorem sp_b (G m : Nat) : ∀ n i, (spN G m n).testBit i = (decide (i < n) && (G.testBit i && m.testBit (pcN i G))) := by
  intro n
  induction n with
  | zero => intro i; simp [spN]
  | succ n ih =>
    intro i
    have e : spN G m (n + 1) = spN G m n ||| (if G.testBit n ∧ m.testBit (pcN n G) then 2 ^ n else 0) := by
      rw [sp_succ]
      split
      · exact add_or (sp_lt G m n)
      · simp
    rw [e, Nat.testBit_or, ih]
    by_cases q : i = n
    · subst q
      rw [decide_eq_false (Nat.lt_irrefl i), decide_eq_true (Nat.lt_succ_self i)]
      by_cases c : G.testBit i ∧ m.testBit (pcN i G)
      · rw [if_pos c, Nat.testBit_two_pow, c.1, c.2]; simp
      · rw [if_neg c, Nat.zero_testBit]
        cases h1 : G.testBit i <;> cases h2 : m.testBit (pcN i G) <;> simp_all
    · have h2 : (if G.testBit n ∧ m.testBit (pcN n G) then 2 ^ n else 0).testBit i = false := by
        split
        · rw [Nat.testBit_two_pow]; exact decide_eq_false (fun z => q z.symm)
        · exact Nat.zero_testBit i
      rw [h2, Bool.or_false]
      congr 1
      exact decide_eq_decide.mpr (by omega)
theorem bit_mod (M c : Nat) : M / 2 ^ c % 2 = if M.testBit c then 1 else 0 := by
  rw [Nat.testBit_eq_decide_div_mod_eq]
  have h2 : M / 2 ^ c % 2 < 2 := Nat.mod_lt _ (by decide)
  rcases (show M / 2 ^ c % 2 = 0 ∨ M / 2 ^ c % 2 = 1 by omega) with h | h <;> rw [h] <;> rfl
theorem div_pow1 (M c : Nat) : M / 2 ^ c / 2 ^ 1 = M / 2 ^ (c + 1) := by
  rw [Nat.div_div_eq_div_mul, ← Nat.pow_add]
theorem l_spread (K N G M : Nat) (hN : N ≤ 32) (hG : G < 2 ^ 64) (hM : M < 2 ^ 64) : ∀ (m i k : Nat), i + m = N → m < k → fL_X4_spread_8 K (nI N) (lN G) k (nI i, lN (M / 2 ^ pcN i G), lN (spN G M i)) = some (nI N, lN (M / 2 ^ pcN N G), lN (spN G M N)) := by
  intro m
  induction m with
  | zero =>
    intro i k hi hk
    obtain ⟨k, rfl⟩ : ∃ q, k = q + 1 := ⟨k - 1, by omega⟩
    have hi : i = N := by omega
    subst hi
    rw [fL_X4_spread_8, if_pos (nI_le (Nat.le_refl _) (by omega))]
  | succ m ih =>
    intro i k hi hk
    obtain ⟨k, rfl⟩ : ∃ q, k = q + 1 := ⟨k - 1, by omega⟩
    have h := ih (i + 1) k (by omega) (by omega)
    rw [pc_succ, sp_succ] at h
    have hd : M / 2 ^ pcN i G < 2 ^ 64 := Nat.lt_of_le_of_lt (Nat.div_le_self _ _) hM
    rw [fL_X4_spread_8, if_neg (nI_ge (show i < N by omega) (by omega)), e9_isGood K (by omega) hG, Option.bind_some]
    cases hb : G.testBit i with
    | false =>
      rw [hb] at h
      rw [if_pos (show bI false = 0 by rfl), gLet, nI_1]
      rw [if_neg (by simp), if_neg (by simp), Nat.add_zero, Nat.add_zero] at h
      exact h
    | true =>
      rw [hb, if_pos rfl] at h
      have e1 : gLshl (lN (M / 2 ^ pcN i G) &&& 1) (nI i) = lN (M / 2 ^ pcN i G % 2 * 2 ^ i) := by
        rw [wb_a1 hd]
        exact wb_shl _ (by omega)
      have e2 : gLushr (lN (M / 2 ^ pcN i G)) 1 = lN (M / 2 ^ (pcN i G + 1)) := by
        have : gLushr (lN (M / 2 ^ pcN i G)) 1 = lN (M / 2 ^ pcN i G / 2 ^ 1) := e_ushrN (s := 1) hd (by decide)
        rw [this, div_pow1]
      rw [if_neg (show ¬ bI true = 0 by decide), gLet, gLet, gLet, nI_1, e1, e2, fb_orL]
      have e3 : spN G M i ||| M / 2 ^ pcN i G % 2 * 2 ^ i = spN G M i + (if True ∧ M.testBit (pcN i G) then 2 ^ i else 0) := by
        rw [bit_mod]
        cases M.testBit (pcN i G) with
        | false => simp
        | true => rw [if_pos rfl, if_pos ⟨trivial, rfl⟩, Nat.one_mul, add_or (sp_lt G M i)]
      rw [e3]
      simpa using h
theorem e_spread (K : Nat) (hK : 200000 ≤ K) {N G M : Nat} (hN : N ≤ 32) (hG : G < 2 ^ 64) (hM : M < 2 ^ 64) : f_X4_spread K (lN M) (nI N) (lN G) = some (lN (spN G M N)) := by
  have h := l_spread K N G M hN hG hM N 0 K (by omega) (by omega)
  rw [show pcN 0 G = 0 from rfl, Nat.pow_zero, Nat.div_one] at h
  have h2 : fL_X4_spread_8 K (nI N) (lN G) K (0, lN M, 0) = some (nI N, lN (M / 2 ^ pcN N G), lN (spN G M N)) := h
  rw [f_X4_spread, h2]; rfl
theorem rw_step {G F : Nat} (h : G &&& F = 0) (M i : Nat) : (spN G M i ||| F % 2 ^ i) ||| (if G.testBit i then (if M.testBit (pcN i G) then 1 else 0) else (if F.testBit i then 1 else 0)) * 2 ^ i = spN G M (i + 1) ||| F % 2 ^ (i + 1) := by
  apply Nat.eq_of_testBit_eq
  intro j
  rw [Nat.testBit_or, Nat.testBit_or, Nat.testBit_or, sp_b, sp_b, Nat.testBit_mod_two_pow, Nat.testBit_mod_two_pow, tb_mul]
  have ha := apart_b h i
  by_cases q : j < i
  · rw [decide_eq_true q, decide_eq_true (show j < i + 1 by omega), decide_eq_false (show ¬ i ≤ j by omega)]
    simp
  · by_cases q2 : j = i
    · subst q2
      rw [decide_eq_false (show ¬ j < j by omega), decide_eq_true (show j < j + 1 by omega), decide_eq_true (Nat.le_refl j), Nat.sub_self]
      cases hg : G.testBit j <;> cases hf : F.testBit j <;> cases hm : M.testBit (pcN j G) <;> simp_all
    · rw [decide_eq_false q, decide_eq_false (show ¬ j < i + 1 by omega), decide_eq_true (show i ≤ j by omega)]
      have : ∀ b : Nat, b < 2 → b.testBit (j - i) = false := fun b hb => Nat.testBit_lt_two_pow (Nat.lt_of_lt_of_le hb (by
        have : 2 ^ 1 ≤ 2 ^ (j - i) := Nat.pow_le_pow_right (by decide) (by omega)
        simpa using this))
      rw [this _ (by repeat' split
                     all_goals decide)]
      rfl
theorem l_rowOf (K N G F M : Nat) (hN : N ≤ 32) (hGF : G &&& F = 0) (hM : M < 2 ^ 62) (mg mz : Nat → Int32) (hg : ∀ j, j < 32 → mg j = bI (G.testBit j)) (hz : ∀ j, j < 32 → mz j = bI (F.testBit j)) : ∀ (m i k : Nat), i + m = N → m < k → fL_X10_rowOf_8 K (nI N) mg mz k (nI i, lN (M / 2 ^ pcN i G), lN (spN G M i ||| F % 2 ^ i)) = some (nI N, lN (M / 2 ^ pcN N G), lN (spN G M N ||| F % 2 ^ N)) := by
  intro m
  induction m with
  | zero =>
    intro i k hi hk
    obtain ⟨k, rfl⟩ : ∃ q, k = q + 1 := ⟨k - 1, by omega⟩
    have hi : i = N := by omega
    subst hi
    rw [fL_X10_rowOf_8, if_pos (nI_le (Nat.le_refl _) (by omega))]
  | succ m ih =>
    intro i k hi hk
    obtain ⟨k, rfl⟩ : ∃ q, k = q + 1 := ⟨k - 1, by omega⟩
    have h := ih (i + 1) k (by omega) (by omega)
    rw [pc_succ, ← rw_step hGF] at h
    have hd : M / 2 ^ pcN i G < 2 ^ 62 := Nat.lt_of_le_of_lt (Nat.div_le_self _ _) hM
    rw [fL_X10_rowOf_8, if_neg (nI_ge (show i < N by omega) (by omega)), gIx_nI _ (show i < 32 by omega) (by decide), gIx_nI _ (show i < 32 by omega) (by decide), tnN (by omega), hg i (by omega), hz i (by omega)]
    cases hb : G.testBit i with
    | false =>
      rw [hb, if_neg (by simp), if_neg (by simp), Nat.add_zero] at h
      have e1 : gLshl (Int32.toInt64 (bI (F.testBit i))) (nI i) = lN ((if F.testBit i then 1 else 0) * 2 ^ i) := by
        rw [bI_nI, nI_l (by split <;> decide)]
        exact wb_shl _ (by omega)
      rw [if_pos (show bI false = 0 by rfl), if_pos (show bI false = 0 by rfl), Option.bind_some, gLet, gIx_nI _ (show i < 32 by omega) (by decide), Option.bind_some, gLet, nI_1, e1, fb_orL]
      exact h
    | true =>
      rw [hb, if_pos rfl, if_pos rfl] at h
      have e1 : gLshl (lN (M / 2 ^ pcN i G) &&& 1) (nI i) = lN (M / 2 ^ pcN i G % 2 * 2 ^ i) := by
        rw [wb_a1 (by omega)]
        exact wb_shl _ (by omega)
      have e2 : gLshr (lN (M / 2 ^ pcN i G)) 1 = lN (M / 2 ^ (pcN i G + 1)) := by
        have : gLshr (lN (M / 2 ^ pcN i G)) 1 = lN (M / 2 ^ pcN i G / 2 ^ 1) := e_shrN (s := 1) hd (by decide)
        rw [this, div_pow1]
      rw [if_neg (show ¬ bI true = 0 by decide), if_neg (show ¬ bI true = 0 by decide), Option.bind_some, gLet, gIx_nI _ (show i < 32 by omega) (by decide), Option.bind_some, gLet, nI_1, e1, e2, fb_orL, bit_mod]
      exact h
theorem e_rowOf (K : Nat) (hK : 200000 ≤ K) {N G F M : Nat} (hN : N ≤ 32) (hF : F < 2 ^ N) (hGF : G &&& F = 0) (hM : M < 2 ^ 62) {mg mz : Nat → Int32} (hg : ∀ j, j < 32 → mg j = bI (G.testBit j)) (hz : ∀ j, j < 32 → mz j = bI (F.testBit j)) : f_X10_rowOf K (lN M) (nI N) mg mz = some (lN (spN G M N ||| F)) := by
  have h := l_rowOf K N G F M hN hGF hM mg mz hg hz N 0 K (by omega) (by omega)
  rw [show pcN 0 G = 0 from rfl, Nat.pow_zero, Nat.div_one, Nat.mod_one, Nat.or_zero, Nat.mod_eq_of_lt hF] at h
  have h2 : fL_X10_rowOf_8 K (nI N) mg mz K (0, lN M, 0) = some (nI N, lN (M / 2 ^ pcN N G), lN (spN G M N ||| F)) := h
  rw [f_X10_rowOf, h2]; rfl
theorem spF_lt {N G F M : Nat} (hF : F < 2 ^ N) : spN G M N ||| F < 2 ^ N := Nat.or_lt_two_pow (sp_lt G M N) hF
theorem e_wordOf (K : Nat) (hK : 200000 ≤ K) {N G F M : Nat} (hN : Nok1 N) (hG : G < 2 ^ 64) (hF : F < 2 ^ N) (hM : M < 2 ^ 64) : f_X4_wordOf K (lN M) (nI N) (lN G) (lN F) = some (lN (wdN N G F M)) ∧ wdN N G F M < 2 ^ N := by
  have hN32 : N ≤ 32 := by rcases hN with rfl | rfl | rfl | rfl | rfl | rfl <;> omega
  have h := e_fold9 K hK hN (spF_lt (G := G) (M := M) hF)
  refine ⟨?_, h.2⟩
  rw [f_X4_wordOf, e_spread K hK hN32 hG hM, Option.bind_some, fb_orL, h.1]; rfl
theorem e_word10 (K : Nat) (hK : 200000 ≤ K) {N G F M : Nat} (hN : Nok1 N) (hF : F < 2 ^ N) (hGF : G &&& F = 0) (hM : M < 2 ^ 62) {mg mz : Nat → Int32} (hg : ∀ j, j < 32 → mg j = bI (G.testBit j)) (hz : ∀ j, j < 32 → mz j = bI (F.testBit j)) : f_X10_rowOf K (lN M) (nI N) mg mz = some (lN (spN G M N ||| F)) ∧ f_X10_folded K (lN (spN G M N ||| F)) (nI N) = some (lN (wdN N G F M)) := by
  have hN32 : N ≤ 32 := by rcases hN with rfl | rfl | rfl | rfl | rfl | rfl <;> omega
  exact ⟨e_rowOf K hK hN32 hF hGF hM hg hz, e_fold10 K hK hN (spF_lt hF)⟩
/-- messages -/
theorem e9_isMessage (K : Nat) {N G : Nat} (hN : N ≤ 32) (hG : G < 2 ^ N) (x : Int64) : f_X4_isMessage K x (lN G) = some (if 0 ≤ x.toInt ∧ x.toInt < ((2 ^ pcN N G : Nat) : Int) then 1 else 0) := by
  have hp : 2 ^ N ≤ 2 ^ 32 := Nat.pow_le_pow_right (by decide) hN
  have hc := pc_le N G
  have hp2 : 2 ^ pcN N G ≤ 2 ^ 32 := Nat.pow_le_pow_right (by decide) (by omega)
  unfold f_X4_isMessage
  rw [e_goodCount K (by omega), pc_lt hN hG, Option.bind_some, e_shl1 (by omega)]
  have e : (lN (2 ^ pcN N G)).toInt = ((2 ^ pcN N G : Nat) : Int) := pk_lT (by omega)
  simp only [lgc_lt, lgc_ge, j_0, e]
  repeat' split
  all_goals first | rfl | (exfalso; omega)
theorem gBool_ite {c : Prop} [Decidable c] : gBool (α := Int32) (if c then 1 else 0) (some (if c then 1 else 0)) = some (if c then 1 else 0) := by
  unfold gBool
  by_cases h : c
  · rw [if_pos h, if_pos (Or.inr rfl)]
  · rw [if_neg h, if_pos (Or.inl rfl)]
theorem e10_isMessage (K : Nat) (hK : 200000 ≤ K) {N G : Nat} (hN : N ≤ 32) {mg : Nat → Int32} (hg : ∀ j, j < 32 → mg j = bI (G.testBit j)) (x : Int64) : f_X10_isMessage K x (nI N) mg = some (if 0 ≤ x.toInt ∧ x.toInt < ((2 ^ pcN N G : Nat) : Int) then 1 else 0) := by
  have hc := pc_le N G
  have hp2 : 2 ^ pcN N G ≤ 2 ^ 32 := Nat.pow_le_pow_right (by decide) (by omega)
  have h0 := Nat.two_pow_pos (pcN N G)
  unfold f_X10_isMessage
  rw [e_goods K N G hK mg hN hg, Option.bind_some, e_mask1 (by omega), e_in, Option.bind_some]
  have e : (lN (2 ^ pcN N G - 1)).toInt = ((2 ^ pcN N G - 1 : Nat) : Int) := pk_lT (by omega)
  have e2 : ((0 : Int64).toInt ≤ x.toInt ∧ x.toInt ≤ (lN (2 ^ pcN N G - 1)).toInt) ↔ (0 ≤ x.toInt ∧ x.toInt < ((2 ^ pcN N G : Nat) : Int)) := by
    rw [j_0, e]
    omega
  rw [gBool_ite]
  simp only [e2]
theorem isMsg_N {N G : Nat} {x : Int64} (h : 0 ≤ x.toInt ∧ x.toInt < ((2 ^ pcN N G : Nat) : Int)) : ∃ M : Nat, x = lN M ∧ M < 2 ^ pcN N G := by
  obtain ⟨X, h1, h2, h3⟩ := toL h.1
  exact ⟨X, h2, by omega⟩
/-- the message in a row -/
def mgN (G R : Nat) : Nat → Nat
  | 0 => 0
  | n + 1 => if G.testBit n then mgN G R n ||| R / 2 ^ n % 2 * 2 ^ pcN n G else mgN G R n
theorem l_mgIn (K N G R : Nat) (hN : N ≤ 32) (hG : G < 2 ^ 64) (hR : R < 2 ^ 64) : ∀ (m i k : Nat), i + m = N → m < k → fL_X4_messageIn_8 K (lN R) (nI N) (lN G) k (nI i, nI (pcN i G), lN (mgN G R i)) = some (nI N, nI (pcN N G), lN (mgN G R N)) := by
  intro m
  induction m with
  | zero =>
    intro i k hi hk
    obtain ⟨k, rfl⟩ : ∃ q, k = q + 1 := ⟨k - 1, by omega⟩
    have hi : i = N := by omega
    subst hi
    rw [fL_X4_messageIn_8, if_pos (nI_le (Nat.le_refl _) (by omega))]
  | succ m ih =>
    intro i k hi hk
    obtain ⟨k, rfl⟩ : ∃ q, k = q + 1 := ⟨k - 1, by omega⟩
    have h := ih (i + 1) k (by omega) (by omega)
    rw [pc_succ, mgN] at h
    have hc := pc_le i G
    rw [fL_X4_messageIn_8, if_neg (nI_ge (show i < N by omega) (by omega)), e9_isGood K (by omega) hG, Option.bind_some]
    cases hb : G.testBit i with
    | false =>
      rw [hb, if_neg (by simp), if_neg (by simp), Nat.add_zero] at h
      rw [if_pos (show bI false = 0 by rfl), gLet, nI_1]
      exact h
    | true =>
      rw [hb, if_pos rfl, if_pos rfl] at h
      have e1 : gLshl (gLushr (lN R) (nI i) &&& 1) (nI (pcN i G)) = lN (R / 2 ^ i % 2 * 2 ^ pcN i G) := by
        have : gLushr (lN R) (nI i) &&& 1 = lN (R / 2 ^ i % 2) := wb_bit hR (by omega)
        rw [this]
        exact wb_shl _ (by omega)
      rw [if_neg (show ¬ bI true = 0 by decide), gLet, gLet, gLet, nI_1, nI_1, e1, fb_orL]
      exact h
theorem e_mgIn (K : Nat) (hK : 200000 ≤ K) {N G R : Nat} (hN : N ≤ 32) (hG : G < 2 ^ 64) (hR : R < 2 ^ 64) : f_X4_messageIn K (lN R) (nI N) (lN G) = some (lN (mgN G R N)) := by
  have h := l_mgIn K N G R hN hG hR N 0 K (by omega) (by omega)
  have h2 : fL_X4_messageIn_8 K (lN R) (nI N) (lN G) K (0, 0, 0) = some (nI N, nI (pcN N G), lN (mgN G R N)) := h
  rw [f_X4_messageIn, h2]; rfl
theorem l_mgOf (K N G R : Nat) (hN : N ≤ 32) (hR : R < 2 ^ 62) {mg : Nat → Int32} (hg : ∀ j, j < 32 → mg j = bI (G.testBit j)) : ∀ (m i k : Nat), i + m = N → m < k → fL_X10_messageOf_8 K (lN R) (nI N) mg k (nI i, nI (pcN i G), lN (mgN G R i)) = some (nI N, nI (pcN N G), lN (mgN G R N)) := by
  intro m
  induction m with
  | zero =>
    intro i k hi hk
    obtain ⟨k, rfl⟩ : ∃ q, k = q + 1 := ⟨k - 1, by omega⟩
    have hi : i = N := by omega
    subst hi
    rw [fL_X10_messageOf_8, if_pos (nI_le (Nat.le_refl _) (by omega))]
  | succ m ih =>
    intro i k hi hk
    obtain ⟨k, rfl⟩ : ∃ q, k = q + 1 := ⟨k - 1, by omega⟩
    have h := ih (i + 1) k (by omega) (by omega)
    rw [pc_succ, mgN] at h
    have hc := pc_le i G
    rw [fL_X10_messageOf_8, if_neg (nI_ge (show i < N by omega) (by omega)), gIx_nI _ (show i < 32 by omega) (by decide), tnN (by omega), hg i (by omega)]
    cases hb : G.testBit i with
    | false =>
      rw [hb, if_neg (by simp), if_neg (by simp), Nat.add_zero] at h
      rw [if_pos (show bI false = 0 by rfl), gLet, nI_1]
      exact h
    | true =>
      rw [hb, if_pos rfl, if_pos rfl] at h
      have e1 : gLshl (gLshr (lN R) (nI i) &&& 1) (nI (pcN i G)) = lN (R / 2 ^ i % 2 * 2 ^ pcN i G) := by
        rw [e_shrN hR (by omega), wb_a1 (Nat.lt_of_le_of_lt (Nat.div_le_self _ _) (by omega))]
        exact wb_shl _ (by omega)
      rw [if_neg (show ¬ bI true = 0 by decide), gLet, gLet, gLet, nI_1, nI_1, e1, fb_orL]
      exact h
theorem e_mgOf (K : Nat) (hK : 200000 ≤ K) {N G R : Nat} (hN : N ≤ 32) (hR : R < 2 ^ 62) {mg : Nat → Int32} (hg : ∀ j, j < 32 → mg j = bI (G.testBit j)) : f_X10_messageOf K (lN R) (nI N) mg = some (lN (mgN G R N)) := by
  have h := l_mgOf K N G R hN hR hg N 0 K (by omega) (by omega)
  have h2 : fL_X10_messageOf_8 K (lN R) (nI N) mg K (0, 0, 0) = some (nI N, nI (pcN N G), lN (mgN G R N)) := h
  rw [f_X10_messageOf, h2]; rfl
/-- the reference's count of ones -/
theorem l_ones (K x : Nat) (hx : x < 2 ^ 62) : ∀ (m i k : Nat), i + m = 33 → m < k → fL_X10_ones_4 K (lN x) k (nI i, nI (pcN i x)) = some (nI 33, nI (pcN 33 x)) := by
  intro m
  induction m with
  | zero =>
    intro i k hi hk
    obtain ⟨k, rfl⟩ : ∃ q, k = q + 1 := ⟨k - 1, by omega⟩
    have hi : i = 33 := by omega
    subst hi
    rw [fL_X10_ones_4, if_pos (show (33 : Int32) ≤ nI 33 by decide)]
  | succ m ih =>
    intro i k hi hk
    obtain ⟨k, rfl⟩ : ∃ q, k = q + 1 := ⟨k - 1, by omega⟩
    have h := ih (i + 1) k (by omega) (by omega)
    rw [pc_succ] at h
    have e1 : Int64.toInt32 (gLshr (lN x) (nI i) &&& 1) = nI (if x.testBit i then 1 else 0) := by
      rw [e_shrN hx (by omega), wb_a1 (Nat.lt_of_le_of_lt (Nat.div_le_self _ _) (by omega)), lN_i, bit_mod]
    rw [fL_X10_ones_4, if_neg (show ¬ (33 : Int32) ≤ nI i from nI_ge (b := 33) (by omega) (by decide)), gLet, gLet, nI_1, e1, nI_add]
    exact h
theorem e_ones (K : Nat) (hK : 200000 ≤ K) {x N : Nat} (hN : N ≤ 33) (hx : x < 2 ^ N) : f_X10_ones K (lN x) = some (nI (pcN N x)) := by
  have hp : 2 ^ N ≤ 2 ^ 33 := Nat.pow_le_pow_right (by decide) hN
  have h := l_ones K x (by omega) 33 0 K (by omega) (by omega)
  have h2 : fL_X10_ones_4 K (lN x) K (0, 0) = some (nI 33, nI (pcN 33 x)) := h
  rw [f_X10_ones, h2, pc_lt hN hx]; rfl
theorem e_bcN (K : Nat) {x N : Nat} (hN : N ≤ 32) (hx : x < 2 ^ N) : f_J13_bitCount_95d88 K (lN x) = some (nI (pcN N x)) := by
  have hp : 2 ^ N ≤ 2 ^ 32 := Nat.pow_le_pow_right (by decide) hN
  rw [e_bc K (by omega), pc_lt hN hx]
