/-! the check of a path, and sending -/
theorem mg_succ (G R n : Nat) : mgN G R (n + 1) = if G.testBit n then mgN G R n ||| R / 2 ^ n % 2 * 2 ^ pcN n G else mgN G R n := rfl
theorem mg_b (G R n j : Nat) : (mgN G R (n + 1)).testBit j = ((mgN G R n).testBit j || (G.testBit n && (R.testBit n && decide (j = pcN n G)))) := by
  rw [mg_succ, bit_mod]
  cases hg : G.testBit n with
  | false => simp
  | true =>
    rw [if_pos rfl, Nat.testBit_or]
    cases hr : R.testBit n with
    | false => simp
    | true =>
      rw [if_pos rfl, Nat.one_mul, Nat.testBit_two_pow]
      simp only [Bool.true_and]
      congr 1
      exact decide_eq_decide.mpr ⟨fun h => h.symm, fun h => h.symm⟩
theorem mg_lt (G R : Nat) : ∀ n, mgN G R n < 2 ^ pcN n G := by
  intro n
  induction n with
  | zero => exact Nat.one_pos
  | succ n ih =>
    rw [mg_succ, pc_succ]
    split
    · refine Nat.or_lt_two_pow (Nat.lt_of_lt_of_le ih (Nat.pow_le_pow_right (by decide) (by omega))) ?_
      have h2 : R / 2 ^ n % 2 < 2 := Nat.mod_lt _ (by decide)
      rw [Nat.pow_succ]
      have h3 := Nat.two_pow_pos (pcN n G)
      rcases (show R / 2 ^ n % 2 = 0 ∨ R / 2 ^ n % 2 = 1 by omega) with h | h <;> rw [h] <;> omega
    · exact ih
theorem pc_msg (G R M : Nat) : ∀ n, fb_ct (fun j => R.testBit j && (G.testBit j && M.testBit (pcN j G))) n = fb_ct (fun j => (mgN G R n).testBit j && M.testBit j) (pcN n G) := by
  intro n
  induction n with
  | zero => rfl
  | succ n ih =>
    rw [fb_ct_succ, pc_succ, ih]
    cases hg : G.testBit n with
    | false =>
      rw [if_neg (show ¬ (R.testBit n && (false && M.testBit (pcN n G))) = true by simp), if_neg (by simp), Nat.add_zero, Nat.add_zero, mg_succ, hg]
      rfl
    | true =>
      rw [if_pos (show (true : Bool) = true from rfl), fb_ct_succ]
      have h1 : (mgN G R n).testBit (pcN n G) = false := Nat.testBit_lt_two_pow (mg_lt G R n)
      have e : ∀ j, (mgN G R (n + 1)).testBit j = ((mgN G R n).testBit j || (R.testBit n && decide (j = pcN n G))) := fun j => by
        rw [mg_b, hg, Bool.true_and]
      congr 1
      · refine fb_ct_cong (fun j hj => ?_)
        rw [e, decide_eq_false (show ¬ j = pcN n G by omega)]
        simp
      · rw [e, h1]
        simp
theorem e_odd9 {c : Nat} (hc : c < 2 ^ 31) : (nI c &&& 1 = 0) = (c % 2 = 0) := by
  have : nI c &&& 1 = nI (c % 2) := fa_mask c 1
  rw [this, eqI, i_0, nI_toInt (by omega)]
  exact propext ⟨fun h => by omega, fun h => by omega⟩
theorem e_odd10 {c : Nat} (hc : c < 2 ^ 31) : (nI c - nI c / 2 * 2 = 0) = (c % 2 = 0) := by
  have : nI c - nI c / 2 * 2 = nI (c % 2) := fa_rem (k := 1) hc (by decide)
  rw [this, eqI, i_0, nI_toInt (by omega)]
  exact propext ⟨fun h => by omega, fun h => by omega⟩
theorem l_passed (K : Nat) (hK : 200000 ≤ K) (N G M c : Nat) (hN : N ≤ 32) (hc : c ≤ 64) (hM : M < 2 ^ 32) {mg : Nat → Int32} (hg : ∀ j, j < 32 → mg j = bI (G.testBit j)) (ura mo : Nat → Int64) (hj : ∀ j, j < c → ∃ R : Nat, R < 2 ^ 32 ∧ ura j = lN R ∧ mo j = lN R) : ∀ (m i k : Nat), i + m = c → m < k → ∃ r, fL_X5_firstThatMeetsCheck_12 K (lN (spN G M N)) (nI c) ura k (nI i) = some r ∧ fL_X10_passed_12 K (nI N) (lN M) (nI c) mo mg k (nI i) = some r := by
  intro m
  induction m with
  | zero =>
    intro i k hi hk
    obtain ⟨k, rfl⟩ : ∃ q, k = q + 1 := ⟨k - 1, by omega⟩
    have hi : i = c := by omega
    subst hi
    exact ⟨-9, by rw [fL_X5_firstThatMeetsCheck_12, if_pos (nI_le (Nat.le_refl _) (by omega))], by rw [fL_X10_passed_12, if_pos (nI_le (Nat.le_refl _) (by omega))]⟩
  | succ m ih =>
    intro i k hi hk
    obtain ⟨k, rfl⟩ : ∃ q, k = q + 1 := ⟨k - 1, by omega⟩
    obtain ⟨r, h1, h2⟩ := ih (i + 1) k (by omega) (by omega)
    obtain ⟨R, r1, r2, r3⟩ := hj i (by omega)
    have hcN := pc_le N G
    have s1 : R &&& spN G M N < 2 ^ N := Nat.and_lt_two_pow _ (sp_lt G M N)
    have s2 : mgN G R N &&& M < 2 ^ pcN N G := Nat.lt_of_le_of_lt Nat.and_le_left (mg_lt G R N)
    have s3 : pcN N (R &&& spN G M N) = pcN (pcN N G) (mgN G R N &&& M) := by
      unfold pcN
      have e1 : fb_ct (fun j => (R &&& spN G M N).testBit j) N = fb_ct (fun j => R.testBit j && (G.testBit j && M.testBit (pcN j G))) N := fb_ct_cong (fun j hj => by
        rw [Nat.testBit_and, sp_b, decide_eq_true hj, Bool.true_and])
      rw [e1, pc_msg]
      exact fb_ct_cong (fun j hj => by rw [Nat.testBit_and])
    have s4 := pc_le N (R &&& spN G M N)
    have u1 : f_J13_bitCount_95d88 K (ura i &&& lN (spN G M N)) = some (nI (pcN N (R &&& spN G M N))) := by
      rw [r2, fb_andL, e_bcN K hN s1]
    have u2 : f_X10_ones K (lN (mgN G R N) &&& lN M) = some (nI (pcN N (R &&& spN G M N))) := by
      rw [fb_andL, e_ones K hK (show pcN N G ≤ 33 by omega) s2, s3]
    by_cases q : pcN N (R &&& spN G M N) % 2 = 0
    · refine ⟨nI i, ?_, ?_⟩
      · rw [fL_X5_firstThatMeetsCheck_12, if_neg (nI_ge (show i < c by omega) (by omega)), gIx_nI _ (show i < 64 by omega) (by decide), tnN (by omega), u1, Option.bind_some, if_pos (show nI (pcN N (R &&& spN G M N)) &&& 1 = 0 by rw [e_odd9 (by omega)]; exact q)]
      · rw [fL_X10_passed_12, if_neg (nI_ge (show i < c by omega) (by omega)), gIx_nI _ (show i < 64 by omega) (by decide), tnN (by omega), r3, e_mgOf K hK hN (by omega) hg, Option.bind_some, u2, Option.bind_some, if_pos (show nI (pcN N (R &&& spN G M N)) - nI (pcN N (R &&& spN G M N)) / 2 * 2 = 0 by rw [e_odd10 (by omega)]; exact q)]
    · refine ⟨r, ?_, ?_⟩
      · rw [fL_X5_firstThatMeetsCheck_12, if_neg (nI_ge (show i < c by omega) (by omega)), gIx_nI _ (show i < 64 by omega) (by decide), tnN (by omega), u1, Option.bind_some, if_neg (show ¬ nI (pcN N (R &&& spN G M N)) &&& 1 = 0 by rw [e_odd9 (by omega)]; exact q), gLet, nI_1]
        exact h1
      · rw [fL_X10_passed_12, if_neg (nI_ge (show i < c by omega) (by omega)), gIx_nI _ (show i < 64 by omega) (by decide), tnN (by omega), r3, e_mgOf K hK hN (by omega) hg, Option.bind_some, u2, Option.bind_some, if_neg (show ¬ nI (pcN N (R &&& spN G M N)) - nI (pcN N (R &&& spN G M N)) / 2 * 2 = 0 by rw [e_odd10 (by omega)]; exact q), gLet, nI_1]
        exact h2
/-- what is received at a place -/
def rcv (W L j : Nat) : Int64 := if L.testBit j then 2 else lN (if W.testBit j then 1 else 0)
theorem l_recv (K N W L : Nat) (hN : N ≤ 32) (hW : W < 2 ^ 62) (hL : L < 2 ^ 62) : ∀ (m i k : Nat) (u : Nat → Int64), i + m = N → m < k → fL_X6_receive_3 K (lN W) (lN L) (nI N) k (nI i, u) = some (nI N, fun j => if i ≤ j ∧ j < N then rcv W L j else u j) := by
  intro m
  induction m with
  | zero =>
    intro i k u hi hk
    obtain ⟨k, rfl⟩ : ∃ q, k = q + 1 := ⟨k - 1, by omega⟩
    have hi : i = N := by omega
    subst hi
    rw [fL_X6_receive_3, if_pos (nI_le (Nat.le_refl _) (by omega))]
    refine congrArg some (Prod.ext rfl ?_)
    funext j
    exact (if_neg (by omega)).symm
  | succ m ih =>
    intro i k u hi hk
    obtain ⟨k, rfl⟩ : ∃ q, k = q + 1 := ⟨k - 1, by omega⟩
    have e1 : gLushr (lN L) (nI i) &&& 1 = lN (L / 2 ^ i % 2) := wb_bit (by omega) (by omega)
    have e2 : gLushr (lN W) (nI i) &&& 1 = lN (W / 2 ^ i % 2) := wb_bit (by omega) (by omega)
    have e3 : (if lg_cmp (lN (L / 2 ^ i % 2)) 0 = 0 then some (lN (W / 2 ^ i % 2)) else some 2) = some (rcv W L i) := by
      unfold rcv
      rw [bit_mod, bit_mod]
      cases L.testBit i with
      | false => rw [if_pos (by rfl)]; rfl
      | true => rw [if_neg (by decide)]; rfl
    rw [fL_X6_receive_3, if_neg (nI_ge (show i < N by omega) (by omega)), e1, e2, e3, Option.bind_some, gIx_nI _ (show i < 40 by omega) (by decide), gLet, gLet, nI_1, tnN (by omega), ih (i + 1) k _ (by omega) (by omega)]
    refine congrArg some (Prod.ext rfl ?_)
    funext j
    simp only [vp_updL]
    by_cases q : j = i
    · subst q
      rw [if_neg (by omega), if_pos rfl, if_pos (by omega)]
    · rw [if_neg q]
      by_cases q2 : i ≤ j ∧ j < N
      · rw [if_pos (by omega), if_pos q2]
      · rw [if_neg (by omega), if_neg q2]
theorem l_send (K N W L s : Nat) (hs : s < 4) (hN : N ≤ 32) (hW : W < 2 ^ 62) (hL : L < 2 ^ 62) : ∀ (m i k : Nat) (u : Nat → Int64), i + m = N → m < k → fL_X10_send_108 K (lN W) (nI s) (lN L) (nI N) k (nI i, u) = some (nI N, fun j => if 40 * s + i ≤ j ∧ j < 40 * s + N then rcv W L (j - 40 * s) else u j) := by
  intro m
  induction m with
  | zero =>
    intro i k u hi hk
    obtain ⟨k, rfl⟩ : ∃ q, k = q + 1 := ⟨k - 1, by omega⟩
    have hi : i = N := by omega
    subst hi
    rw [fL_X10_send_108, if_pos (nI_le (Nat.le_refl _) (by omega))]
    refine congrArg some (Prod.ext rfl ?_)
    funext j
    exact (if_neg (by omega)).symm
  | succ m ih =>
    intro i k u hi hk
    obtain ⟨k, rfl⟩ : ∃ q, k = q + 1 := ⟨k - 1, by omega⟩
    have e1 : gLshr (lN L) (nI i) &&& 1 = lN (L / 2 ^ i % 2) := by
      rw [e_shrN hL (by omega), wb_a1 (Nat.lt_of_le_of_lt (Nat.div_le_self _ _) (by omega))]
    have e2 : gLshr (lN W) (nI i) &&& 1 = lN (W / 2 ^ i % 2) := by
      rw [e_shrN hW (by omega), wb_a1 (Nat.lt_of_le_of_lt (Nat.div_le_self _ _) (by omega))]
    have e3 : (if lg_cmp (lN (L / 2 ^ i % 2)) 1 = 0 then some 2 else some (lN (W / 2 ^ i % 2))) = some (rcv W L i) := by
      unfold rcv
      rw [bit_mod, bit_mod]
      cases L.testBit i with
      | false => rw [if_neg (by decide)]; rfl
      | true => rw [if_pos (by rfl)]; rfl
    rw [fL_X10_send_108, if_neg (nI_ge (show i < N by omega) (by omega)), e1, e2, e3, Option.bind_some, e_40, gIx_nI _ (show 40 * s + i < 160 by omega) (by decide), gLet, gLet, nI_1, tnN (by omega), ih (i + 1) k _ (by omega) (by omega)]
    refine congrArg some (Prod.ext rfl ?_)
    funext j
    simp only [vp_updL]
    by_cases q : j = 40 * s + i
    · subst q
      rw [if_neg (by omega), if_pos rfl, if_pos (by omega)]
      congr 1
      omega
    · rw [if_neg q]
      by_cases q2 : 40 * s + i ≤ j ∧ j < 40 * s + N
      · rw [if_pos (by omega), if_pos q2]
      · rw [if_neg (by omega), if_neg q2]
