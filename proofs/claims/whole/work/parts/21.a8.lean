/-! choosing -/
theorem nft : ¬ (false = true) := by decide
theorem ttt : (true = true) := rfl
def LstI (S : Nat → Int64) (T i : Nat) (l : Int64) (b9 b10 : Int32) : Prop := (l = 9223372036854775807 ∧ b9 = 0 ∧ b10 = -1 ∧ ∀ j, j < i → T.testBit j = true) ∨ (∃ b, b < i ∧ T.testBit b = false ∧ l = S b ∧ b9 = nI b ∧ b10 = nI b)
theorem l_least (K N T : Nat) (hN : N ≤ 32) (hT : T < 2 ^ 64) (S u : Nat → Int64) (mg : Nat → Int32) (p q : Int32) (hS : ∀ j, f_X10_shareOf K (nI j) (nI N) p q = some (S j)) (hu : ∀ j, j < N → u j = S j) (hg : ∀ j, j < 32 → mg j = bI (T.testBit j)) : ∀ (m i k : Nat) (l : Int64) (b9 b10 : Int32), i + m = N → m < k → LstI S T i l b9 b10 → ∃ l' b9' b10', fL_X4_leastBeside_10 K (lN T) (nI N) u k (nI i, l, b9) = some (nI N, l', b9') ∧ fL_X10_choose_67 K (nI N) p q mg k (nI i, b10) = some (nI N, b10') ∧ LstI S T N l' b9' b10' := by
  intro m
  induction m with
  | zero =>
    intro i k l b9 b10 hi hk hI
    obtain ⟨k, rfl⟩ : ∃ q, k = q + 1 := ⟨k - 1, by omega⟩
    have hi : i = N := by omega
    subst hi
    exact ⟨l, b9, b10, by rw [fL_X4_leastBeside_10, if_pos (nI_le (Nat.le_refl _) (by omega))], by rw [fL_X10_choose_67, if_pos (nI_le (Nat.le_refl _) (by omega))], hI⟩
  | succ m ih =>
    intro i k l b9 b10 hi hk hI
    obtain ⟨k, rfl⟩ : ∃ q, k = q + 1 := ⟨k - 1, by omega⟩
    have e1 : gLushr (lN T) (nI i) &&& 1 = lN (T / 2 ^ i % 2) := wb_bit hT (by omega)
    have s9 : fL_X4_leastBeside_10 K (lN T) (nI N) u (k + 1) (nI i, l, b9) = if T.testBit i then fL_X4_leastBeside_10 K (lN T) (nI N) u k (nI (i + 1), l, b9) else if 0 < lg_cmp (S i) l then fL_X4_leastBeside_10 K (lN T) (nI N) u k (nI (i + 1), l, b9) else fL_X4_leastBeside_10 K (lN T) (nI N) u k (nI (i + 1), S i, nI i) := by
      rw [fL_X4_leastBeside_10, if_neg (nI_ge (show i < N by omega) (by omega)), e1, bit_mod, gIx_nI _ (show i < 32 by omega) (by decide), gIx_nI _ (show i < 32 by omega) (by decide), tnN (by omega), hu i (by omega)]
      simp only [gLet, nI_1]
      cases T.testBit i with
      | false => rw [if_pos (show lg_cmp (lN (if false = true then 1 else 0)) 0 = 0 by rfl), if_neg nft]
      | true => rw [if_neg (show ¬ lg_cmp (lN (if true = true then 1 else 0)) 0 = 0 by decide), if_pos ttt]
    have s10 : fL_X10_choose_67 K (nI N) p q mg (k + 1) (nI i, b10) = if T.testBit i then fL_X10_choose_67 K (nI N) p q mg k (nI (i + 1), b10) else if b10 < 0 then fL_X10_choose_67 K (nI N) p q mg k (nI (i + 1), nI i) else Option.bind (f_X10_shareOf K b10 (nI N) p q) fun r_29 => if 0 < lg_cmp (S i) r_29 then fL_X10_choose_67 K (nI N) p q mg k (nI (i + 1), b10) else fL_X10_choose_67 K (nI N) p q mg k (nI (i + 1), nI i) := by
      rw [fL_X10_choose_67, if_neg (nI_ge (show i < N by omega) (by omega)), gIx_nI _ (show i < 32 by omega) (by decide), tnN (by omega), hg i (by omega), hS i, Option.bind_some]
      simp only [gLet, nI_1]
      cases T.testBit i with
      | false =>
        rw [if_pos (show bI false = 0 by rfl), if_neg nft]
        by_cases c : b10 < 0
        · rw [if_pos c, if_pos c]; rfl
        · rw [if_neg c, if_neg c]
          cases f_X10_shareOf K b10 (nI N) p q with
          | none => rfl
          | some r =>
            simp only [Option.bind_some]
            split <;> rfl
      | true => rw [if_neg (show ¬ bI true = 0 by decide), if_pos ttt]; rfl
    rw [s9, s10]
    cases hb : T.testBit i with
    | true =>
      rw [if_pos ttt, if_pos ttt]
      apply ih (i + 1) k l b9 b10 (by omega) (by omega)
      rcases hI with ⟨h1, h2, h3, h4⟩ | ⟨b, h1, h2, h3, h4, h5⟩
      · refine Or.inl ⟨h1, h2, h3, fun j hj => ?_⟩
        by_cases c : j = i
        · subst c; exact hb
        · exact h4 j (by omega)
      · exact Or.inr ⟨b, by omega, h2, h3, h4, h5⟩
    | false =>
      rw [if_neg nft, if_neg nft]
      rcases hI with ⟨h1, h2, h3, h4⟩ | ⟨b, h1, h2, h3, h4, h5⟩
      · subst h1; subst h2; subst h3
        have hr := fb_rngL (S i)
        have hmax : (9223372036854775807 : Int64).toInt = 9223372036854775807 := by decide
        rw [if_neg (show ¬ 0 < lg_cmp (S i) 9223372036854775807 by rw [lgc_gt, hmax]; omega), if_pos (show (-1 : Int32) < 0 by decide)]
        exact ih (i + 1) k _ _ _ (by omega) (by omega) (Or.inr ⟨i, by omega, hb, rfl, rfl, rfl⟩)
      · subst h3; subst h4; subst h5
        rw [if_neg (show ¬ nI b < (0 : Int32) by rw [ltI, nI_toInt (by omega), i_0]; omega), hS b, Option.bind_some]
        by_cases c : 0 < lg_cmp (S i) (S b)
        · rw [if_pos c, if_pos c]
          exact ih (i + 1) k _ _ _ (by omega) (by omega) (Or.inr ⟨b, by omega, h2, rfl, rfl, rfl⟩)
        · rw [if_neg c, if_neg c]
          exact ih (i + 1) k _ _ _ (by omega) (by omega) (Or.inr ⟨i, by omega, hb, rfl, rfl, rfl⟩)
theorem pc_bset {T b : Nat} : ∀ {n : Nat}, b < n → T.testBit b = false → pcN n (bset T b) = pcN n T + 1 := by
  intro n h0 h1
  have := fb_ct_upd (fun j => T.testBit j) true h0
  rw [h1] at this
  simp only [Bool.false_eq_true, if_false, if_true, Nat.add_zero] at this
  unfold pcN
  rw [← this]
  refine fb_ct_cong (fun j _ => ?_)
  rw [bset_b]
  by_cases c : j = b
  · subst c; simp
  · simp [c]
theorem l_take (K : Nat) (hK : 200000 ≤ K) (N k0 : Nat) (hN : N ≤ 32) (hk0 : k0 ≤ N) (S u : Nat → Int64) (p q : Int32) (hS : ∀ j, f_X10_shareOf K (nI j) (nI N) p q = some (S j)) (hu : ∀ j, j < N → u j = S j) : ∀ (m i k T : Nat) (s : Int64) (mg : Nat → Int32), i + m = k0 → m < k → T < 2 ^ N → pcN N T = i → (∀ j, j < 32 → mg j = bI (T.testBit j)) → ∃ s' T' mg', fL_X4_takeLeastShares_35 K (nI k0) (nI N) u k (nI i, s, lN T) = some (nI k0, s', lN T') ∧ fL_X10_choose_55 K (nI k0) (nI N) p q k (nI i, s, mg) = some (nI k0, s', mg') ∧ T' < 2 ^ N ∧ (∀ j, j < 32 → mg' j = bI (T'.testBit j)) := by
  have hp : 2 ^ N ≤ 2 ^ 32 := Nat.pow_le_pow_right (by decide) hN
  intro m
  induction m with
  | zero =>
    intro i k T s mg hi hk hT _ hg
    obtain ⟨k, rfl⟩ : ∃ q, k = q + 1 := ⟨k - 1, by omega⟩
    have hi : i = k0 := by omega
    subst hi
    exact ⟨s, T, mg, by rw [fL_X4_takeLeastShares_35, if_pos (nI_le (Nat.le_refl _) (by omega))], by rw [fL_X10_choose_55, if_pos (nI_le (Nat.le_refl _) (by omega))], hT, hg⟩
  | succ m ih =>
    intro i k T s mg hi hk hT hpc hg
    obtain ⟨k, rfl⟩ : ∃ q, k = q + 1 := ⟨k - 1, by omega⟩
    obtain ⟨l', b9, b10, r1, r2, r3⟩ := l_least K N T hN (by omega) S u mg p q hS hu hg N 0 K 9223372036854775807 0 (-1) (by omega) (by omega) (Or.inl ⟨rfl, rfl, rfl, fun j hj => absurd hj (by omega)⟩)
    rcases r3 with ⟨h1, h2, h3, h4⟩ | ⟨b, h1, h2, h3, h4, h5⟩
    · exfalso
      have : pcN N T = N := fb_ct_all.mpr h4
      omega
    · subst h4; subst h5
      have r1' : f_X4_leastBeside K (lN T) (nI N) u = some (nI b) := by
        have : fL_X4_leastBeside_10 K (lN T) (nI N) u K (0, 9223372036854775807, 0) = some (nI N, l', nI b) := r1
        rw [f_X4_leastBeside, this]; rfl
      have r2' : fL_X10_choose_67 K (nI N) p q mg K (0, -1) = some (nI N, nI b) := r2
      obtain ⟨s', T', mg', q1, q2, q3, q4⟩ := ih (i + 1) k (bset T b) (s + S b) (upd mg b 1) (by omega) (by omega) (bset_lt hT h1) (by rw [pc_bset h1 h2, hpc]) (fun j hj => by
        rw [bset_b]
        by_cases c : j = b
        · subst c; simp [upd, bI]
        · simp [upd, c, hg j hj])
      refine ⟨s', T', mg', ?_, ?_, q3, q4⟩
      · rw [fL_X4_takeLeastShares_35, if_neg (nI_ge (show i < k0 by omega) (by omega)), r1', Option.bind_some, gLet, gIx_nI _ (show b < 32 by omega) (by decide), gLet, gLet, nI_1, tnN (by omega), hu b h1, e_shl1 (by omega), fb_orL]
        exact q1
      · rw [fL_X10_choose_55, if_neg (nI_ge (show i < k0 by omega) (by omega)), r2', Option.bind_some]
        dsimp only
        rw [gIx_nI _ (show b < 32 by omega) (by decide), gLet, hS b, Option.bind_some, gLet, gLet, nI_1, tnN (by omega), vpn1]
        exact q2
theorem l_uppers (K N : Nat) (hN : N ≤ 32) (S : Nat → Int64) (p q : Int32) (hS : ∀ j, f_X10_shareOf K (nI j) (nI N) p q = some (S j)) : ∀ (m i k : Nat) (u : Nat → Int64), i + m = N → m < k → fL_X4_takeLeastShares_2 K (nI N) p q k (nI i, u) = some (nI N, fun j => if i ≤ j ∧ j < N then S j else u j) := by
  intro m
  induction m with
  | zero =>
    intro i k u hi hk
    obtain ⟨k, rfl⟩ : ∃ q, k = q + 1 := ⟨k - 1, by omega⟩
    have hi : i = N := by omega
    subst hi
    rw [fL_X4_takeLeastShares_2, if_pos (nI_le (Nat.le_refl _) (by omega))]
    refine congrArg some (Prod.ext rfl ?_)
    funext j
    exact (if_neg (by omega)).symm
  | succ m ih =>
    intro i k u hi hk
    obtain ⟨k, rfl⟩ : ∃ q, k = q + 1 := ⟨k - 1, by omega⟩
    rw [fL_X4_takeLeastShares_2, if_neg (nI_ge (show i < N by omega) (by omega)), e_up, hS i, Option.bind_some, gIx_nI _ (show i < 32 by omega) (by decide), gLet, gLet, nI_1, tnN (by omega), ih (i + 1) k _ (by omega) (by omega)]
    refine congrArg some (Prod.ext rfl ?_)
    funext j
    simp only [vp_updL]
    by_cases q : j = i
    · subst q
      rw [if_neg (by omega), if_pos rfl, if_pos (by omega)]
    · rw [if_neg q]
      by_cases q2 : i ≤ j ∧ j < N
      · rw [if_pos (by omega), if_pos q2]
      · rw [if_neg (by omega), if_neg q2]
theorem l_ch29 (K N : Nat) (hN : N ≤ 32) : ∀ (m i k : Nat) (p c : Int32) (u1 u2 : Nat → Int32), i + m = N → m < k → fL_X10_choose_29 K (nI N) k (nI i, p, c, u1, u2) = some (nI N, (if m = 0 then p else -9), (if m = 0 then c else 0), (fun j => if i ≤ j ∧ j < N then 0 else u1 j), (fun j => if i ≤ j ∧ j < N then 0 else u2 j)) := by
  intro m
  induction m with
  | zero =>
    intro i k p c u1 u2 hi hk
    obtain ⟨k, rfl⟩ : ∃ q, k = q + 1 := ⟨k - 1, by omega⟩
    have hi : i = N := by omega
    subst hi
    rw [fL_X10_choose_29, if_pos (nI_le (Nat.le_refl _) (by omega)), if_pos rfl, if_pos rfl]
    refine congrArg some (Prod.ext rfl (Prod.ext rfl (Prod.ext rfl (Prod.ext ?_ ?_)))) <;> funext j <;> exact (if_neg (by omega)).symm
  | succ m ih =>
    intro i k p c u1 u2 hi hk
    obtain ⟨k, rfl⟩ : ∃ q, k = q + 1 := ⟨k - 1, by omega⟩
    have hb : f_X10_become K (nI i) 0 0 u1 u2 = some (-9, 0, upd u1 i 0, upd u2 i 0) := by
      rw [f_X10_become, gIx_nI _ (show i < 32 by omega) (by decide), gLet, gIx_nI _ (show i < 32 by omega) (by decide), gLet, tnN (by omega), vpn0]
    rw [fL_X10_choose_29, if_neg (nI_ge (show i < N by omega) (by omega)), hb, Option.bind_some]
    dsimp only
    rw [gLet, nI_1, ih (i + 1) k _ _ _ _ (by omega) (by omega), if_neg (show ¬ m + 1 = 0 by omega), if_neg (show ¬ m + 1 = 0 by omega)]
    refine congrArg some (Prod.ext rfl (Prod.ext ?_ (Prod.ext ?_ (Prod.ext ?_ ?_))))
    · show (if m = 0 then (-9 : Int32) else -9) = -9
      split <;> rfl
    · show (if m = 0 then (0 : Int32) else 0) = 0
      split <;> rfl
    · funext j
      simp only [upd]
      repeat' split
      all_goals first | rfl | (exfalso; omega)
    · funext j
      simp only [upd]
      repeat' split
      all_goals first | rfl | (exfalso; omega)
