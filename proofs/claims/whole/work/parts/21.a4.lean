/-! parts, copying -/
theorem e_part (K N Q G : Nat) (hK : 200000 ≤ K) (hN : N ≤ 32) (hQ1 : 1 ≤ Q) (hQ : Q ≤ 8) (hG : G < 2 ^ 64) (mg : Nat → Int32) {j : Nat} (hj : j < 32) (hg : mg j = bI (G.testBit j)) (p : Int32) : ∃ (tg : Nat) (best : Int32), f_X9_partOf K (nI j) (nI N) p (nI Q) (lN G) = some tg ∧ f_X10_isBest K (nI j) (nI N) p (nI Q) mg = some best ∧ ((G.testBit j = false ∧ tg = 0 ∧ best = 0) ∨ (G.testBit j = true ∧ tg = 1 ∧ best = 0) ∨ (G.testBit j = true ∧ tg = 2 ∧ best = 1)) := by
  obtain ⟨r, r4, e1, e2, e3⟩ := e_share K N Q hK hN hQ1 hQ (nI j) p
  unfold f_X9_partOf f_X10_isBest
  rw [e9_isGood K (by omega) hG, Option.bind_some, gIx_nI _ hj (by decide), tnN (by omega), hg, e1, e2]
  cases hb : G.testBit j with
  | false => exact ⟨0, 0, rfl, rfl, Or.inl ⟨rfl, rfl, rfl⟩⟩
  | true =>
    rw [if_neg (show ¬ bI true = 0 by decide), if_neg (show ¬ bI true = 0 by decide), Option.bind_some, Option.bind_some]
    rcases e3 with ⟨h1, h2⟩ | ⟨h1, rfl⟩
    · rw [if_neg (show ¬ lg_cmp r4 0 < 0 by rw [lgc_lt, j_0]; omega), h2, Option.bind_some]
      by_cases q : lg_cmp r 0 = 0
      · exact ⟨2, 1, by rw [if_pos q], by rw [if_pos q], Or.inr (Or.inr ⟨rfl, rfl, rfl⟩)⟩
      · exact ⟨1, 0, by rw [if_neg q], by rw [if_neg q], Or.inr (Or.inl ⟨rfl, rfl, rfl⟩)⟩
    · rw [if_pos (show lg_cmp r4 0 < 0 by rw [lgc_lt, j_0]; exact h1), if_neg (show ¬ lg_cmp (-9223372036854775808) 0 = 0 by rw [lgc_eq, j_0, j_LOST]; omega)]
      exact ⟨1, 0, rfl, rfl, Or.inr (Or.inl ⟨rfl, rfl, rfl⟩)⟩
theorem e_hasCells (K : Nat) (x n l : Int32) (hl : 0 ≤ l.toInt) : f_X6_hasCells K x n l = some (if 0 ≤ x.toInt ∧ 0 ≤ n.toInt ∧ x.toInt + n.toInt ≤ l.toInt then 1 else 0) := by
  unfold f_X6_hasCells
  have hx := fb_rng x
  have hr := fb_rng l
  simp only [ltI, i_0]
  by_cases c1 : x.toInt < 0
  · rw [if_pos c1, if_neg (by omega)]
  · rw [if_neg c1]
    by_cases c2 : n.toInt < 0
    · rw [if_pos c2, if_neg (by omega)]
    · rw [if_neg c2]
      by_cases c3 : l.toInt < x.toInt
      · rw [if_pos c3, if_neg (by omega)]
      · rw [if_neg c3, fb_subI (by omega) (by omega)]
        by_cases c4 : l.toInt - x.toInt < n.toInt
        · rw [if_pos c4, if_neg (by omega)]
        · rw [if_neg c4, if_pos (by omega)]
theorem e_isBeyond (K : Nat) (x n l : Int32) : f_X10_isBeyond K x n l = some (if 0 ≤ x.toInt ∧ 0 ≤ n.toInt ∧ x.toInt + n.toInt ≤ l.toInt then 0 else 1) := by
  unfold f_X10_isBeyond
  have hx := fb_rng x
  have hn := fb_rng n
  have e : (Int32.toInt64 x + Int32.toInt64 n).toInt = x.toInt + n.toInt := by
    rw [fb_addL (by rw [Int32.toInt_toInt64, Int32.toInt_toInt64]; omega) (by rw [Int32.toInt_toInt64, Int32.toInt_toInt64]; omega), Int32.toInt_toInt64, Int32.toInt_toInt64]
  simp only [ltI, i_0, lgc_le, e, Int32.toInt_toInt64]
  repeat' split
  all_goals first | rfl | (exfalso; omega)
theorem l_copy1 (K k s n : Nat) (hk : k < 4) (hs : s + n ≤ 40) (u3 : Nat → Int64) : ∀ (m i f : Nat) (u4 : Nat → Int64), i + m = n → m < f → fL_X10_copy_105 K (nI k) (nI s) (nI n) u3 f (nI i, u4) = some (nI n, fun j => if i ≤ j ∧ j < n then u3 (40 * k + s + j) else u4 j) := by
  intro m
  induction m with
  | zero =>
    intro i f u4 hi hf
    obtain ⟨f, rfl⟩ : ∃ q, f = q + 1 := ⟨f - 1, by omega⟩
    have hi : i = n := by omega
    subst hi
    rw [fL_X10_copy_105, if_pos (nI_le (Nat.le_refl _) (by omega))]
    refine congrArg some (Prod.ext rfl ?_)
    funext j
    exact (if_neg (by omega)).symm
  | succ m ih =>
    intro i f u4 hi hf
    obtain ⟨f, rfl⟩ : ∃ q, f = q + 1 := ⟨f - 1, by omega⟩
    rw [fL_X10_copy_105, if_neg (nI_ge (show i < n by omega) (by omega)), e_40, nI_add, gIx_nI _ (show 40 * k + s + i < 160 by omega) (by decide), gLet, gIx_nI _ (show i < 40 by omega) (by decide), gLet, gLet, nI_1, tnN (show i < 2 ^ 31 by omega), tnN (show 40 * k + s + i < 2 ^ 31 by omega), ih (i + 1) f _ (by omega) (by omega)]
    refine congrArg some (Prod.ext rfl ?_)
    funext j
    simp only [vp_updL]
    by_cases q : j = i
    · subst q
      rw [if_neg (by omega), if_pos rfl, if_pos (by omega)]
    · rw [if_neg q]
      by_cases q2 : i ≤ j ∧ j < n
      · rw [if_pos (by omega), if_pos q2]
      · rw [if_neg (by omega), if_neg q2]
theorem l_copy2 (K k d n : Nat) (hk : k < 4) (hd : d + n ≤ 40) (u4 : Nat → Int64) : ∀ (m i f : Nat) (u3 : Nat → Int64), i + m = n → m < f → fL_X10_copy_142 K (nI k) (nI d) (nI n) u4 f (nI i, u3) = some (nI n, fun j => if 40 * k + d + i ≤ j ∧ j < 40 * k + d + n then u4 (j - (40 * k + d)) else u3 j) := by
  intro m
  induction m with
  | zero =>
    intro i f u3 hi hf
    obtain ⟨f, rfl⟩ : ∃ q, f = q + 1 := ⟨f - 1, by omega⟩
    have hi : i = n := by omega
    subst hi
    rw [fL_X10_copy_142, if_pos (nI_le (Nat.le_refl _) (by omega))]
    refine congrArg some (Prod.ext rfl ?_)
    funext j
    exact (if_neg (by omega)).symm
  | succ m ih =>
    intro i f u3 hi hf
    obtain ⟨f, rfl⟩ : ∃ q, f = q + 1 := ⟨f - 1, by omega⟩
    rw [fL_X10_copy_142, if_neg (nI_ge (show i < n by omega) (by omega)), gIx_nI _ (show i < 40 by omega) (by decide), gLet, e_40, nI_add, gIx_nI _ (show 40 * k + d + i < 160 by omega) (by decide), gLet, gLet, nI_1, tnN (show i < 2 ^ 31 by omega), tnN (show 40 * k + d + i < 2 ^ 31 by omega), ih (i + 1) f _ (by omega) (by omega)]
    refine congrArg some (Prod.ext rfl ?_)
    funext j
    simp only [vp_updL]
    by_cases q : j = 40 * k + d + i
    · subst q
      rw [if_neg (by omega), if_pos rfl, if_pos (by omega)]
      congr 1
      omega
    · rw [if_neg q]
      by_cases q2 : 40 * k + d + i ≤ j ∧ j < 40 * k + d + n
      · rw [if_pos (by omega), if_pos q2]
      · rw [if_neg (by omega), if_neg q2]
