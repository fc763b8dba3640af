/-! the bit told at a place -/
def tv (o l : Bool) : Int32 := if l then 2 else bI o
def f61 (a b : Int32) : Int32 := if a = 2 then 2 else if b = 2 then 2 else a ^^^ b
def f152 (c a b : Int32) : Int32 := if b = 2 then (if a = 2 then 2 else a ^^^ c) else b
theorem tv_61 (o1 l1 o2 l2 : Bool) : f61 (tv o1 l1) (tv o2 l2) = tv ((o1 ^^ o2) && !(l1 || l2)) (l1 || l2) := by
  cases o1 <;> cases l1 <;> cases o2 <;> cases l2 <;> decide
theorem tv_152 (c o1 l1 o2 l2 : Bool) (h : ¬ (o2 = true ∧ l2 = true)) : f152 (bI c) (tv o1 l1) (tv o2 l2) = tv ((o2 || ((o1 ^^ c) && l2)) && !(l1 && l2)) (l1 && l2) := by
  cases c <;> cases o1 <;> cases l1 <;> cases o2 <;> cases l2 <;> first | decide | (exfalso; exact h ⟨rfl, rfl⟩)
theorem andn_b {a b : Nat} (ha : a < 2 ^ 64) (j : Nat) : (a &&& (b ^^^ (2 ^ 64 - 1))).testBit j = (a.testBit j && !b.testBit j) := by
  rw [Nat.testBit_and, Nat.testBit_xor, Nat.testBit_two_pow_sub_one]
  by_cases h : j < 64
  · simp [h]
  · have : a.testBit j = false := Nat.testBit_lt_two_pow (Nat.lt_of_lt_of_le ha (Nat.pow_le_pow_right (by decide) (by omega)))
    simp [this]
theorem l_61 (K h : Nat) (hh : h ≤ 16) : ∀ (m i k : Nat) (u : Nat → Int32), i + m = h → m < k → fL_X10_theBit_61 K (nI h) k (nI i, u) = some (nI h, fun j => if i ≤ j ∧ j < h then f61 (u j) (u (j + h)) else u j) := by
  intro m
  induction m with
  | zero =>
    intro i k u hi hk
    obtain ⟨k, rfl⟩ : ∃ q, k = q + 1 := ⟨k - 1, by omega⟩
    have hi : i = h := by omega
    subst hi
    rw [fL_X10_theBit_61, if_pos (nI_le (Nat.le_refl _) (by omega))]
    refine congrArg some (Prod.ext rfl ?_)
    funext j
    exact (if_neg (by omega)).symm
  | succ m ih =>
    intro i k u hi hk
    obtain ⟨k, rfl⟩ : ∃ q, k = q + 1 := ⟨k - 1, by omega⟩
    have e : (if u i = 2 then some 2 else if u (i + h) = 2 then some 2 else some (u i ^^^ u (i + h))) = some (f61 (u i) (u (i + h))) := by
      unfold f61
      repeat' split
      all_goals rfl
    rw [fL_X10_theBit_61, if_neg (nI_ge (show i < h by omega) (by omega)), nI_add]
    simp only [gIx_nI _ (show i < 32 by omega) (by decide), gIx_nI _ (show i + h < 32 by omega) (by decide), tnN (show i < 2 ^ 31 by omega), tnN (show i + h < 2 ^ 31 by omega), e, Option.bind_some, gLet, nI_1]
    rw [ih (i + 1) k _ (by omega) (by omega)]
    refine congrArg some (Prod.ext rfl ?_)
    funext j
    simp only [upd]
    by_cases q : j = i
    · subst q
      rw [if_neg (by omega), if_pos rfl, if_pos (by omega)]
    · rw [if_neg q, if_neg (show ¬ j + h = i by omega)]
      by_cases q2 : i ≤ j ∧ j < h
      · rw [if_pos (by omega), if_pos q2]
      · rw [if_neg (by omega), if_neg q2]
theorem l_152 (K h C : Nat) (hh : h ≤ 16) (hC : C < 2 ^ 62) : ∀ (m i k : Nat) (u : Nat → Int32), i + m = h → m < k → fL_X10_theBit_152 K (lN C) (nI h) k (nI i, u) = some (nI h, fun j => if i ≤ j ∧ j < h then f152 (bI (C.testBit j)) (u j) (u (j + h)) else u j) := by
  intro m
  induction m with
  | zero =>
    intro i k u hi hk
    obtain ⟨k, rfl⟩ : ∃ q, k = q + 1 := ⟨k - 1, by omega⟩
    have hi : i = h := by omega
    subst hi
    rw [fL_X10_theBit_152, if_pos (nI_le (Nat.le_refl _) (by omega))]
    refine congrArg some (Prod.ext rfl ?_)
    funext j
    exact (if_neg (by omega)).symm
  | succ m ih =>
    intro i k u hi hk
    obtain ⟨k, rfl⟩ : ∃ q, k = q + 1 := ⟨k - 1, by omega⟩
    have e1 : Int64.toInt32 (gLshr (lN C) (nI i) &&& 1) = bI (C.testBit i) := by
      rw [e_shrN hC (by omega), wb_a1 (Nat.lt_of_le_of_lt (Nat.div_le_self _ _) (by omega)), lN_i, e_bit01]
    have e : ((if u i = 2 then some 2 else some (u i ^^^ bI (C.testBit i))).bind fun ms_23 => (if u (i + h) = 2 then some ms_23 else some (u (i + h))).bind fun ms_25 => fL_X10_theBit_152 K (lN C) (nI h) k (nI (i + 1), upd u i ms_25)) = fL_X10_theBit_152 K (lN C) (nI h) k (nI (i + 1), upd u i (f152 (bI (C.testBit i)) (u i) (u (i + h)))) := by
      unfold f152
      by_cases q1 : u i = 2
      · rw [if_pos q1, if_pos q1, Option.bind_some]
        by_cases q2 : u (i + h) = 2
        · rw [if_pos q2, if_pos q2]; rfl
        · rw [if_neg q2, if_neg q2]; rfl
      · rw [if_neg q1, if_neg q1, Option.bind_some]
        by_cases q2 : u (i + h) = 2
        · rw [if_pos q2, if_pos q2]; rfl
        · rw [if_neg q2, if_neg q2]; rfl
    rw [fL_X10_theBit_152, if_neg (nI_ge (show i < h by omega) (by omega)), nI_add, e1]
    simp only [gIx_nI _ (show i < 32 by omega) (by decide), gIx_nI _ (show i + h < 32 by omega) (by decide), tnN (show i < 2 ^ 31 by omega), tnN (show i + h < 2 ^ 31 by omega), gLet, nI_1]
    rw [e, ih (i + 1) k _ (by omega) (by omega)]
    refine congrArg some (Prod.ext rfl ?_)
    funext j
    simp only [upd]
    by_cases q : j = i
    · subst q
      rw [if_neg (by omega), if_pos rfl, if_pos (by omega)]
    · rw [if_neg q, if_neg (show ¬ j + h = i by omega)]
      by_cases q2 : i ≤ j ∧ j < h
      · rw [if_pos (by omega), if_pos q2]
      · rw [if_neg (by omega), if_neg q2]
theorem l_tb3 (K N : Nat) (hN : N ≤ 32) (v : Nat → Int32) : ∀ (m i k : Nat) (u : Nat → Int32), i + m = N → m < k → fL_X10_theBit_3 K (nI N) v k (nI i, u) = some (nI N, fun j => if i ≤ j ∧ j < N then v j else u j) := by
  intro m
  induction m with
  | zero =>
    intro i k u hi hk
    obtain ⟨k, rfl⟩ : ∃ q, k = q + 1 := ⟨k - 1, by omega⟩
    have hi : i = N := by omega
    subst hi
    rw [fL_X10_theBit_3, if_pos (nI_le (Nat.le_refl _) (by omega))]
    refine congrArg some (Prod.ext rfl ?_)
    funext j
    exact (if_neg (by omega)).symm
  | succ m ih =>
    intro i k u hi hk
    obtain ⟨k, rfl⟩ : ∃ q, k = q + 1 := ⟨k - 1, by omega⟩
    rw [fL_X10_theBit_3, if_neg (nI_ge (show i < N by omega) (by omega)), gIx_nI _ (show i < 32 by omega) (by decide), gLet, gIx_nI _ (show i < 32 by omega) (by decide), gLet, gLet, nI_1, tnN (by omega), ih (i + 1) k _ (by omega) (by omega)]
    refine congrArg some (Prod.ext rfl ?_)
    funext j
    simp only [upd]
    by_cases q : j = i
    · subst q
      rw [if_neg (by omega), if_pos rfl, if_pos (by omega)]
    · rw [if_neg q]
      by_cases q2 : i ≤ j ∧ j < N
      · rw [if_pos (by omega), if_pos q2]
      · rw [if_neg (by omega), if_neg q2]
theorem p2half (t : Nat) (ht : t ≤ 5) : nI (2 ^ t) / 2 = nI (2 ^ t / 2) := by
  have : 2 ^ t ≤ 2 ^ 5 := Nat.pow_le_pow_right (by decide) ht
  exact pk_div (d := 2) (by omega) (by decide) (by decide)
theorem Nok1_pow : ∀ t, t ≤ 5 → Nok1 (2 ^ t) := by
  intro t ht
  rcases (show t = 0 ∨ t = 1 ∨ t = 2 ∨ t = 3 ∨ t = 4 ∨ t = 5 by omega) with rfl | rfl | rfl | rfl | rfl | rfl
  · exact Or.inl rfl
  · exact Or.inr (Or.inl rfl)
  · exact Or.inr (Or.inr (Or.inl rfl))
  · exact Or.inr (Or.inr (Or.inr (Or.inl rfl)))
  · exact Or.inr (Or.inr (Or.inr (Or.inr (Or.inl rfl))))
  · exact Or.inr (Or.inr (Or.inr (Or.inr (Or.inr rfl))))
theorem mod_hi {p t : Nat} : (p.testBit t = true → p % 2 ^ (t + 1) = p % 2 ^ t + 2 ^ t) ∧ (p.testBit t = false → p % 2 ^ (t + 1) = p % 2 ^ t) := by
  have h := Nat.mod_pow_succ (x := p) (b := 2) (k := t)
  have h2 := bit_mod p t
  constructor
  · intro q
    rw [q, if_pos rfl] at h2
    rw [h, h2, Nat.mul_one]
  · intro q
    rw [q, if_neg nft] at h2
    rw [h, h2, Nat.mul_zero, Nat.add_zero]
theorem l_bit (K : Nat) (hK : 200000 ≤ K) (R p : Nat) (hR : R < 2 ^ 32) (hp : p < 32) : ∀ (t k O L st : Nat) (u : Nat → Int32), t ≤ 5 → t < k → O < 2 ^ 2 ^ t → L < 2 ^ 2 ^ t → (∀ j, ¬ (O.testBit j = true ∧ L.testBit j = true)) → st + 2 ^ t ≤ 32 → (∀ j, j < 2 ^ t → u j = tv (O.testBit j) (L.testBit j)) → ∃ (x : Int64) (O' L' : Nat) (a b : Int32) (u' : Nat → Int32), fL_X5_bitTold_20 K (nI p) k (nI (2 ^ t / 2), lN (R / 2 ^ st), lN L, lN O) = some (0, x, lN L', lN O') ∧ fL_X10_theBit_46 K (lN R) k (nI (2 ^ t / 2), nI (p % 2 ^ t), nI st, u) = some (0, a, b, u') ∧ O' < 2 ∧ L' < 2 ∧ u' 0 = tv (O'.testBit 0) (L'.testBit 0) := by
  intro t
  induction t with
  | zero =>
    intro k O L st u _ hk hO hL hd hst hu
    obtain ⟨k, rfl⟩ : ∃ q, k = q + 1 := ⟨k - 1, by omega⟩
    refine ⟨lN (R / 2 ^ st), O, L, nI (p % 2 ^ 0), nI st, u, ?_, ?_, by simpa using hO, by simpa using hL, hu 0 (by decide)⟩
    · rw [fL_X5_bitTold_20, if_pos (show nI (2 ^ 0 / 2) < (1 : Int32) by decide)]; rfl
    · rw [fL_X10_theBit_46, if_pos (show nI (2 ^ 0 / 2) ≤ (0 : Int32) by decide)]; rfl
  | succ t ih =>
    intro k O L st u ht hk hO hL hd hst hu
    obtain ⟨k, rfl⟩ : ∃ q, k = q + 1 := ⟨k - 1, by omega⟩
    have e0 : 2 ^ (t + 1) / 2 = 2 ^ t := by rw [Nat.pow_succ]; omega
    have hs : 2 ^ (t + 1) = 2 ^ t + 2 ^ t := by rw [Nat.pow_succ]; omega
    have h16 : 2 ^ t ≤ 2 ^ 4 := Nat.pow_le_pow_right (by decide) (by omega)
    have h1 := Nat.two_pow_pos t
    rw [e0]
    generalize hh : 2 ^ t = h at *
    rw [hs] at hO hL hu hst
    have hO64 : O < 2 ^ 64 := Nat.lt_of_lt_of_le hO (Nat.pow_le_pow_right (by decide) (by omega))
    have hL64 : L < 2 ^ 64 := Nat.lt_of_lt_of_le hL (Nat.pow_le_pow_right (by decide) (by omega))
    have hdiv : ∀ x, x < 2 ^ (h + h) → x / 2 ^ h < 2 ^ h := fun x hx => by
      rw [Nat.pow_add] at hx
      exact Nat.div_lt_of_lt_mul hx
    have hmod : ∀ x, x % 2 ^ h < 2 ^ h := fun x => Nat.mod_lt _ (Nat.two_pow_pos h)
    have hp64 : 2 ^ h < 2 ^ 64 := Nat.pow_lt_pow_right (by decide) (by omega)
    have hmk : gLshl 1 (nI h) - 1 = lN (2 ^ h - 1) := e_mask1 (by omega)
    have a1 : lN O &&& lN (2 ^ h - 1) = lN (O % 2 ^ h) := by rw [fb_andL, Nat.and_two_pow_sub_one_eq_mod]
    have a2 : gLushr (lN O) (nI h) = lN (O / 2 ^ h) := e_ushrN hO64 (by omega)
    have a3 : lN L &&& lN (2 ^ h - 1) = lN (L % 2 ^ h) := by rw [fb_andL, Nat.and_two_pow_sub_one_eq_mod]
    have a4 : gLushr (lN L) (nI h) = lN (L / 2 ^ h) := e_ushrN hL64 (by omega)
    have n9 : ¬ nI h < (1 : Int32) := by rw [ltI, nI_toInt (by omega), i_1]; omega
    have n10 : ¬ nI h ≤ (0 : Int32) := by rw [leI, nI_toInt (by omega), i_0]; omega
    have ehalf : nI h / 2 = nI (h / 2) := by rw [← hh]; exact p2half t (by omega)
    have hbit : (nI p &&& nI h = 0) = (p.testBit t = false) := by rw [← hh]; exact propext (fa_bit (by omega))
    have bO : ∀ j, (O % 2 ^ h).testBit j = (decide (j < h) && O.testBit j) := fun j => Nat.testBit_mod_two_pow O h j
    have bL : ∀ j, (L % 2 ^ h).testBit j = (decide (j < h) && L.testBit j) := fun j => Nat.testBit_mod_two_pow L h j
    have cO : ∀ j, (O / 2 ^ h).testBit j = O.testBit (j + h) := fun j => Nat.testBit_div_two_pow O j
    have cL : ∀ j, (L / 2 ^ h).testBit j = L.testBit (j + h) := fun j => Nat.testBit_div_two_pow L j
    rw [fL_X5_bitTold_20, if_neg n9, fL_X10_theBit_46, if_neg n10, hmk]
    simp only [gLet]
    rw [a1, a2, a3, a4, ehalf]
    cases hb : p.testBit t with
    | false =>
      have hm := mod_hi.2 hb
      rw [hh] at hm
      rw [if_pos (show nI p &&& nI h = 0 by rw [hbit]; exact hb), Option.bind_some]
      have hlt : p % 2 ^ (t + 1) < h := by rw [hm]; exact Nat.mod_lt _ h1
      have h61 := l_61 K h (by omega) h 0 K u (by omega) (by omega)
      have h61' : fL_X10_theBit_61 K (nI h) K (0, u) = some (nI h, fun j => if 0 ≤ j ∧ j < h then f61 (u j) (u (j + h)) else u j) := h61
      rw [if_neg (show ¬ nI h ≤ nI (p % 2 ^ (t + 1)) from nI_ge hlt (by omega)), h61', Option.bind_some, Option.bind_some, hm]
      dsimp only
      rw [e_m1, fb_orL, fb_xorL, fb_xorL, fb_andL]
      have x1 : L % 2 ^ h ||| L / 2 ^ h < 2 ^ h := Nat.or_lt_two_pow (hmod L) (hdiv L hL)
      have x2 : O % 2 ^ h ^^^ O / 2 ^ h < 2 ^ h := Nat.xor_lt_two_pow (hmod O) (hdiv O hO)
      refine ih k _ _ st _ (by omega) (by omega) (Nat.lt_of_le_of_lt Nat.and_le_left x2) x1 ?_ (by omega) ?_
      · intro j q
        rw [andn_b (by omega)] at q
        have := q.1
        rw [q.2] at this
        simp at this
      · intro j hj
        rw [if_pos ⟨by omega, hj⟩, hu j (by omega), hu (j + h) (by omega), tv_61, andn_b (by omega), Nat.testBit_xor, Nat.testBit_or, bO, bL, cO, cL, decide_eq_true hj, Bool.true_and, Bool.true_and]
    | true =>
      have hm := mod_hi.1 hb
      rw [hh] at hm
      have hx : R / 2 ^ st % 2 ^ h < 2 ^ h := hmod _
      have hfo := e_fold9 K hK (Nok1_pow t (by omega)) (by rw [hh]; exact hx)
      have hf10 := e_fold10 K hK (Nok1_pow t (by omega)) (by rw [hh]; exact hx)
      rw [hh] at hfo hf10
      have k1 : lN (R / 2 ^ st) &&& lN (2 ^ h - 1) = lN (R / 2 ^ st % 2 ^ h) := by rw [fb_andL, Nat.and_two_pow_sub_one_eq_mod]
      have k2 : gLshr (lN R) (nI st) &&& lN (2 ^ h - 1) = lN (R / 2 ^ st % 2 ^ h) := by rw [e_shrN (by omega) (by omega), k1]
      have k3 : gLushr (lN (R / 2 ^ st)) (nI h) = lN (R / 2 ^ (st + h)) := by
        rw [e_ushrN (Nat.lt_of_le_of_lt (Nat.div_le_self _ _) (by omega)) (by omega), Nat.div_div_eq_div_mul, ← Nat.pow_add]
      have hge : h ≤ p % 2 ^ (t + 1) := by omega
      have hpm : p % 2 ^ (t + 1) < 2 ^ 31 := by
        have := Nat.mod_le p (2 ^ (t + 1))
        omega
      have k4 : nI (p % 2 ^ (t + 1)) - nI h = nI (p % h) := by
        rw [hm, ← nI_add]
        apply Int32.toInt_inj.mp
        have : p % h < h := Nat.mod_lt _ h1
        rw [nI_add, fb_subI (by rw [nI_toInt (by omega), nI_toInt (by omega)]; omega) (by rw [nI_toInt (by omega), nI_toInt (by omega)]; omega), nI_toInt (by omega), nI_toInt (by omega), nI_toInt (by omega)]
        omega
      have hFO : FO h (R / 2 ^ st % 2 ^ h) < 2 ^ 62 := Nat.lt_of_lt_of_le hfo.2 (Nat.pow_le_pow_right (by decide) (by omega))
      have h152 := l_152 K h (FO h (R / 2 ^ st % 2 ^ h)) (by omega) hFO h 0 K u (by omega) (by omega)
      have h152' : fL_X10_theBit_152 K (lN (FO h (R / 2 ^ st % 2 ^ h))) (nI h) K (0, u) = some (nI h, fun j => if 0 ≤ j ∧ j < h then f152 (bI ((FO h (R / 2 ^ st % 2 ^ h)).testBit j)) (u j) (u (j + h)) else u j) := h152
      rw [if_neg (show ¬ nI p &&& nI h = 0 by rw [hbit, hb]; decide), k1, hfo.1, Option.bind_some, Option.bind_some, if_pos (nI_le hge hpm), k2, hf10, Option.bind_some, h152', Option.bind_some, Option.bind_some, k3, k4, nI_add]
      dsimp only
      rw [e_m1, fb_andL, fb_xorL, fb_andL, fb_orL, fb_xorL, fb_andL]
      have x1 : L % 2 ^ h &&& L / 2 ^ h < 2 ^ h := Nat.lt_of_le_of_lt Nat.and_le_left (hmod L)
      have x2 : O / 2 ^ h ||| (O % 2 ^ h ^^^ FO h (R / 2 ^ st % 2 ^ h)) &&& L / 2 ^ h < 2 ^ h := Nat.or_lt_two_pow (hdiv O hO) (Nat.lt_of_le_of_lt Nat.and_le_left (Nat.xor_lt_two_pow (hmod O) hfo.2))
      refine ih k _ _ (st + h) _ (by omega) (by omega) (Nat.lt_of_le_of_lt Nat.and_le_left x2) x1 ?_ (by omega) ?_
      · intro j q
        rw [andn_b (by omega)] at q
        have := q.1
        rw [q.2] at this
        simp at this
      · intro j hj
        rw [if_pos ⟨by omega, hj⟩, hu j (by omega), hu (j + h) (by omega), tv_152 _ _ _ _ _ (hd (j + h)), andn_b (by omega), Nat.testBit_or, Nat.testBit_and, Nat.testBit_xor, Nat.testBit_and, bO, bL, cO, cL, decide_eq_true hj, Bool.true_and, Bool.true_and]
