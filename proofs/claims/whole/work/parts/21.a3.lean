/-! how many ones: Long.bitCount, and the reference's counts -/
theorem pc_succ (n x : Nat) : pcN (n + 1) x = pcN n x + (if x.testBit n then 1 else 0) := rfl
theorem pc_split (m n x : Nat) : pcN (m + n) x = pcN m x + pcN n (x / 2 ^ m) := by
  unfold pcN
  rw [fb_ct_split]
  congr 1
  exact fb_ct_cong (fun k _ => by rw [Nat.testBit_div_two_pow, Nat.add_comm])
theorem pc_mod {j n : Nat} (h : j ≤ n) (x : Nat) : pcN n (x % 2 ^ j) = pcN j x := by
  obtain ⟨d, rfl⟩ : ∃ d, n = j + d := ⟨n - j, by omega⟩
  rw [pc_split]
  have h1 : x % 2 ^ j / 2 ^ j = 0 := Nat.div_eq_of_lt (Nat.mod_lt _ (Nat.two_pow_pos j))
  have h2 : pcN d 0 = 0 := fb_ct_zero.mpr (fun k _ => Nat.zero_testBit k)
  rw [h1, h2, Nat.add_zero]
  exact fb_ct_cong (fun k hk => by rw [Nat.testBit_mod_two_pow]; simp [hk])
theorem pc_lt {j n x : Nat} (h : j ≤ n) (hx : x < 2 ^ j) : pcN n x = pcN j x := by
  have := pc_mod h x
  rwa [Nat.mod_eq_of_lt hx] at this
def D4 (a b c d : Nat) : Nat := a + 256 * b + 65536 * c + 16777216 * d
theorem and_s8 (a b : Nat) : a &&& b = (a % 256 &&& b % 256) + 256 * (a / 256 &&& b / 256) := by
  have h1 : (a &&& b) % 2 ^ 8 = (a % 2 ^ 8) &&& (b % 2 ^ 8) := Nat.and_mod_two_pow
  have h2 : (a &&& b) / 2 ^ 8 = a / 2 ^ 8 &&& b / 2 ^ 8 := Nat.and_div_two_pow
  have h3 := Nat.mod_add_div (a &&& b) (2 ^ 8)
  rw [h1, h2] at h3
  exact h3.symm
theorem andD4 {a b c d : Nat} (ha : a < 256) (hb : b < 256) (hc : c < 256) (hd : d < 256) (m M : Nat) (h0 : M % 256 = m) (h1 : M / 256 % 256 = m) (h2 : M / 256 / 256 % 256 = m) (h3 : M / 256 / 256 / 256 % 256 = m) : D4 a b c d &&& M = D4 (a &&& m) (b &&& m) (c &&& m) (d &&& m) := by
  unfold D4
  rw [and_s8, and_s8 ((a + 256 * b + 65536 * c + 16777216 * d) / 256), and_s8 ((a + 256 * b + 65536 * c + 16777216 * d) / 256 / 256), and_s8 ((a + 256 * b + 65536 * c + 16777216 * d) / 256 / 256 / 256), h0, h1, h2, h3]
  have e0 : (a + 256 * b + 65536 * c + 16777216 * d) % 256 = a := by omega
  have e1 : (a + 256 * b + 65536 * c + 16777216 * d) / 256 % 256 = b := by omega
  have e2 : (a + 256 * b + 65536 * c + 16777216 * d) / 256 / 256 % 256 = c := by omega
  have e3 : (a + 256 * b + 65536 * c + 16777216 * d) / 256 / 256 / 256 % 256 = d := by omega
  have e4 : (a + 256 * b + 65536 * c + 16777216 * d) / 256 / 256 / 256 / 256 = 0 := by omega
  rw [e0, e1, e2, e3, e4, Nat.zero_and]
  omega
def bc1 (a : Nat) : Nat := a - (a / 2 &&& 85)
def bc2 (a : Nat) : Nat := (bc1 a &&& 51) + (bc1 a / 4 &&& 51)
theorem bcT1 : ∀ a, a < 256 → ∀ e, e < 2 → (a / 2 + 128 * e) &&& 85 = a / 2 &&& 85 := by decide +kernel
theorem bcT1b : ∀ a, a < 256 → a / 2 &&& 85 ≤ a := by decide +kernel
theorem bcT2 : ∀ a, a < 256 → ∀ e, e < 4 → (bc1 a / 4 + 64 * e) &&& 51 = bc1 a / 4 &&& 51 := by decide +kernel
theorem bcT2b : ∀ a, a < 256 → bc2 a ≤ 68 ∧ bc2 a % 16 ≤ 4 := by decide +kernel
theorem bcT3 : ∀ a, a < 256 → ∀ e, e < 5 → (bc2 a + bc2 a / 16 + 16 * e) &&& 15 = pcN 8 a := by decide +kernel
theorem bcT4 : ∀ a, a < 256 → pcN 8 a ≤ 8 := by decide +kernel
theorem bc_last {p1 p2 p3 p4 w1 w2 : Nat} (n1 : p1 ≤ 8) (n2 : p2 ≤ 8) (n3 : p3 ≤ 8) (n4 : p4 ≤ 8) (hw1 : w1 = D4 p1 p2 p3 p4 + D4 p1 p2 p3 p4 / 256) (hw2 : w2 = w1 + w1 / 65536) : (w2 + w2 / 4294967296) % 128 = p1 + p2 + p3 + p4 := by
  unfold D4 at hw1
  have e1 : (p1 + 256 * p2 + 65536 * p3 + 16777216 * p4) / 256 = p2 + 256 * p3 + 65536 * p4 := by omega
  rw [e1] at hw1
  have e2 : w1 / 65536 = p3 + p4 + 256 * p4 := by omega
  rw [e2] at hw2
  have e3 : w2 / 4294967296 = 0 := by omega
  rw [e3]
  omega
theorem e_ushrN {a s : Nat} (ha : a < 2 ^ 64) (hs : s < 64) : gLushr (lN a) (nI s) = lN (a / 2 ^ s) := wb_shr ha hs
theorem e_bc (K : Nat) {x : Nat} (hx : x < 2 ^ 32) : f_J13_bitCount_95d88 K (lN x) = some (nI (pcN 32 x)) := by
  obtain ⟨a, b, c, d, ha, hb, hc, hd, rfl⟩ : ∃ a b c d, a < 256 ∧ b < 256 ∧ c < 256 ∧ d < 256 ∧ x = D4 a b c d := ⟨x % 256, x / 256 % 256, x / 65536 % 256, x / 16777216, by omega, by omega, by omega, by omega, by unfold D4; omega⟩
  have q1 : D4 a b c d / 2 &&& 6148914691236517205 = D4 (a / 2 &&& 85) (b / 2 &&& 85) (c / 2 &&& 85) (d / 2 &&& 85) := by
    have e : D4 a b c d / 2 = D4 (a / 2 + 128 * (b % 2)) (b / 2 + 128 * (c % 2)) (c / 2 + 128 * (d % 2)) (d / 2 + 128 * 0) := by unfold D4; omega
    rw [e, andD4 (by omega) (by omega) (by omega) (by omega) 85 _ (by decide) (by decide) (by decide) (by decide), bcT1 a ha _ (by omega), bcT1 b hb _ (by omega), bcT1 c hc _ (by omega), bcT1 d hd _ (by omega)]
  have t1 := bcT1b a ha
  have t2 := bcT1b b hb
  have t3 := bcT1b c hc
  have t4 := bcT1b d hd
  have q2 : D4 a b c d - D4 (a / 2 &&& 85) (b / 2 &&& 85) (c / 2 &&& 85) (d / 2 &&& 85) = D4 (bc1 a) (bc1 b) (bc1 c) (bc1 d) := by
    unfold D4 bc1; omega
  have q2b : D4 (a / 2 &&& 85) (b / 2 &&& 85) (c / 2 &&& 85) (d / 2 &&& 85) ≤ D4 a b c d := by unfold D4; omega
  have l1 : bc1 a < 256 := by unfold bc1; omega
  have l2 : bc1 b < 256 := by unfold bc1; omega
  have l3 : bc1 c < 256 := by unfold bc1; omega
  have l4 : bc1 d < 256 := by unfold bc1; omega
  have q3 : (D4 (bc1 a) (bc1 b) (bc1 c) (bc1 d) &&& 3689348814741910323) + (D4 (bc1 a) (bc1 b) (bc1 c) (bc1 d) / 4 &&& 3689348814741910323) = D4 (bc2 a) (bc2 b) (bc2 c) (bc2 d) := by
    have e : D4 (bc1 a) (bc1 b) (bc1 c) (bc1 d) / 4 = D4 (bc1 a / 4 + 64 * (bc1 b % 4)) (bc1 b / 4 + 64 * (bc1 c % 4)) (bc1 c / 4 + 64 * (bc1 d % 4)) (bc1 d / 4 + 64 * 0) := by unfold D4; omega
    rw [e, andD4 l1 l2 l3 l4 51 _ (by decide) (by decide) (by decide) (by decide), andD4 (by omega) (by omega) (by omega) (by omega) 51 _ (by decide) (by decide) (by decide) (by decide), bcT2 a ha _ (by omega), bcT2 b hb _ (by omega), bcT2 c hc _ (by omega), bcT2 d hd _ (by omega)]
    unfold D4 bc2; omega
  have m1 := bcT2b a ha
  have m2 := bcT2b b hb
  have m3 := bcT2b c hc
  have m4 := bcT2b d hd
  have q4 : (D4 (bc2 a) (bc2 b) (bc2 c) (bc2 d) + D4 (bc2 a) (bc2 b) (bc2 c) (bc2 d) / 16) &&& 1085102592571150095 = D4 (pcN 8 a) (pcN 8 b) (pcN 8 c) (pcN 8 d) := by
    have e : D4 (bc2 a) (bc2 b) (bc2 c) (bc2 d) + D4 (bc2 a) (bc2 b) (bc2 c) (bc2 d) / 16 = D4 (bc2 a + bc2 a / 16 + 16 * (bc2 b % 16)) (bc2 b + bc2 b / 16 + 16 * (bc2 c % 16)) (bc2 c + bc2 c / 16 + 16 * (bc2 d % 16)) (bc2 d + bc2 d / 16 + 16 * 0) := by unfold D4; omega
    rw [e, andD4 (by omega) (by omega) (by omega) (by omega) 15 _ (by decide) (by decide) (by decide) (by decide), bcT3 a ha _ (by omega), bcT3 b hb _ (by omega), bcT3 c hc _ (by omega), bcT3 d hd _ (by omega)]
  have n1 := bcT4 a ha
  have n2 := bcT4 b hb
  have n3 := bcT4 c hc
  have n4 := bcT4 d hd
  have p32 : pcN 32 (D4 a b c d) = pcN 8 a + pcN 8 b + pcN 8 c + pcN 8 d := by
    have s1 : pcN 32 (D4 a b c d) = pcN 8 (D4 a b c d) + pcN 24 (D4 a b c d / 2 ^ 8) := pc_split 8 24 _
    have s2 : pcN 24 (D4 a b c d / 2 ^ 8) = pcN 8 (D4 a b c d / 2 ^ 8) + pcN 16 (D4 a b c d / 2 ^ 8 / 2 ^ 8) := pc_split 8 16 _
    have s3 : pcN 16 (D4 a b c d / 2 ^ 8 / 2 ^ 8) = pcN 8 (D4 a b c d / 2 ^ 8 / 2 ^ 8) + pcN 8 (D4 a b c d / 2 ^ 8 / 2 ^ 8 / 2 ^ 8) := pc_split 8 8 _
    have r0 := pc_mod (Nat.le_refl 8) (D4 a b c d)
    have r1 := pc_mod (Nat.le_refl 8) (D4 a b c d / 2 ^ 8)
    have r2 := pc_mod (Nat.le_refl 8) (D4 a b c d / 2 ^ 8 / 2 ^ 8)
    have r3 := pc_mod (Nat.le_refl 8) (D4 a b c d / 2 ^ 8 / 2 ^ 8 / 2 ^ 8)
    rw [show D4 a b c d % 2 ^ 8 = a by unfold D4; omega] at r0
    rw [show D4 a b c d / 2 ^ 8 % 2 ^ 8 = b by unfold D4; omega] at r1
    rw [show D4 a b c d / 2 ^ 8 / 2 ^ 8 % 2 ^ 8 = c by unfold D4; omega] at r2
    rw [show D4 a b c d / 2 ^ 8 / 2 ^ 8 / 2 ^ 8 % 2 ^ 8 = d by unfold D4; omega] at r3
    omega
  have u1 : D4 a b c d < 2 ^ 64 := by omega
  have u2 : D4 (bc1 a) (bc1 b) (bc1 c) (bc1 d) < 2 ^ 64 := by unfold D4; omega
  have u3 : D4 (bc2 a) (bc2 b) (bc2 c) (bc2 d) < 2 ^ 64 := by unfold D4; omega
  unfold f_J13_bitCount_95d88
  simp only [gLet]
  have z1 : lN (D4 a b c d) - (gLushr (lN (D4 a b c d)) 1 &&& 6148914691236517205) = lN (D4 (bc1 a) (bc1 b) (bc1 c) (bc1 d)) := by
    have y1 : gLushr (lN (D4 a b c d)) 1 = lN (D4 a b c d / 2) := e_ushrN (s := 1) u1 (by decide)
    have y2 : lN (D4 a b c d / 2) &&& 6148914691236517205 = lN (D4 a b c d / 2 &&& 6148914691236517205) := fb_andL _ 6148914691236517205
    rw [y1, y2, q1, lN_sub q2b, q2]
  have z2 : (lN (D4 (bc1 a) (bc1 b) (bc1 c) (bc1 d)) &&& 3689348814741910323) + (gLushr (lN (D4 (bc1 a) (bc1 b) (bc1 c) (bc1 d))) 2 &&& 3689348814741910323) = lN (D4 (bc2 a) (bc2 b) (bc2 c) (bc2 d)) := by
    have y1 : gLushr (lN (D4 (bc1 a) (bc1 b) (bc1 c) (bc1 d))) 2 = lN (D4 (bc1 a) (bc1 b) (bc1 c) (bc1 d) / 4) := e_ushrN (s := 2) u2 (by decide)
    have y2 : lN (D4 (bc1 a) (bc1 b) (bc1 c) (bc1 d) / 4) &&& 3689348814741910323 = lN (D4 (bc1 a) (bc1 b) (bc1 c) (bc1 d) / 4 &&& 3689348814741910323) := fb_andL _ 3689348814741910323
    have y3 : lN (D4 (bc1 a) (bc1 b) (bc1 c) (bc1 d)) &&& 3689348814741910323 = lN (D4 (bc1 a) (bc1 b) (bc1 c) (bc1 d) &&& 3689348814741910323) := fb_andL _ 3689348814741910323
    rw [y1, y2, y3, lN_add, q3]
  have z3 : (lN (D4 (bc2 a) (bc2 b) (bc2 c) (bc2 d)) + gLushr (lN (D4 (bc2 a) (bc2 b) (bc2 c) (bc2 d))) 4) &&& 1085102592571150095 = lN (D4 (pcN 8 a) (pcN 8 b) (pcN 8 c) (pcN 8 d)) := by
    have y1 : gLushr (lN (D4 (bc2 a) (bc2 b) (bc2 c) (bc2 d))) 4 = lN (D4 (bc2 a) (bc2 b) (bc2 c) (bc2 d) / 16) := e_ushrN (s := 4) u3 (by decide)
    have y2 : lN (D4 (bc2 a) (bc2 b) (bc2 c) (bc2 d) + D4 (bc2 a) (bc2 b) (bc2 c) (bc2 d) / 16) &&& 1085102592571150095 = lN ((D4 (bc2 a) (bc2 b) (bc2 c) (bc2 d) + D4 (bc2 a) (bc2 b) (bc2 c) (bc2 d) / 16) &&& 1085102592571150095) := fb_andL _ 1085102592571150095
    rw [y1, lN_add, y2, q4]
  rw [z1, z2, z3]
  generalize pcN 8 a = p1 at *
  generalize pcN 8 b = p2 at *
  generalize pcN 8 c = p3 at *
  generalize pcN 8 d = p4 at *
  have v1 : D4 p1 p2 p3 p4 < 2 ^ 32 := by unfold D4; omega
  have z4 : lN (D4 p1 p2 p3 p4) + gLushr (lN (D4 p1 p2 p3 p4)) 8 = lN (D4 p1 p2 p3 p4 + D4 p1 p2 p3 p4 / 256) := by
    have y1 : gLushr (lN (D4 p1 p2 p3 p4)) 8 = lN (D4 p1 p2 p3 p4 / 256) := e_ushrN (s := 8) (by omega) (by decide)
    rw [y1, lN_add]
  rw [z4]
  obtain ⟨w1, hw1⟩ : ∃ w, w = D4 p1 p2 p3 p4 + D4 p1 p2 p3 p4 / 256 := ⟨_, rfl⟩
  rw [← hw1]
  have hw1b : w1 < 2 ^ 33 := by omega
  have z5 : lN w1 + gLushr (lN w1) 16 = lN (w1 + w1 / 65536) := by
    have y1 : gLushr (lN w1) 16 = lN (w1 / 65536) := e_ushrN (s := 16) (by omega) (by decide)
    rw [y1, lN_add]
  rw [z5]
  obtain ⟨w2, hw2⟩ : ∃ w, w = w1 + w1 / 65536 := ⟨_, rfl⟩
  rw [← hw2]
  have z6 : lN w2 + gLushr (lN w2) 32 = lN (w2 + w2 / 4294967296) := by
    have y1 : gLushr (lN w2) 32 = lN (w2 / 4294967296) := e_ushrN (s := 32) (by omega) (by decide)
    rw [y1, lN_add]
  rw [z6, lN_i]
  have z7 : nI (w2 + w2 / 4294967296) &&& 127 = nI ((w2 + w2 / 4294967296) % 128) := fa_mask (w2 + w2 / 4294967296) 7
  rw [z7, p32]
  have : (w2 + w2 / 4294967296) % 128 = p1 + p2 + p3 + p4 := bc_last n1 n2 n3 n4 hw1 hw2
  rw [this]
theorem e_goodCount (K : Nat) {G : Nat} (hG : G < 2 ^ 32) : f_X4_goodCount K (lN G) = some (nI (pcN 32 G)) := by
  rw [f_X4_goodCount, e_bc K hG]; rfl
theorem pc_le (n x : Nat) : pcN n x ≤ n := fb_ct_le _ n
theorem l_goods (K N G : Nat) (mg : Nat → Int32) (hN : N ≤ 32) (hg : ∀ j, j < 32 → mg j = bI (G.testBit j)) : ∀ (m i k : Nat), i + m = N → m < k → fL_X10_goods_4 K (nI N) mg k (nI i, nI (pcN i G)) = some (nI N, nI (pcN N G)) := by
  intro m
  induction m with
  | zero =>
    intro i k hi hk
    obtain ⟨k, rfl⟩ : ∃ q, k = q + 1 := ⟨k - 1, by omega⟩
    have hi : i = N := by omega
    subst hi
    rw [fL_X10_goods_4, if_pos (nI_le (Nat.le_refl _) (by omega))]
  | succ m ih =>
    intro i k hi hk
    obtain ⟨k, rfl⟩ : ∃ q, k = q + 1 := ⟨k - 1, by omega⟩
    have h := ih (i + 1) k (by omega) (by omega)
    rw [fL_X10_goods_4, if_neg (nI_ge (show i < N by omega) (by omega)), gIx_nI _ (show i < 32 by omega) (by decide), tnN (by omega), hg i (by omega)]
    have e : (if bI (G.testBit i) = 0 then some (0 : Int32) else some 1) = some (nI (if G.testBit i then 1 else 0)) := by
      cases G.testBit i <;> rfl
    rw [e, Option.bind_some, gLet, gLet, nI_add, nI_1, ← pc_succ]
    exact h
theorem e_goods (K N G : Nat) (hK : 200000 ≤ K) (mg : Nat → Int32) (hN : N ≤ 32) (hg : ∀ j, j < 32 → mg j = bI (G.testBit j)) : f_X10_goods K (nI N) mg = some (nI (pcN N G)) := by
  have h := l_goods K N G mg hN hg N 0 K (by omega) (by omega)
  have h2 : fL_X10_goods_4 K (nI N) mg K (0, 0) = some (nI N, nI (pcN N G)) := h
  rw [f_X10_goods, h2]; rfl
theorem l_about (K j G : Nat) (mg : Nat → Int32) (hN : j < 32) (hg : ∀ j, j < 32 → mg j = bI (G.testBit j)) : ∀ (m i k : Nat), i + m = j → m < k → fL_X10_about_68 K (nI j) mg k (nI i, nI (pcN i G)) = some (nI j, nI (pcN j G)) := by
  intro m
  induction m with
  | zero =>
    intro i k hi hk
    obtain ⟨k, rfl⟩ : ∃ q, k = q + 1 := ⟨k - 1, by omega⟩
    have hi : i = j := by omega
    subst hi
    rw [fL_X10_about_68, if_pos (nI_le (Nat.le_refl _) (by omega))]
  | succ m ih =>
    intro i k hi hk
    obtain ⟨k, rfl⟩ : ∃ q, k = q + 1 := ⟨k - 1, by omega⟩
    have h := ih (i + 1) k (by omega) (by omega)
    rw [fL_X10_about_68, if_neg (nI_ge (show i < j by omega) (by omega)), gIx_nI _ (show i < 32 by omega) (by decide), tnN (by omega), hg i (by omega)]
    have e : (if bI (G.testBit i) = 0 then some (0 : Int32) else some 1) = some (nI (if G.testBit i then 1 else 0)) := by
      cases G.testBit i <;> rfl
    rw [e, Option.bind_some, gLet, gLet, nI_add, nI_1, ← pc_succ]
    exact h
theorem e_messageBitOf (K : Nat) {j G : Nat} (hj : j < 32) : f_X4_messageBitOf K (nI j) (lN G) = some (nI (pcN j G)) := by
  have e : gLshl 1 (nI j) - 1 = lN (2 ^ j - 1) := by
    rw [e_shl1 (by omega)]
    exact lN_sub (b := 1) (Nat.two_pow_pos j)
  rw [f_X4_messageBitOf, e, fb_andL, Nat.and_two_pow_sub_one_eq_mod]
  have h1 : 2 ^ j < 2 ^ 32 := Nat.pow_lt_pow_right (by decide) hj
  have h2 := Nat.mod_lt G (Nat.two_pow_pos j)
  rw [e_bc K (by omega), pc_mod (by omega)]
  rfl
