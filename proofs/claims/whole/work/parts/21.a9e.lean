/-! the nearest word; the reference's counts of words -/
theorem l_unlike (K N W O L : Nat) (hN : N ≤ 32) (hW : W < 2 ^ 62) (seen : Nat → Int32) (hs : ∀ j, j < N → seen j = tv (O.testBit j) (L.testBit j)) : ∀ (m i k : Nat), i + m = N → m < k → fL_X10_unlike_5 K (lN W) (nI N) seen k (nI i, nI (fb_ct (fun j => !L.testBit j && (O.testBit j ^^ W.testBit j)) i)) = some (nI N, nI (fb_ct (fun j => !L.testBit j && (O.testBit j ^^ W.testBit j)) N)) := by
  intro m
  induction m with
  | zero =>
    intro i k hi hk
    obtain ⟨k, rfl⟩ : ∃ q, k = q + 1 := ⟨k - 1, by omega⟩
    have hi : i = N := by omega
    subst hi
    rw [fL_X10_unlike_5, if_pos (nI_le (Nat.le_refl _) (by omega))]
  | succ m ih =>
    intro i k hi hk
    obtain ⟨k, rfl⟩ : ∃ q, k = q + 1 := ⟨k - 1, by omega⟩
    have h := ih (i + 1) k (by omega) (by omega)
    rw [fb_ct_succ] at h
    have e1 : Int64.toInt32 (gLshr (lN W) (nI i) &&& 1) = bI (W.testBit i) := by
      rw [e_shrN hW (by omega), wb_a1 (Nat.lt_of_le_of_lt (Nat.div_le_self _ _) (by omega)), lN_i, e_bit01]
    have e2 : (if 2 ≤ tv (O.testBit i) (L.testBit i) then some (0 : Int32) else if tv (O.testBit i) (L.testBit i) = bI (W.testBit i) then some 0 else some 1) = some (nI (if (!L.testBit i && (O.testBit i ^^ W.testBit i)) then 1 else 0)) := by
      cases L.testBit i <;> cases O.testBit i <;> cases W.testBit i <;> decide
    rw [fL_X10_unlike_5, if_neg (nI_ge (show i < N by omega) (by omega)), gIx_nI _ (show i < 32 by omega) (by decide), gIx_nI _ (show i < 32 by omega) (by decide), tnN (by omega), hs i (by omega), e1, e2, Option.bind_some, gLet, gLet, nI_add, nI_1]
    exact h
def tlN (N L : Nat) : Nat := (2 ^ N - 1) &&& (L ^^^ (2 ^ 64 - 1))
theorem tlN_lt (N L : Nat) : tlN N L < 2 ^ N := Nat.lt_of_le_of_lt Nat.and_le_left (by have := Nat.two_pow_pos N; omega)
theorem tlN_b {N : Nat} (hN : N ≤ 32) (L j : Nat) : (tlN N L).testBit j = (decide (j < N) && !L.testBit j) := by
  have : 2 ^ N ≤ 2 ^ 32 := Nat.pow_le_pow_right (by decide) hN
  unfold tlN
  rw [andn_b (by omega), Nat.testBit_two_pow_sub_one]
def ulN (N O L W : Nat) : Nat := pcN N ((W ^^^ O) &&& tlN N L)
theorem e_unlike (K : Nat) (hK : 200000 ≤ K) {N W O L : Nat} (hN : N ≤ 32) (hW : W < 2 ^ 62) {seen : Nat → Int32} (hs : ∀ j, j < N → seen j = tv (O.testBit j) (L.testBit j)) : f_X10_unlike K (lN W) (nI N) seen = some (nI (ulN N O L W)) := by
  have h : fL_X10_unlike_5 K (lN W) (nI N) seen K (0, 0) = some (nI N, nI (fb_ct (fun j => !L.testBit j && (O.testBit j ^^ W.testBit j)) N)) := l_unlike K N W O L hN hW seen hs N 0 K (by omega) (by omega)
  have e : fb_ct (fun j => !L.testBit j && (O.testBit j ^^ W.testBit j)) N = ulN N O L W := fb_ct_cong (fun j hj => by
    rw [Nat.testBit_and, Nat.testBit_xor, tlN_b hN, decide_eq_true hj]
    cases L.testBit j <;> cases O.testBit j <;> cases W.testBit j <;> rfl)
  rw [f_X10_unlike, h, e]; rfl
theorem ul_le (N O L W : Nat) : ulN N O L W ≤ N := pc_le _ _
theorem e_lcmp (a b : Nat) (ha : a < 2 ^ 63) (hb : b < 2 ^ 63) : (0 ≤ lg_cmp (lN a) (lN b)) = (b ≤ a) := by
  rw [lgc_ge, pk_lT ha, pk_lT hb]
  exact propext ⟨fun h => by omega, fun h => by omega⟩
theorem l_nearM (K : Nat) (hK : 200000 ≤ K) {N G F O L c : Nat} (hN : Nok1 N) (hF : F < 2 ^ N) (hGF : G &&& F = 0) (hc : pcN N G = c) (hc12 : c ≤ 12) {mg mz seen : Nat → Int32} (hg : ∀ j, j < 32 → mg j = bI (G.testBit j)) (hz : ∀ j, j < 32 → mz j = bI (F.testBit j)) (hs : ∀ j, j < N → seen j = tv (O.testBit j) (L.testBit j)) (k i : Nat) (f : Int32) (b : Int64) (hi : i < 2 ^ c) : fL_X10_nearest_82 K (nI N) mg seen mz (k + 1) (lN i, f, b) = if f ≤ nI (ulN N O L (wB (FO N F) G N i)) then fL_X10_nearest_82 K (nI N) mg seen mz k (lN (i + 1), f, b) else fL_X10_nearest_82 K (nI N) mg seen mz k (lN (i + 1), nI (ulN N O L (wB (FO N F) G N i)), lN i) := by
  have hN32 : N ≤ 32 := by rcases hN with rfl | rfl | rfl | rfl | rfl | rfl <;> omega
  have hp32 : 2 ^ N ≤ 2 ^ 32 := Nat.pow_le_pow_right (by decide) hN32
  have hcp : 2 ^ c ≤ 2 ^ 12 := Nat.pow_le_pow_right (by decide) hc12
  have hw := e_word10 K hK (M := i) hN hF hGF (by omega) hg hz
  have hwl := wB_lt (B := FO N F) (G := G) (m := i) hN (FO_lt hN hF)
  rw [wd_wB hN hGF] at hw
  rw [fL_X10_nearest_82, e_goods K N G hK mg hN32 hg, hc, Option.bind_some, e_shl1 (by omega), if_neg (by rw [e_lcmp _ _ (by omega) (by omega)]; omega), hw.1, Option.bind_some, hw.2, Option.bind_some, e_unlike K hK hN32 (by omega) hs, Option.bind_some]
  by_cases q : f ≤ nI (ulN N O L (wB (FO N F) G N i))
  · rw [if_pos q, if_pos q, if_pos q, Option.bind_some, Option.bind_some, gLet, lN_1]
  · rw [if_neg q, if_neg q, if_neg q, Option.bind_some, Option.bind_some, gLet, lN_1]
theorem l_near (K : Nat) (hK : 200000 ≤ K) {N G F O L c : Nat} (hN : Nok1 N) (hF : F < 2 ^ N) (hO : O < 2 ^ N) (hGF : G &&& F = 0) (hc : pcN N G = c) (hc12 : c ≤ 12) {mg mz seen : Nat → Int32} (hg : ∀ j, j < 32 → mg j = bI (G.testBit j)) (hz : ∀ j, j < 32 → mz j = bI (F.testBit j)) (hs : ∀ j, j < N → seen j = tv (O.testBit j) (L.testBit j)) (ts : Nat → Int64) (ht : ∀ j, j < pcN N G → ts j = lN (swN G N j)) : ∀ (m i k kk b : Nat), i + m = 2 ^ c → m < k → m < kk → 1 ≤ i → b < 2 ^ c → ∃ (b' : Nat) (w' : Int64), b' < 2 ^ c ∧ fL_X7_nearestMessage_45 K (nI (2 ^ c)) (lN O) (lN (tlN N L)) ts k (nI i, nI b, nI (ulN N O L (wB (FO N F) G N b)), lN (wB (FO N F) G N (i - 1))) = some (nI (2 ^ c), nI b', nI (ulN N O L (wB (FO N F) G N b')), w') ∧ fL_X10_nearest_82 K (nI N) mg seen mz kk (lN i, nI (ulN N O L (wB (FO N F) G N b)), lN b) = some (lN (2 ^ c), nI (ulN N O L (wB (FO N F) G N b')), lN b') := by
  have hN32 : N ≤ 32 := by rcases hN with rfl | rfl | rfl | rfl | rfl | rfl <;> omega
  have hp32 : 2 ^ N ≤ 2 ^ 32 := Nat.pow_le_pow_right (by decide) hN32
  have hcp : 2 ^ c ≤ 2 ^ 12 := Nat.pow_le_pow_right (by decide) hc12
  intro m
  induction m with
  | zero =>
    intro i k kk b hi hk hkk h1 hb
    obtain ⟨k, rfl⟩ : ∃ q, k = q + 1 := ⟨k - 1, by omega⟩
    obtain ⟨kk, rfl⟩ : ∃ q, kk = q + 1 := ⟨kk - 1, by omega⟩
    have hi : i = 2 ^ c := by omega
    subst hi
    refine ⟨b, _, hb, by rw [fL_X7_nearestMessage_45, if_pos (nI_le (Nat.le_refl _) (by omega))], ?_⟩
    rw [fL_X10_nearest_82, e_goods K N G hK mg hN32 hg, hc, Option.bind_some, e_shl1 (by omega), if_pos (by rw [e_lcmp _ _ (by omega) (by omega)]; omega)]
  | succ m ih =>
    intro i k kk b hi hk hkk h1 hb
    obtain ⟨k, rfl⟩ : ∃ q, k = q + 1 := ⟨k - 1, by omega⟩
    obtain ⟨kk, rfl⟩ : ∃ q, kk = q + 1 := ⟨kk - 1, by omega⟩
    have htz := tz_lt (m := i) (c := c) (by omega) (by omega) (by omega)
    have hwl := wB_lt (B := FO N F) (G := G) (m := i) hN (FO_lt hN hF)
    have hul : (wB (FO N F) G N i ^^^ O) &&& tlN N L < 2 ^ N := Nat.lt_of_le_of_lt Nat.and_le_left (Nat.xor_lt_two_pow hwl hO)
    have u1 := ul_le N O L (wB (FO N F) G N i)
    have u2 := ul_le N O L (wB (FO N F) G N b)
    have s9 : fL_X7_nearestMessage_45 K (nI (2 ^ c)) (lN O) (lN (tlN N L)) ts (k + 1) (nI i, nI b, nI (ulN N O L (wB (FO N F) G N b)), lN (wB (FO N F) G N (i - 1))) = if nI (ulN N O L (wB (FO N F) G N b)) ≤ nI (ulN N O L (wB (FO N F) G N i)) then fL_X7_nearestMessage_45 K (nI (2 ^ c)) (lN O) (lN (tlN N L)) ts k (nI (i + 1), nI b, nI (ulN N O L (wB (FO N F) G N b)), lN (wB (FO N F) G N i)) else fL_X7_nearestMessage_45 K (nI (2 ^ c)) (lN O) (lN (tlN N L)) ts k (nI (i + 1), nI i, nI (ulN N O L (wB (FO N F) G N i)), lN (wB (FO N F) G N i)) := by
      rw [fL_X7_nearestMessage_45, if_neg (nI_ge (show i < 2 ^ c by omega) (by omega)), e_tz K (by omega) (by omega), Option.bind_some, gIx_nI _ (show tzN i < 32 by omega) (by decide), gLet, tnN (by omega), ht _ (by omega), fb_xorL, wB_step hN (by omega) (by omega), fb_xorL, fb_andL, e_bcN K hN32 hul, Option.bind_some, gLet, gLet, nI_1]
      rfl
    rw [s9, l_nearM K hK hN hF hGF hc hc12 hg hz hs kk i _ _ (by omega)]
    by_cases q : nI (ulN N O L (wB (FO N F) G N b)) ≤ nI (ulN N O L (wB (FO N F) G N i))
    · rw [if_pos q, if_pos q]
      have := ih (i + 1) k kk b (by omega) (by omega) (by omega) (by omega) hb
      rw [Nat.add_sub_cancel] at this
      exact this
    · rw [if_neg q, if_neg q]
      have := ih (i + 1) k kk i (by omega) (by omega) (by omega) (by omega) (by omega)
      rw [Nat.add_sub_cancel] at this
      exact this
theorem l_59 (K : Nat) (hK : 200000 ≤ K) {N G F c : Nat} (hN : Nok1 N) (hF : F < 2 ^ N) (hGF : G &&& F = 0) (hc : pcN N G = c) (hc12 : c ≤ 12) {mg mz : Nat → Int32} (hg : ∀ j, j < 32 → mg j = bI (G.testBit j)) (hz : ∀ j, j < 32 → mz j = bI (F.testBit j)) : ∀ (m i k : Nat) (arr : Nat → Int32), i + m = 2 ^ c → m < k → (∀ w, w < 33 → arr w = nI (cB (FO N F) G N i w)) → ∃ arr', fL_X10_countAll_59 K (nI N) mg mz k (lN i, arr) = some (lN (2 ^ c), arr') ∧ ∀ w, w < 33 → arr' w = nI (cB (FO N F) G N (2 ^ c) w) := by
  have hN32 : N ≤ 32 := by rcases hN with rfl | rfl | rfl | rfl | rfl | rfl <;> omega
  have hp32 : 2 ^ N ≤ 2 ^ 32 := Nat.pow_le_pow_right (by decide) hN32
  have hcp : 2 ^ c ≤ 2 ^ 12 := Nat.pow_le_pow_right (by decide) hc12
  intro m
  induction m with
  | zero =>
    intro i k arr hi hk ha
    obtain ⟨k, rfl⟩ : ∃ q, k = q + 1 := ⟨k - 1, by omega⟩
    have hi : i = 2 ^ c := by omega
    subst hi
    refine ⟨arr, ?_, ha⟩
    rw [fL_X10_countAll_59, e_goods K N G hK mg hN32 hg, hc, Option.bind_some, e_shl1 (by omega), if_pos (by rw [e_lcmp _ _ (by omega) (by omega)]; omega)]
  | succ m ih =>
    intro i k arr hi hk ha
    obtain ⟨k, rfl⟩ : ∃ q, k = q + 1 := ⟨k - 1, by omega⟩
    have hw := e_word10 K hK (M := i) hN hF hGF (by omega) hg hz
    have hwl := wB_lt (B := FO N F) (G := G) (m := i) hN (FO_lt hN hF)
    have hpl := pc_le N (wB (FO N F) G N i)
    rw [wd_wB hN hGF] at hw
    obtain ⟨arr', r1, r2⟩ := ih (i + 1) k _ (by omega) (by omega) (upd_cB ha (show pcN N (wB (FO N F) G N i) < 33 by omega))
    refine ⟨arr', ?_, r2⟩
    rw [fL_X10_countAll_59, e_goods K N G hK mg hN32 hg, hc, Option.bind_some, e_shl1 (by omega), if_neg (by rw [e_lcmp _ _ (by omega) (by omega)]; omega), hw.1, Option.bind_some, hw.2, Option.bind_some, e_ones K hK (show N ≤ 33 by omega) hwl, Option.bind_some, gIx_nI _ (show pcN N (wB (FO N F) G N i) < 33 by omega) (by decide), gLet, gIx_nI _ (show pcN N (wB (FO N F) G N i) < 33 by omega) (by decide), gLet, gLet, tnN (by omega), lN_1]
    exact r1
