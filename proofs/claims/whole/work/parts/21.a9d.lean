/-! words one after the other -/
theorem stg_x (s a b : Nat) : stg s (a ^^^ b) = stg s a ^^^ stg s b := by
  apply Nat.eq_of_testBit_eq
  intro i
  simp only [stg, Nat.testBit_xor, Nat.testBit_and, Nat.testBit_shiftRight]
  cases a.testBit i <;> cases b.testBit i <;> cases a.testBit (2 ^ s + i) <;> cases b.testBit (2 ^ s + i) <;> cases (gFP s).toNatClampNeg.testBit i <;> rfl
theorem FO_x {N : Nat} (hN : Nok1 N) (a b : Nat) : FO N (a ^^^ b) = FO N a ^^^ FO N b := by
  rcases hN with rfl | rfl | rfl | rfl | rfl | rfl <;> simp only [FO, stg_x]
theorem FO_0 {N : Nat} (hN : Nok1 N) : FO N 0 = 0 := by
  have h := FO_x hN 0 0
  rw [Nat.xor_self] at h
  rw [h, Nat.xor_self]
theorem FO_lt {N x : Nat} (hN : Nok1 N) (hx : x < 2 ^ N) : FO N x < 2 ^ N := (e_fold9 200000 (Nat.le_refl _) hN hx).2
theorem sp_x (G a b n : Nat) : spN G (a ^^^ b) n = spN G a n ^^^ spN G b n := by
  apply Nat.eq_of_testBit_eq
  intro i
  rw [Nat.testBit_xor, sp_b, sp_b, sp_b, Nat.testBit_xor]
  cases decide (i < n) <;> cases G.testBit i <;> cases a.testBit (pcN i G) <;> cases b.testBit (pcN i G) <;> rfl
theorem sp_0 (G n : Nat) : spN G 0 n = 0 := by
  have h := sp_x G 0 0 n
  rw [Nat.xor_self] at h
  rw [h, Nat.xor_self]
theorem spF_x {G F : Nat} (h : G &&& F = 0) (m n : Nat) : spN G m n ||| F = spN G m n ^^^ F := by
  apply Nat.eq_of_testBit_eq
  intro i
  rw [Nat.testBit_xor, Nat.testBit_or, sp_b]
  have := apart_b h i
  cases hg : G.testBit i <;> cases hf : F.testBit i <;> cases decide (i < n) <;> cases m.testBit (pcN i G) <;> simp_all
def wB (B G N m : Nat) : Nat := B ^^^ FO N (spN G m N)
theorem wd_wB {N G F : Nat} (hN : Nok1 N) (h : G &&& F = 0) (m : Nat) : wdN N G F m = wB (FO N F) G N m := by
  unfold wdN wB
  rw [spF_x h, FO_x hN, Nat.xor_comm]
theorem wB_0 {B G N : Nat} (hN : Nok1 N) : wB B G N 0 = B := by
  unfold wB
  rw [sp_0, FO_0 hN, Nat.xor_zero]
theorem wB_lt {B G N m : Nat} (hN : Nok1 N) (hB : B < 2 ^ N) : wB B G N m < 2 ^ N := Nat.xor_lt_two_pow hB (FO_lt hN (sp_lt G m N))
def tzN (m : Nat) : Nat := Nat.log2 (m ^^^ (m - 1))
theorem e_tz00 : ∀ a, a < 64 → ∀ b, b < 64 → 0 < 64 * a + b → f_J6_numberOfTrailingZeros_0f7a4 0 (nI (64 * a + b)) = some (nI (tzN (64 * a + b))) ∧ tzN (64 * a + b) < 12 ∧ (64 * a + b) ^^^ (64 * a + b - 1) = 2 ^ (tzN (64 * a + b) + 1) - 1 := by decide +kernel
theorem e_tz0 (m : Nat) (h : m < 4096) (h0 : 0 < m) : f_J6_numberOfTrailingZeros_0f7a4 0 (nI m) = some (nI (tzN m)) ∧ tzN m < 12 ∧ m ^^^ (m - 1) = 2 ^ (tzN m + 1) - 1 := by
  have e : 64 * (m / 64) + m % 64 = m := Nat.div_add_mod m 64
  have := e_tz00 (m / 64) (by omega) (m % 64) (by omega) (by omega)
  rw [e] at this
  exact this
theorem e_tz (K : Nat) {m : Nat} (h : m < 4096) (h0 : 0 < m) : f_J6_numberOfTrailingZeros_0f7a4 K (nI m) = some (nI (tzN m)) := (e_tz0 m h h0).1
def swN (G N j : Nat) : Nat := FO N (spN G (2 ^ (j + 1) - 1) N)
theorem wB_step {B G N m : Nat} (hN : Nok1 N) (h : m < 4096) (h0 : 0 < m) : wB B G N (m - 1) ^^^ swN G N (tzN m) = wB B G N m := by
  unfold wB swN
  rw [← (e_tz0 m h h0).2.2, Nat.xor_assoc, ← FO_x hN, ← sp_x]
  congr 3
  rw [Nat.xor_comm m, ← Nat.xor_assoc, Nat.xor_self, Nat.zero_xor]
theorem tz_lt {m c : Nat} (h : m < 4096) (h0 : 0 < m) (hc : m < 2 ^ c) : tzN m < c := by
  have h1 := (e_tz0 m h h0).2.2
  have h2 : m ^^^ (m - 1) < 2 ^ c := Nat.xor_lt_two_pow hc (by omega)
  rw [h1] at h2
  by_cases q : tzN m < c
  · exact q
  · exfalso
    have h3 : 2 ^ (c + 1) ≤ 2 ^ (tzN m + 1) := Nat.pow_le_pow_right (by decide) (by omega)
    rw [Nat.pow_succ] at h3
    have := Nat.two_pow_pos c
    omega
theorem pc_mono (G : Nat) {i j : Nat} (h : i ≤ j) : pcN i G ≤ pcN j G := fb_ct_mono _ h
theorem sw_at {G N i : Nat} (hi : i < N) (hg : G.testBit i = true) : spN G (2 ^ (pcN i G + 1) - 1) N = G % 2 ^ (i + 1) := by
  apply Nat.eq_of_testBit_eq
  intro j
  rw [sp_b, Nat.testBit_two_pow_sub_one, Nat.testBit_mod_two_pow]
  cases hj : G.testBit j with
  | false => simp
  | true =>
    by_cases q : j < i + 1
    · have h1 := pc_mono G (show j ≤ i by omega)
      rw [decide_eq_true (show j < N by omega), decide_eq_true q, decide_eq_true (show pcN j G < pcN i G + 1 by omega)]
      rfl
    · have h1 := pc_mono G (show i + 1 ≤ j by omega)
      rw [pc_succ, hg, if_pos rfl] at h1
      rw [decide_eq_false q, decide_eq_false (show ¬ pcN j G < pcN i G + 1 by omega)]
      simp
theorem mod_or {G i : Nat} (hg : G.testBit i = true) : G % 2 ^ i ||| 2 ^ i = G % 2 ^ (i + 1) := by
  rw [← add_or (Nat.mod_lt _ (Nat.two_pow_pos i)), mod_hi.1 hg]
theorem l_prep (K : Nat) (hK : 200000 ≤ K) {N G : Nat} (hN : Nok1 N) (hG : G < 2 ^ 64) : ∀ (m i k : Nat) (ts : Nat → Int64), i + m = N → m < k → (∀ j, j < pcN i G → ts j = lN (swN G N j)) → ∃ ts', fL_X7_prepareSteps_9 K (lN G) (nI N) k (nI i, nI (pcN i G), lN (G % 2 ^ i), ts) = some (nI N, nI (pcN N G), lN (G % 2 ^ N), ts') ∧ ∀ j, j < pcN N G → ts' j = lN (swN G N j) := by
  have hN32 : N ≤ 32 := by rcases hN with rfl | rfl | rfl | rfl | rfl | rfl <;> omega
  intro m
  induction m with
  | zero =>
    intro i k ts hi hk ht
    obtain ⟨k, rfl⟩ : ∃ q, k = q + 1 := ⟨k - 1, by omega⟩
    have hi : i = N := by omega
    subst hi
    exact ⟨ts, by rw [fL_X7_prepareSteps_9, if_pos (nI_le (Nat.le_refl _) (by omega))], ht⟩
  | succ m ih =>
    intro i k ts hi hk ht
    obtain ⟨k, rfl⟩ : ∃ q, k = q + 1 := ⟨k - 1, by omega⟩
    have e1 : gLushr (lN G) (nI i) &&& 1 = lN (G / 2 ^ i % 2) := wb_bit hG (by omega)
    have hc := pc_le i G
    cases hb : G.testBit i with
    | false =>
      obtain ⟨ts', h1, h2⟩ := ih (i + 1) k ts (by omega) (by omega) (fun j hj => ht j (by rw [pc_succ, hb, if_neg nft] at hj; exact hj))
      refine ⟨ts', ?_, h2⟩
      rw [pc_succ, hb, if_neg nft, Nat.add_zero, mod_hi.2 hb] at h1
      rw [fL_X7_prepareSteps_9, if_neg (nI_ge (show i < N by omega) (by omega)), e1, bit_mod, hb, if_pos (show lg_cmp (lN (if false = true then 1 else 0)) 0 = 0 by rfl), gLet, nI_1]
      exact h1
    | true =>
      have hlt : G % 2 ^ (i + 1) < 2 ^ N := Nat.lt_of_lt_of_le (Nat.mod_lt _ (Nat.two_pow_pos (i + 1))) (Nat.pow_le_pow_right (by decide) (by omega))
      have hsw : FO N (G % 2 ^ (i + 1)) = swN G N (pcN i G) := by
        unfold swN
        rw [sw_at (by omega) hb]
      obtain ⟨ts', h1, h2⟩ := ih (i + 1) k (vp_updL ts (pcN i G) (lN (swN G N (pcN i G)))) (by omega) (by omega) (fun j hj => by
        rw [pc_succ, hb, if_pos rfl] at hj
        simp only [vp_updL]
        by_cases q : j = pcN i G
        · rw [if_pos q, q]
        · rw [if_neg q]
          exact ht j (by omega))
      refine ⟨ts', ?_, h2⟩
      rw [pc_succ, hb, if_pos rfl] at h1
      rw [fL_X7_prepareSteps_9, if_neg (nI_ge (show i < N by omega) (by omega)), e1, bit_mod, hb, if_neg (show ¬ lg_cmp (lN (if true = true then 1 else 0)) 0 = 0 by decide), gLet, e_shl1 (by omega), fb_orL, mod_or hb, (e_fold9 K hK hN hlt).1, Option.bind_some, gIx_nI _ (show pcN i G < 32 by omega) (by decide), gLet, gLet, gLet, nI_1, nI_1, tnN (by omega), hsw]
      exact h1
theorem e_prep (K : Nat) (hK : 200000 ≤ K) {N G : Nat} (hN : Nok1 N) (hG : G < 2 ^ 64) (ts : Nat → Int64) : ∃ ts', f_X7_prepareSteps K (lN G) (nI N) ts = some ts' ∧ ∀ j, j < pcN N G → ts' j = lN (swN G N j) := by
  have hN32 : N ≤ 32 := by rcases hN with rfl | rfl | rfl | rfl | rfl | rfl <;> omega
  obtain ⟨ts', h1, h2⟩ := l_prep K hK hN hG N 0 K ts (by omega) (by omega) (fun j hj => absurd hj (by show ¬ j < 0; omega))
  rw [show pcN 0 G = 0 from rfl, Nat.pow_zero, Nat.mod_one] at h1
  have h1' : fL_X7_prepareSteps_9 K (lN G) (nI N) K (0, 0, 0, ts) = some (nI N, nI (pcN N G), lN (G % 2 ^ N), ts') := h1
  exact ⟨ts', by rw [f_X7_prepareSteps, h1']; rfl, h2⟩
theorem shl_N31 : ∀ s, s < 31 → (1 : Int32) <<< (nI s &&& 31) = nI (2 ^ s) := by decide +kernel
/-- how many of the first m words have w ones -/
def cB (B G N m w : Nat) : Nat := fb_ct (fun x => pcN N (wB B G N x) == w) m
theorem cB_succ (B G N m w : Nat) : cB B G N (m + 1) w = cB B G N m w + (if pcN N (wB B G N m) = w then 1 else 0) := by
  unfold cB
  rw [fb_ct_succ]
  congr 1
  by_cases q : pcN N (wB B G N m) = w
  · rw [if_pos q, if_pos (by rw [q]; exact beq_self_eq_true w)]
  · rw [if_neg q, if_neg (by simpa using q)]
theorem upd_cB {B G N m n4 : Nat} {arr : Nat → Int32} (ha : ∀ w, w < n4 → arr w = nI (cB B G N m w)) (hp : pcN N (wB B G N m) < n4) : ∀ w, w < n4 → upd arr (pcN N (wB B G N m)) (arr (pcN N (wB B G N m)) + 1) w = nI (cB B G N (m + 1) w) := by
  intro w hw
  simp only [upd]
  rw [cB_succ]
  by_cases q : w = pcN N (wB B G N m)
  · rw [if_pos q, if_pos q.symm, ha _ hp, nI_1, q]
  · rw [if_neg q, if_neg (fun z => q z.symm), Nat.add_zero]
    exact ha w hw
theorem l_cbo (K : Nat) {N G B c n4 : Nat} (hN : Nok1 N) (hB : B < 2 ^ N) (hc : c ≤ 12) (hcN : c ≤ pcN N G) (hn : N < n4) (hn4 : n4 < 64) (ts : Nat → Int64) (ht : ∀ j, j < pcN N G → ts j = lN (swN G N j)) : ∀ (m i k : Nat) (arr : Nat → Int32), i + m = 2 ^ c → m < k → 1 ≤ i → (∀ w, w < n4 → arr w = nI (cB B G N i w)) → ∃ (w' : Int64) (arr' : Nat → Int32), fL_X7_countByOnes_39 K (nI (2 ^ c)) ts n4 k (nI i, lN (wB B G N (i - 1)), arr) = some (nI (2 ^ c), w', arr') ∧ ∀ w, w < n4 → arr' w = nI (cB B G N (2 ^ c) w) := by
  have hN32 : N ≤ 32 := by rcases hN with rfl | rfl | rfl | rfl | rfl | rfl <;> omega
  have hcp : 2 ^ c ≤ 2 ^ 12 := Nat.pow_le_pow_right (by decide) hc
  intro m
  induction m with
  | zero =>
    intro i k arr hi hk h1 ha
    obtain ⟨k, rfl⟩ : ∃ q, k = q + 1 := ⟨k - 1, by omega⟩
    have hi : i = 2 ^ c := by omega
    subst hi
    exact ⟨_, arr, by rw [fL_X7_countByOnes_39, if_pos (nI_le (Nat.le_refl _) (by omega))], ha⟩
  | succ m ih =>
    intro i k arr hi hk h1 ha
    obtain ⟨k, rfl⟩ : ∃ q, k = q + 1 := ⟨k - 1, by omega⟩
    have htz := tz_lt (m := i) (c := c) (by omega) (by omega) (by omega)
    have hpl := pc_le N (wB B G N i)
    have hpG := pc_le N G
    obtain ⟨w', arr', r1, r2⟩ := ih (i + 1) k (upd arr (pcN N (wB B G N i)) (arr (pcN N (wB B G N i)) + 1)) (by omega) (by omega) (by omega) (upd_cB ha (by omega))
    refine ⟨w', arr', ?_, r2⟩
    rw [Nat.add_sub_cancel] at r1
    rw [fL_X7_countByOnes_39, if_neg (nI_ge (show i < 2 ^ c by omega) (by omega)), e_tz K (by omega) (by omega), Option.bind_some, gIx_nI _ (show tzN i < 32 by omega) (by decide), gLet, tnN (by omega), ht _ (by omega), fb_xorL, wB_step hN (by omega) (by omega), e_bcN K hN32 (wB_lt hN hB), Option.bind_some, gIx_nI _ (show pcN N (wB B G N i) < n4 by omega) (by omega), gLet, gIx_nI _ (show pcN N (wB B G N i) < n4 by omega) (by omega), gLet, gLet, tnN (by omega), nI_1]
    exact r1
theorem l_fillI (K : Nat) (x : Int32) (n : Nat) (hn : n < 2 ^ 31) : ∀ (m i k : Nat) (u : Nat → Int32), i + m = n → m < k → fL_J7_fill_53178_5 K (nI n) x n k (nI i, u) = some (nI n, fun j => if i ≤ j ∧ j < n then x else u j) := by
  intro m
  induction m with
  | zero =>
    intro i k u hi hk
    obtain ⟨k, rfl⟩ : ∃ q, k = q + 1 := ⟨k - 1, by omega⟩
    have hi : i = n := by omega
    subst hi
    rw [fL_J7_fill_53178_5, if_pos (nI_le (Nat.le_refl _) hn)]
    refine congrArg some (Prod.ext rfl ?_)
    funext j
    exact (if_neg (by omega)).symm
  | succ m ih =>
    intro i k u hi hk
    obtain ⟨k, rfl⟩ : ∃ q, k = q + 1 := ⟨k - 1, by omega⟩
    rw [fL_J7_fill_53178_5, if_neg (nI_ge (show i < n by omega) hn), gIx_nI _ (show i < n by omega) hn, gLet, gLet, nI_1, tnN (by omega), ih (i + 1) k _ (by omega) (by omega)]
    refine congrArg some (Prod.ext rfl ?_)
    funext j
    simp only [upd]
    repeat' split
    all_goals first | rfl | (exfalso; omega)
theorem e_fillI (K : Nat) (hK : 200000 ≤ K) (x : Int32) {n : Nat} (hn : n < 1000) (v : Nat → Int32) : f_J7_fill_53178 K x v n = some (fun j => if 0 ≤ j ∧ j < n then x else v j) := by
  have h := l_fillI K x n (by omega) n 0 K v (by omega) (by omega)
  unfold f_J7_fill_53178
  have h2 : fL_J7_fill_53178_5 K (Int32.ofNat n) x n K (0, v) = some (nI n, fun j => if 0 ≤ j ∧ j < n then x else v j) := h
  rw [gLet, h2]
  rfl
theorem e_cbo (K : Nat) (hK : 200000 ≤ K) {N G B n4 : Nat} (hN : Nok1 N) (hG : G < 2 ^ N) (hB : B < 2 ^ N) (hc : pcN N G ≤ 12) (hn : N < n4) (hn4 : n4 < 64) (ts : Nat → Int64) (arr : Nat → Int32) : ∃ (ts' : Nat → Int64) (arr' : Nat → Int32), f_X7_countByOnes K (lN G) (lN B) (nI N) ts arr n4 = some (ts', arr') ∧ ∀ w, w < n4 → arr' w = nI (cB B G N (2 ^ pcN N G) w) := by
  have hN32 : N ≤ 32 := by rcases hN with rfl | rfl | rfl | rfl | rfl | rfl <;> omega
  have hp32 : 2 ^ N ≤ 2 ^ 32 := Nat.pow_le_pow_right (by decide) hN32
  obtain ⟨ts', h1, h2⟩ := e_prep K hK hN (show G < 2 ^ 64 by omega) ts
  have hcp : 2 ^ pcN N G ≤ 2 ^ 12 := Nat.pow_le_pow_right (by decide) hc
  have hp0 := Nat.two_pow_pos (pcN N G)
  have hpB := pc_le N B
  have hw0 : wB B G N 0 = B := wB_0 hN
  have ha0 : ∀ w, w < n4 → (fun j => if 0 ≤ j ∧ j < n4 then (0 : Int32) else arr j) w = nI (cB B G N 0 w) := fun w hw => if_pos ⟨by omega, hw⟩
  have ha := upd_cB ha0 (show pcN N (wB B G N 0) < n4 by rw [hw0]; omega)
  obtain ⟨w', arr', r1, r2⟩ := l_cbo K hN hB hc (Nat.le_refl _) hn hn4 ts' h2 (2 ^ pcN N G - 1) 1 K _ (by omega) (by omega) (by omega) ha
  refine ⟨ts', arr', ?_, r2⟩
  rw [hw0] at r1
  have r1' : fL_X7_countByOnes_39 K (nI (2 ^ pcN N G)) ts' n4 K (1, lN B, upd (fun j => if 0 ≤ j ∧ j < n4 then (0 : Int32) else arr j) (pcN N B) ((fun j => if 0 ≤ j ∧ j < n4 then (0 : Int32) else arr j) (pcN N B) + 1)) = some (nI (2 ^ pcN N G), w', arr') := by
    exact r1
  rw [f_X7_countByOnes, h1, Option.bind_some, e_fillI K hK 0 (by omega), Option.bind_some, e_bcN K hN32 hB, Option.bind_some, gIx_nI _ (show pcN N B < n4 by omega) (by omega), gLet, gIx_nI _ (show pcN N B < n4 by omega) (by omega), gLet, tnN (by omega), e_bcN K hN32 hG, Option.bind_some, gLet, shl_N31 _ (by omega), r1']
  rfl
