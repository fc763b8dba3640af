/-! the class's counts of failing sets -/
def lpx (s : Nat) (x : Int32) : Int32 := ((x &&& Int64.toInt32 (gFP s)) ||| (gIushr x (nI (2 ^ s)) &&& Int64.toInt32 (gFP s))) ||| (((x &&& Int64.toInt32 (gFP s)) &&& (gIushr x (nI (2 ^ s)) &&& Int64.toInt32 (gFP s))) <<< (nI (2 ^ s) &&& 31))
theorem lpT20 : ∀ x, x < 4 → lpx 0 (nI x) = nI (rowOfB (lsN 1 2 x) 2) := by decide +kernel
theorem lpT41 : ∀ x, x < 16 → lpx 1 (nI x) = nI (rowOfB (lsN 2 4 x) 4) := by decide +kernel
theorem lpT40 : ∀ x, x < 16 → lpx 0 (nI x) = nI (rowOfB (lsN 1 4 x) 4) := by decide +kernel
theorem lpT82 : ∀ x, x < 256 → lpx 2 (nI x) = nI (rowOfB (lsN 4 8 x) 8) := by decide +kernel
theorem lpT81 : ∀ x, x < 256 → lpx 1 (nI x) = nI (rowOfB (lsN 2 8 x) 8) := by decide +kernel
theorem lpT80 : ∀ x, x < 256 → lpx 0 (nI x) = nI (rowOfB (lsN 1 8 x) 8) := by decide +kernel
theorem nIm1 : ∀ s, s < 5 → 0 < s → nI s + (-1) = nI (s - 1) := by decide +kernel
theorem lp_skip (K k : Nat) {h s : Nat} (hs : s < 5) (h0 : 0 < s) (hh : h ≤ 2 ^ s) (v : Int32) : fL_X7_lostPlaces_9 K (nI h) (k + 1) (nI s, v) = fL_X7_lostPlaces_9 K (nI h) k (nI (s - 1), v) := by
  have hp : 2 ^ s ≤ 2 ^ 4 := Nat.pow_le_pow_right (by decide) (by omega)
  rw [fL_X7_lostPlaces_9, if_neg (show ¬ nI s < (0 : Int32) by rw [ltI, nI_toInt (by omega), i_0]; omega), gLet, shl_N s hs, if_pos (nI_le hh (by omega)), gLet, nIm1 s hs h0]
theorem lp_do (K k : Nat) {h s : Nat} (hs : s < 5) (hh : 2 ^ s < h) (h8 : h ≤ 8) (v : Int32) : fL_X7_lostPlaces_9 K (nI h) (k + 1) (nI s, v) = fL_X7_lostPlaces_9 K (nI h) k (nI s + (-1), lpx s v) := by
  rw [fL_X7_lostPlaces_9, if_neg (show ¬ nI s < (0 : Int32) by rw [ltI, nI_toInt (by omega), i_0]; omega), gLet, shl_N s hs, if_neg (nI_ge hh (by omega))]
  simp only [gIx_nI _ hs (by decide), gLet, tnN (show s < 2 ^ 31 by omega)]
  rfl
theorem lp_end (K k h : Nat) (v : Int32) : fL_X7_lostPlaces_9 K (nI h) (k + 1) (nI 0 + (-1), v) = some (nI 0 + (-1), v) := by
  rw [fL_X7_lostPlaces_9, if_pos (by decide)]
theorem lp_end0 (K k : Nat) (v : Int32) : fL_X7_lostPlaces_9 K (nI 1) (k + 2) (nI 0, v) = some (nI 0 + (-1), v) := by
  rw [fL_X7_lostPlaces_9, if_neg (by decide), gLet, shl_N 0 (by decide), if_pos (by decide), gLet, lp_end]
def Hok (h : Nat) : Prop := h = 1 ∨ h = 2 ∨ h = 4 ∨ h = 8
theorem e_lp (K : Nat) (hK : 200000 ≤ K) {h x : Nat} (hh : Hok h) (hx : x < 2 ^ h) : f_X7_lostPlaces K (nI x) (nI h) = some (nI (LPh h x)) := by
  obtain ⟨k, hk⟩ : ∃ k, K = k + 7 := ⟨K - 7, by omega⟩
  have e4 : (5 : Int32) - 1 = nI 4 := by decide
  have n3 : nI 3 + (-1) = nI 2 := by decide
  have n2 : nI 2 + (-1) = nI 1 := by decide
  have n1 : nI 1 + (-1) = nI 0 := by decide
  rw [f_X7_lostPlaces, gLet, e4]
  rcases hh with rfl | rfl | rfl | rfl
  · have h : fL_X7_lostPlaces_9 K (nI 1) K (nI 4, nI x) = some (nI 0 + (-1), nI x) := by
      conv => lhs; arg 3; rw [hk]
      rw [lp_skip K _ (s := 4) (by decide) (by decide) (by decide), lp_skip K _ (s := 3) (by decide) (by decide) (by decide), lp_skip K _ (s := 2) (by decide) (by decide) (by decide), lp_skip K _ (s := 1) (by decide) (by decide) (by decide), lp_end0]
    rw [h]; rfl
  · have h : fL_X7_lostPlaces_9 K (nI 2) K (nI 4, nI x) = some (nI 0 + (-1), nI (LPh 2 x)) := by
      conv => lhs; arg 3; rw [hk]
      rw [lp_skip K _ (s := 4) (by decide) (by decide) (by decide), lp_skip K _ (s := 3) (by decide) (by decide) (by decide), lp_skip K _ (s := 2) (by decide) (by decide) (by decide), lp_skip K _ (s := 1) (by decide) (by decide) (by decide), lp_do K _ (s := 0) (by decide) (by decide) (by decide), lpT20 x hx, lp_end]; rfl
    rw [h]; rfl
  · have h : fL_X7_lostPlaces_9 K (nI 4) K (nI 4, nI x) = some (nI 0 + (-1), nI (LPh 4 x)) := by
      conv => lhs; arg 3; rw [hk]
      rw [lp_skip K _ (s := 4) (by decide) (by decide) (by decide), lp_skip K _ (s := 3) (by decide) (by decide) (by decide), lp_skip K _ (s := 2) (by decide) (by decide) (by decide), lp_do K _ (s := 1) (by decide) (by decide) (by decide), lpT41 x hx, n1, lp_do K _ (s := 0) (by decide) (by decide) (by decide), lpT40 _ (rb_lt _ 4), lp_end]; rfl
    rw [h]; rfl
  · have h : fL_X7_lostPlaces_9 K (nI 8) K (nI 4, nI x) = some (nI 0 + (-1), nI (LPh 8 x)) := by
      conv => lhs; arg 3; rw [hk]
      rw [lp_skip K _ (s := 4) (by decide) (by decide) (by decide), lp_skip K _ (s := 3) (by decide) (by decide) (by decide), lp_do K _ (s := 2) (by decide) (by decide) (by decide), lpT82 x hx, n2, lp_do K _ (s := 1) (by decide) (by decide) (by decide), lpT81 _ (rb_lt _ 8), n1, lp_do K _ (s := 0) (by decide) (by decide) (by decide), lpT80 _ (rb_lt _ 8), lp_end]; rfl
    rw [h]; rfl
theorem LPh_lt {h x : Nat} (hh : Hok h) (hx : x < 2 ^ h) : LPh h x < 2 ^ h := by
  rcases hh with rfl | rfl | rfl | rfl
  · exact hx
  · exact rb_lt _ 2
  · exact rb_lt _ 4
  · exact rb_lt _ 8
theorem l_35 (K : Nat) (hK : 200000 ≤ K) {h : Nat} (hh : Hok h) : ∀ (m i k : Nat) (u : Nat → Int32), i + m = 2 ^ h → m < k → (∀ x, x < i → u x = nI (LPh h x)) → ∃ u', fL_X7_countFailures_35 K (nI (2 ^ h)) (nI h) k (nI i, u) = some (nI (2 ^ h), u') ∧ ∀ x, x < 2 ^ h → u' x = nI (LPh h x) := by
  have h8 : h ≤ 8 := by rcases hh with rfl | rfl | rfl | rfl <;> omega
  have hp : 2 ^ h ≤ 2 ^ 8 := Nat.pow_le_pow_right (by decide) h8
  intro m
  induction m with
  | zero =>
    intro i k u hi hk hu
    obtain ⟨k, rfl⟩ : ∃ q, k = q + 1 := ⟨k - 1, by omega⟩
    have hi : i = 2 ^ h := by omega
    subst hi
    exact ⟨u, by rw [fL_X7_countFailures_35, if_pos (nI_le (Nat.le_refl _) (by omega))], hu⟩
  | succ m ih =>
    intro i k u hi hk hu
    obtain ⟨k, rfl⟩ : ∃ q, k = q + 1 := ⟨k - 1, by omega⟩
    obtain ⟨u', r1, r2⟩ := ih (i + 1) k (upd u i (nI (LPh h i))) (by omega) (by omega) (fun x hx => by
      simp only [upd]
      by_cases q : x = i
      · rw [if_pos q, q]
      · rw [if_neg q]; exact hu x (by omega))
    refine ⟨u', ?_, r2⟩
    rw [fL_X7_countFailures_35, if_neg (nI_ge (show i < 2 ^ h by omega) (by omega)), e_lp K hK hh (by omega), Option.bind_some, gIx_nI _ (show i < 256 by omega) (by decide), gLet, gLet, nI_1, tnN (by omega)]
    exact r1
theorem sp_dec (E : Nat) : ∀ n m, 0 < m → m < 2 ^ pcN n E → 0 < spN E m n ∧ (spN E m n - 1) &&& E = spN E (m - 1) n := by
  intro n
  induction n with
  | zero =>
    intro m h0 hm
    have : m < 1 := hm
    omega
  | succ n ih =>
    intro m h0 hm
    cases hg : E.testBit n with
    | false =>
      rw [pc_n0 hg] at hm
      rw [sp_n0 hg, sp_n0 hg]
      exact ih m h0 hm
    | true =>
      rw [pc_n1 hg, Nat.pow_succ] at hm
      by_cases q : m < 2 ^ pcN n E
      · rw [sp_n1 q, sp_n1 (show m - 1 < 2 ^ pcN n E by omega)]
        exact ih m h0 q
      · obtain ⟨m', hm', rfl⟩ : ∃ m', m' < 2 ^ pcN n E ∧ m = 2 ^ pcN n E + m' := ⟨m - 2 ^ pcN n E, by omega, by omega⟩
        have hp := Nat.two_pow_pos n
        have hpc := Nat.two_pow_pos (pcN n E)
        rw [sp_n2 hg hm']
        refine ⟨by omega, ?_⟩
        by_cases q2 : m' = 0
        · subst q2
          rw [sp_0, Nat.add_zero, Nat.add_zero, sp_n1 (show 2 ^ pcN n E - 1 < 2 ^ pcN n E by omega)]
          apply Nat.eq_of_testBit_eq
          intro i
          rw [Nat.testBit_and, Nat.testBit_two_pow_sub_one, sp_b, Nat.testBit_two_pow_sub_one]
          by_cases c : i < n
          · cases hi : E.testBit i with
            | false => rw [Bool.and_false, Bool.false_and, Bool.and_false]
            | true =>
              have h1 := pc_mono E (show i + 1 ≤ n by omega)
              rw [pc_succ, hi, if_pos rfl] at h1
              rw [decide_eq_true (show pcN i E < pcN n E by omega)]
              rfl
          · rw [decide_eq_false c]; rfl
        · obtain ⟨i1, i2⟩ := ih m' (by omega) hm'
          have hS := sp_lt E m' n
          rw [show 2 ^ n + spN E m' n - 1 = 2 ^ n + (spN E m' n - 1) by omega, show 2 ^ pcN n E + m' - 1 = 2 ^ pcN n E + (m' - 1) by omega, sp_n2 hg (show m' - 1 < 2 ^ pcN n E by omega), ← i2]
          apply Nat.eq_of_testBit_eq
          intro i
          rw [Nat.testBit_and, top_b (show spN E m' n - 1 < 2 ^ n by omega), top_b (Nat.lt_of_le_of_lt Nat.and_le_left (show spN E m' n - 1 < 2 ^ n by omega)), Nat.testBit_and]
          by_cases c : i = n
          · subst c; rw [hg]; simp
          · rw [decide_eq_false c, Bool.or_false, Bool.or_false]
theorem e_bc8 : ∀ x, x < 256 → f_J6_bitCount_0f7a4 0 (nI x) = some (nI (pcN 8 x)) := by decide +kernel
theorem e_bcI (K : Nat) {h x : Nat} (h8 : h ≤ 8) (hx : x < 2 ^ h) : f_J6_bitCount_0f7a4 K (nI x) = some (nI (pcN h x)) := by
  have hp : 2 ^ h ≤ 2 ^ 8 := Nat.pow_le_pow_right (by decide) h8
  have : f_J6_bitCount_0f7a4 K (nI x) = f_J6_bitCount_0f7a4 0 (nI x) := rfl
  rw [this, e_bc8 x (by omega), pc_lt h8 hx]
def tmF (h G E t B : Nat) : Int := ((2 ^ (pcN h E - pcN h B) : Nat) : Int) * bZ (pcN h E + pcN h B == t && kBad h G E B)
theorem sp_in (E m n : Nat) : spN E m n &&& E = spN E m n := by
  apply Nat.eq_of_testBit_eq
  intro i
  rw [Nat.testBit_and, sp_b]
  cases E.testBit i <;> simp
theorem nI_and0 {a b : Nat} (ha : a < 2 ^ 31) : (nI a &&& nI b = 0) = (a &&& b = 0) := by
  have hl : a &&& b < 2 ^ 31 := Nat.lt_of_le_of_lt Nat.and_le_left ha
  rw [fa_and, eqI, i_0, nI_toInt hl]
  exact propext ⟨fun h => by omega, fun h => by omega⟩
theorem nI_subN {a b : Nat} (h : b ≤ a) (ha : a < 2 ^ 31) : nI a - nI b = nI (a - b) := by
  apply Int32.toInt_inj.mp
  rw [fb_subI (by rw [nI_toInt (by omega), nI_toInt (by omega)]; omega) (by rw [nI_toInt (by omega), nI_toInt (by omega)]; omega), nI_toInt (by omega), nI_toInt (by omega), nI_toInt (by omega)]
  omega
theorem bne_dec (a : Nat) : (a != 0) = decide (¬ a = 0) := by
  by_cases q : a = 0
  · rw [q]; rfl
  · rw [bne_iff_ne.mpr q, decide_eq_true q]
theorem l_114 (K : Nat) {h G E : Nat} (hh : Hok h) (hE : E < 2 ^ h) (u2 : Nat → Int32) (hu2 : ∀ x, x < 2 ^ h → u2 x = nI (LPh h x)) : ∀ (left k : Nat) (b : Int32) (arr : Nat → Int32), left ≤ 2 ^ pcN h E → left < k → (0 < left → b = nI (spN E (left - 1) h)) → ∃ (b' : Int32) (arr' : Nat → Int32), fL_X7_countFailures_114 K (nI (pcN h E)) (bI (LPh h E &&& (G % 2 ^ h) != 0)) (nI E) (nI (G / 2 ^ h)) u2 k (nI left, b, arr) = some (nI 0, b', arr') ∧ ∀ t, t < 17 → arr' t = arr t + Int32.ofInt (fb_si (fun m => tmF h G E t (spN E m h)) left) := by
  have h8 : h ≤ 8 := by rcases hh with rfl | rfl | rfl | rfl <;> omega
  have hp : 2 ^ h ≤ 2 ^ 8 := Nat.pow_le_pow_right (by decide) h8
  have hpE := pc_le h E
  have hpp : 2 ^ pcN h E ≤ 2 ^ 8 := Nat.pow_le_pow_right (by decide) (by omega)
  intro left
  induction left with
  | zero =>
    intro k b arr h1 hk hb
    obtain ⟨k, rfl⟩ : ∃ q, k = q + 1 := ⟨k - 1, by omega⟩
    refine ⟨b, arr, by rw [fL_X7_countFailures_114, if_pos (by decide)], fun t _ => ?_⟩
    show arr t = arr t + Int32.ofInt 0
    rw [show Int32.ofInt 0 = 0 from rfl, Int32.add_zero]
  | succ left ih =>
    intro k b arr h1 hk hb
    obtain ⟨k, rfl⟩ : ∃ q, k = q + 1 := ⟨k - 1, by omega⟩
    have hb := hb (by omega)
    rw [Nat.add_sub_cancel] at hb
    subst hb
    obtain ⟨B, hB⟩ : ∃ B, B = spN E left h := ⟨_, rfl⟩
    have hBl : B < 2 ^ h := by rw [hB]; exact sp_lt E left h
    have hBE : B &&& E = B := by rw [hB]; exact sp_in E left h
    have hpB := pc_sub hBE h
    have hnext : 0 < left → (nI B - 1) &&& nI E = nI (spN E (left - 1) h) := fun h0 => by
      obtain ⟨d1, d2⟩ := sp_dec E h left h0 (by omega)
      rw [← hB] at d1 d2
      have : nI B - nI 1 = nI (B - 1) := nI_subN (by omega) (by omega)
      have this : nI B - 1 = nI (B - 1) := this
      rw [this, fa_and, d2]
    have e2 : nI (left + 1) + (-1) = nI left := by
      apply Int32.toInt_inj.mp
      rw [fb_addI (by rw [nI_toInt (by omega), i_m1]; omega) (by rw [nI_toInt (by omega), i_m1]; omega), nI_toInt (by omega), nI_toInt (by omega), i_m1]
      omega
    have hLB := LPh_lt hh hBl
    obtain ⟨arr1, ha1⟩ : ∃ a, a = upd arr (pcN h E + pcN h B) (arr (pcN h E + pcN h B) + nI (2 ^ (pcN h E - pcN h B))) := ⟨_, rfl⟩
    have hcond : (if bI (LPh h E &&& (G % 2 ^ h) != 0) = 0 then gIx (nI B) 256 (if u2 (Int32.toNatClampNeg (nI B)) &&& nI (G / 2 ^ h) = 0 then some arr else some arr1) else some arr1) = some (if kBad h G E B then arr1 else arr) := by
      rw [gIx_nI _ (show B < 256 by omega) (by decide), tnN (by omega), hu2 B hBl]
      unfold kBad
      rw [bne_dec (LPh h B &&& (G / 2 ^ h))]
      cases (LPh h E &&& (G % 2 ^ h) != 0) with
      | true => rw [if_neg (show ¬ bI true = 0 by decide), Bool.true_or, if_pos rfl]
      | false =>
        rw [if_pos (show bI false = 0 by rfl), Bool.false_or]
        by_cases c : LPh h B &&& (G / 2 ^ h) = 0
        · rw [if_pos (show nI (LPh h B) &&& nI (G / 2 ^ h) = 0 by rw [nI_and0 (by omega)]; exact c), decide_eq_false (show ¬ ¬ LPh h B &&& (G / 2 ^ h) = 0 from fun z => z c), if_neg nft]
        · rw [if_neg (show ¬ nI (LPh h B) &&& nI (G / 2 ^ h) = 0 by rw [nI_and0 (by omega)]; exact c), decide_eq_true c, if_pos rfl]
    obtain ⟨b', arr', r1, r2⟩ := ih k ((nI B - 1) &&& nI E) (if kBad h G E B then arr1 else arr) (by omega) (by omega) hnext
    refine ⟨b', arr', ?_, fun t ht => ?_⟩
    · rw [← hB, fL_X7_countFailures_114, if_neg (show ¬ nI (left + 1) ≤ (0 : Int32) by rw [leI, nI_toInt (by omega), i_0]; omega), e_bcI K h8 hBl]
      simp only [Option.bind_some, nI_add, nI_subN hpB (show pcN h E < 2 ^ 31 by omega), shl_N31 _ (show pcN h E - pcN h B < 31 by omega), gIx_nI _ (show pcN h E + pcN h B < 17 by omega) (by decide), tnN (show pcN h E + pcN h B < 2 ^ 31 by omega), gLet, e2, ← ha1]
      rw [hcond, Option.bind_some]
      exact r1
    · rw [r2 t ht, fb_si_succ, Int32.ofInt_add, ← hB]
      have hterm : (if kBad h G E B then arr1 else arr) t = arr t + Int32.ofInt (tmF h G E t B) := by
        unfold tmF
        cases hk2 : kBad h G E B with
        | false =>
          rw [if_neg nft, Bool.and_false]
          show arr t = arr t + Int32.ofInt (_ * 0)
          rw [Int.mul_zero, show Int32.ofInt 0 = 0 from rfl, Int32.add_zero]
        | true =>
          rw [if_pos rfl, Bool.and_true, ha1]
          simp only [upd]
          by_cases c : t = pcN h E + pcN h B
          · rw [if_pos c, c, beq_self_eq_true]
            show _ = _ + Int32.ofInt (_ * 1)
            rw [Int.mul_one, iI_nat]
          · rw [if_neg c, show (pcN h E + pcN h B == t) = false by simpa using fun z => c (Eq.symm z)]
            show arr t = arr t + Int32.ofInt (_ * 0)
            rw [Int.mul_zero, show Int32.ofInt 0 = 0 from rfl, Int32.add_zero]
      rw [hterm, Int32.add_assoc, Int32.add_comm (Int32.ofInt (tmF h G E t B))]
theorem l_71 (K : Nat) (hK : 200000 ≤ K) {h G : Nat} (hh : Hok h) (u2 : Nat → Int32) (hu2 : ∀ x, x < 2 ^ h → u2 x = nI (LPh h x)) : ∀ (m E k : Nat) (arr : Nat → Int32), E + m = 2 ^ h → m < k → (∀ t, t < 17 → arr t = Int32.ofInt (fb_si (fun E => fb_si (fun m => tmF h G E t (spN E m h)) (2 ^ pcN h E)) E)) → ∃ arr', fL_X7_countFailures_71 K (nI (G / 2 ^ h)) (nI (G % 2 ^ h)) (nI (2 ^ h)) u2 k (nI E, arr) = some (nI (2 ^ h), arr') ∧ ∀ t, t < 17 → arr' t = Int32.ofInt (fb_si (fun E => fb_si (fun m => tmF h G E t (spN E m h)) (2 ^ pcN h E)) (2 ^ h)) := by
  have h8 : h ≤ 8 := by rcases hh with rfl | rfl | rfl | rfl <;> omega
  have hp : 2 ^ h ≤ 2 ^ 8 := Nat.pow_le_pow_right (by decide) h8
  intro m
  induction m with
  | zero =>
    intro E k arr hi hk ha
    obtain ⟨k, rfl⟩ : ∃ q, k = q + 1 := ⟨k - 1, by omega⟩
    have hi : E = 2 ^ h := by omega
    subst hi
    exact ⟨arr, by rw [fL_X7_countFailures_71, if_pos (nI_le (Nat.le_refl _) (by omega))], ha⟩
  | succ m ih =>
    intro E k arr hi hk ha
    obtain ⟨k, rfl⟩ : ∃ q, k = q + 1 := ⟨k - 1, by omega⟩
    have hE : E < 2 ^ h := by omega
    have hpE := pc_le h E
    have hpp : 2 ^ pcN h E ≤ 2 ^ 8 := Nat.pow_le_pow_right (by decide) (by omega)
    have hLE := LPh_lt hh hE
    have hfull : spN E (2 ^ pcN h E - 1) h = E := by
      apply Nat.eq_of_testBit_eq
      intro i
      rw [sp_b, Nat.testBit_two_pow_sub_one]
      by_cases c : i < h
      · cases hi2 : E.testBit i with
        | false => rw [Bool.false_and, Bool.and_false]
        | true =>
          have h1 := pc_mono E (show i + 1 ≤ h by omega)
          rw [pc_succ, hi2, if_pos rfl] at h1
          rw [decide_eq_true c, decide_eq_true (show pcN i E < pcN h E by omega)]
          rfl
      · rw [decide_eq_false c, Nat.testBit_lt_two_pow (Nat.lt_of_lt_of_le hE (Nat.pow_le_pow_right (by decide) (by omega)))]; rfl
    obtain ⟨b', arr1, r1, r2⟩ := l_114 K (G := G) hh hE u2 hu2 (2 ^ pcN h E) K (nI E) arr (Nat.le_refl _) (by omega) (fun _ => by rw [hfull])
    obtain ⟨arr', s1, s2⟩ := ih (E + 1) k arr1 (by omega) (by omega) (fun t ht => by rw [r2 t ht, ha t ht, fb_si_succ, Int32.ofInt_add])
    refine ⟨arr', ?_, s2⟩
    have hms : (if u2 E &&& nI (G % 2 ^ h) = 0 then some (0 : Int32) else some 1) = some (bI (LPh h E &&& (G % 2 ^ h) != 0)) := by
      rw [hu2 E hE, bne_dec]
      by_cases c : LPh h E &&& (G % 2 ^ h) = 0
      · rw [if_pos (show nI (LPh h E) &&& nI (G % 2 ^ h) = 0 by rw [nI_and0 (by omega)]; exact c), decide_eq_false (fun z => z c)]; rfl
      · rw [if_neg (show ¬ nI (LPh h E) &&& nI (G % 2 ^ h) = 0 by rw [nI_and0 (by omega)]; exact c), decide_eq_true c]; rfl
    rw [fL_X7_countFailures_71, if_neg (nI_ge hE (by omega)), gIx_nI _ (show E < 256 by omega) (by decide), tnN (by omega), hms, Option.bind_some, e_bcI K h8 hE, Option.bind_some, gLet, shl_N31 _ (by omega), r1, Option.bind_some]
    dsimp only
    rw [gLet, nI_1]
    exact s1
theorem e_countFailures (K : Nat) (hK : 200000 ≤ K) {N G : Nat} (hN : Nok4 N) (hG : G < 2 ^ N) (lost fails : Nat → Int32) : ∃ (lost' fails' : Nat → Int32), f_X7_countFailures K (nI N) (lN G) lost fails = some (lost', fails') ∧ ∀ t, t ≤ N → fails' t = nI (CF N G t) := by
  obtain ⟨h, hh, hNh⟩ : ∃ h, Hok h ∧ N = h + h := by
    rcases hN with rfl | rfl | rfl | rfl
    · exact ⟨1, Or.inl rfl, rfl⟩
    · exact ⟨2, Or.inr (Or.inl rfl), rfl⟩
    · exact ⟨4, Or.inr (Or.inr (Or.inl rfl)), rfl⟩
    · exact ⟨8, Or.inr (Or.inr (Or.inr rfl)), rfl⟩
  have h8 : h ≤ 8 := by rcases hh with rfl | rfl | rfl | rfl <;> omega
  have hp : 2 ^ h ≤ 2 ^ 8 := Nat.pow_le_pow_right (by decide) h8
  have hp0 := Nat.two_pow_pos h
  have hpN : 2 ^ N ≤ 2 ^ 16 := Nat.pow_le_pow_right (by decide) (by omega)
  have e1 : nI N / 2 = nI h := by
    have : nI N / 2 = nI (N / 2) := pk_div (d := 2) (by omega) (by decide) (by decide)
    rw [this]
    congr 1
    omega
  have e2 : (1 : Int32) <<< (nI h &&& 31) = nI (2 ^ h) := shl_N31 h (by omega)
  have e3 : nI (2 ^ h) - 1 = nI (2 ^ h - 1) := nI_subN (b := 1) (by omega) (by omega)
  have e4 : Int64.toInt32 (lN G &&& Int32.toInt64 (nI (2 ^ h - 1))) = nI (G % 2 ^ h) := by
    rw [nI_l (by omega), fb_andL, Nat.and_two_pow_sub_one_eq_mod, lN_i]
  have e5 : Int64.toInt32 (gLushr (lN G) (nI h)) = nI (G / 2 ^ h) := by
    rw [e_ushrN (by omega) (by omega), lN_i]
  obtain ⟨u2, r1, r2⟩ := l_35 K hK hh (2 ^ h) 0 K lost (by omega) (by omega) (fun x hx => absurd hx (by omega))
  have r1' : fL_X7_countFailures_35 K (nI (2 ^ h)) (nI h) K (0, lost) = some (nI (2 ^ h), u2) := r1
  obtain ⟨arr', s1, s2⟩ := l_71 K hK (G := G) hh u2 r2 (2 ^ h) 0 K (fun j => if 0 ≤ j ∧ j < 17 then 0 else fails j) (by omega) (by omega) (fun t ht => if_pos ⟨by omega, ht⟩)
  have s1' : fL_X7_countFailures_71 K (nI (G / 2 ^ h)) (nI (G % 2 ^ h)) (nI (2 ^ h)) u2 K (0, fun j => if 0 ≤ j ∧ j < 17 then 0 else fails j) = some (nI (2 ^ h), arr') := s1
  refine ⟨u2, arr', ?_, fun t ht => ?_⟩
  · rw [f_X7_countFailures, gLet, e1, gLet, e2, gLet, e3, e4, gLet, e5, r1', Option.bind_some]
    dsimp only
    rw [e_fillI K hK 0 (by decide), Option.bind_some, s1', Option.bind_some]
  · rw [s2 t (by omega), ← iI_nat, CF_pair hN hNh]
    rfl
