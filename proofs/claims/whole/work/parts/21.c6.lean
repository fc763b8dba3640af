/-! the class's counts of rows across -/
theorem iI_nat (n : Nat) : Int32.ofInt (n : Int) = nI n := Int32.ofInt_eq_ofNat
theorem l_mo27 (K d j : Nat) (hd : d < 2 ^ 31) (hj : j < 2 ^ 31) : ∀ (l k : Nat) (u : Nat → Int32), l ≤ 16 → l < k → fL_X7_multiplyOut_27 K (nI d) (nI j) k (nI l, u) = some (nI 0, fun w => if 1 ≤ w ∧ w ≤ l then u w + (if j ≤ d then u (w - 1) else -(u (w - 1))) else u w) := by
  intro l
  induction l with
  | zero =>
    intro k u hl hk
    obtain ⟨k, rfl⟩ : ∃ q, k = q + 1 := ⟨k - 1, by omega⟩
    rw [fL_X7_multiplyOut_27, if_pos (show nI 0 < (1 : Int32) by decide)]
    refine congrArg some (Prod.ext rfl ?_)
    funext w
    exact (if_neg (by omega)).symm
  | succ l ih =>
    intro k u hl hk
    obtain ⟨k, rfl⟩ : ∃ q, k = q + 1 := ⟨k - 1, by omega⟩
    have e1 : nI (l + 1) - 1 = nI l := by
      apply Int32.toInt_inj.mp
      rw [fb_subI (by rw [nI_toInt (by omega), i_1]; omega) (by rw [nI_toInt (by omega), i_1]; omega), nI_toInt (by omega), nI_toInt (by omega), i_1]
      omega
    have e2 : nI (l + 1) + (-1) = nI l := by
      apply Int32.toInt_inj.mp
      rw [fb_addI (by rw [nI_toInt (by omega), i_m1]; omega) (by rw [nI_toInt (by omega), i_m1]; omega), nI_toInt (by omega), nI_toInt (by omega), i_m1]
      omega
    have e3 : (if nI j ≤ nI d then some (u l) else some (-(u l))) = some (if j ≤ d then u l else -(u l)) := by
      by_cases q : j ≤ d
      · rw [if_pos (nI_le q hd), if_pos q]
      · rw [if_neg (nI_ge (by omega) hj), if_neg q]
    rw [fL_X7_multiplyOut_27, if_neg (show ¬ nI (l + 1) < (1 : Int32) by rw [ltI, nI_toInt (by omega), i_1]; omega), gIx_nI _ (show l + 1 < 17 by omega) (by decide), e1]
    simp only [gIx_nI _ (show l < 17 by omega) (by decide), gIx_nI _ (show l + 1 < 17 by omega) (by decide), tnN (show l < 2 ^ 31 by omega), tnN (show l + 1 < 2 ^ 31 by omega), e3, Option.bind_some, gLet, e2]
    rw [ih k _ (by omega) (by omega)]
    refine congrArg some (Prod.ext rfl ?_)
    funext w
    simp only [upd]
    by_cases q : w = l + 1
    · subst q
      rw [if_neg (show ¬ (1 ≤ l + 1 ∧ l + 1 ≤ l) by omega), if_pos rfl, if_pos (show 1 ≤ l + 1 ∧ l + 1 ≤ l + 1 by omega), Nat.add_sub_cancel]
    · rw [if_neg q]
      by_cases q2 : 1 ≤ w ∧ w ≤ l
      · rw [if_pos q2, if_pos (show 1 ≤ w ∧ w ≤ l + 1 by omega), if_neg (show ¬ w - 1 = l + 1 by omega)]
      · rw [if_neg q2, if_neg (by omega)]
theorem Qd_step {j d w : Nat} : kPC (min j (d + 1)) (d + 1 - j) w = kPC (min j d) (d - j) w + (if j ≤ d then shI (kPC (min j d) (d - j)) w else -(shI (kPC (min j d) (d - j)) w)) := by
  by_cases q : j ≤ d
  · rw [if_pos q, show min j (d + 1) = j by omega, show min j d = j by omega, show d + 1 - j = d - j + 1 by omega, PC_p]
  · rw [if_neg q, show min j (d + 1) = d + 1 by omega, show min j d = d by omega, show d + 1 - j = 0 by omega, show d - j = 0 by omega, PC_m]
    omega
theorem l_mo17 (K N j : Nat) (hK : 200000 ≤ K) (hN : N ≤ 16) (hj : j < 2 ^ 31) : ∀ (m d k : Nat) (u : Nat → Int32), d + m = N → m < k → (∀ w, w < 17 → u w = Int32.ofInt (kPC (min j d) (d - j) w)) → ∃ u', fL_X7_multiplyOut_17 K (nI j) (nI N) k (nI d, u) = some (nI N, u') ∧ ∀ w, w < 17 → u' w = Int32.ofInt (kPC (min j N) (N - j) w) := by
  intro m
  induction m with
  | zero =>
    intro d k u hi hk hu
    obtain ⟨k, rfl⟩ : ∃ q, k = q + 1 := ⟨k - 1, by omega⟩
    have hi : d = N := by omega
    subst hi
    exact ⟨u, by rw [fL_X7_multiplyOut_17, if_pos (nI_le (Nat.le_refl _) (by omega))], hu⟩
  | succ m ih =>
    intro d k u hi hk hu
    obtain ⟨k, rfl⟩ : ∃ q, k = q + 1 := ⟨k - 1, by omega⟩
    obtain ⟨u', r1, r2⟩ := ih (d + 1) k (fun w => if 1 ≤ w ∧ w ≤ d + 1 then u w + (if j ≤ d then u (w - 1) else -(u (w - 1))) else u w) (by omega) (by omega) (fun w hw => by
      show (if 1 ≤ w ∧ w ≤ d + 1 then u w + (if j ≤ d then u (w - 1) else -(u (w - 1))) else u w) = _
      rw [Qd_step]
      by_cases q : 1 ≤ w ∧ w ≤ d + 1
      · obtain ⟨v, rfl⟩ : ∃ v, w = v + 1 := ⟨w - 1, by omega⟩
        rw [if_pos q, hu _ hw, Nat.add_sub_cancel, hu v (by omega), Int32.ofInt_add]
        congr 1
        show (if j ≤ d then Int32.ofInt (kPC (min j d) (d - j) v) else -Int32.ofInt (kPC (min j d) (d - j) v)) = Int32.ofInt (if j ≤ d then kPC (min j d) (d - j) v else -(kPC (min j d) (d - j) v))
        by_cases c : j ≤ d
        · rw [if_pos c, if_pos c]
        · rw [if_neg c, if_neg c, Int32.ofInt_neg]
      · rw [if_neg q, hu _ hw]
        congr 1
        have hz : shI (kPC (min j d) (d - j)) w = 0 := by
          cases w with
          | zero => rfl
          | succ v => exact PC_big _ _ v (by omega)
        rw [hz]
        by_cases c : j ≤ d
        · rw [if_pos c, Int.add_zero]
        · rw [if_neg c]; omega)
    refine ⟨u', ?_, r2⟩
    rw [fL_X7_multiplyOut_17, if_neg (nI_ge (show d < N by omega) (by omega)), gLet, nI_1, l_mo27 K d j (by omega) hj (d + 1) K u (by omega) (by omega), Option.bind_some]
    dsimp only
    rw [gLet]
    exact r1
theorem e_mulOut (K : Nat) (hK : 200000 ≤ K) {N j : Nat} (hN : N ≤ 16) (hj : j ≤ N) (v : Nat → Int32) : ∃ v', f_X7_multiplyOut K (nI j) (nI N) v = some v' ∧ ∀ w, w < 17 → v' w = Int32.ofInt (kPC j (N - j) w) := by
  obtain ⟨u', r1, r2⟩ := l_mo17 K N j hK hN (by omega) N 0 K (upd (fun w => if 0 ≤ w ∧ w < 17 then 0 else v w) 0 1) (by omega) (by omega) (fun w hw => by
    rw [show min j 0 = 0 by omega, show 0 - j = 0 by omega]
    simp only [upd]
    show _ = Int32.ofInt (if w = 0 then 1 else 0)
    by_cases q : w = 0
    · rw [if_pos q, if_pos q]; rfl
    · rw [if_neg q, if_neg q, if_pos ⟨by omega, hw⟩]; rfl)
  rw [show min j N = j by omega] at r2
  refine ⟨u', ?_, r2⟩
  have r1' : fL_X7_multiplyOut_17 K (nI j) (nI N) K (0, upd (fun w => if 0 ≤ w ∧ w < 17 then 0 else v w) 0 1) = some (nI N, u') := r1
  have t0 : Int32.toNatClampNeg (0 : Int32) = 0 := by decide
  rw [f_X7_multiplyOut, e_fillI K hK 0 (by decide), Option.bind_some]
  show gIx (nI 0) 17 _ = _
  rw [gIx_nI _ (show 0 < 17 by decide) (by decide), gLet, t0, r1', Option.bind_some]
theorem l_ta33 (K N j : Nat) (hN : N ≤ 16) (hj : j ≤ N) (u2 u3 : Nat → Int32) : ∀ (m l k : Nat) (u : Nat → Int32), l + m = N + 1 → m < k → fL_X7_turnAcross_33 K (nI j) (nI N) u2 u3 k (nI l, u) = some (nI (N + 1), fun w => if l ≤ w ∧ w ≤ N then u w + u2 j * u3 w else u w) := by
  intro m
  induction m with
  | zero =>
    intro l k u hi hk
    obtain ⟨k, rfl⟩ : ∃ q, k = q + 1 := ⟨k - 1, by omega⟩
    have hi : l = N + 1 := by omega
    subst hi
    rw [fL_X7_turnAcross_33, if_pos (show nI N < nI (N + 1) by rw [ltI, nI_toInt (by omega), nI_toInt (by omega)]; omega)]
    refine congrArg some (Prod.ext rfl ?_)
    funext w
    exact (if_neg (by omega)).symm
  | succ m ih =>
    intro l k u hi hk
    obtain ⟨k, rfl⟩ : ∃ q, k = q + 1 := ⟨k - 1, by omega⟩
    rw [fL_X7_turnAcross_33, if_neg (show ¬ nI N < nI l by rw [ltI, nI_toInt (by omega), nI_toInt (by omega)]; omega)]
    simp only [gIx_nI _ (show l < 17 by omega) (by decide), gIx_nI _ (show j < 17 by omega) (by decide), tnN (show l < 2 ^ 31 by omega), tnN (show j < 2 ^ 31 by omega), gLet, nI_1]
    rw [ih (l + 1) k _ (by omega) (by omega)]
    refine congrArg some (Prod.ext rfl ?_)
    funext w
    simp only [upd]
    by_cases q : w = l
    · subst q
      rw [if_neg (by omega), if_pos rfl, if_pos (by omega)]
    · rw [if_neg q]
      by_cases q2 : l ≤ w ∧ w ≤ N
      · rw [if_pos (by omega), if_pos q2]
      · rw [if_neg (by omega), if_neg q2]
theorem l_ta10 (K : Nat) (hK : 200000 ≤ K) {N : Nat} (hN : N ≤ 16) (A : Nat → Nat) (u2 : Nat → Int32) (h2 : ∀ j, j ≤ N → u2 j = nI (A j)) : ∀ (m j k : Nat) (u u3 : Nat → Int32), j + m = N + 1 → m < k → (∀ w, w ≤ N → u w = Int32.ofInt (fb_si (fun i => (A i : Int) * kPC i (N - i) w) j)) → ∃ u' u3', fL_X7_turnAcross_10 K (nI N) u2 k (nI j, u, u3) = some (nI (N + 1), u', u3') ∧ ∀ w, w ≤ N → u' w = Int32.ofInt (fb_si (fun i => (A i : Int) * kPC i (N - i) w) (N + 1)) := by
  intro m
  induction m with
  | zero =>
    intro j k u u3 hi hk hu
    obtain ⟨k, rfl⟩ : ∃ q, k = q + 1 := ⟨k - 1, by omega⟩
    have hi : j = N + 1 := by omega
    subst hi
    exact ⟨u, u3, by rw [fL_X7_turnAcross_10, if_pos (show nI N < nI (N + 1) by rw [ltI, nI_toInt (by omega), nI_toInt (by omega)]; omega)], hu⟩
  | succ m ih =>
    intro j k u u3 hi hk hu
    obtain ⟨k, rfl⟩ : ∃ q, k = q + 1 := ⟨k - 1, by omega⟩
    have ng : ¬ nI N < nI j := by rw [ltI, nI_toInt (by omega), nI_toInt (by omega)]; omega
    rw [fL_X7_turnAcross_10, if_neg ng, gIx_nI _ (show j < 17 by omega) (by decide), tnN (by omega), h2 j (by omega)]
    by_cases q : nI (A j) = 0
    · obtain ⟨u', u3', r1, r2⟩ := ih (j + 1) k u u3 (by omega) (by omega) (fun w hw => by
        rw [fb_si_succ, Int32.ofInt_add, Int32.ofInt_mul, iI_nat, q, hu w hw]
        simp)
      refine ⟨u', u3', ?_, r2⟩
      rw [if_pos q, gLet, nI_1]
      exact r1
    · obtain ⟨v', v1, v2⟩ := e_mulOut K hK hN (show j ≤ N by omega) u3
      have e33 : fL_X7_turnAcross_33 K (nI j) (nI N) u2 v' K (0, u) = some (nI (N + 1), fun w => if 0 ≤ w ∧ w ≤ N then u w + u2 j * v' w else u w) := l_ta33 K N j hN (by omega) u2 v' (N + 1) 0 K u (by omega) (by omega)
      obtain ⟨u', u3', r1, r2⟩ := ih (j + 1) k (fun w => if 0 ≤ w ∧ w ≤ N then u w + u2 j * v' w else u w) v' (by omega) (by omega) (fun w hw => by
        show (if 0 ≤ w ∧ w ≤ N then u w + u2 j * v' w else u w) = _
        rw [fb_si_succ, Int32.ofInt_add, Int32.ofInt_mul, iI_nat, if_pos ⟨by omega, hw⟩, hu w hw, h2 j (by omega), v2 w (by omega)])
      refine ⟨u', u3', ?_, r2⟩
      rw [if_neg q, v1, Option.bind_some, e33, Option.bind_some]
      dsimp only
      rw [gLet, nI_1]
      exact r1
theorem shr_N31 : ∀ s, s < 31 → ((nI s &&& 31).toBitVec.smod 32).toNat = s := by decide +kernel
theorem l_ta77 (K N c : Nat) (hN : N ≤ 16) (hc : c < 31) (X : Nat → Nat) (hX : ∀ w, w ≤ N → 2 ^ c * X w < 2 ^ 31) : ∀ (m l k : Nat) (u : Nat → Int32), l + m = N + 1 → m < k → (∀ w, w ≤ N → u w = if w < l then nI (X w) else nI (2 ^ c * X w)) → ∃ u', fL_X7_turnAcross_77 K (nI N) (nI c) k (nI l, u) = some (nI (N + 1), u') ∧ ∀ w, w ≤ N → u' w = nI (X w) := by
  intro m
  induction m with
  | zero =>
    intro l k u hi hk hu
    obtain ⟨k, rfl⟩ : ∃ q, k = q + 1 := ⟨k - 1, by omega⟩
    have hi : l = N + 1 := by omega
    subst hi
    exact ⟨u, by rw [fL_X7_turnAcross_77, if_pos (show nI N < nI (N + 1) by rw [ltI, nI_toInt (by omega), nI_toInt (by omega)]; omega)], fun w hw => by rw [hu w hw, if_pos (by omega)]⟩
  | succ m ih =>
    intro l k u hi hk hu
    obtain ⟨k, rfl⟩ : ∃ q, k = q + 1 := ⟨k - 1, by omega⟩
    have e : nI (2 ^ c * X l) >>> (nI c &&& 31) = nI (X l) := by
      rw [pk_shrN (hX l (by omega)) (nI c &&& 31) c (shr_N31 c hc), Nat.mul_div_cancel_left _ (Nat.two_pow_pos c)]
    obtain ⟨u', r1, r2⟩ := ih (l + 1) k (upd u l (nI (X l))) (by omega) (by omega) (fun w hw => by
      simp only [upd]
      by_cases q : w = l
      · rw [if_pos q, if_pos (by omega), q]
      · rw [if_neg q, hu w hw]
        by_cases q2 : w < l
        · rw [if_pos q2, if_pos (by omega)]
        · rw [if_neg q2, if_neg (by omega)])
    refine ⟨u', ?_, r2⟩
    rw [fL_X7_turnAcross_77, if_neg (show ¬ nI N < nI l by rw [ltI, nI_toInt (by omega), nI_toInt (by omega)]; omega)]
    simp only [gIx_nI _ (show l < 17 by omega) (by decide), tnN (show l < 2 ^ 31 by omega), gLet, nI_1]
    rw [hu l (by omega), if_neg (show ¬ l < l by omega), e]
    exact r1
theorem e_turn (K : Nat) (hK : 200000 ≤ K) {N G : Nat} (hN : Nok4 N) (hk : pcN N G ≤ 7) (rows plain factors : Nat → Int32) (hp : ∀ w, w ≤ N → plain w = nI (cB 0 G N (2 ^ pcN N G) w)) : ∃ rows' factors', f_X7_turnAcross K (nI N) (nI (pcN N G)) rows plain factors = some (rows', factors') ∧ ∀ w, w ≤ N → rows' w = nI (CA N G w) := by
  have hN16 : N ≤ 16 := by rcases hN with rfl | rfl | rfl | rfl <;> omega
  obtain ⟨u', u3', r1, r2⟩ := l_ta10 K hK hN16 (fun j => cB 0 G N (2 ^ pcN N G) j) plain hp (N + 1) 0 K (fun w => if 0 ≤ w ∧ w < 17 then 0 else rows w) factors (by omega) (by omega) (fun w hw => if_pos ⟨by omega, by omega⟩)
  have r1' : fL_X7_turnAcross_10 K (nI N) plain K (0, (fun w => if 0 ≤ w ∧ w < 17 then 0 else rows w), factors) = some (nI (N + 1), u', u3') := r1
  have hX : ∀ w, w ≤ N → 2 ^ pcN N G * CA N G w < 2 ^ 31 := fun w _ => by
    have h1 : CA N G w ≤ 2 ^ N := fb_ct_le _ _
    have h2 : 2 ^ N ≤ 2 ^ 16 := Nat.pow_le_pow_right (by decide) hN16
    have h3 : 2 ^ pcN N G ≤ 2 ^ 7 := Nat.pow_le_pow_right (by decide) hk
    have h4 : 2 ^ pcN N G * CA N G w ≤ 2 ^ 7 * 2 ^ 16 := Nat.mul_le_mul h3 (by omega)
    omega
  obtain ⟨u2', s1, s2⟩ := l_ta77 K N (pcN N G) hN16 (by omega) (fun w => CA N G w) hX (N + 1) 0 K u' (by omega) (by omega) (fun w hw => by
    rw [if_neg (by omega), r2 w hw, mac_h hN.n1, ← Int.natCast_mul, iI_nat])
  have s1' : fL_X7_turnAcross_77 K (nI N) (nI (pcN N G)) K (0, u') = some (nI (N + 1), u2') := s1
  refine ⟨u2', u3', ?_, s2⟩
  rw [f_X7_turnAcross, e_fillI K hK 0 (by decide), Option.bind_some, r1', Option.bind_some]
  dsimp only
  rw [s1', Option.bind_some]
/-- rows read backwards by the machine -/
def swS (s M x : Nat) : Nat := ((x &&& M) * 2 ^ (2 ^ s)) ||| (x / 2 ^ (2 ^ s) &&& M)
theorem sw_b {s M x : Nat} (hM : ∀ i, i < 16 → M.testBit i = decide (i / 2 ^ s % 2 = 0)) (hx : x < 2 ^ 16) (H1 : ∀ i, i < 16 → i / 2 ^ s % 2 = 0 → i + 2 ^ s < 16 ∧ (2 ^ s ≤ i → ¬ (i - 2 ^ s) / 2 ^ s % 2 = 0)) (H2 : ∀ i, i < 16 → ¬ i / 2 ^ s % 2 = 0 → 2 ^ s ≤ i ∧ (i - 2 ^ s) / 2 ^ s % 2 = 0) : swS s M x < 2 ^ 16 ∧ ∀ i, i < 16 → (swS s M x).testBit i = x.testBit (if i / 2 ^ s % 2 = 0 then i + 2 ^ s else i - 2 ^ s) := by
  have hz : ∀ i, 16 ≤ i → x.testBit i = false := fun i hi => Nat.testBit_lt_two_pow (Nat.lt_of_lt_of_le hx (Nat.pow_le_pow_right (by decide) hi))
  have hb : ∀ i, (swS s M x).testBit i = ((decide (2 ^ s ≤ i) && (x.testBit (i - 2 ^ s) && M.testBit (i - 2 ^ s))) || (x.testBit (i + 2 ^ s) && M.testBit i)) := fun i => by
    unfold swS
    rw [Nat.testBit_or, tb_mul, Nat.testBit_and, Nat.testBit_and, Nat.testBit_div_two_pow]
  have hs0 := Nat.two_pow_pos s
  constructor
  · apply Nat.lt_pow_two_of_testBit
    intro i hi
    rw [hb, hz (i + 2 ^ s) (by omega), Bool.false_and, Bool.or_false]
    by_cases c : i - 2 ^ s < 16
    · rw [hM _ c]
      by_cases d : (i - 2 ^ s) / 2 ^ s % 2 = 0
      · have := H1 (i - 2 ^ s) c d
        rw [decide_eq_false (show ¬ 2 ^ s ≤ i by omega)]; rfl
      · rw [decide_eq_false d, Bool.and_false, Bool.and_false]
    · rw [hz _ (by omega), Bool.false_and, Bool.and_false]
  · intro i hi
    rw [hb, hM i hi]
    by_cases d : i / 2 ^ s % 2 = 0
    · rw [if_pos d, decide_eq_true d, Bool.and_true]
      by_cases c : 2 ^ s ≤ i
      · rw [hM (i - 2 ^ s) (by omega), decide_eq_false ((H1 i hi d).2 c), Bool.and_false, Bool.and_false, Bool.false_or]
      · rw [decide_eq_false c, Bool.false_and, Bool.false_or]
    · obtain ⟨c, e⟩ := H2 i hi d
      rw [if_neg d, decide_eq_false d, Bool.and_false, Bool.or_false, decide_eq_true c, hM (i - 2 ^ s) (by omega), decide_eq_true e, Bool.and_true, Bool.true_and]
theorem mk0 : ∀ i, i < 16 → (6148914691236517205 : Nat).testBit i = decide (i / 2 ^ 0 % 2 = 0) := by decide +kernel
theorem mk1 : ∀ i, i < 16 → (3689348814741910323 : Nat).testBit i = decide (i / 2 ^ 1 % 2 = 0) := by decide +kernel
theorem mk2 : ∀ i, i < 16 → (1085102592571150095 : Nat).testBit i = decide (i / 2 ^ 2 % 2 = 0) := by decide +kernel
theorem mk3 : ∀ i, i < 16 → (71777214294589695 : Nat).testBit i = decide (i / 2 ^ 3 % 2 = 0) := by decide +kernel
theorem H1s : ∀ s, s < 4 → ∀ i, i < 16 → i / 2 ^ s % 2 = 0 → i + 2 ^ s < 16 ∧ (2 ^ s ≤ i → ¬ (i - 2 ^ s) / 2 ^ s % 2 = 0) := by decide +kernel
theorem H2s : ∀ s, s < 4 → ∀ i, i < 16 → ¬ i / 2 ^ s % 2 = 0 → 2 ^ s ≤ i ∧ (i - 2 ^ s) / 2 ^ s % 2 = 0 := by decide +kernel
def swI (s i : Nat) : Nat := if i / 2 ^ s % 2 = 0 then i + 2 ^ s else i - 2 ^ s
theorem swI_lt : ∀ s, s < 4 → ∀ i, i < 16 → swI s i < 16 := by decide +kernel
theorem swI_all : ∀ i, i < 16 → swI 0 (swI 1 (swI 2 (swI 3 i))) = 16 - 1 - i := by decide +kernel
theorem e_sw {s M x : Nat} (hs : s < 4) (hx : x < 2 ^ 16) : gLshl (lN x &&& lN M) (nI (2 ^ s)) ||| (gLushr (lN x) (nI (2 ^ s)) &&& lN M) = lN (swS s M x) := by
  have h1 : 2 ^ s ≤ 2 ^ 3 := Nat.pow_le_pow_right (by decide) (by omega)
  have e1 : ∀ X : Nat, gLshl (lN X) (nI (2 ^ s)) = lN (X * 2 ^ (2 ^ s)) := fun X => wb_shl X (by omega)
  rw [fb_andL, e1, e_ushrN (by omega) (by omega), fb_andL, fb_orL]
  rfl
theorem e_rev (K : Nat) {x : Nat} (hx : x < 2 ^ 16) : f_J13_reverse_067f4 K (lN x) = some (lN (rvN 16 x * 2 ^ 48)) := by
  obtain ⟨l0, b0⟩ := sw_b mk0 hx (H1s 0 (by decide)) (H2s 0 (by decide))
  obtain ⟨l1, b1⟩ := sw_b mk1 l0 (H1s 1 (by decide)) (H2s 1 (by decide))
  obtain ⟨l2, b2⟩ := sw_b mk2 l1 (H1s 2 (by decide)) (H2s 2 (by decide))
  obtain ⟨l3, b3⟩ := sw_b mk3 l2 (H1s 3 (by decide)) (H2s 3 (by decide))
  have hrev : swS 3 71777214294589695 (swS 2 1085102592571150095 (swS 1 3689348814741910323 (swS 0 6148914691236517205 x))) = rvN 16 x := by
    apply Nat.eq_of_testBit_eq
    intro i
    rw [rv_b]
    by_cases c : i < 16
    · have k3 := swI_lt 3 (by decide) i c
      have k2 := swI_lt 2 (by decide) _ k3
      have k1 := swI_lt 1 (by decide) _ k2
      rw [decide_eq_true c, Bool.true_and, ← swI_all i c, b3 i c]
      show (swS 2 1085102592571150095 (swS 1 3689348814741910323 (swS 0 6148914691236517205 x))).testBit (swI 3 i) = _
      rw [b2 _ k3]
      show (swS 1 3689348814741910323 (swS 0 6148914691236517205 x)).testBit (swI 2 (swI 3 i)) = _
      rw [b1 _ k2]
      show (swS 0 6148914691236517205 x).testBit (swI 1 (swI 2 (swI 3 i))) = _
      rw [b0 _ k1]
      rfl
    · rw [decide_eq_false c, Bool.false_and]
      exact Nat.testBit_lt_two_pow (Nat.lt_of_lt_of_le l3 (Nat.pow_le_pow_right (by decide) (by omega)))
  have e0 : gLshl (lN x &&& 6148914691236517205) 1 ||| (gLushr (lN x) 1 &&& 6148914691236517205) = lN (swS 0 6148914691236517205 x) := e_sw (s := 0) (M := 6148914691236517205) (by decide) hx
  have e1 := e_sw (s := 1) (M := 3689348814741910323) (by decide) l0
  have e2 := e_sw (s := 2) (M := 1085102592571150095) (by decide) l1
  have e3 := e_sw (s := 3) (M := 71777214294589695) (by decide) l2
  rw [hrev] at e3 l3
  obtain ⟨y, hy⟩ : ∃ y, y = rvN 16 x := ⟨_, rfl⟩
  rw [← hy] at e3 l3 ⊢
  have f1 : gLshl (lN y) 48 = lN (y * 2 ^ 48) := wb_shl y (k := 48) (by decide)
  have f2 : lN y &&& 4294901760 = lN 0 := by
    have h : lN y &&& lN 4294901760 = lN (y &&& 4294901760) := fb_andL _ _
    have h2 : y &&& 4294901760 = 0 := by
      apply Nat.eq_of_testBit_eq
      intro i
      rw [Nat.testBit_and, Nat.zero_testBit]
      by_cases c : i < 16
      · rw [(by decide +kernel : ∀ i, i < 16 → (4294901760 : Nat).testBit i = false) i c, Bool.and_false]
      · rw [Nat.testBit_lt_two_pow (Nat.lt_of_lt_of_le l3 (Nat.pow_le_pow_right (by decide) (by omega)))]; rfl
    rw [h2] at h
    exact h
  have f3 : gLshl (lN 0) 16 = lN 0 := by decide
  have f4 : gLushr (lN y) 16 = lN 0 := by
    have : gLushr (lN y) 16 = lN (y / 2 ^ 16) := e_ushrN (s := 16) (by omega) (by decide)
    rw [this, Nat.div_eq_of_lt l3]
  have f5 : gLushr (lN y) 48 = lN 0 := by
    have : gLushr (lN y) 48 = lN (y / 2 ^ 48) := e_ushrN (s := 48) (by omega) (by decide)
    rw [this, Nat.div_eq_of_lt (by omega)]
  have f6 : lN 0 &&& 4294901760 = lN 0 := by decide
  have f7 : lN (y * 2 ^ 48) ||| lN 0 = lN (y * 2 ^ 48) := by rw [fb_orL, Nat.or_zero]
  unfold f_J13_reverse_067f4 f_J13_reverseBytes_067f4
  simp only [gLet]
  rw [e0]
  have e1' : gLshl (lN (swS 0 6148914691236517205 x) &&& 3689348814741910323) 2 ||| (gLushr (lN (swS 0 6148914691236517205 x)) 2 &&& 3689348814741910323) = lN (swS 1 3689348814741910323 (swS 0 6148914691236517205 x)) := e1
  rw [e1']
  have e2' : gLshl (lN (swS 1 3689348814741910323 (swS 0 6148914691236517205 x)) &&& 1085102592571150095) 4 ||| (gLushr (lN (swS 1 3689348814741910323 (swS 0 6148914691236517205 x))) 4 &&& 1085102592571150095) = lN (swS 2 1085102592571150095 (swS 1 3689348814741910323 (swS 0 6148914691236517205 x))) := e2
  rw [e2']
  have e3' : gLshl (lN (swS 2 1085102592571150095 (swS 1 3689348814741910323 (swS 0 6148914691236517205 x))) &&& 71777214294589695) 8 ||| (gLushr (lN (swS 2 1085102592571150095 (swS 1 3689348814741910323 (swS 0 6148914691236517205 x)))) 8 &&& 71777214294589695) = lN y := e3
  rw [e3', f1, f2, f3, f4, f5, f6, f7, f7, f7]
  rfl
theorem rv_16 {N x : Nat} (hN : N ≤ 16) (hx : x < 2 ^ N) : rvN 16 x * 2 ^ 48 / 2 ^ (64 - N) = rvN N x := by
  have e : 2 ^ (64 - N) = 2 ^ 48 * 2 ^ (16 - N) := by rw [← Nat.pow_add]; congr 1; omega
  rw [e, Nat.mul_comm (rvN 16 x), Nat.mul_div_mul_left _ _ (Nat.two_pow_pos 48)]
  apply Nat.eq_of_testBit_eq
  intro i
  rw [Nat.testBit_div_two_pow, rv_b, rv_b]
  by_cases c : i < N
  · rw [decide_eq_true c, decide_eq_true (show i + (16 - N) < 16 by omega), show 16 - 1 - (i + (16 - N)) = N - 1 - i by omega]
  · rw [decide_eq_false c, decide_eq_false (show ¬ i + (16 - N) < 16 by omega)]; rfl
theorem pc_tl {N : Nat} (hN : N ≤ 32) (G : Nat) : pcN N G + pcN N (tlN N G) = N := by
  have h := fb_ct_not (fun j => G.testBit j) N
  have e : pcN N (tlN N G) = fb_ct (fun j => !G.testBit j) N := fb_ct_cong (fun j hj => by rw [tlN_b hN, decide_eq_true hj, Bool.true_and])
  rw [e]
  exact h
theorem e_countAcross (K : Nat) (hK : 200000 ≤ K) {N G : Nat} (hN : Nok4 N) (hG : G < 2 ^ N) (ts : Nat → Int64) (plain rows factors : Nat → Int32) : ∃ (ts' : Nat → Int64) (plain' rows' factors' : Nat → Int32), f_X7_countAcross K (nI N) (lN G) ts plain rows factors = some (ts', plain', rows', factors') ∧ ∀ w, w ≤ N → rows' w = nI (CA N G w) := by
  have hN16 : N ≤ 16 := by rcases hN with rfl | rfl | rfl | rfl <;> omega
  have hp : 2 ^ N ≤ 2 ^ 16 := Nat.pow_le_pow_right (by decide) hN16
  have hpN := pc_le N G
  have e2 : nI (pcN N G) * 2 = nI (pcN N G * 2) := pk_mul (pcN N G) 2
  have hgc : f_X4_goodCount K (lN G) = some (nI (pcN N G)) := by rw [e_goodCount K (by omega), pc_lt (by omega) hG]
  by_cases q : pcN N G * 2 < N
  · have hz : (0 : Int64) = lN 0 := rfl
    obtain ⟨ts', plain', r1, r2⟩ := e_cbo K hK (B := 0) (n4 := 17) hN.n1 hG (Nat.two_pow_pos N) (by omega) (by omega) (by decide) ts plain
    obtain ⟨rows', factors', s1, s2⟩ := e_turn K hK hN (by omega) rows plain' factors (fun w hw => r2 w (by omega))
    refine ⟨ts', plain', rows', factors', ?_, s2⟩
    rw [f_X7_countAcross, hgc, Option.bind_some, e2, if_pos (show nI (pcN N G * 2) < nI N by rw [ltI, nI_toInt (by omega), nI_toInt (by omega)]; omega), hz, r1, Option.bind_some]
    dsimp only
    rw [Option.bind_some, s1, Option.bind_some]
  · have htl : lN (2 ^ N - 1) &&& (lN G ^^^ -1) = lN (tlN N G) := by rw [e_m1, fb_xorL, fb_andL]; rfl
    have htlt := tlN_lt N G
    have hsub : (64 : Int32) - nI N = nI (64 - N) := by
      apply Int32.toInt_inj.mp
      rw [fb_subI (by rw [i_64, nI_toInt (by omega)]; omega) (by rw [i_64, nI_toInt (by omega)]; omega), i_64, nI_toInt (by omega), nI_toInt (by omega)]
      omega
    have hr16 := rv_lt 16 (tlN N G)
    have hsh : gLushr (lN (rvN 16 (tlN N G) * 2 ^ 48)) (nI (64 - N)) = lN (rvN N (tlN N G)) := by
      rw [e_ushrN (by omega) (by rcases hN with rfl | rfl | rfl | rfl <;> omega), rv_16 hN16 htlt]
    have hpr : pcN N (rvN N (tlN N G)) ≤ 12 := by
      have := pc_tl (show N ≤ 32 by omega) G
      rw [pc_rv]
      omega
    have hz : (0 : Int64) = lN 0 := rfl
    obtain ⟨ts', rows', r1, r2⟩ := e_cbo K hK (B := 0) (n4 := 17) hN.n1 (rv_lt N (tlN N G)) (Nat.two_pow_pos N) hpr (by omega) (by decide) ts rows
    refine ⟨ts', plain, rows', factors, ?_, fun w hw => by rw [r2 w (by omega), dual_w hN]⟩
    rw [f_X7_countAcross, hgc, Option.bind_some, e2, if_neg (show ¬ nI (pcN N G * 2) < nI N by rw [ltI, nI_toInt (by omega), nI_toInt (by omega)]; omega), e_all9 K (by omega), Option.bind_some, gLet, htl, e_rev K (by omega), Option.bind_some, hsub, hsh, hz, r1, Option.bind_some]
