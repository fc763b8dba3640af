/-! the reference counts all -/
theorem l_15 (K : Nat) : ∀ (m i k : Nat) (u1 u2 u3 : Nat → Int32), i + m = 33 → m < k → fL_X10_countAll_15 K k (nI i, u1, u2, u3) = some (nI 33, (fun j => if i ≤ j ∧ j < 33 then 0 else u1 j), (fun j => if i ≤ j ∧ j < 33 then 0 else u2 j), (fun j => if i ≤ j ∧ j < 33 then 0 else u3 j)) := by
  intro m
  induction m with
  | zero =>
    intro i k u1 u2 u3 hi hk
    obtain ⟨k, rfl⟩ : ∃ q, k = q + 1 := ⟨k - 1, by omega⟩
    have hi : i = 33 := by omega
    subst hi
    rw [fL_X10_countAll_15, if_pos (show (33 : Int32) ≤ nI 33 by decide)]
    refine congrArg some (Prod.ext rfl (Prod.ext ?_ (Prod.ext ?_ ?_))) <;> funext j <;> exact (if_neg (by omega)).symm
  | succ m ih =>
    intro i k u1 u2 u3 hi hk
    obtain ⟨k, rfl⟩ : ∃ q, k = q + 1 := ⟨k - 1, by omega⟩
    have h1 : ¬ (33 : Int32) ≤ nI i := nI_ge (a := i) (b := 33) (by omega) (by decide)
    rw [fL_X10_countAll_15, if_neg h1, gIx_nI _ (show i < 33 by omega) (by decide), gLet, gIx_nI _ (show i < 33 by omega) (by decide), gLet, gIx_nI _ (show i < 33 by omega) (by decide), gLet, gLet, nI_1, tnN (show i < 2 ^ 31 by omega), ih (i + 1) k _ _ _ (by omega) (by omega)]
    refine congrArg some (Prod.ext rfl (Prod.ext ?_ (Prod.ext ?_ ?_))) <;> funext j <;> simp only [upd] <;> repeat' split
    all_goals first | rfl | (exfalso; omega)
theorem l_108 (K : Nat) (hK : 200000 ≤ K) {N G : Nat} (hN : Nok1 N) {mg : Nat → Int32} (hg : ∀ j, j < 32 → mg j = bI (G.testBit j)) : ∀ (m i k : Nat) (u : Nat → Int64), i + m = N → m < k → (∀ p, p < i → G.testBit p = true → u (pcN p G) = lN (FO N (2 ^ p))) → ∃ u', fL_X10_countAll_108 K (nI N) mg k (nI i, nI (pcN i G), u) = some (nI N, nI (pcN N G), u') ∧ (∀ p, p < N → G.testBit p = true → u' (pcN p G) = lN (FO N (2 ^ p))) := by
  have hN32 : N ≤ 32 := by rcases hN with rfl | rfl | rfl | rfl | rfl | rfl <;> omega
  intro m
  induction m with
  | zero =>
    intro i k u hi hk hu
    obtain ⟨k, rfl⟩ : ∃ q, k = q + 1 := ⟨k - 1, by omega⟩
    have hi : i = N := by omega
    subst hi
    exact ⟨u, by rw [fL_X10_countAll_108, if_pos (nI_le (Nat.le_refl _) (by omega))], hu⟩
  | succ m ih =>
    intro i k u hi hk hu
    obtain ⟨k, rfl⟩ : ∃ q, k = q + 1 := ⟨k - 1, by omega⟩
    have hc := pc_le i G
    rw [fL_X10_countAll_108, if_neg (nI_ge (show i < N by omega) (by omega)), gIx_nI _ (show i < 32 by omega) (by decide), tnN (by omega), hg i (by omega)]
    cases hb : G.testBit i with
    | false =>
      obtain ⟨u', r1, r2⟩ := ih (i + 1) k u (by omega) (by omega) (fun p hp hgp => by
        by_cases q : p = i
        · subst q; rw [hb] at hgp; exact absurd hgp nft
        · exact hu p (by omega) hgp)
      rw [pc_n0 hb] at r1
      refine ⟨u', ?_, r2⟩
      rw [if_pos (show bI false = 0 by rfl), gLet, nI_1]
      exact r1
    | true =>
      obtain ⟨u', r1, r2⟩ := ih (i + 1) k (vp_updL u (pcN i G) (lN (FO N (2 ^ i)))) (by omega) (by omega) (fun p hp hgp => by
        simp only [vp_updL]
        by_cases q : p = i
        · subst q; rw [if_pos rfl]
        · have h1 := pc_mono G (show p + 1 ≤ i by omega)
          rw [pc_succ, hgp, if_pos rfl] at h1
          rw [if_neg (by omega)]
          exact hu p (by omega) hgp)
      rw [pc_n1 hb] at r1
      refine ⟨u', ?_, r2⟩
      rw [if_neg (show ¬ bI true = 0 by decide), e_shl1 (by omega), e_fold10 K hK hN (Nat.pow_lt_pow_right (by decide) (show i < N by omega)), Option.bind_some, gIx_nI _ (show pcN i G < 32 by omega) (by decide), gLet, gLet, gLet, nI_1, nI_1, tnN (by omega)]
      exact r1
theorem upd_ct {g : Nat → Nat} {b : Nat → Bool} {i n : Nat} {u : Nat → Int32} (hu : ∀ w, w < n → u w = nI (fb_ct (fun x => g x == w && b x) i)) (hg : g i < n) : ∀ w, w < n → upd u (g i) (u (g i) + bI (b i)) w = nI (fb_ct (fun x => g x == w && b x) (i + 1)) := by
  intro w hw
  simp only [upd]
  rw [fb_ct_succ]
  by_cases q : w = g i
  · rw [if_pos q, hu _ hg, q, beq_self_eq_true, Bool.true_and, bI_nI, nI_add]
  · rw [if_neg q, show (g i == w) = false by simpa using fun z => q (Eq.symm z), Bool.false_and, if_neg nft, Nat.add_zero]
    exact hu w hw
theorem ite_bI (b : Bool) : (if bI b = 0 then some (0 : Int32) else some 1) = some (bI b) := by cases b <;> rfl
theorem l_171 (K : Nat) (hK : 200000 ≤ K) {N G : Nat} (hN : Nok4 N) {mg : Nat → Int32} (hg : ∀ j, j < 32 → mg j = bI (G.testBit j)) (gv : Nat → Int64) (hv : ∀ p, p < N → G.testBit p = true → gv (pcN p G) = lN (FO N (2 ^ p))) : ∀ (m i k : Nat) (u2 u3 : Nat → Int32), i + m = 2 ^ N → m < k → (∀ w, w < 33 → u2 w = nI (fb_ct (fun x => pcN N x == w && orN N G x) i)) → (∀ w, w < 33 → u3 w = nI (fb_ct (fun x => pcN N x == w && (lostN N x &&& G != 0)) i)) → ∃ u2' u3', fL_X10_countAll_171 K (nI N) (nI (pcN N G)) mg gv k (lN i, u2, u3) = some (lN (2 ^ N), u2', u3') ∧ (∀ w, w < 33 → u2' w = nI (CA N G w)) ∧ (∀ w, w < 33 → u3' w = nI (CF N G w)) := by
  have hN16 : N ≤ 16 := by rcases hN with rfl | rfl | rfl | rfl <;> omega
  have hp : 2 ^ N ≤ 2 ^ 16 := Nat.pow_le_pow_right (by decide) hN16
  have hp0 := Nat.two_pow_pos N
  have hcmp : ∀ i, i < 2 ^ 62 → (0 < lg_cmp (lN i) (lN (2 ^ N - 1))) = (2 ^ N ≤ i) := fun i hi => by
    rw [lgc_gt, pk_lT (by omega), pk_lT (by omega)]
    exact propext ⟨fun h => by omega, fun h => by omega⟩
  intro m
  induction m with
  | zero =>
    intro i k u2 u3 hi hk h2 h3
    obtain ⟨k, rfl⟩ : ∃ q, k = q + 1 := ⟨k - 1, by omega⟩
    have hi : i = 2 ^ N := by omega
    subst hi
    exact ⟨u2, u3, by rw [fL_X10_countAll_171, e_all10 K (by omega), Option.bind_some, if_pos (by rw [hcmp _ (by omega)]; exact Nat.le_refl _)], h2, h3⟩
  | succ m ih =>
    intro i k u2 u3 hi hk h2 h3
    obtain ⟨k, rfl⟩ : ∃ q, k = q + 1 := ⟨k - 1, by omega⟩
    have hiN : i < 2 ^ N := by omega
    have hpl := pc_le N i
    obtain ⟨u2', u3', r1, r2, r3⟩ := ih (i + 1) k _ _ (by omega) (by omega) (upd_ct h2 (show pcN N i < 33 by omega)) (upd_ct h3 (show pcN N i < 33 by omega))
    refine ⟨u2', u3', ?_, r2, r3⟩
    rw [fL_X10_countAll_171, e_all10 K (by omega), Option.bind_some, if_neg (by rw [hcmp _ (by omega)]; omega), e_ones K hK (show N ≤ 33 by omega) hiN, Option.bind_some, gIx_nI _ (show pcN N i < 33 by omega) (by decide), e_isAcross K hK hN hiN gv hv, Option.bind_some, ite_bI, Option.bind_some, gLet, gIx_nI _ (show pcN N i < 33 by omega) (by decide), gLet, gIx_nI _ (show pcN N i < 33 by omega) (by decide), e_isFailing K hK hN hiN hg, Option.bind_some, ite_bI, Option.bind_some, gLet, gIx_nI _ (show pcN N i < 33 by omega) (by decide), gLet, gLet, tnN (by omega), lN_1]
    exact r1
theorem CW_cB {N G F : Nat} (hN : Nok1 N) (hGF : G &&& F = 0) (w : Nat) : cB (FO N F) G N (2 ^ pcN N G) w = CW N G F w :=
  fb_ct_cong (fun m _ => by rw [wd_wB hN hGF])
theorem Nok4_of {N : Nat} (hN : Nok N) (h : N ≤ 16) : Nok4 N := by
  rcases hN with rfl | rfl | rfl | rfl | rfl
  · exact Or.inl rfl
  · exact Or.inr (Or.inl rfl)
  · exact Or.inr (Or.inr (Or.inl rfl))
  · exact Or.inr (Or.inr (Or.inr rfl))
  · exact absurd h (by decide)
theorem e_countAll (K : Nat) (hK : 200000 ≤ K) {N G F : Nat} (hN : Nok N) (hF : F < 2 ^ N) (hGF : G &&& F = 0) {mg mz : Nat → Int32} (hg : ∀ j, j < 32 → mg j = bI (G.testBit j)) (hz : ∀ j, j < 32 → mz j = bI (F.testBit j)) {mi : Int32} {mC mA mF : Nat → Int32} (hm : mi = 0 ∨ (mi = 1 ∧ (pcN N G ≤ 12 → ∀ w, w ≤ N → mC w = nI (CW N G F w)) ∧ (N ≤ 16 → ∀ w, w ≤ N → mA w = nI (CA N G w) ∧ mF w = nI (CF N G w)))) (mb : Int32) (mv : Nat → Int64) : ∃ (b' : Int32) (C' A' F' : Nat → Int32) (v' : Nat → Int64), f_X10_countAll K (nI N) mi mb mC mA mF mg mz mv = some (1, b', C', A', F', v') ∧ (pcN N G ≤ 12 → ∀ w, w ≤ N → C' w = nI (CW N G F w)) ∧ (N ≤ 16 → ∀ w, w ≤ N → A' w = nI (CA N G w) ∧ F' w = nI (CF N G w)) := by
  have hN1 : Nok1 N := Or.inr hN
  have hN32 : N ≤ 32 := by rcases hN with rfl | rfl | rfl | rfl | rfl <;> omega
  rcases hm with rfl | ⟨rfl, h1, h2⟩
  · have e15 : fL_X10_countAll_15 K K (0, mC, mA, mF) = some (nI 33, (fun j => if 0 ≤ j ∧ j < 33 then 0 else mC j), (fun j => if 0 ≤ j ∧ j < 33 then 0 else mA j), (fun j => if 0 ≤ j ∧ j < 33 then 0 else mF j)) := l_15 K 33 0 K mC mA mF (by omega) (by omega)
    have hpN := pc_le N G
    obtain ⟨v', v1, v2⟩ := l_108 K hK hN1 hg N 0 K mv (by omega) (by omega) (fun p hp => absurd hp (by omega))
    have v1' : fL_X10_countAll_108 K (nI N) mg K (0, 0, mv) = some (nI N, nI (pcN N G), v') := v1
    have hA : N ≤ 16 → ∃ A' F' : Nat → Int32, fL_X10_countAll_171 K (nI N) (nI (pcN N G)) mg v' K (0, (fun j => if 0 ≤ j ∧ j < 33 then 0 else mA j), (fun j => if 0 ≤ j ∧ j < 33 then 0 else mF j)) = some (lN (2 ^ N), A', F') ∧ (∀ w, w < 33 → A' w = nI (CA N G w)) ∧ (∀ w, w < 33 → F' w = nI (CF N G w)) := fun q => by
      have hp : 2 ^ N ≤ 2 ^ 16 := Nat.pow_le_pow_right (by decide) q
      exact l_171 K hK (Nok4_of hN q) hg v' v2 (2 ^ N) 0 K (fun j => if 0 ≤ j ∧ j < 33 then 0 else mA j) (fun j => if 0 ≤ j ∧ j < 33 then 0 else mF j) (by omega) (by omega) (fun w hw => if_pos ⟨by omega, hw⟩) (fun w hw => if_pos ⟨by omega, hw⟩)
    by_cases q12 : pcN N G ≤ 12
    · have n12 : ¬ (12 : Int32) < nI (pcN N G) := by rw [ltI, nI_toInt (by omega), i_12]; omega
      obtain ⟨C', c1, c2⟩ := l_59 K hK hN1 hF hGF rfl q12 hg hz (2 ^ pcN N G) 0 K (fun j => if 0 ≤ j ∧ j < 33 then 0 else mC j) (by omega) (by
        have : 2 ^ pcN N G ≤ 2 ^ 12 := Nat.pow_le_pow_right (by decide) q12
        omega) (fun w hw => if_pos ⟨by omega, hw⟩)
      have c1' : fL_X10_countAll_59 K (nI N) mg mz K (0, fun j => if 0 ≤ j ∧ j < 33 then 0 else mC j) = some (lN (2 ^ pcN N G), C') := c1
      have c2' : pcN N G ≤ 12 → ∀ w, w ≤ N → C' w = nI (CW N G F w) := fun _ w hw => by rw [c2 w (by omega), CW_cB hN1 hGF]
      by_cases q : N ≤ 16
      · obtain ⟨A', F', r1, r2, r3⟩ := hA q
        refine ⟨nI (pcN N G), C', A', F', v', ?_, c2', fun _ w hw => ⟨r2 w (by omega), r3 w (by omega)⟩⟩
        rw [f_X10_countAll, if_pos rfl, e15, Option.bind_some]
        dsimp only
        rw [e_goods K N G hK mg hN32 hg, Option.bind_some, if_neg n12, c1', Option.bind_some]
        dsimp only
        rw [Option.bind_some, v1', Option.bind_some]
        dsimp only
        rw [if_neg (show ¬ (16 : Int32) < nI N by rw [ltI, nI_toInt (by omega), i_16]; omega), r1, Option.bind_some]
      · refine ⟨nI (pcN N G), C', (fun j => if 0 ≤ j ∧ j < 33 then 0 else mA j), (fun j => if 0 ≤ j ∧ j < 33 then 0 else mF j), v', ?_, c2', fun h => absurd h q⟩
        rw [f_X10_countAll, if_pos rfl, e15, Option.bind_some]
        dsimp only
        rw [e_goods K N G hK mg hN32 hg, Option.bind_some, if_neg n12, c1', Option.bind_some]
        dsimp only
        rw [Option.bind_some, v1', Option.bind_some]
        dsimp only
        rw [if_pos (show (16 : Int32) < nI N by rw [ltI, nI_toInt (by omega), i_16]; omega)]
    · have n12 : (12 : Int32) < nI (pcN N G) := by rw [ltI, nI_toInt (by omega), i_12]; omega
      by_cases q : N ≤ 16
      · obtain ⟨A', F', r1, r2, r3⟩ := hA q
        refine ⟨nI (pcN N G), (fun j => if 0 ≤ j ∧ j < 33 then 0 else mC j), A', F', v', ?_, fun h => absurd h q12, fun _ w hw => ⟨r2 w (by omega), r3 w (by omega)⟩⟩
        rw [f_X10_countAll, if_pos rfl, e15, Option.bind_some]
        dsimp only
        rw [e_goods K N G hK mg hN32 hg, Option.bind_some, if_pos n12, Option.bind_some, v1', Option.bind_some]
        dsimp only
        rw [if_neg (show ¬ (16 : Int32) < nI N by rw [ltI, nI_toInt (by omega), i_16]; omega), r1, Option.bind_some]
      · refine ⟨nI (pcN N G), (fun j => if 0 ≤ j ∧ j < 33 then 0 else mC j), (fun j => if 0 ≤ j ∧ j < 33 then 0 else mA j), (fun j => if 0 ≤ j ∧ j < 33 then 0 else mF j), v', ?_, fun h => absurd h q12, fun h => absurd h q⟩
        rw [f_X10_countAll, if_pos rfl, e15, Option.bind_some]
        dsimp only
        rw [e_goods K N G hK mg hN32 hg, Option.bind_some, if_pos n12, Option.bind_some, v1', Option.bind_some]
        dsimp only
        rw [if_pos (show (16 : Int32) < nI N by rw [ltI, nI_toInt (by omega), i_16]; omega)]
  · exact ⟨mb, mC, mA, mF, mv, by rw [f_X10_countAll, if_neg (by decide)], h1, h2⟩
