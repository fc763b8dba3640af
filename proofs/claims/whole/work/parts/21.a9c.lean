/-! rows seen on sheets; reading -/
theorem rb_succ (f : Nat → Bool) (n : Nat) : rowOfB f (n + 1) = rowOfB f n + (if f n then 2 ^ n else 0) := rfl
theorem rb_lt (f : Nat → Bool) : ∀ n, rowOfB f n < 2 ^ n := by
  intro n
  induction n with
  | zero => exact Nat.one_pos
  | succ n ih =>
    rw [rb_succ, Nat.pow_succ]
    have := Nat.two_pow_pos n
    split <;> omega
theorem rb_or (f : Nat → Bool) (n : Nat) : rowOfB f (n + 1) = rowOfB f n ||| (if f n then 2 ^ n else 0) := by
  rw [rb_succ]
  split
  · exact add_or (rb_lt f n)
  · simp
theorem rb_b (f : Nat → Bool) : ∀ n i, (rowOfB f n).testBit i = (decide (i < n) && f i) := by
  intro n
  induction n with
  | zero => intro i; simp [rowOfB]
  | succ n ih =>
    intro i
    rw [rb_or, Nat.testBit_or, ih]
    by_cases q : i = n
    · subst q
      rw [decide_eq_false (Nat.lt_irrefl i), decide_eq_true (Nat.lt_succ_self i)]
      cases h : f i with
      | false => rw [if_neg nft, Nat.zero_testBit]; rfl
      | true => rw [if_pos rfl, Nat.testBit_two_pow]; simp
    · have h2 : (if f n then 2 ^ n else 0).testBit i = false := by
        split
        · rw [Nat.testBit_two_pow]; exact decide_eq_false (fun z => q z.symm)
        · exact Nat.zero_testBit i
      rw [h2, Bool.or_false]
      congr 1
      exact decide_eq_decide.mpr (by omega)
def c1 (v : Nat → Int64) (j : Nat) : Bool := decide (v j = 1)
def c2 (v : Nat → Int64) (j : Nat) : Bool := decide (¬ v j = 0 ∧ ¬ v j = 1)
theorem lgc_z (x y : Int64) : (lg_cmp x y = 0) = (x = y) := by
  rw [lgc_eq]
  exact propext (fa_eq64 x y).symm
theorem l_onesR (K N : Nat) (hN : N ≤ 32) (v : Nat → Int64) : ∀ (m i k : Nat), i + m = N → m < k → fL_X6_ones_5 K (nI N) v k (nI i, lN (rowOfB (c1 v) i)) = some (nI N, lN (rowOfB (c1 v) N)) := by
  intro m
  induction m with
  | zero =>
    intro i k hi hk
    obtain ⟨k, rfl⟩ : ∃ q, k = q + 1 := ⟨k - 1, by omega⟩
    have hi : i = N := by omega
    subst hi
    rw [fL_X6_ones_5, if_pos (nI_le (Nat.le_refl _) (by omega))]
  | succ m ih =>
    intro i k hi hk
    obtain ⟨k, rfl⟩ : ∃ q, k = q + 1 := ⟨k - 1, by omega⟩
    have h := ih (i + 1) k (by omega) (by omega)
    rw [rb_or] at h
    rw [fL_X6_ones_5, if_neg (nI_ge (show i < N by omega) (by omega)), gIx_nI _ (show i < 40 by omega) (by decide), tnN (by omega)]
    by_cases q : v i = 1
    · rw [if_pos (show lg_cmp (v i) 1 = 0 by rw [lgc_z]; exact q), gLet, gLet, nI_1, e_shl1 (by omega), fb_orL]
      rw [if_pos (show c1 v i = true from decide_eq_true q)] at h
      exact h
    · rw [if_neg (show ¬ lg_cmp (v i) 1 = 0 by rw [lgc_z]; exact q), gLet, nI_1]
      rw [if_neg (show ¬ c1 v i = true by rw [show c1 v i = false from decide_eq_false q]; decide), Nat.or_zero] at h
      exact h
theorem e_onesR (K : Nat) (hK : 200000 ≤ K) {N : Nat} (hN : N ≤ 32) (v : Nat → Int64) : f_X6_ones K (nI N) v = some (lN (rowOfB (c1 v) N)) := by
  have h : fL_X6_ones_5 K (nI N) v K (0, 0) = some (nI N, lN (rowOfB (c1 v) N)) := l_onesR K N hN v N 0 K (by omega) (by omega)
  rw [f_X6_ones, h]; rfl
theorem l_lostR (K N : Nat) (hN : N ≤ 32) (v : Nat → Int64) : ∀ (m i k : Nat), i + m = N → m < k → fL_X6_lostSigns_5 K (nI N) v k (nI i, lN (rowOfB (c2 v) i)) = some (nI N, lN (rowOfB (c2 v) N)) := by
  intro m
  induction m with
  | zero =>
    intro i k hi hk
    obtain ⟨k, rfl⟩ : ∃ q, k = q + 1 := ⟨k - 1, by omega⟩
    have hi : i = N := by omega
    subst hi
    rw [fL_X6_lostSigns_5, if_pos (nI_le (Nat.le_refl _) (by omega))]
  | succ m ih =>
    intro i k hi hk
    obtain ⟨k, rfl⟩ : ∃ q, k = q + 1 := ⟨k - 1, by omega⟩
    have h := ih (i + 1) k (by omega) (by omega)
    rw [rb_or] at h
    rw [fL_X6_lostSigns_5, if_neg (nI_ge (show i < N by omega) (by omega)), gIx_nI _ (show i < 40 by omega) (by decide), gIx_nI _ (show i < 40 by omega) (by decide), tnN (by omega)]
    have hn : (¬ v i = 0 ∧ ¬ v i = 1) ∨ ¬ (¬ v i = 0 ∧ ¬ v i = 1) := Classical.em _
    by_cases q : v i = 0
    · rw [if_pos (show lg_cmp (v i) 0 = 0 by rw [lgc_z]; exact q), gLet, nI_1]
      rw [if_neg (show ¬ c2 v i = true by rw [show c2 v i = false from decide_eq_false (fun z => z.1 q)]; decide), Nat.or_zero] at h
      exact h
    · rw [if_neg (show ¬ lg_cmp (v i) 0 = 0 by rw [lgc_z]; exact q)]
      by_cases q2 : v i = 1
      · rw [if_pos (show lg_cmp (v i) 1 = 0 by rw [lgc_z]; exact q2), gLet, nI_1]
        rw [if_neg (show ¬ c2 v i = true by rw [show c2 v i = false from decide_eq_false (fun z => z.2 q2)]; decide), Nat.or_zero] at h
        exact h
      · rw [if_neg (show ¬ lg_cmp (v i) 1 = 0 by rw [lgc_z]; exact q2), gLet, gLet, nI_1, e_shl1 (by omega), fb_orL]
        rw [if_pos (show c2 v i = true from decide_eq_true ⟨q, q2⟩)] at h
        exact h
theorem e_lostR (K : Nat) (hK : 200000 ≤ K) {N : Nat} (hN : N ≤ 32) (v : Nat → Int64) : f_X6_lostSigns K (nI N) v = some (lN (rowOfB (c2 v) N)) := by
  have h : fL_X6_lostSigns_5 K (nI N) v K (0, 0) = some (nI N, lN (rowOfB (c2 v) N)) := l_lostR K N hN v N 0 K (by omega) (by omega)
  rw [f_X6_lostSigns, h]; rfl
theorem c12 (v : Nat → Int64) (n j : Nat) : ¬ ((rowOfB (c1 v) n).testBit j = true ∧ (rowOfB (c2 v) n).testBit j = true) := by
  rw [rb_b, rb_b]
  unfold c1 c2
  by_cases q : v j = 1
  · simp [q]
  · simp [q]
theorem l_lay (K N s : Nat) (hN : N ≤ 32) (hs : s < 4) (mc v : Nat → Int64) (hv : ∀ j, j < N → v j = mc (40 * s + j)) : ∀ (m i k : Nat) (u : Nat → Int32), i + m = N → m < k → fL_X10_laySeen_2 K (nI s) (nI N) mc k (nI i, u) = some (nI N, fun j => if i ≤ j ∧ j < N then tv (c1 v j) (c2 v j) else u j) := by
  intro m
  induction m with
  | zero =>
    intro i k u hi hk
    obtain ⟨k, rfl⟩ : ∃ q, k = q + 1 := ⟨k - 1, by omega⟩
    have hi : i = N := by omega
    subst hi
    rw [fL_X10_laySeen_2, if_pos (nI_le (Nat.le_refl _) (by omega))]
    refine congrArg some (Prod.ext rfl ?_)
    funext j
    exact (if_neg (by omega)).symm
  | succ m ih =>
    intro i k u hi hk
    obtain ⟨k, rfl⟩ : ∃ q, k = q + 1 := ⟨k - 1, by omega⟩
    have e : (if lg_cmp (v i) 0 = 0 then some (0 : Int32) else if lg_cmp (v i) 1 = 0 then some 1 else some 2) = some (tv (c1 v i) (c2 v i)) := by
      simp only [lgc_z]
      unfold tv c1 c2
      by_cases q : v i = 0
      · rw [if_pos q, decide_eq_false (show ¬ (¬ v i = 0 ∧ ¬ v i = 1) from fun z => z.1 q), decide_eq_false (show ¬ v i = 1 by rw [q]; decide)]; rfl
      · rw [if_neg q]
        by_cases q2 : v i = 1
        · rw [if_pos q2, decide_eq_false (show ¬ (¬ v i = 0 ∧ ¬ v i = 1) from fun z => z.2 q2), decide_eq_true q2]; rfl
        · rw [if_neg q2, decide_eq_true (show ¬ v i = 0 ∧ ¬ v i = 1 from ⟨q, q2⟩)]; rfl
    rw [fL_X10_laySeen_2, if_neg (nI_ge (show i < N by omega) (by omega)), e_40, gIx_nI _ (show 40 * s + i < 160 by omega) (by decide), gLet, tnN (show 40 * s + i < 2 ^ 31 by omega), ← hv i (by omega), e, Option.bind_some, gIx_nI _ (show i < 32 by omega) (by decide), gLet, gLet, nI_1, tnN (show i < 2 ^ 31 by omega), ih (i + 1) k _ (by omega) (by omega)]
    refine congrArg some (Prod.ext rfl ?_)
    funext j
    simp only [upd]
    by_cases q : j = i
    · subst q
      rw [if_neg (by omega), if_pos rfl, if_pos (by omega)]
    · rw [if_neg q]
      by_cases q2 : i ≤ j ∧ j < N
      · rw [if_pos (by omega), if_pos q2]
      · rw [if_neg (by omega), if_neg q2]
theorem e_lay (K : Nat) (hK : 200000 ≤ K) {N s : Nat} (hN : N ≤ 32) (hs : s < 4) (mc v : Nat → Int64) (hv : ∀ j, j < N → v j = mc (40 * s + j)) (me : Nat → Int32) : f_X10_laySeen K (nI s) (nI N) mc me = some (fun j => if 0 ≤ j ∧ j < N then tv (c1 v j) (c2 v j) else me j) := by
  have h : fL_X10_laySeen_2 K (nI s) (nI N) mc K (0, me) = some (nI N, fun j => if 0 ≤ j ∧ j < N then tv (c1 v j) (c2 v j) else me j) := l_lay K N s hN hs mc v hv N 0 K me (by omega) (by omega)
  rw [f_X10_laySeen, h]; rfl
/-- the flaw of a row -/
theorem e_flaw (K : Nat) {N k : Nat} (hN : N ≤ 32) (hN2 : 2 ≤ N) (hk : k < 4) (x2 : Int32) {ush usl usn : Nat → Int32} {usc : Nat → Nat → Int64} {ms ml : Nat → Int32} {mc : Nat → Int64} (hRS : RS ush usl usn usc ms ml mc) : ∃ r : Int32, f_X9_rowFlaw K x2 (nI N) (ush k) (usl k) (usn k) = some r ∧ f_X10_faultOf K (nI k) x2 (nI N) ms ml = some r ∧ ((r = 0 ∧ ∀ j, j < N → usc k j = mc (40 * k + j)) ∨ r = 1 ∨ r = 2 ∨ r = 3) := by
  have e1 : nI N - 1 = nI (N - 1) := by
    apply Int32.toInt_inj.mp
    rw [fb_subI (by rw [nI_toInt (by omega), i_1]; omega) (by rw [nI_toInt (by omega), i_1]; omega), nI_toInt (by omega), nI_toInt (by omega), i_1]
    omega
  unfold f_X9_rowFlaw f_X9_cellFlaw f_X10_faultOf
  simp only [gIx_nI _ hk (by decide), tnN (show k < 2 ^ 31 by omega), e1, e_hasCell]
  rcases hRS k hk with ⟨g1, g2⟩ | ⟨g1, la, le, g2, g3, g4, g5, g6, g7, g8⟩
  · refine ⟨1, ?_, ?_, Or.inr (Or.inl rfl)⟩
    · rw [if_pos g1]; rfl
    · rw [g2, if_pos (show (-1 : Int32) < 0 by decide), if_neg (show ¬ (0 : Int32) ≤ -1 by decide)]
  · have hle : (nI le).toInt = (le : Int) := nI_toInt (by omega)
    rw [if_neg (show ¬ ush k = 0 by rw [g1]; decide), g7, if_neg (show ¬ nI le < (0 : Int32) by rw [ltI, hle, i_0]; omega), if_pos (show (0 : Int32) ≤ nI le by rw [leI, hle, i_0]; omega), g4, g5, g6]
    by_cases q : nI la = x2
    · rw [if_pos q, if_pos q, nI_toInt (by omega), hle, Option.bind_some]
      by_cases q2 : N ≤ le
      · refine ⟨0, ?_, by rw [if_pos (nI_le q2 (by omega))], Or.inl ⟨rfl, fun j hj => g8 j (by omega)⟩⟩
        rw [if_pos (show (0 : Int) ≤ ((N - 1 : Nat) : Int) ∧ ((N - 1 : Nat) : Int) < (le : Int) by omega), if_neg (show ¬ (1 : Int32) = 0 by decide)]
        rfl
      · refine ⟨3, ?_, by rw [if_neg (nI_ge (by omega) (by omega))], Or.inr (Or.inr (Or.inr rfl))⟩
        rw [if_neg (show ¬ ((0 : Int) ≤ ((N - 1 : Nat) : Int) ∧ ((N - 1 : Nat) : Int) < (le : Int)) by omega), if_pos rfl]
        rfl
    · exact ⟨2, by rw [if_neg q]; rfl, by rw [if_neg q], Or.inr (Or.inr (Or.inl rfl))⟩
theorem l_145 (K n : Nat) (hn : n ≤ 64) (nx : Nat → Int64) : ∀ (m i k : Nat) (u : Nat → Int64), i + m = n → m < k → fL_X10_goPlace_145 K (nI n) nx k (nI i, u) = some (nI n, fun j => if i ≤ j ∧ j < n then nx j else u j) := by
  intro m
  induction m with
  | zero =>
    intro i k u hi hk
    obtain ⟨k, rfl⟩ : ∃ q, k = q + 1 := ⟨k - 1, by omega⟩
    have hi : i = n := by omega
    subst hi
    rw [fL_X10_goPlace_145, if_pos (nI_le (Nat.le_refl _) (by omega))]
    refine congrArg some (Prod.ext rfl ?_)
    funext j
    exact (if_neg (by omega)).symm
  | succ m ih =>
    intro i k u hi hk
    obtain ⟨k, rfl⟩ : ∃ q, k = q + 1 := ⟨k - 1, by omega⟩
    rw [fL_X10_goPlace_145, if_neg (nI_ge (show i < n by omega) (by omega)), gIx_nI _ (show i < 130 by omega) (by decide), gLet, gIx_nI _ (show i < 64 by omega) (by decide), gLet, gLet, nI_1, tnN (by omega), ih (i + 1) k _ (by omega) (by omega)]
    refine congrArg some (Prod.ext rfl ?_)
    funext j
    simp only [vp_updL]
    by_cases q : j = i
    · subst q
      rw [if_neg (by omega), if_pos rfl, if_pos (by omega)]
    · rw [if_neg q]
      by_cases q2 : i ≤ j ∧ j < n
      · rw [if_pos (by omega), if_pos q2]
      · rw [if_neg (by omega), if_neg q2]
theorem l_goEnd (K : Nat) (hK : 200000 ≤ K) {N p c W cm' : Nat} (hW : W ≤ 64) (hcm : cm' ≤ 128) {mo : Nat → Int64} {seen mg mz w w' : Nat → Int32} {nx10 nx10' : Nat → Int64} (h : fL_X10_goPlace_7 K (nI p) (nI N) (nI c) mo seen mg mz K (0, 0, w, nx10) = some (nI c, nI cm', w', nx10')) : f_X10_goPlace K (nI p) (nI N) (nI W) (nI c) mo seen w mg mz nx10 = some (nI (min cm' W), nI cm', (fun j => if 0 ≤ j ∧ j < min cm' W then nx10' j else mo j), w', nx10') := by
  have e : (if nI W ≤ nI cm' then some (nI W) else some (nI cm')) = some (nI (min cm' W)) := by
    by_cases q : W ≤ cm'
    · rw [if_pos (nI_le q (by omega)), show min cm' W = W by omega]
    · rw [if_neg (nI_ge (by omega) (by omega)), show min cm' W = cm' by omega]
  have h2 : fL_X10_goPlace_145 K (nI (min cm' W)) nx10' K (0, mo) = some (nI (min cm' W), fun j => if 0 ≤ j ∧ j < min cm' W then nx10' j else mo j) := l_145 K (min cm' W) (by omega) nx10' (min cm' W) 0 K mo (by omega) (by omega)
  rw [f_X10_goPlace, h, Option.bind_some]
  dsimp only
  rw [e, Option.bind_some, h2, Option.bind_some]
theorem l_read (K : Nat) (hK : 200000 ≤ K) {N O L W G F : Nat} (hN : Nok N) (hG : G < 2 ^ N) (hF : F < 2 ^ N) (hO : O < 2 ^ N) (hL : L < 2 ^ N) (hd : ∀ j, ¬ (O.testBit j = true ∧ L.testBit j = true)) (seen : Nat → Int32) (hs : ∀ j, j < N → seen j = tv (O.testBit j) (L.testBit j)) (hW : W ≤ 64) (mg mz : Nat → Int32) (hg : ∀ j, j < 32 → mg j = bI (G.testBit j)) (hz : ∀ j, j < 32 → mz j = bI (F.testBit j)) : ∀ (m p k c zA zB : Nat) (pa nx mo nx10 : Nat → Int64) (w : Nat → Int32) (come : Int32), p + m = N → m < k → c ≤ 64 → AG pa mo c → ∃ (c' zA' zB' : Nat) (pa' nx' mo' nx10' : Nat → Int64) (w' : Nat → Int32) (come' : Int32), fL_X5_readRow_26 K (nI W) (lN O) (lN L) (nI N) (lN G) (lN F) k (nI p, nI c, zA, zB, pa, nx) = some (nI N, nI c', zA', zB', pa', nx') ∧ fL_X10_read_69 K (nI N) (nI W) seen mg mz k (nI p, nI c, come, mo, w, nx10) = some (nI N, nI c', come', mo', w', nx10') ∧ c' ≤ 64 ∧ AG pa' mo' c' := by
  have hN32 : N ≤ 32 := by rcases hN with rfl | rfl | rfl | rfl | rfl <;> omega
  have hp32 : 2 ^ N ≤ 2 ^ 32 := Nat.pow_le_pow_right (by decide) hN32
  intro m
  induction m with
  | zero =>
    intro p k c zA zB pa nx mo nx10 w come hi hk hc hA
    obtain ⟨k, rfl⟩ : ∃ q, k = q + 1 := ⟨k - 1, by omega⟩
    have hi : p = N := by omega
    subst hi
    exact ⟨c, zA, zB, pa, nx, mo, nx10, w, come, by rw [fL_X5_readRow_26, if_pos (nI_le (Nat.le_refl _) (by omega))], by rw [fL_X10_read_69, if_pos (nI_le (Nat.le_refl _) (by omega))], hc, hA⟩
  | succ m ih =>
    intro p k c zA zB pa nx mo nx10 w come hi hk hc hA
    obtain ⟨k, rfl⟩ : ∃ q, k = q + 1 := ⟨k - 1, by omega⟩
    have np : ¬ nI N ≤ nI p := nI_ge (by omega) (by omega)
    cases hb : G.testBit p with
    | true =>
      obtain ⟨i', cm', w', nx9', nx10', r1, r2, r3, r4⟩ := l_passG K hK hN (show p < N by omega) hO hL hd seen hs hc hW pa mo hA mg mz (hg p (by omega)) hb w nx nx10
      have hA' : AG nx9' (fun j => if 0 ≤ j ∧ j < min cm' W then nx10' j else mo j) (min cm' W) := by
        intro j hj
        have e : (if 0 ≤ j ∧ j < min cm' W then nx10' j else mo j) = nx10' j := if_pos ⟨by omega, hj⟩
        show ∃ R : Nat, R < 2 ^ 32 ∧ nx9' j = lN R ∧ (if 0 ≤ j ∧ j < min cm' W then nx10' j else mo j) = lN R
        rw [e]
        exact r4 j hj
      obtain ⟨c2, zA', zB', pa', nx', mo', nx2, w2, come2, q1, q2, q3, q4⟩ := ih (p + 1) k (min cm' W) zB zA nx9' pa _ nx10' w' (nI cm') (by omega) (by omega) (by omega) hA'
      refine ⟨c2, zA', zB', pa', nx', mo', nx2, w2, come2, ?_, ?_, q3, q4⟩
      · rw [fL_X5_readRow_26, if_neg np, e9_isGood K (by omega) (by omega), hb, Option.bind_some, if_neg (show ¬ bI true = 0 by decide), f_X5_passGood, r1, Option.bind_some, Option.bind_some, Option.bind_some]
        dsimp only
        rw [f_X5_turnTo, Option.bind_some, gLet, nI_1]
        exact q1
      · rw [fL_X10_read_69, if_neg np, l_goEnd K hK hW (by omega) r2, Option.bind_some]
        dsimp only
        rw [gLet, nI_1]
        exact q2
    | false =>
      obtain ⟨i', cm', w', nx9', nx10', r1, r2, r3, r4⟩ := l_passF K hK hN (show p < N by omega) hO hL hd seen hs hc hW pa mo hA mg mz (hg p (by omega)) (hz p (by omega)) hb w nx nx10
      have hA' : AG nx9' (fun j => if 0 ≤ j ∧ j < min cm' W then nx10' j else mo j) (min cm' W) := by
        intro j hj
        have e : (if 0 ≤ j ∧ j < min cm' W then nx10' j else mo j) = nx10' j := if_pos ⟨by omega, hj⟩
        show ∃ R : Nat, R < 2 ^ 32 ∧ nx9' j = lN R ∧ (if 0 ≤ j ∧ j < min cm' W then nx10' j else mo j) = lN R
        rw [e]
        exact r4 j hj
      obtain ⟨c2, zA', zB', pa', nx', mo', nx2, w2, come2, q1, q2, q3, q4⟩ := ih (p + 1) k (min cm' W) zB zA nx9' pa _ nx10' w' (nI cm') (by omega) (by omega) (by omega) hA'
      refine ⟨c2, zA', zB', pa', nx', mo', nx2, w2, come2, ?_, ?_, q3, q4⟩
      · rw [fL_X5_readRow_26, if_neg np, e9_isGood K (by omega) (by omega), hb, Option.bind_some, if_pos (show bI false = 0 by rfl), e_frozenBit K (by omega) (by omega), Option.bind_some, f_X5_passFrozen, r1, Option.bind_some, Option.bind_some, Option.bind_some]
        dsimp only
        rw [f_X5_turnTo, Option.bind_some, gLet, nI_1]
        exact q1
      · rw [fL_X10_read_69, if_neg np, l_goEnd K hK hW (by omega) r2, Option.bind_some]
        dsimp only
        rw [gLet, nI_1]
        exact q2
