/-! passing a place: both sides give the same paths -/
theorem Nok_pow {N : Nat} (h : Nok N) : ∃ t, t ≤ 5 ∧ N = 2 ^ t := by
  rcases h with rfl | rfl | rfl | rfl | rfl
  · exact ⟨1, by decide, rfl⟩
  · exact ⟨2, by decide, rfl⟩
  · exact ⟨3, by decide, rfl⟩
  · exact ⟨4, by decide, rfl⟩
  · exact ⟨5, by decide, rfl⟩
theorem e_told (K : Nat) (hK : 200000 ≤ K) {N p R O L : Nat} (hN : Nok N) (hp : p < N) (hR : R < 2 ^ 32) (hO : O < 2 ^ N) (hL : L < 2 ^ N) (hd : ∀ j, ¬ (O.testBit j = true ∧ L.testBit j = true)) (seen : Nat → Int32) (hs : ∀ j, j < N → seen j = tv (O.testBit j) (L.testBit j)) (work : Nat → Int32) : ∃ (r : Int32) (w' : Nat → Int32), f_X5_bitTold K (nI N) (nI p) (lN R) (lN O) (lN L) = some r ∧ f_X10_theBit K (lN R) (nI p) (nI N) seen work = some (r, w') ∧ (r = 0 ∨ r = 1 ∨ r = 2) := by
  obtain ⟨t, ht, rfl⟩ := Nok_pow hN
  have h32 : 2 ^ t ≤ 2 ^ 5 := Nat.pow_le_pow_right (by decide) ht
  have h3 := l_tb3 K (2 ^ t) (by omega) seen (2 ^ t) 0 K work (by omega) (by omega)
  obtain ⟨x, O', L', a, b, u', r1, r2, r3, r4, r5⟩ := l_bit K hK R p hR (by omega) t K O L 0 (fun j => if 0 ≤ j ∧ j < 2 ^ t then seen j else work j) ht (by omega) hO hL hd (by omega) (fun j hj => by rw [if_pos ⟨by omega, hj⟩]; exact hs j hj)
  rw [Nat.pow_zero, Nat.div_one] at r1
  rw [Nat.mod_eq_of_lt hp] at r2
  have h3' : fL_X10_theBit_3 K (nI (2 ^ t)) seen K (0, work) = some (nI (2 ^ t), fun j => if 0 ≤ j ∧ j < 2 ^ t then seen j else work j) := h3
  have r2' : fL_X10_theBit_46 K (lN R) K (nI (2 ^ t / 2), nI p, 0, fun j => if 0 ≤ j ∧ j < 2 ^ t then seen j else work j) = some (0, a, b, u') := r2
  refine ⟨tv (O'.testBit 0) (L'.testBit 0), u', ?_, ?_, ?_⟩
  · rw [f_X5_bitTold, gLet, p2half t ht, r1, Option.bind_some]
    dsimp only
    rcases (show L' = 0 ∨ L' = 1 by omega) with rfl | rfl <;> rcases (show O' = 0 ∨ O' = 1 by omega) with rfl | rfl <;> decide
  · rw [f_X10_theBit, h3', Option.bind_some]
    dsimp only
    rw [gLet, p2half t ht, r2', Option.bind_some]
    dsimp only
    rw [← r5]
    rfl
  · cases O'.testBit 0 <;> cases L'.testBit 0 <;> decide
def AG (a b : Nat → Int64) (n : Nat) : Prop := ∀ j, j < n → ∃ R : Nat, R < 2 ^ 32 ∧ a j = lN R ∧ b j = lN R
def wr2 (nx : Nat → Int64) (cm : Nat) (e v1 v2 : Nat) : Nat → Int64 := if e = 0 then nx else if e = 1 then vp_updL nx cm (lN v1) else vp_updL (vp_updL nx cm (lN v1)) (cm + 1) (lN v2)
theorem AG.put {a b : Nat → Int64} {n v : Nat} (h : AG a b n) (hv : v < 2 ^ 32) : AG (vp_updL a n (lN v)) (vp_updL b n (lN v)) (n + 1) := by
  intro j hj
  simp only [vp_updL]
  by_cases q : j = n
  · exact ⟨v, hv, by rw [if_pos q], by rw [if_pos q]⟩
  · obtain ⟨R, h1, h2, h3⟩ := h j (by omega)
    exact ⟨R, h1, by rw [if_neg q]; exact h2, by rw [if_neg q]; exact h3⟩
theorem AG.putR {a b : Nat → Int64} {n m : Nat} {v : Int64} (h : AG a b n) (hm : n ≤ m) : AG a (vp_updL b m v) n := by
  intro j hj
  obtain ⟨R, h1, h2, h3⟩ := h j hj
  exact ⟨R, h1, h2, by simp only [vp_updL]; rw [if_neg (by omega)]; exact h3⟩
theorem AG.wrR {a b : Nat → Int64} {n m e v1 v2 : Nat} (h : AG a b n) (hm : n ≤ m) : AG a (wr2 b m e v1 v2) n := by
  unfold wr2
  repeat' split
  · exact h
  · exact h.putR hm
  · exact (h.putR hm).putR (by omega)
theorem AG.wr {a b : Nat → Int64} {cm W e v1 v2 : Nat} (h : AG a b cm) (hW : cm < W) (he : e ≤ 2) (h1 : v1 < 2 ^ 32) (h2 : v2 < 2 ^ 32) : AG (wr2 a cm (min e (W - cm)) v1 v2) (wr2 b cm e v1 v2) (min (cm + e) W) := by
  rcases (show e = 0 ∨ e = 1 ∨ e = 2 by omega) with rfl | rfl | rfl
  · rw [show min 0 (W - cm) = 0 by omega, show min (cm + 0) W = cm by omega]
    exact h
  · rw [show min 1 (W - cm) = 1 by omega, show min (cm + 1) W = cm + 1 by omega]
    exact h.put h1
  · by_cases q : cm + 1 < W
    · rw [show min 2 (W - cm) = 2 by omega, show min (cm + 2) W = cm + 1 + 1 by omega]
      exact (h.put h1).put h2
    · rw [show min 2 (W - cm) = 1 by omega, show min (cm + 2) W = cm + 1 by omega]
      exact (h.put h1).putR (by omega)
theorem l_pass {CL : Nat → Int32 × Int32 × (Nat → Int64) → Option (Int32 × Int32 × (Nat → Int64))} {ML : Nat → Int32 × Int32 × (Nat → Int32) × (Nat → Int64) → Option (Int32 × Int32 × (Nat → Int32) × (Nat → Int64))} {c W : Nat} (hc : c ≤ 64)
    (hexit : ∀ (k i md : Nat) (nx : Nat → Int64), i ≤ c → md ≤ W → (c ≤ i ∨ W ≤ md) → CL (k + 1) (nI i, nI md, nx) = some (nI i, nI md, nx))
    (hmexit : ∀ (k : Nat) (cm : Int32) (w : Nat → Int32) (nx : Nat → Int64), ML (k + 1) (nI c, cm, w, nx) = some (nI c, cm, w, nx))
    (hstep : ∀ i, i < c → ∀ w : Nat → Int32, ∃ (e v1 v2 : Nat) (w' : Nat → Int32), e ≤ 2 ∧ v1 < 2 ^ 32 ∧ v2 < 2 ^ 32 ∧ (∀ (k cm : Nat) (nx : Nat → Int64), cm < 128 → ML (k + 1) (nI i, nI cm, w, nx) = ML k (nI (i + 1), nI (cm + e), w', wr2 nx cm e v1 v2)) ∧ (∀ (k cm : Nat) (nx : Nat → Int64), cm < W → CL (k + 1) (nI i, nI cm, nx) = CL k (nI (i + 1), nI (min (cm + e) W), wr2 nx cm (min e (W - cm)) v1 v2))) :
    ∀ (m i k cm : Nat) (w : Nat → Int32) (nx9 nx10 : Nat → Int64), i + m = c → m < k → cm ≤ 2 * i → AG nx9 nx10 (min cm W) → ∃ (i' : Int32) (cm' : Nat) (w' : Nat → Int32) (nx9' nx10' : Nat → Int64), CL k (nI i, nI (min cm W), nx9) = some (i', nI (min cm' W), nx9') ∧ ML k (nI i, nI cm, w, nx10) = some (nI c, nI cm', w', nx10') ∧ cm' ≤ 2 * c ∧ AG nx9' nx10' (min cm' W) := by
  intro m
  induction m with
  | zero =>
    intro i k cm w nx9 nx10 hi hk hcm hA
    obtain ⟨k, rfl⟩ : ∃ q, k = q + 1 := ⟨k - 1, by omega⟩
    have hi : i = c := by omega
    subst hi
    exact ⟨_, cm, w, nx9, nx10, hexit k i _ nx9 (by omega) (by omega) (Or.inl (by omega)), hmexit k _ w nx10, hcm, hA⟩
  | succ m ih =>
    intro i k cm w nx9 nx10 hi hk hcm hA
    obtain ⟨k, rfl⟩ : ∃ q, k = q + 1 := ⟨k - 1, by omega⟩
    obtain ⟨e, v1, v2, w', s1, s2, s3, s4, s5⟩ := hstep i (by omega) w
    by_cases q : cm < W
    · rw [show min cm W = cm by omega] at hA ⊢
      obtain ⟨i', cm', w2, nx9', nx10', r1, r2, r3, r4⟩ := ih (i + 1) k (cm + e) w' _ _ (by omega) (by omega) (by omega) (hA.wr q s1 s2 s3)
      exact ⟨i', cm', w2, nx9', nx10', by rw [s5 k cm nx9 q]; exact r1, by rw [s4 k cm nx10 (by omega)]; exact r2, r3, r4⟩
    · rw [show min cm W = W by omega] at hA ⊢
      have hA2 : AG nx9 (wr2 nx10 cm e v1 v2) (min (cm + e) W) := by
        rw [show min (cm + e) W = W by omega]
        exact hA.wrR (by omega)
      obtain ⟨i', cm', w2, nx9', nx10', r1, r2, r3, r4⟩ := ih (i + 1) k (cm + e) w' nx9 _ (by omega) (by omega) (by omega) hA2
      obtain ⟨k2, rfl⟩ : ∃ q, k = q + 1 := ⟨k - 1, by omega⟩
      rw [show min (cm + e) W = W by omega, hexit k2 (i + 1) W nx9 (by omega) (by omega) (Or.inr (by omega))] at r1
      have r5 := Option.some.inj r1
      have r6 := congrArg (fun z => z.2.1) r5
      have r7 := congrArg (fun z => z.2.2) r5
      dsimp only at r6 r7
      refine ⟨nI i, cm', w2, nx9', nx10', ?_, by rw [s4 _ cm nx10 (by omega)]; exact r2, r3, r4⟩
      rw [hexit _ i W nx9 (by omega) (by omega) (Or.inr (by omega)), ← r6, ← r7]
theorem e_goOn (K : Nat) {R b p cm : Nat} (hp : p < 32) (hcm : cm < 130) (nx : Nat → Int64) : f_X10_goOn K (lN R) (nI p) (lN b) (nI cm) nx = some (nI (cm + 1), vp_updL nx cm (lN (R ||| b * 2 ^ p))) := by
  have e : gLshl (lN b) (nI p) = lN (b * 2 ^ p) := wb_shl b (by omega)
  rw [f_X10_goOn, gLet, gIx_nI _ hcm (by decide), gLet, gLet, nI_1, tnN (by omega), e, fb_orL]
theorem or2_lt {R p b : Nat} (hR : R < 2 ^ 32) (hp : p < 32) (hb : b < 2) : R ||| b * 2 ^ p < 2 ^ 32 := by
  refine Nat.or_lt_two_pow hR ?_
  have : 2 ^ p < 2 ^ 32 := Nat.pow_lt_pow_right (by decide) hp
  rcases (show b = 0 ∨ b = 1 by omega) with rfl | rfl <;> omega
theorem r_ne : ¬ (0 : Int32) = 2 ∧ ¬ (1 : Int32) = 2 ∧ ¬ (0 : Int32) = 1 ∧ ¬ (1 : Int32) = 0 ∧ ¬ (2 : Int32) = 0 ∧ ¬ (2 : Int32) = 1 := by decide
/-- a good place -/
theorem l_passG (K : Nat) (hK : 200000 ≤ K) {N p O L c W G : Nat} (hN : Nok N) (hp : p < N) (hO : O < 2 ^ N) (hL : L < 2 ^ N) (hd : ∀ j, ¬ (O.testBit j = true ∧ L.testBit j = true)) (seen : Nat → Int32) (hs : ∀ j, j < N → seen j = tv (O.testBit j) (L.testBit j)) (hc : c ≤ 64) (hW : W ≤ 64) (pa mo : Nat → Int64) (hA : AG pa mo c) (mg mz : Nat → Int32) (hg : mg p = bI (G.testBit p)) (hb : G.testBit p = true) (w : Nat → Int32) (nx9 nx10 : Nat → Int64) : ∃ (i' : Int32) (cm' : Nat) (w' : Nat → Int32) (nx9' nx10' : Nat → Int64), fL_X5_passGood_5 K (nI N) (nI p) (nI W) (nI c) (lN O) (lN L) pa K (0, 0, nx9) = some (i', nI (min cm' W), nx9') ∧ fL_X10_goPlace_7 K (nI p) (nI N) (nI c) mo seen mg mz K (0, 0, w, nx10) = some (nI c, nI cm', w', nx10') ∧ cm' ≤ 2 * c ∧ AG nx9' nx10' (min cm' W) := by
  have hN32 : N ≤ 32 := by rcases hN with rfl | rfl | rfl | rfl | rfl <;> omega
  have h := l_pass (CL := fL_X5_passGood_5 K (nI N) (nI p) (nI W) (nI c) (lN O) (lN L) pa) (ML := fL_X10_goPlace_7 K (nI p) (nI N) (nI c) mo seen mg mz) (c := c) (W := W) hc ?_ ?_ ?_ c 0 K 0 w nx9 nx10 (by omega) (by omega) (by omega) (fun j hj => absurd hj (by omega))
  · rw [show min 0 W = 0 by omega] at h
    exact h
  · intro k i md nx h1 h2 h3
    rw [fL_X5_passGood_5]
    by_cases q : c ≤ i
    · rw [if_pos (nI_le q (by omega))]
    · rw [if_neg (nI_ge (show i < c by omega) (by omega)), if_pos (nI_le (show W ≤ md by omega) (by omega))]
  · intro k cm w nx
    rw [fL_X10_goPlace_7, if_pos (nI_le (Nat.le_refl _) (by omega))]
  · intro i hi w
    obtain ⟨R, hR, r1, r2⟩ := hA i hi
    obtain ⟨r, w', t1, t2, t3⟩ := e_told K hK hN hp hR hO hL hd seen hs w
    have hor := or2_lt hR (show p < 32 by omega) (show 1 < 2 by decide)
    have ngi : ¬ nI c ≤ nI i := nI_ge hi (by omega)
    have m0 : ∀ cm, cm < 130 → ∀ nx, f_X10_goOn K (lN R) (nI p) 0 (nI cm) nx = some (nI (cm + 1), vp_updL nx cm (lN R)) := fun cm hcm nx => by
      have := e_goOn K (R := R) (b := 0) (show p < 32 by omega) hcm nx
      rw [Nat.zero_mul, Nat.or_zero] at this
      exact this
    have m1 : ∀ cm, cm < 130 → ∀ nx, f_X10_goOn K (lN R) (nI p) 1 (nI cm) nx = some (nI (cm + 1), vp_updL nx cm (lN (R ||| 1 * 2 ^ p))) := fun cm hcm nx => e_goOn K (R := R) (b := 1) (show p < 32 by omega) hcm nx
    have c1 : lN R ||| gLshl 1 (nI p) = lN (R ||| 1 * 2 ^ p) := by rw [e_shl1 (by omega), fb_orL, Nat.one_mul]
    have s10 : ∀ k cm nx, fL_X10_goPlace_7 K (nI p) (nI N) (nI c) mo seen mg mz (k + 1) (nI i, nI cm, w, nx) = Option.bind (if r = 2 then some (0 : Int64) else some (Int32.toInt64 r)) fun ms_36 => Option.bind (f_X10_goOn K (lN R) (nI p) ms_36 (nI cm) nx) fun (o_38, o_39) => if r = 2 then Option.bind (f_X10_goOn K (lN R) (nI p) 1 o_38 o_39) fun (o_42, o_43) => fL_X10_goPlace_7 K (nI p) (nI N) (nI c) mo seen mg mz k (nI (i + 1), o_42, w', o_43) else fL_X10_goPlace_7 K (nI p) (nI N) (nI c) mo seen mg mz k (nI (i + 1), o_38, w', o_39) := by
      intro k cm nx
      rw [fL_X10_goPlace_7, if_neg ngi]
      simp only [gIx_nI _ (show i < 64 by omega) (by decide), gIx_nI _ (show p < 32 by omega) (by decide), tnN (show i < 2 ^ 31 by omega), tnN (show p < 2 ^ 31 by omega), r2, t2, Option.bind_some, gLet, nI_1, hg, hb]
      rw [if_neg (show ¬ bI true = 0 by decide)]
    have s9 : ∀ k cm nx, cm < W → fL_X5_passGood_5 K (nI N) (nI p) (nI W) (nI c) (lN O) (lN L) pa (k + 1) (nI i, nI cm, nx) = Option.bind (α := Int32 × (Nat → Int64)) (if r = 1 then some (nI cm, nx) else some (nI (cm + 1), vp_updL nx cm (lN R))) fun (m3_21, mc_22) => if r = 0 then fL_X5_passGood_5 K (nI N) (nI p) (nI W) (nI c) (lN O) (lN L) pa k (nI (i + 1), m3_21, mc_22) else if nI W ≤ m3_21 then fL_X5_passGood_5 K (nI N) (nI p) (nI W) (nI c) (lN O) (lN L) pa k (nI (i + 1), m3_21, mc_22) else gIx m3_21 64 (fL_X5_passGood_5 K (nI N) (nI p) (nI W) (nI c) (lN O) (lN L) pa k (nI (i + 1), m3_21 + 1, vp_updL mc_22 (Int32.toNatClampNeg m3_21) (lN (R ||| 1 * 2 ^ p)))) := by
      intro k cm nx hcm
      rw [fL_X5_passGood_5, if_neg ngi, if_neg (nI_ge hcm (by omega))]
      simp only [gIx_nI _ (show i < 64 by omega) (by decide), gIx_nI _ (show cm < 64 by omega) (by decide), tnN (show i < 2 ^ 31 by omega), tnN (show cm < 2 ^ 31 by omega), r1, t1, Option.bind_some, gLet, nI_1, c1]
    obtain ⟨z1, z2, z3, z4, z5, z6⟩ := r_ne
    rcases t3 with rfl | rfl | rfl
    · refine ⟨1, R, R, w', by decide, hR, hR, ?_, ?_⟩
      · intro k cm nx hcm
        rw [s10, if_neg z1, Option.bind_some, show Int32.toInt64 0 = 0 by decide, m0 cm (by omega), Option.bind_some]
        dsimp only
        rw [if_neg z1]
        rfl
      · intro k cm nx hcm
        rw [s9 k cm nx hcm, if_neg z3, Option.bind_some]
        dsimp only
        rw [if_pos rfl, show min (cm + 1) W = cm + 1 by omega, show min 1 (W - cm) = 1 by omega]
        rfl
    · refine ⟨1, R ||| 1 * 2 ^ p, R, w', by decide, hor, hR, ?_, ?_⟩
      · intro k cm nx hcm
        rw [s10, if_neg z2, Option.bind_some, show Int32.toInt64 1 = 1 by decide, m1 cm (by omega), Option.bind_some]
        dsimp only
        rw [if_neg z2]
        rfl
      · intro k cm nx hcm
        rw [s9 k cm nx hcm, if_pos rfl, Option.bind_some]
        dsimp only
        rw [if_neg z4, if_neg (nI_ge hcm (by omega)), gIx_nI _ (show cm < 64 by omega) (by decide), nI_1, tnN (by omega), show min (cm + 1) W = cm + 1 by omega, show min 1 (W - cm) = 1 by omega]
        rfl
    · refine ⟨2, R, R ||| 1 * 2 ^ p, w', by decide, hR, hor, ?_, ?_⟩
      · intro k cm nx hcm
        rw [s10, if_pos rfl, Option.bind_some, m0 cm (by omega), Option.bind_some]
        dsimp only
        rw [if_pos rfl, m1 (cm + 1) (by omega), Option.bind_some]
        rfl
      · intro k cm nx hcm
        rw [s9 k cm nx hcm, if_neg z6, Option.bind_some]
        dsimp only
        rw [if_neg z5]
        by_cases q : cm + 1 < W
        · rw [if_neg (nI_ge q (by omega)), gIx_nI _ (show cm + 1 < 64 by omega) (by decide), nI_1, tnN (by omega), show min (cm + 2) W = cm + 1 + 1 by omega, show min 2 (W - cm) = 2 by omega]
          rfl
        · rw [if_pos (nI_le (show W ≤ cm + 1 by omega) (by omega)), show min (cm + 2) W = cm + 1 by omega, show min 2 (W - cm) = 1 by omega]
          rfl
/-- a frozen place -/
theorem l_passF (K : Nat) (hK : 200000 ≤ K) {N p O L c W G F : Nat} (hN : Nok N) (hp : p < N) (hO : O < 2 ^ N) (hL : L < 2 ^ N) (hd : ∀ j, ¬ (O.testBit j = true ∧ L.testBit j = true)) (seen : Nat → Int32) (hs : ∀ j, j < N → seen j = tv (O.testBit j) (L.testBit j)) (hc : c ≤ 64) (hW : W ≤ 64) (pa mo : Nat → Int64) (hA : AG pa mo c) (mg mz : Nat → Int32) (hg : mg p = bI (G.testBit p)) (hz : mz p = bI (F.testBit p)) (hb : G.testBit p = false) (w : Nat → Int32) (nx9 nx10 : Nat → Int64) : ∃ (i' : Int32) (cm' : Nat) (w' : Nat → Int32) (nx9' nx10' : Nat → Int64), fL_X5_passFrozen_6 K (nI N) (nI p) (bI (F.testBit p)) (nI W) (nI c) (lN O) (lN L) pa K (0, 0, nx9) = some (i', nI (min cm' W), nx9') ∧ fL_X10_goPlace_7 K (nI p) (nI N) (nI c) mo seen mg mz K (0, 0, w, nx10) = some (nI c, nI cm', w', nx10') ∧ cm' ≤ 2 * c ∧ AG nx9' nx10' (min cm' W) := by
  have hN32 : N ≤ 32 := by rcases hN with rfl | rfl | rfl | rfl | rfl <;> omega
  have h := l_pass (CL := fL_X5_passFrozen_6 K (nI N) (nI p) (bI (F.testBit p)) (nI W) (nI c) (lN O) (lN L) pa) (ML := fL_X10_goPlace_7 K (nI p) (nI N) (nI c) mo seen mg mz) (c := c) (W := W) hc ?_ ?_ ?_ c 0 K 0 w nx9 nx10 (by omega) (by omega) (by omega) (fun j hj => absurd hj (by omega))
  · rw [show min 0 W = 0 by omega] at h
    exact h
  · intro k i md nx h1 h2 h3
    rw [fL_X5_passFrozen_6]
    by_cases q : c ≤ i
    · rw [if_pos (nI_le q (by omega))]
    · rw [if_neg (nI_ge (show i < c by omega) (by omega)), if_pos (nI_le (show W ≤ md by omega) (by omega))]
  · intro k cm w nx
    rw [fL_X10_goPlace_7, if_pos (nI_le (Nat.le_refl _) (by omega))]
  · intro i hi w
    obtain ⟨R, hR, r1, r2⟩ := hA i hi
    obtain ⟨r, w', t1, t2, t3⟩ := e_told K hK hN hp hR hO hL hd seen hs w
    have hf2 : (if F.testBit p then 1 else 0) < 2 := by split <;> decide
    have hor := or2_lt hR (show p < 32 by omega) hf2
    have ngi : ¬ nI c ≤ nI i := nI_ge hi (by omega)
    have efb : Int32.toInt64 (bI (F.testBit p)) = lN (if F.testBit p then 1 else 0) := by rw [bI_nI, nI_l (by omega)]
    have m1 : ∀ cm, cm < 130 → ∀ nx, f_X10_goOn K (lN R) (nI p) (Int32.toInt64 (bI (F.testBit p))) (nI cm) nx = some (nI (cm + 1), vp_updL nx cm (lN (R ||| (if F.testBit p then 1 else 0) * 2 ^ p))) := fun cm hcm nx => by
      rw [efb]
      exact e_goOn K (show p < 32 by omega) hcm nx
    have c1 : lN R ||| gLshl (Int32.toInt64 (bI (F.testBit p))) (nI p) = lN (R ||| (if F.testBit p then 1 else 0) * 2 ^ p) := by
      have : gLshl (Int32.toInt64 (bI (F.testBit p))) (nI p) = lN ((if F.testBit p then 1 else 0) * 2 ^ p) := by
        rw [efb]
        exact wb_shl _ (by omega)
      rw [this, fb_orL]
    by_cases q : r = 2 ∨ r = bI (F.testBit p)
    · refine ⟨1, _, R, w', by decide, hor, hR, ?_, ?_⟩
      · intro k cm nx hcm
        rw [fL_X10_goPlace_7, if_neg ngi]
        simp only [gIx_nI _ (show i < 64 by omega) (by decide), gIx_nI _ (show p < 32 by omega) (by decide), tnN (show i < 2 ^ 31 by omega), tnN (show p < 2 ^ 31 by omega), r2, t2, Option.bind_some, gLet, nI_1, hg, hb, hz, m1 cm (show cm < 130 by omega)]
        rw [if_pos (show bI false = 0 by rfl)]
        by_cases q2 : r = 2
        · rw [if_pos q2]; rfl
        · rw [if_neg q2, if_pos (by rcases q with h | h; exact absurd h q2; exact h)]; rfl
      · intro k cm nx hcm
        rw [fL_X5_passFrozen_6, if_neg ngi, if_neg (nI_ge hcm (by omega))]
        simp only [gIx_nI _ (show i < 64 by omega) (by decide), gIx_nI _ (show cm < 64 by omega) (by decide), tnN (show i < 2 ^ 31 by omega), tnN (show cm < 2 ^ 31 by omega), r1, t1, Option.bind_some, gLet, nI_1, c1]
        rw [show min (cm + 1) W = cm + 1 by omega, show min 1 (W - cm) = 1 by omega]
        by_cases q2 : r = 2
        · rw [if_pos q2]; rfl
        · rw [if_neg q2, if_pos (by rcases q with h | h; exact absurd h q2; exact h)]; rfl
    · have q1 : ¬ r = 2 := fun h => q (Or.inl h)
      have q2 : ¬ r = bI (F.testBit p) := fun h => q (Or.inr h)
      refine ⟨0, R, R, w', by decide, hR, hR, ?_, ?_⟩
      · intro k cm nx hcm
        rw [fL_X10_goPlace_7, if_neg ngi]
        simp only [gIx_nI _ (show i < 64 by omega) (by decide), gIx_nI _ (show p < 32 by omega) (by decide), tnN (show i < 2 ^ 31 by omega), tnN (show p < 2 ^ 31 by omega), r2, t2, Option.bind_some, gLet, nI_1, hg, hb, hz]
        rw [if_pos (show bI false = 0 by rfl), if_neg q1, if_neg q2]
        rfl
      · intro k cm nx hcm
        rw [fL_X5_passFrozen_6, if_neg ngi, if_neg (nI_ge hcm (by omega))]
        simp only [gIx_nI _ (show i < 64 by omega) (by decide), tnN (show i < 2 ^ 31 by omega), r1, t1, Option.bind_some, gLet, nI_1]
        rw [show min (cm + 0) W = cm by omega, show min 0 (W - cm) = 0 by omega, if_neg q1, if_neg q2]
        rfl
