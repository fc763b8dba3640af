/-! rows across: words read backwards -/
def Nok4 (N : Nat) : Prop := N = 2 ∨ N = 4 ∨ N = 8 ∨ N = 16
theorem Nok4.n1 {N : Nat} (h : Nok4 N) : Nok1 N := by
  rcases h with rfl | rfl | rfl | rfl
  · exact Or.inr (Or.inl rfl)
  · exact Or.inr (Or.inr (Or.inl rfl))
  · exact Or.inr (Or.inr (Or.inr (Or.inl rfl)))
  · exact Or.inr (Or.inr (Or.inr (Or.inr (Or.inl rfl))))
def rvN (N x : Nat) : Nat := rowOfB (fun i => x.testBit (N - 1 - i)) N
theorem rv_lt (N x : Nat) : rvN N x < 2 ^ N := rb_lt _ N
theorem rv_b (N x i : Nat) : (rvN N x).testBit i = (decide (i < N) && x.testBit (N - 1 - i)) := rb_b _ N i
theorem rv_rv {N x : Nat} (hx : x < 2 ^ N) : rvN N (rvN N x) = x := by
  apply Nat.eq_of_testBit_eq
  intro i
  rw [rv_b, rv_b]
  by_cases q : i < N
  · rw [decide_eq_true q, decide_eq_true (show N - 1 - i < N by omega), show N - 1 - (N - 1 - i) = i by omega]; rfl
  · have hz : x.testBit i = false := Nat.testBit_lt_two_pow (Nat.lt_of_lt_of_le hx (Nat.pow_le_pow_right (by decide) (by omega)))
    rw [decide_eq_false q, hz]; rfl
theorem rv_x (N a b : Nat) : rvN N (a ^^^ b) = rvN N a ^^^ rvN N b := by
  apply Nat.eq_of_testBit_eq
  intro i
  rw [Nat.testBit_xor, rv_b, rv_b, rv_b, Nat.testBit_xor]
  cases decide (i < N) <;> rfl
theorem pc_rv (N x : Nat) : pcN N (rvN N x) = pcN N x := by
  have e1 : pcN N (rvN N x) = fb_ct (fun j => x.testBit (N - 1 - j)) N := fb_ct_cong (fun j hj => by rw [rv_b, decide_eq_true hj, Bool.true_and])
  have e2 := si_inv (fun j => bZ (x.testBit j)) (fun j => N - 1 - j) (n := N) (fun y hy => by show N - 1 - y < N; omega) (fun y hy => by show N - 1 - (N - 1 - y) = y; omega)
  have e3 := si_ct (fun j => x.testBit (N - 1 - j)) N
  have e4 := si_ct (fun j => x.testBit j) N
  have e5 : (fb_ct (fun j => x.testBit (N - 1 - j)) N : Int) = (fb_ct (fun j => x.testBit j) N : Int) := by
    rw [← e3, ← e4]
    exact e2
  rw [e1]
  exact Int.ofNat_inj.mp e5
theorem lin_0 {f : Nat → Bool} (hf : ∀ a b, f (a ^^^ b) = (f a ^^ f b)) : f 0 = false := by
  have h := hf 0 0
  rw [Nat.xor_self] at h
  rw [h]
  exact Bool.xor_self _
theorem lin_ext {f g : Nat → Bool} (hf : ∀ a b, f (a ^^^ b) = (f a ^^ f b)) (hg : ∀ a b, g (a ^^^ b) = (g a ^^ g b)) : ∀ (n : Nat), (∀ j, j < n → f (2 ^ j) = g (2 ^ j)) → ∀ x, x < 2 ^ n → f x = g x := by
  intro n
  induction n with
  | zero =>
    intro _ x hx
    have : x = 0 := by simpa using hx
    subst this
    rw [lin_0 hf, lin_0 hg]
  | succ n ih =>
    intro h x hx
    have ih := ih (fun j hj => h j (by omega))
    by_cases q : x < 2 ^ n
    · exact ih x q
    · rw [Nat.pow_succ] at hx
      obtain ⟨y, hy, rfl⟩ : ∃ y, y < 2 ^ n ∧ x = 2 ^ n + y := ⟨x - 2 ^ n, by omega, by omega⟩
      rw [top_xor hy, hf, hg, ih y hy, h n (by omega)]
theorem adj2 : ∀ p, p < 2 → ∀ j, j < 2 → decide (pcN 2 (FO 2 (2 ^ p) &&& 2 ^ j) % 2 = 1) = (FO 2 (rvN 2 (2 ^ j))).testBit (2 - 1 - p) := by decide +kernel
theorem adj4 : ∀ p, p < 4 → ∀ j, j < 4 → decide (pcN 4 (FO 4 (2 ^ p) &&& 2 ^ j) % 2 = 1) = (FO 4 (rvN 4 (2 ^ j))).testBit (4 - 1 - p) := by decide +kernel
theorem adj8 : ∀ p, p < 8 → ∀ j, j < 8 → decide (pcN 8 (FO 8 (2 ^ p) &&& 2 ^ j) % 2 = 1) = (FO 8 (rvN 8 (2 ^ j))).testBit (8 - 1 - p) := by decide +kernel
theorem adj16 : ∀ p, p < 16 → ∀ j, j < 16 → decide (pcN 16 (FO 16 (2 ^ p) &&& 2 ^ j) % 2 = 1) = (FO 16 (rvN 16 (2 ^ j))).testBit (16 - 1 - p) := by decide +kernel
theorem adjN {N : Nat} (hN : Nok4 N) : ∀ p, p < N → ∀ j, j < N → decide (pcN N (FO N (2 ^ p) &&& 2 ^ j) % 2 = 1) = (FO N (rvN N (2 ^ j))).testBit (N - 1 - p) := by
  rcases hN with rfl | rfl | rfl | rfl
  · exact adj2
  · exact adj4
  · exact adj8
  · exact adj16
theorem par_x (N c a b : Nat) : decide (pcN N (c &&& (a ^^^ b)) % 2 = 1) = (decide (pcN N (c &&& a) % 2 = 1) ^^ decide (pcN N (c &&& b) % 2 = 1)) := by
  rw [pc_xr]
  by_cases h1 : pcN N (c &&& a) % 2 = 1 <;> by_cases h2 : pcN N (c &&& b) % 2 = 1
  · rw [decide_eq_true h1, decide_eq_true h2, decide_eq_false (by omega)]; rfl
  · rw [decide_eq_true h1, decide_eq_false h2, decide_eq_true (by omega)]; rfl
  · rw [decide_eq_false h1, decide_eq_true h2, decide_eq_true (by omega)]; rfl
  · rw [decide_eq_false h1, decide_eq_false h2, decide_eq_false (by omega)]; rfl
theorem adj {N p x : Nat} (hN : Nok4 N) (hp : p < N) (hx : x < 2 ^ N) : decide (pcN N (FO N (2 ^ p) &&& x) % 2 = 1) = (FO N (rvN N x)).testBit (N - 1 - p) :=
  lin_ext (f := fun x => decide (pcN N (FO N (2 ^ p) &&& x) % 2 = 1)) (g := fun x => (FO N (rvN N x)).testBit (N - 1 - p)) (fun a b => par_x N _ a b) (fun a b => by
    show (FO N (rvN N (a ^^^ b))).testBit (N - 1 - p) = _
    rw [rv_x, FO_x hN.n1, Nat.testBit_xor]) N (fun j hj => adjN hN p hp j hj) x hx
theorem kff2 : ∀ j, j < 2 → FO 2 (FO 2 (2 ^ j)) = 2 ^ j := by decide +kernel
theorem ff4 : ∀ j, j < 4 → FO 4 (FO 4 (2 ^ j)) = 2 ^ j := by decide +kernel
theorem ff8 : ∀ j, j < 8 → FO 8 (FO 8 (2 ^ j)) = 2 ^ j := by decide +kernel
theorem ff16 : ∀ j, j < 16 → FO 16 (FO 16 (2 ^ j)) = 2 ^ j := by decide +kernel
theorem kffN {N : Nat} (hN : Nok4 N) : ∀ j, j < N → FO N (FO N (2 ^ j)) = 2 ^ j := by
  rcases hN with rfl | rfl | rfl | rfl
  · exact kff2
  · exact ff4
  · exact ff8
  · exact ff16
theorem FO_FO {N x : Nat} (hN : Nok4 N) (hx : x < 2 ^ N) : FO N (FO N x) = x := by
  apply Nat.eq_of_testBit_eq
  intro i
  exact lin_ext (f := fun x => (FO N (FO N x)).testBit i) (g := fun x => x.testBit i) (fun a b => by
    show (FO N (FO N (a ^^^ b))).testBit i = _
    rw [FO_x hN.n1, FO_x hN.n1, Nat.testBit_xor]) (fun a b => Nat.testBit_xor ..) N (fun j hj => by
    show (FO N (FO N (2 ^ j))).testBit i = _
    rw [kffN hN j hj]) x hx
theorem sub_top {n y G : Nat} (hy : y < 2 ^ n) : ((2 ^ n + y) &&& G = 2 ^ n + y) = (G.testBit n = true ∧ y &&& G = y) := by
  have hb : ∀ i, (2 ^ n + y).testBit i = (y.testBit i || decide (i = n)) := fun i => by
    rw [Nat.add_comm, add_or hy]; exact fb_bit_set y n i
  have hyn : y.testBit n = false := Nat.testBit_lt_two_pow hy
  apply propext
  constructor
  · intro h
    have hi : ∀ i, ((2 ^ n + y).testBit i && G.testBit i) = (2 ^ n + y).testBit i := fun i => by rw [← Nat.testBit_and, h]
    refine ⟨by have := hi n; rw [hb, hyn] at this; simpa using this, ?_⟩
    apply Nat.eq_of_testBit_eq
    intro i
    have := hi i
    rw [hb] at this
    rw [Nat.testBit_and]
    by_cases q : i = n
    · subst q; rw [hyn]; rfl
    · rw [decide_eq_false q, Bool.or_false] at this; exact this
  · intro ⟨h1, h2⟩
    apply Nat.eq_of_testBit_eq
    intro i
    rw [Nat.testBit_and, hb]
    by_cases q : i = n
    · subst q; rw [h1, Bool.and_true]
    · rw [decide_eq_false q, Bool.or_false, ← Nat.testBit_and, h2]
/-- sums over the rows that lie in G -/
theorem kSub (G : Nat) : ∀ (n : Nat) (f : Nat → Int), fb_si (fun m => f (spN G m n)) (2 ^ pcN n G) = fb_si (fun y => if y &&& G = y then f y else 0) (2 ^ n) := by
  intro n
  induction n with
  | zero =>
    intro f
    show (0 : Int) + f 0 = 0 + (if 0 &&& G = 0 then f 0 else 0)
    rw [if_pos (Nat.zero_and G)]
  | succ n ih =>
    intro f
    have e2 : fb_si (fun k => if (2 ^ n + k) &&& G = 2 ^ n + k then f (2 ^ n + k) else 0) (2 ^ n) = fb_si (fun k => if G.testBit n = true ∧ k &&& G = k then f (2 ^ n + k) else 0) (2 ^ n) := fb_si_cong (fun k hk => by
      simp only [sub_top hk])
    rw [si_two (fun y => if y &&& G = y then f y else 0), e2]
    cases hg : G.testBit n with
    | false =>
      have e1 : fb_si (fun m => f (spN G m (n + 1))) (2 ^ pcN n G) = fb_si (fun m => f (spN G m n)) (2 ^ pcN n G) := fb_si_cong (fun m _ => by rw [sp_n0 hg])
      have e3 : fb_si (fun k => if false = true ∧ k &&& G = k then f (2 ^ n + k) else 0) (2 ^ n) = fb_si (fun _ => 0) (2 ^ n) := fb_si_cong (fun k _ => if_neg (fun z => nft z.1))
      rw [pc_n0 hg, e1, ih f, e3, si_zero, Int.add_zero]
    | true =>
      have e1 : fb_si (fun m => f (spN G m (n + 1))) (2 ^ pcN n G) = fb_si (fun m => f (spN G m n)) (2 ^ pcN n G) := fb_si_cong (fun m hm => by rw [sp_n1 hm])
      have e3 : fb_si (fun m => f (spN G (2 ^ pcN n G + m) (n + 1))) (2 ^ pcN n G) = fb_si (fun m => f (2 ^ n + spN G m n)) (2 ^ pcN n G) := fb_si_cong (fun m hm => by rw [sp_n2 hg hm])
      have e4 : fb_si (fun k => if true = true ∧ k &&& G = k then f (2 ^ n + k) else 0) (2 ^ n) = fb_si (fun k => if k &&& G = k then f (2 ^ n + k) else 0) (2 ^ n) := fb_si_cong (fun k _ => by simp only [true_and])
      rw [pc_n1 hg, si_two, e1, e3, ih f, e4, ih (fun y => f (2 ^ n + y))]
theorem dual_or {N G y : Nat} (hN : Nok4 N) (hy : y < 2 ^ N) : orN N G (rvN N (FO N y)) = decide (y &&& rvN N (tlN N G) = y) := by
  have hN16 : N ≤ 16 := by rcases hN with rfl | rfl | rfl | rfl <;> omega
  have hx := rv_lt N (FO N y)
  have hFy := FO_lt hN.n1 hy
  have hpar : ∀ p, p < N → decide (pcN N (rvN N (FO N y) &&& FO N (2 ^ p)) % 2 = 1) = y.testBit (N - 1 - p) := fun p hp => by
    rw [Nat.and_comm, adj hN hp hx, rv_rv hFy, FO_FO hN hy]
  have hG' : ∀ i, (rvN N (tlN N G)).testBit i = (decide (i < N) && !G.testBit (N - 1 - i)) := fun i => by
    rw [rv_b, tlN_b (by omega)]
    by_cases q : i < N
    · rw [decide_eq_true q, decide_eq_true (show N - 1 - i < N by omega)]; rfl
    · rw [decide_eq_false q]; rfl
  unfold orN
  refine decide_eq_decide.mpr ⟨fun h => ?_, fun h => ?_⟩
  · apply Nat.eq_of_testBit_eq
    intro i
    rw [Nat.testBit_and, hG']
    cases hi : y.testBit i with
    | false => rfl
    | true =>
      have hiN : i < N := by
        by_cases q : i < N
        · exact q
        · rw [Nat.testBit_lt_two_pow (Nat.lt_of_lt_of_le hy (Nat.pow_le_pow_right (by decide) (by omega)))] at hi
          exact absurd hi (by decide)
      rw [decide_eq_true hiN]
      cases hg : G.testBit (N - 1 - i) with
      | false => rfl
      | true =>
        have h1 := h (N - 1 - i) (by omega) hg
        have h2 := hpar (N - 1 - i) (by omega)
        rw [show N - 1 - (N - 1 - i) = i by omega, hi, decide_eq_true_eq] at h2
        omega
  · intro p hp hg
    have h2 := hpar p hp
    have h3 : (y &&& rvN N (tlN N G)).testBit (N - 1 - p) = y.testBit (N - 1 - p) := by rw [h]
    rw [Nat.testBit_and, hG', show N - 1 - (N - 1 - p) = p by omega, hg] at h3
    have h4 : y.testBit (N - 1 - p) = false := by rw [← h3]; simp
    rw [h4, decide_eq_false_iff_not] at h2
    omega
theorem dual_w {N G : Nat} (hN : Nok4 N) (w : Nat) : cB 0 (rvN N (tlN N G)) N (2 ^ pcN N (rvN N (tlN N G))) w = CA N G w := by
  apply Int.ofNat_inj.mp
  have e1 : (cB 0 (rvN N (tlN N G)) N (2 ^ pcN N (rvN N (tlN N G))) w : Int) = fb_si (fun m => (fun y => bZ (pcN N (FO N y) == w)) (spN (rvN N (tlN N G)) m N)) (2 ^ pcN N (rvN N (tlN N G))) := by
    unfold cB
    rw [← si_ct]
    exact fb_si_cong (fun m _ => by unfold wB; rw [Nat.zero_xor])
  have e2 : (CA N G w : Int) = fb_si (fun x => bZ (pcN N x == w && orN N G x)) (2 ^ N) := (si_ct _ _).symm
  have e3 := si_inv (fun x => bZ (pcN N x == w && orN N G x)) (rvN N) (n := 2 ^ N) (fun y _ => rv_lt N y) (fun y hy => rv_rv hy)
  have e4 := si_inv (fun x => bZ (pcN N (rvN N x) == w && orN N G (rvN N x))) (FO N) (n := 2 ^ N) (fun y hy => FO_lt hN.n1 hy) (fun y hy => FO_FO hN hy)
  have e5 := kSub (rvN N (tlN N G)) N (fun y => bZ (pcN N (FO N y) == w))
  rw [e1, e2, e5, ← e3, ← e4]
  refine fb_si_cong (fun y hy => ?_)
  show (if y &&& rvN N (tlN N G) = y then bZ (pcN N (FO N y) == w) else 0) = bZ (pcN N (rvN N (FO N y)) == w && orN N G (rvN N (FO N y)))
  rw [pc_rv, dual_or hN hy]
  by_cases q : y &&& rvN N (tlN N G) = y
  · rw [if_pos q, decide_eq_true q, Bool.and_true]
  · rw [if_neg q, decide_eq_false q, Bool.and_false]; rfl
