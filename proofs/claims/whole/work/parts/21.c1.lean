/-! sums of ints; rows and words counted both ways -/
theorem si_zero (n : Nat) : fb_si (fun _ => (0 : Int)) n = 0 := by
  induction n with
  | zero => rfl
  | succ n ih => rw [fb_si_succ, ih]; rfl
theorem si_all0 {f : Nat → Int} {n : Nat} (h : ∀ k, k < n → f k = 0) : fb_si f n = 0 := (fb_si_cong (g := fun _ => 0) h).trans (si_zero n)
theorem si_swap (f : Nat → Nat → Int) (n : Nat) : ∀ m, fb_si (fun i => fb_si (fun j => f i j) n) m = fb_si (fun j => fb_si (fun i => f i j) m) n := by
  intro m
  induction m with
  | zero => exact (si_zero n).symm
  | succ m ih =>
    rw [fb_si_succ, ih, ← fb_si_add]
    exact fb_si_cong (fun j _ => rfl)
def bZ (b : Bool) : Int := if b then 1 else 0
theorem si_ct (p : Nat → Bool) : ∀ n, fb_si (fun k => bZ (p k)) n = (fb_ct p n : Int) := by
  intro n
  induction n with
  | zero => rfl
  | succ n ih =>
    rw [fb_si_succ, fb_ct_succ, ih]
    cases p n <;> simp [bZ]
theorem si_two (f : Nat → Int) (n : Nat) : fb_si f (2 ^ (n + 1)) = fb_si f (2 ^ n) + fb_si (fun k => f (2 ^ n + k)) (2 ^ n) := by
  rw [Nat.pow_succ, Nat.mul_two, fb_si_split]
theorem si_one (v : Int) {y n : Nat} (h : y < n) : fb_si (fun k => if k = y then v else 0) n = v := by
  have := fb_si_upd (fun _ => (0 : Int)) v h
  rw [si_zero] at this
  simpa using this
theorem si_inv (f : Nat → Int) (g : Nat → Nat) {n : Nat} (h1 : ∀ y, y < n → g y < n) (h2 : ∀ y, y < n → g (g y) = y) : fb_si (fun y => f (g y)) n = fb_si f n := by
  have e1 : fb_si (fun y => f (g y)) n = fb_si (fun y => fb_si (fun x => if x = g y then f (g y) else 0) n) n := fb_si_cong (fun y hy => (si_one _ (h1 y hy)).symm)
  rw [e1, si_swap]
  refine fb_si_cong (fun x hx => ?_)
  have e2 : fb_si (fun y => if x = g y then f (g y) else 0) n = fb_si (fun y => if y = g x then f x else 0) n := fb_si_cong (fun y hy => by
    by_cases q : x = g y
    · have q2 : y = g x := by rw [q, h2 y hy]
      rw [if_pos q, if_pos q2, q]
    · have q2 : ¬ y = g x := fun z => q (by rw [z, h2 x hx])
      rw [if_neg q, if_neg q2])
  rw [e2, si_one _ (h1 x hx)]
/-- coefficients of (1 - z)^a (1 + z)^b -/
def shI (f : Nat → Int) : Nat → Int
  | 0 => 0
  | w + 1 => f w
def kPM : Nat → Nat → Int
  | 0 => fun w => if w = 0 then 1 else 0
  | a + 1 => fun w => kPM a w - shI (kPM a) w
def kPC (a : Nat) : Nat → Nat → Int
  | 0 => kPM a
  | b + 1 => fun w => kPC a b w + shI (kPC a b) w
theorem PC_p (a b w : Nat) : kPC a (b + 1) w = kPC a b w + shI (kPC a b) w := rfl
theorem PC_m (a : Nat) : ∀ b w, kPC (a + 1) b w = kPC a b w - shI (kPC a b) w := by
  intro b
  induction b with
  | zero => intro w; rfl
  | succ b ih =>
    intro w
    rw [PC_p, PC_p, ih]
    cases w with
    | zero => simp [shI]
    | succ w =>
      show kPC a b (w + 1) - kPC a b w + kPC (a + 1) b w = kPC a b (w + 1) + kPC a b w - kPC a (b + 1) w
      rw [ih, PC_p]
      omega
theorem PM_big : ∀ a w, a < w → kPM a w = 0 := by
  intro a
  induction a with
  | zero =>
    intro w hw
    exact if_neg (by omega)
  | succ a ih =>
    intro w hw
    cases w with
    | zero => omega
    | succ w =>
      show kPM a (w + 1) - kPM a w = 0
      rw [ih _ (by omega), ih _ (by omega)]
      rfl
theorem PC_big (a : Nat) : ∀ b w, a + b < w → kPC a b w = 0 := by
  intro b
  induction b with
  | zero =>
    intro w hw
    exact PM_big a w (by omega)
  | succ b ih =>
    intro w hw
    cases w with
    | zero => omega
    | succ w =>
      show kPC a b (w + 1) + kPC a b w = 0
      rw [ih _ (by omega), ih _ (by omega)]
      rfl
theorem pc_top {n y : Nat} (hy : y < 2 ^ n) : pcN (n + 1) (2 ^ n + y) = pcN n y + 1 := by
  have e : pcN n (2 ^ n + y) = pcN n y := fb_ct_cong (fun j hj => Nat.testBit_two_pow_add_gt hj y)
  rw [pc_succ, Nat.testBit_two_pow_add_eq, Nat.testBit_lt_two_pow hy, e]
  rfl
theorem pc_topA {n y : Nat} (hy : y < 2 ^ n) (c : Nat) : pcN (n + 1) ((2 ^ n + y) &&& c) = pcN n (y &&& c) + (if c.testBit n then 1 else 0) := by
  have e : pcN n ((2 ^ n + y) &&& c) = pcN n (y &&& c) := fb_ct_cong (fun j hj => by
    rw [Nat.testBit_and, Nat.testBit_and, Nat.testBit_two_pow_add_gt hj])
  rw [pc_succ, Nat.testBit_and, Nat.testBit_two_pow_add_eq, Nat.testBit_lt_two_pow hy, e]
  rfl
theorem pc_low {n y : Nat} (hy : y < 2 ^ n) : pcN (n + 1) y = pcN n y := by
  rw [pc_succ, Nat.testBit_lt_two_pow hy]; rfl
theorem pc_lowA {n y : Nat} (hy : y < 2 ^ n) (c : Nat) : pcN (n + 1) (y &&& c) = pcN n (y &&& c) := by
  rw [pc_succ, Nat.testBit_and, Nat.testBit_lt_two_pow hy]; rfl
def kSg (N x c : Nat) : Int := if pcN N (x &&& c) % 2 = 0 then 1 else -1
theorem row_sum (c : Nat) : ∀ n w, fb_si (fun x => if pcN n x = w then kSg n x c else 0) (2 ^ n) = kPC (pcN n c) (n - pcN n c) w := by
  intro n
  induction n with
  | zero =>
    intro w
    have e0 : kSg 0 0 c = 1 := by
      unfold kSg
      rw [show pcN 0 (0 &&& c) = 0 from rfl]
      rfl
    show (0 : Int) + (if 0 = w then kSg 0 0 c else 0) = if w = 0 then 1 else 0
    rw [e0]
    by_cases q : w = 0
    · rw [if_pos q, if_pos q.symm]; rfl
    · rw [if_neg q, if_neg (fun z => q z.symm)]; rfl
  | succ n ih =>
    intro w
    have e1 : fb_si (fun x => if pcN (n + 1) x = w then kSg (n + 1) x c else 0) (2 ^ n) = kPC (pcN n c) (n - pcN n c) w := by
      rw [← ih w]
      refine fb_si_cong (fun x hx => ?_)
      unfold kSg
      rw [pc_low hx, pc_lowA hx]
    have e2 : fb_si (fun k => if pcN (n + 1) (2 ^ n + k) = w then kSg (n + 1) (2 ^ n + k) c else 0) (2 ^ n) = (if c.testBit n then -1 else 1) * shI (kPC (pcN n c) (n - pcN n c)) w := by
      cases w with
      | zero =>
        rw [show shI (kPC (pcN n c) (n - pcN n c)) 0 = 0 from rfl, Int.mul_zero]
        refine si_all0 (fun k hk => ?_)
        rw [pc_top hk, if_neg (by omega)]
      | succ w =>
        rw [show shI (kPC (pcN n c) (n - pcN n c)) (w + 1) = kPC (pcN n c) (n - pcN n c) w from rfl, ← ih w, ← fb_si_mul]
        refine fb_si_cong (fun k hk => ?_)
        unfold kSg
        rw [pc_top hk, pc_topA hk]
        by_cases q : pcN n k = w
        · rw [if_pos (show pcN n k + 1 = w + 1 by omega), if_pos q]
          cases c.testBit n with
          | false => rw [if_neg nft, if_neg nft, Nat.add_zero, Int.one_mul]
          | true =>
            rw [if_pos rfl, if_pos rfl]
            by_cases r : pcN n (k &&& c) % 2 = 0
            · rw [if_neg (by omega), if_pos r]; rfl
            · rw [if_pos (by omega), if_neg r]; rfl
        · rw [if_neg (show ¬ pcN n k + 1 = w + 1 by omega), if_neg q, Int.mul_zero]
    have hle := pc_le n c
    rw [si_two, e1, e2, pc_succ]
    cases c.testBit n with
    | false =>
      rw [if_neg nft, if_neg nft, Nat.add_zero, show n + 1 - pcN n c = n - pcN n c + 1 by omega, PC_p]
      omega
    | true =>
      rw [if_pos rfl, if_pos rfl, show n + 1 - (pcN n c + 1) = n - pcN n c by omega, PC_m]
      omega
theorem pc_xr (x a b : Nat) : ∀ n, pcN n (x &&& (a ^^^ b)) % 2 = (pcN n (x &&& a) + pcN n (x &&& b)) % 2 := by
  intro n
  induction n with
  | zero => rfl
  | succ n ih =>
    rw [pc_succ, pc_succ, pc_succ, Nat.testBit_and, Nat.testBit_and, Nat.testBit_and, Nat.testBit_xor]
    cases x.testBit n <;> cases a.testBit n <;> cases b.testBit n <;> simp only [Bool.false_and, Bool.true_and, Bool.xor_false, Bool.false_xor, Bool.xor_self, Bool.xor_true, Bool.true_xor, Bool.not_false, Bool.not_true, Bool.false_eq_true, if_true, if_false, reduceIte] <;> omega
theorem sgn_x (N x a b : Nat) : kSg N x (a ^^^ b) = kSg N x b * kSg N x a := by
  unfold kSg
  rw [pc_xr]
  by_cases h1 : pcN N (x &&& a) % 2 = 0 <;> by_cases h2 : pcN N (x &&& b) % 2 = 0
  · rw [if_pos (by omega), if_pos h1, if_pos h2]; rfl
  · rw [if_neg (by omega), if_pos h1, if_neg h2]; rfl
  · rw [if_neg (by omega), if_neg h1, if_pos h2]; rfl
  · rw [if_pos (by omega), if_neg h1, if_neg h2]; rfl
theorem sp_add {G n : Nat} (m : Nat) : spN G (2 ^ pcN n G + m) n = spN G m n := by
  apply Nat.eq_of_testBit_eq
  intro i
  rw [sp_b, sp_b]
  by_cases q : i < n
  · cases hg : G.testBit i with
    | false => rfl
    | true =>
      have h1 := pc_mono G (show i + 1 ≤ n by omega)
      rw [pc_succ, hg, if_pos rfl] at h1
      rw [Nat.testBit_two_pow_add_gt (show pcN i G < pcN n G by omega)]
  · rw [decide_eq_false q]; rfl
/-- the next place: not good; good, and the message's bit is 0; good, and it is 1 -/
theorem sp_n0 {G n : Nat} (h : G.testBit n = false) (m : Nat) : spN G m (n + 1) = spN G m n := by
  rw [sp_succ, h, if_neg (by simp), Nat.add_zero]
theorem sp_n1 {G n m : Nat} (hm : m < 2 ^ pcN n G) : spN G m (n + 1) = spN G m n := by
  rw [sp_succ, Nat.testBit_lt_two_pow hm, if_neg (by simp), Nat.add_zero]
theorem sp_n2 {G n m : Nat} (h : G.testBit n = true) (hm : m < 2 ^ pcN n G) : spN G (2 ^ pcN n G + m) (n + 1) = 2 ^ n + spN G m n := by
  rw [sp_succ, Nat.testBit_two_pow_add_eq, Nat.testBit_lt_two_pow hm, if_pos ⟨h, rfl⟩, sp_add, Nat.add_comm]
theorem top_xor {x n : Nat} (hx : x < 2 ^ n) : 2 ^ n + x = x ^^^ 2 ^ n := by
  rw [Nat.add_comm, add_or hx]
  apply Nat.eq_of_testBit_eq
  intro i
  rw [Nat.testBit_or, Nat.testBit_xor, Nat.testBit_two_pow]
  by_cases q : n = i
  · subst q; rw [Nat.testBit_lt_two_pow hx]; simp
  · rw [decide_eq_false q]; simp
theorem pc_n0 {G n : Nat} (h : G.testBit n = false) : pcN (n + 1) G = pcN n G := by
  rw [pc_succ, h, if_neg nft]; rfl
theorem pc_n1 {G n : Nat} (h : G.testBit n = true) : pcN (n + 1) G = pcN n G + 1 := by
  rw [pc_succ, h, if_pos rfl]
def orU (N G x : Nat) : Nat → Bool
  | 0 => true
  | n + 1 => orU N G x n && (!G.testBit n || decide (pcN N (x &&& FO N (2 ^ n)) % 2 = 0))
theorem orU_iff (N G x : Nat) : ∀ n, orU N G x n = true ↔ ∀ p, p < n → G.testBit p = true → pcN N (x &&& FO N (2 ^ p)) % 2 = 0 := by
  intro n
  induction n with
  | zero => exact ⟨fun _ p hp => absurd hp (by omega), fun _ => rfl⟩
  | succ n ih =>
    rw [orU, Bool.and_eq_true, ih, Bool.or_eq_true, decide_eq_true_eq]
    constructor
    · intro ⟨h1, h2⟩ p hp hg
      by_cases q : p = n
      · subst q
        rcases h2 with h2 | h2
        · rw [hg] at h2; exact absurd h2 (by decide)
        · exact h2
      · exact h1 p (by omega) hg
    · intro h
      refine ⟨fun p hp hg => h p (by omega) hg, ?_⟩
      cases hg : G.testBit n with
      | false => exact Or.inl rfl
      | true => exact Or.inr (h n (by omega) hg)
theorem orN_U (N G x : Nat) : orN N G x = orU N G x N := by
  have h := orU_iff N G x N
  unfold orN
  cases hu : orU N G x N with
  | true => exact decide_eq_true (h.mp hu)
  | false => exact decide_eq_false (fun z => by rw [h.mpr z] at hu; exact absurd hu (by decide))
theorem col_sum {N : Nat} (hN : Nok1 N) (G x : Nat) : ∀ n, fb_si (fun m => kSg N x (FO N (spN G m n))) (2 ^ pcN n G) = if orU N G x n then ((2 ^ pcN n G : Nat) : Int) else 0 := by
  intro n
  induction n with
  | zero =>
    show (0 : Int) + kSg N x (FO N 0) = 1
    rw [FO_0 hN]
    unfold kSg
    rw [Nat.and_zero, show pcN N 0 = 0 from fb_ct_zero.mpr (fun k _ => Nat.zero_testBit k)]
    rfl
  | succ n ih =>
    cases hg : G.testBit n with
    | false =>
      have e : fb_si (fun m => kSg N x (FO N (spN G m (n + 1)))) (2 ^ pcN n G) = fb_si (fun m => kSg N x (FO N (spN G m n))) (2 ^ pcN n G) := fb_si_cong (fun m _ => by rw [sp_n0 hg])
      rw [pc_n0 hg, e, ih, orU, hg]
      simp
    | true =>
      have e1 : fb_si (fun m => kSg N x (FO N (spN G m (n + 1)))) (2 ^ pcN n G) = fb_si (fun m => kSg N x (FO N (spN G m n))) (2 ^ pcN n G) := fb_si_cong (fun m hm => by rw [sp_n1 hm])
      have e2 : fb_si (fun m => kSg N x (FO N (spN G (2 ^ pcN n G + m) (n + 1)))) (2 ^ pcN n G) = kSg N x (FO N (2 ^ n)) * fb_si (fun m => kSg N x (FO N (spN G m n))) (2 ^ pcN n G) := by
        rw [← fb_si_mul]
        exact fb_si_cong (fun m hm => by rw [sp_n2 hg hm, top_xor (sp_lt G m n), FO_x hN, sgn_x])
      rw [pc_n1 hg, si_two, e1, e2, ih, orU, hg]
      have hp : ((2 ^ (pcN n G + 1) : Nat) : Int) = 2 * ((2 ^ pcN n G : Nat) : Int) := by
        rw [Nat.pow_succ]; omega
      rw [hp]
      unfold kSg
      by_cases q : pcN N (x &&& FO N (2 ^ n)) % 2 = 0
      · rw [if_pos q, decide_eq_true q]
        cases orU N G x n with
        | false => rw [if_neg nft]; rfl
        | true => rw [if_pos rfl, if_pos (show (true && (!true || true)) = true from rfl)]; omega
      · rw [if_neg q, decide_eq_false q]
        cases orU N G x n with
        | false => rw [if_neg nft]; rfl
        | true => rw [if_pos rfl, if_neg (by decide)]; omega
theorem mac_w {N : Nat} (hN : Nok1 N) (G w : Nat) : fb_si (fun m => kPC (pcN N (wB 0 G N m)) (N - pcN N (wB 0 G N m)) w) (2 ^ pcN N G) = ((2 ^ pcN N G : Nat) : Int) * (CA N G w : Int) := by
  have e1 : fb_si (fun m => kPC (pcN N (wB 0 G N m)) (N - pcN N (wB 0 G N m)) w) (2 ^ pcN N G) = fb_si (fun m => fb_si (fun x => if pcN N x = w then kSg N x (FO N (spN G m N)) else 0) (2 ^ N)) (2 ^ pcN N G) := fb_si_cong (fun m _ => by
    rw [row_sum]
    unfold wB
    rw [Nat.zero_xor])
  have e2 : (CA N G w : Int) = fb_si (fun x => bZ (pcN N x == w && orN N G x)) (2 ^ N) := (si_ct _ _).symm
  rw [e1, si_swap, e2, ← fb_si_mul]
  refine fb_si_cong (fun x hx => ?_)
  by_cases q : pcN N x = w
  · have e3 : fb_si (fun m => if pcN N x = w then kSg N x (FO N (spN G m N)) else 0) (2 ^ pcN N G) = fb_si (fun m => kSg N x (FO N (spN G m N))) (2 ^ pcN N G) := fb_si_cong (fun m _ => if_pos q)
    rw [e3, col_sum hN, orN_U, q, beq_self_eq_true, Bool.true_and]
    unfold bZ
    cases orU N G x N with
    | false => rw [if_neg nft, if_neg nft, Int.mul_zero]
    | true => rw [if_pos rfl, if_pos rfl, Int.mul_one]
  · have e3 : fb_si (fun m => if pcN N x = w then kSg N x (FO N (spN G m N)) else 0) (2 ^ pcN N G) = fb_si (fun m => 0) (2 ^ pcN N G) := fb_si_cong (fun m _ => if_neg q)
    rw [e3, si_zero, show (pcN N x == w) = false by simpa using q, Bool.false_and]
    exact (Int.mul_zero _).symm
/-- a sum by values -/
theorem si_hist (g : Nat → Nat) (f : Nat → Int) (B : Nat) : ∀ M, (∀ m, m < M → g m < B) → fb_si (fun j => (fb_ct (fun m => g m == j) M : Int) * f j) B = fb_si (fun m => f (g m)) M := by
  intro M
  induction M with
  | zero =>
    intro _
    exact si_all0 (fun j _ => by
      show ((0 : Nat) : Int) * f j = 0
      simp)
  | succ M ih =>
    intro h
    rw [fb_si_succ, ← ih (fun m hm => h m (by omega)), ← si_one (f (g M)) (h M (by omega)), ← fb_si_add]
    refine fb_si_cong (fun j _ => ?_)
    rw [fb_ct_succ]
    by_cases q : g M = j
    · rw [if_pos (show (g M == j) = true by rw [q]; exact beq_self_eq_true j), if_pos q.symm, q]
      rw [show ((fb_ct (fun m => g m == j) M + 1 : Nat) : Int) = (fb_ct (fun m => g m == j) M : Int) + 1 from rfl, Int.add_mul, Int.one_mul]
    · rw [if_neg (show ¬ (g M == j) = true by simpa using q), if_neg (fun z => q z.symm), Nat.add_zero, Int.add_zero]
theorem mac_h {N : Nat} (hN : Nok1 N) (G w : Nat) : fb_si (fun j => (cB 0 G N (2 ^ pcN N G) j : Int) * kPC j (N - j) w) (N + 1) = ((2 ^ pcN N G : Nat) : Int) * (CA N G w : Int) := by
  rw [← mac_w hN G w]
  exact si_hist (fun m => pcN N (wB 0 G N m)) (fun j => kPC j (N - j) w) (N + 1) (2 ^ pcN N G) (fun m _ => by have := pc_le N (wB 0 G N m); omega)
