/-! what the class's state and the reference's have in common -/
def bI (b : Bool) : Int32 := if b then 1 else 0
/-- how many ones the n lowest bits of x have -/
def pcN (n x : Nat) : Nat := fb_ct (fun j => x.testBit j) n
/-- a stage of the folding, by steps of 2^s, on rows -/
def stg (s x : Nat) : Nat := x ^^^ ((x >>> (2 ^ s)) &&& (gFP s).toNatClampNeg)
/-- the folding of a row of N bits -/
def FO (N x : Nat) : Nat := match N with
  | 1 => x
  | 2 => stg 0 x
  | 4 => stg 1 (stg 0 x)
  | 8 => stg 2 (stg 1 (stg 0 x))
  | 16 => stg 3 (stg 2 (stg 1 (stg 0 x)))
  | _ => stg 4 (stg 3 (stg 2 (stg 1 (stg 0 x))))
/-- a message's bits at the places of G below n -/
def spN (G : Nat) (m : Nat) : Nat → Nat
  | 0 => 0
  | n + 1 => spN G m n + (if G.testBit n ∧ m.testBit (pcN n G) then 2 ^ n else 0)
/-- the word of a message -/
def wdN (N G F m : Nat) : Nat := FO N (spN G m N ||| F)
/-- how many words have w ones -/
def CW (N G F w : Nat) : Nat := fb_ct (fun m => pcN N (wdN N G F m) == w) (2 ^ pcN N G)
/-- a row is across to the words -/
def orN (N G x : Nat) : Bool := decide (∀ p, p < N → G.testBit p = true → pcN N (x &&& FO N (2 ^ p)) % 2 = 0)
def CA (N G w : Nat) : Nat := fb_ct (fun x => pcN N x == w && orN N G x) (2 ^ N)
/-- the losing of places: a stage with halves of h bits, in blocks of 2 h, on a row of lost signs -/
def lsN (h n v : Nat) : Nat → Bool := fun p => if p / h % 2 = 0 then v.testBit p || v.testBit (p + h) else v.testBit (p - h) && v.testBit p
def rowOfB (f : Nat → Bool) : Nat → Nat
  | 0 => 0
  | n + 1 => rowOfB f n + (if f n then 2 ^ n else 0)
def lostN (N v : Nat) : Nat := match N with
  | 2 => rowOfB (lsN 1 2 v) 2
  | 4 => rowOfB (lsN 1 4 (rowOfB (lsN 2 4 v) 4)) 4
  | 8 => rowOfB (lsN 1 8 (rowOfB (lsN 2 8 (rowOfB (lsN 4 8 v) 8)) 8)) 8
  | _ => rowOfB (lsN 1 16 (rowOfB (lsN 2 16 (rowOfB (lsN 4 16 (rowOfB (lsN 8 16 v) 16)) 16)) 16)) 16
def CF (N G t : Nat) : Nat := fb_ct (fun x => pcN N x == t && (lostN N x &&& G != 0)) (2 ^ N)
def RP (N G F : Nat) (n p q : Int32) (g f : Int64) (mn mp mq : Int32) (mg mz : Nat → Int32) : Prop :=
  (N = 2 ∨ N = 4 ∨ N = 8 ∨ N = 16 ∨ N = 32) ∧ n = nI N ∧ mn = nI N ∧ g = lN G ∧ f = lN F ∧ G < 2 ^ N ∧ F < 2 ^ N ∧ G &&& F = 0 ∧ (∃ P Q : Nat, p = nI P ∧ q = nI Q ∧ mp = nI P ∧ mq = nI Q ∧ 1 ≤ Q ∧ Q ≤ 8 ∧ P ≤ Q) ∧ (∀ j, j < 32 → mg j = bI (G.testBit j)) ∧ (∀ j, j < 32 → mz j = bI (F.testBit j))
def RR (w : Int32) (mk : Int64) (h l : Int32) (a : Nat → Int64) (mw : Int32) (mm : Int64) (ma : Int32) (mo : Nat → Int64) : Prop :=
  (∃ Wd : Nat, w = nI Wd ∧ mw = nI Wd ∧ 1 ≤ Wd ∧ Wd ≤ 64) ∧ (∃ M : Nat, mk = lN M ∧ mm = lN M ∧ M < 2 ^ 32) ∧ ((h = 0 ∧ ma = -9) ∨ (h = 1 ∧ ∃ c : Nat, c ≤ 64 ∧ l = nI c ∧ ma = nI c ∧ ∀ j, j < c → ∃ R : Nat, R < 2 ^ 32 ∧ a j = lN R ∧ mo j = lN R))
def RT (N G F : Nat) (th tr tf : Int32) (tw to_ tg : Nat → Int32) (mi : Int32) (mC mA mF : Nat → Int32) : Prop :=
  (th = 0 ∨ (th = 1 ∧ ∀ w, w ≤ N → tw w = nI (CW N G F w))) ∧ (tr = 0 ∨ (tr = 1 ∧ ∀ w, w ≤ N → to_ w = nI (CA N G w))) ∧ (tf = 0 ∨ (tf = 1 ∧ ∀ w, w ≤ N → tg w = nI (CF N G w))) ∧
  (mi = 0 ∨ (mi = 1 ∧ (pcN N G ≤ 12 → ∀ w, w ≤ N → mC w = nI (CW N G F w)) ∧ (N ≤ 16 → ∀ w, w ≤ N → mA w = nI (CA N G w) ∧ mF w = nI (CF N G w))))
def RS (sh sl sn : Nat → Int32) (sc : Nat → Nat → Int64) (ms ml : Nat → Int32) (mc : Nat → Int64) : Prop :=
  ∀ k, k < 4 → (sh k = 0 ∧ ms k = -1) ∨ (sh k = 1 ∧ ∃ la le : Nat, la ≤ 2 ∧ le ≤ 40 ∧ sl k = nI la ∧ ml k = nI la ∧ sn k = nI le ∧ ms k = nI le ∧ ∀ i, i < le → sc k i = mc (40 * k + i))
def Rel (upn : Int32) (upp : Int32) (upq : Int32) (upg : Int64) (upf : Int64) (upu : Nat → Int64) (urw : Int32) (urm : Int64) (urh : Int32) (url : Int32) (uro : Int64) (urt : Int64) (ura : Nat → Int64) (urb : Nat → Int64) (uth : Int32) (utr : Int32) (utf : Int32) (utw : Nat → Int32) (uto : Nat → Int32) (utg : Nat → Int32) (uts : Nat → Int64) (utp : Nat → Int32) (utq : Nat → Int32) (utl : Nat → Int32) (ush : Nat → Int32) (usl : Nat → Int32) (usn : Nat → Int32) (usc : Nat → Nat → Int64) (uxt : Int32) (uxf : Int32) (mf : Int32) (mn : Int32) (mp : Int32) (mq : Int32) (mg : Nat → Int32) (mz : Nat → Int32) (ms : Nat → Int32) (ml : Nat → Int32) (mc : Nat → Int64) (mh : Nat → Int64) (mw : Int32) (mm : Int64) (ma : Int32) (me : Nat → Int32) (mk : Nat → Int32) (mo : Nat → Int64) (mx : Nat → Int64) (mu : Int32) (mi : Int32) (mC : Nat → Int32) (mA : Nat → Int32) (mF : Nat → Int32) (mb : Int32) (mv : Nat → Int64) (mt : Int32) : Prop := ∃ N G F : Nat, RP N G F upn upp upq upg upf mn mp mq mg mz ∧ RR urw urm urh url ura mw mm ma mo ∧ RT N G F uth utr utf utw uto utg mi mC mA mF ∧ RS ush usl usn usc ms ml mc ∧ uxt = mt ∧ uxf = mf
