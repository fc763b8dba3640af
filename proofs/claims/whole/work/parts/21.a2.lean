/-! cells of sheets; parts -/
theorem e_begin (K : Nat) (hK : 200000 ≤ K) (la n : Int32) (v : Nat → Int64) : f_X6_begin K la n v = some (1, la, n, fun j => if j < 40 then 0 else v j) := by
  rw [f_X6_begin, e_fillL K hK]; rfl
theorem e_hasCell (K : Nat) (x n : Int32) : f_X6_hasCell K x n = some (if 0 ≤ x.toInt ∧ x.toInt < n.toInt then 1 else 0) := by
  unfold f_X6_hasCell
  simp only [ltI, leI, i_0]
  repeat' split
  all_goals first | rfl | (exfalso; omega)
/-- the model's noCell of a sheet that is there, and of one that isn't -/
theorem e_noCell0 (K : Nat) {k : Nat} (hk : k < 4) (x : Int32) (ms : Nat → Int32) (h : ms k = -1) : f_X10_noCell K (nI k) x ms = some 1 := by
  rw [f_X10_noCell, gIx_nI _ hk (by decide), tnN (by omega), h, if_neg (by decide)]
theorem e_noCell1 (K : Nat) {k le : Nat} (hk : k < 4) (hle : le ≤ 40) (x : Int32) (ms : Nat → Int32) (h : ms k = nI le) : f_X10_noCell K (nI k) x ms = some (if 0 ≤ x.toInt ∧ x.toInt < le then 0 else 3) := by
  rw [f_X10_noCell, gIx_nI _ hk (by decide), tnN (by omega), h, if_pos (nI_pos' (by omega)), gIx_nI _ hk (by decide)]
  have e : (Int32.toInt64 (nI le) - 1).toInt = (le : Int) - 1 := by
    rw [nI_l (by omega)]
    have h1 : (lN le).toInt = (le : Int) := lN_toInt (by omega)
    have h2 := fb_subL (x := lN le) (y := 1) (by rw [h1, j_1]; omega) (by rw [h1, j_1]; omega)
    rw [h2, h1, j_1]
  simp only [e_in, Option.bind_some, ite10, Int32.toInt_toInt64, j_0, e]
  repeat' split
  all_goals first | rfl | (exfalso; omega)
/-- what comes to a cell of a lane -/
def cutL (la : Nat) (v : Int64) : Int64 := if la = 0 then Int32.toInt64 (Int8.toInt32 (Int32.toInt8 (Int64.toInt32 v))) else if la = 1 then Int32.toInt64 (Int64.toInt32 v) else v
theorem nI_lit0 {a : Nat} (h : a ≤ 2) : (nI a = 0) = (a = 0) := propext (nI_eq (b := 0) (by omega) (by decide))
theorem nI_lit1 {a : Nat} (h : a ≤ 2) : (nI a = 1) = (a = 1) := propext (nI_eq (b := 1) (by omega) (by decide))
theorem e_setCell (K : Nat) {i la : Nat} (hi : i < 40) (hla : la ≤ 2) (v : Int64) (c : Nat → Int64) : f_X6_setCell K (nI i) v (nI la) c = some (vp_updL c i (cutL la v)) := by
  unfold f_X6_setCell cutL
  simp only [gIx_nI _ hi (by decide : (40 : Nat) < 2 ^ 31), gLet, tnN (show i < 2 ^ 31 by omega), nI_lit0 hla, nI_lit1 hla]
  repeat' split
  all_goals rfl
theorem e_cellAt (K : Nat) {i : Nat} (hi : i < 40) (c : Nat → Int64) : f_X6_cellAt K (nI i) c = some (c i) := by
  rw [f_X6_cellAt, gIx_nI _ hi (by decide), tnN (by omega)]
theorem e_cellFlaw0 (K : Nat) (x ln a b : Int32) : f_X9_cellFlaw K x ln 0 a b = some 1 := by
  rw [f_X9_cellFlaw, if_pos rfl]
theorem e_cellFlaw1 (K : Nat) {la le : Nat} (hle : le ≤ 40) (x ln : Int32) : f_X9_cellFlaw K x ln 1 (nI la) (nI le) = some (if nI la = ln then (if 0 ≤ x.toInt ∧ x.toInt < le then 0 else 3) else 2) := by
  rw [f_X9_cellFlaw, if_neg (show ¬ (1 : Int32) = 0 by decide), e_hasCell, nI_toInt (show le < 2 ^ 31 by omega)]
  simp only [Option.bind_some, ite10]
  repeat' split
  all_goals first | rfl | (exfalso; omega)
