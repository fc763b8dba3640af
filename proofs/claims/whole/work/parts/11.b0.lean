def f_X5_hasPath (K : Nat) (x1 : Int32) (v_hasRead : Int32) (v_left : Int32) : Option (Int32) :=
  if v_hasRead = 0 then
    some 0
  else
    if x1 < 0 then
      some 0
    else
      if v_left ≤ x1 then
        some 0
      else
        some 1
set_option maxHeartbeats 4000000 in
set_option maxRecDepth 100000 in
theorem c_X5_hasPath (l : Launch) (D : va_G) (cy : Nat → ClassId) (t sz K : Nat) (z : Nat) (z_paths : Nat) (z_nextPaths : Nat) (v_width : Int32) (v_checkMask : Int64) (v_hasRead : Int32) (v_left : Int32) (v_seenOnes : Int64) (v_seenLost : Int64) (x1 : Int32) (r_ : Int32) (h : f_X5_hasPath K x1 v_hasRead v_left = some r_) : gMi l D cy t sz yX5_hasPath wsX5_hasPath 0 0 [.ref z, .int x1] [(z, .inr (4, [.int v_width, .long v_checkMask, .int v_hasRead, .int v_left, .ref z_paths, .ref z_nextPaths, .long v_seenOnes, .long v_seenLost]))] r_ [(z, .inr (4, [.int v_width, .long v_checkMask, .int v_hasRead, .int v_left, .ref z_paths, .ref z_nextPaths, .long v_seenOnes, .long v_seenLost]))] := by
  refine gBi (cc := cX5_hasPath) (maxL := 2) (ret := (some .boolean)) (by decide) rfl (Nat.le_of_ble_eq_true rfl) ?_
  intro p e s m below meth c A ls hAt hl
  obtain ⟨hx, hb, hml, hr, hts, hown, hlocks, hin, hK, hG, hA, hP, hD⟩ := hAt
  have hS : va_S A s.heap s.heap [] := va_S.rf
  have hl : lv_has ls 2 [(0, .ref z), (1, .int x1)] := hl
  have f22 := hts (.fieldLink RX5 22 "PlainLines$Reader" "hasRead" "Z") (by decide +kernel)
  have iX5 := (by decide +kernel : ∀ w ∈ u_ws RX5 TX5 8, w ∈ wsX5_hasPath)
  have f26 := hts (.fieldLink RX5 26 "PlainLines$Reader" "left" "I") (by decide +kernel)
  rw [f_X5_hasPath] at h
  refine lv_aload_n hx hb dX5_hasPath_0 rfl (lv_at hl 0 rfl) ?_
  refine va_get (D := D) (ci := 4) (v := .int v_hasRead) (C := RX5) (T := TX5) (N := 8) hx hb hts iX5 hown hK hP 0 rfl rfl 2 (by decide) f22 (fun _ h9 => h9) rfl dX5_hasPath_1 ?_
  refine lv_if_eq (tgt := 23) hx hb dX5_hasPath_4 (by decide) (fun c_1 => ?_) (fun c_1 => ?_)
  · have h := gx_t c_1 h
    refine lv_iconst (v := 0) hx hb dX5_hasPath_23 (by decide) ?_
    cases h
    exact gRz hx hb hr hlocks rfl hP hD hS dX5_hasPath_24
  · have h := gx_f c_1 h
    refine lv_iload_n hx hb dX5_hasPath_7 rfl (lv_at hl 1 rfl) ?_
    refine lv_if_lt (tgt := 23) hx hb dX5_hasPath_8 (by decide) (fun c_2 => ?_) (fun c_2 => ?_)
    · have h := gx_t c_2 h
      refine lv_iconst (v := 0) hx hb dX5_hasPath_23 (by decide) ?_
      cases h
      exact gRz hx hb hr hlocks rfl hP hD hS dX5_hasPath_24
    · have h := gx_f c_2 h
      refine lv_iload_n hx hb dX5_hasPath_11 rfl (lv_at hl 1 rfl) ?_
      refine lv_aload_n hx hb dX5_hasPath_12 rfl (lv_at hl 0 rfl) ?_
      refine va_get (D := D) (ci := 4) (v := .int v_left) (C := RX5) (T := TX5) (N := 8) hx hb hts iX5 hown hK hP 0 rfl rfl 3 (by decide) f26 (fun _ h9 => h9) rfl dX5_hasPath_13 ?_
      refine lv_icmp_ge (tgt := 23) hx hb dX5_hasPath_16 (by decide) (fun c_3 => ?_) (fun c_3 => ?_)
      · have h := gx_t c_3 h
        refine lv_iconst (v := 0) hx hb dX5_hasPath_23 (by decide) ?_
        cases h
        exact gRz hx hb hr hlocks rfl hP hD hS dX5_hasPath_24
      · have h := gx_f c_3 h
        refine lv_iconst (v := 1) hx hb dX5_hasPath_19 (by decide) ?_
        refine lv_goto (tgt := 24) hx hb dX5_hasPath_20 (by decide) ?_
        cases h
        exact gRz hx hb hr hlocks rfl hP hD hS dX5_hasPath_24

def f_X5_rowOf (K : Nat) (x1 : Int32) (v_pathsc : Nat → Int64) : Option (Int64) :=
  gIx x1 64 <|
  some (v_pathsc (Int32.toNatClampNeg x1))
set_option maxHeartbeats 4000000 in
set_option maxRecDepth 100000 in
theorem c_X5_rowOf (l : Launch) (D : va_G) (cy : Nat → ClassId) (t sz K : Nat) (z : Nat) (z_paths : Nat) (z_nextPaths : Nat) (v_width : Int32) (v_checkMask : Int64) (v_hasRead : Int32) (v_left : Int32) (v_seenOnes : Int64) (v_seenLost : Int64) (v_pathsc : Nat → Int64) (x1 : Int32) (r_ : Int64) (h : f_X5_rowOf K x1 v_pathsc = some r_) : gMl l D cy t sz yX5_rowOf wsX5_rowOf 0 0 [.ref z, .int x1] [(z, .inr (4, [.int v_width, .long v_checkMask, .int v_hasRead, .int v_left, .ref z_paths, .ref z_nextPaths, .long v_seenOnes, .long v_seenLost])), (z_paths, .inl (cy 1, 64, .inr (.inl v_pathsc)))] r_ [(z, .inr (4, [.int v_width, .long v_checkMask, .int v_hasRead, .int v_left, .ref z_paths, .ref z_nextPaths, .long v_seenOnes, .long v_seenLost])), (z_paths, .inl (cy 1, 64, .inr (.inl v_pathsc)))] := by
  refine gBl (cc := cX5_rowOf) (maxL := 2) (ret := (some .long)) (by decide) rfl (Nat.le_of_ble_eq_true rfl) ?_
  intro p e s m below meth c A ls hAt hl
  obtain ⟨hx, hb, hml, hr, hts, hown, hlocks, hin, hK, hG, hA, hP, hD⟩ := hAt
  have hS : va_S A s.heap s.heap [] := va_S.rf
  have hl : lv_has ls 2 [(0, .ref z), (1, .int x1)] := hl
  have f15 := hts (.fieldLink RX5 15 "PlainLines$Reader" "paths" "[J") (by decide +kernel)
  have iX5 := (by decide +kernel : ∀ w ∈ u_ws RX5 TX5 8, w ∈ wsX5_rowOf)
  rw [f_X5_rowOf] at h
  refine lv_aload_n hx hb dX5_rowOf_0 rfl (lv_at hl 0 rfl) ?_
  refine va_get (D := D) (ci := 4) (v := .ref z_paths) (C := RX5) (T := TX5) (N := 8) hx hb hts iX5 hown hK hP 0 rfl rfl 4 (by decide) f15 (fun _ h9 => h9) rfl dX5_rowOf_1 ?_
  refine lv_iload_n hx hb dX5_rowOf_4 rfl (lv_at hl 1 rfl) ?_
  obtain ⟨hi_, h⟩ := gx_ix h
  refine va_lald hx hb hK hP 1 1 rfl rfl hi_ dX5_rowOf_5 ?_
  cases h
  exact gRl hx hb hr hlocks hP hD hS dX5_rowOf_6

def fL_X5_bitTold_20 (K : Nat) (l2 : Int32) : Nat → Int32 × Int64 × Int64 × Int64 → Option (Int32 × Int64 × Int64 × Int64)
  | 0, _ => none
  | k + 1, (l11, l9, l7, l5) =>
    if l11 < 1 then
      some (l11, l9, l7, l5)
    else
      gLet ((gLshl 1 l11) - 1) fun y12_3 =>
      gLet (l5 &&& y12_3) fun y14_4 =>
      gLet (gLushr l5 l11) fun y16_5 =>
      gLet (l7 &&& y12_3) fun y18_6 =>
      gLet (gLushr l7 l11) fun y20_7 =>
      Option.bind (α := Int64 × Int64 × Int64) (
        if (l2 &&& l11) = 0 then
          gLet (y18_6 ||| y20_7) fun y7_16 =>
          gLet ((y14_4 ^^^ y16_5) &&& (y7_16 ^^^ (-1))) fun y5_17 =>
          some (l9, y5_17, y7_16)
        else
          Option.bind (f_X9_folded K (l9 &&& y12_3) l11) fun r_12 =>
          gLet (y18_6 &&& y20_7) fun y7_13 =>
          gLet ((y16_5 ||| ((y14_4 ^^^ r_12) &&& y20_7)) &&& (y7_13 ^^^ (-1))) fun y5_14 =>
          gLet (gLushr l9 l11) fun y9_15 =>
          some (y9_15, y5_14, y7_13)) fun (m9_8, m5_9, m7_10) =>
      gLet (l11 / 2) fun y11_18 =>
      fL_X5_bitTold_20 K l2 k (y11_18, m9_8, m7_10, m5_9)
def f_X5_bitTold (K : Nat) (x1 : Int32) (x2 : Int32) (x3 : Int64) (v_seenOnes : Int64) (v_seenLost : Int64) : Option (Int32) :=
  gLet (x1 / 2) fun y11_1 =>
  Option.bind (fL_X5_bitTold_20 K x2 K (y11_1, x3, v_seenLost, v_seenOnes)) fun (o_19, o_20, o_21, o_22) =>
  if (lg_cmp o_21 0) = 0 then
    some (Int64.toInt32 o_22)
  else
    some 2
set_option maxHeartbeats 4000000 in
set_option maxRecDepth 100000 in
theorem c_X5_bitTold (l : Launch) (D : va_G) (cy : Nat → ClassId) (t sz K : Nat) (z : Nat) (z_paths : Nat) (z_nextPaths : Nat) (v_width : Int32) (v_checkMask : Int64) (v_hasRead : Int32) (v_left : Int32) (v_seenOnes : Int64) (v_seenLost : Int64) (x1 : Int32) (x2 : Int32) (x3 : Int64) (r_ : Int32) (h : f_X5_bitTold K x1 x2 x3 v_seenOnes v_seenLost = some r_) : gMi l D cy t sz yX5_bitTold wsX5_bitTold 1 25 [.ref z, .int x1, .int x2, .long x3] [(z, .inr (4, [.int v_width, .long v_checkMask, .int v_hasRead, .int v_left, .ref z_paths, .ref z_nextPaths, .long v_seenOnes, .long v_seenLost]))] r_ [(z, .inr (4, [.int v_width, .long v_checkMask, .int v_hasRead, .int v_left, .ref z_paths, .ref z_nextPaths, .long v_seenOnes, .long v_seenLost]))] := by
  refine gBi (cc := cX5_bitTold) (maxL := 24) (ret := (some .int)) (by decide) rfl (Nat.le_of_ble_eq_true rfl) ?_
  intro p e s m below meth c A ls hAt hl
  obtain ⟨hx, hb, hml, hr, hts, hown, hlocks, hin, hK, hG, hA, hP, hD⟩ := hAt
  have hS : va_S A s.heap s.heap [] := va_S.rf
  have hl : lv_has ls 24 [(0, .ref z), (1, .int x1), (2, .int x2), (3, .long x3)] := hl
  have f29 := hts (.fieldLink RX5 29 "PlainLines$Reader" "seenOnes" "J") (by decide +kernel)
  have iX5 := (by decide +kernel : ∀ w ∈ u_ws RX5 TX5 8, w ∈ wsX5_bitTold)
  have f33 := hts (.fieldLink RX5 33 "PlainLines$Reader" "seenLost" "J") (by decide +kernel)
  have k65 := hts (.constantLong RX5 65 (-1)) (by decide +kernel)
  rw [f_X5_bitTold] at h
  refine lv_aload_n hx hb dX5_bitTold_0 rfl (lv_at hl 0 rfl) ?_
  refine va_get (D := D) (ci := 4) (v := .long v_seenOnes) (C := RX5) (T := TX5) (N := 8) hx hb hts iX5 hown hK hP 0 rfl rfl 6 (by decide) f29 (fun _ h9 => h9) rfl dX5_bitTold_1 ?_
  refine lv_lstore (lv' := [(5, .long v_seenOnes), (0, .ref z), (1, .int x1), (2, .int x2), (3, .long x3)]) hx hb dX5_bitTold_4 hl (by decide) rfl (fun ls hl => ?_)
  refine lv_aload_n hx hb dX5_bitTold_6 rfl (lv_at hl 1 rfl) ?_
  refine va_get (D := D) (ci := 4) (v := .long v_seenLost) (C := RX5) (T := TX5) (N := 8) hx hb hts iX5 hown hK hP 0 rfl rfl 7 (by decide) f33 (fun _ h9 => h9) rfl dX5_bitTold_7 ?_
  refine lv_lstore (lv' := [(7, .long v_seenLost), (5, .long v_seenOnes), (0, .ref z), (1, .int x1), (2, .int x2), (3, .long x3)]) hx hb dX5_bitTold_10 hl (by decide) rfl (fun ls hl => ?_)
  refine lv_lload_n hx hb dX5_bitTold_12 rfl (lv_at hl 5 rfl) ?_
  refine lv_lstore (lv' := [(9, .long x3), (7, .long v_seenLost), (5, .long v_seenOnes), (0, .ref z), (1, .int x1), (2, .int x2), (3, .long x3)]) hx hb dX5_bitTold_13 hl (by decide) rfl (fun ls hl => ?_)
  refine lv_iload_n hx hb dX5_bitTold_15 rfl (lv_at hl 4 rfl) ?_
  refine lv_iconst (v := 2) hx hb dX5_bitTold_16 (by decide) ?_
  refine lv_idiv hx hb dX5_bitTold_17 (by decide) ?_
  refine lv_topi (fun y11_1 e_y11_1 => ?_)
  have h := gx_let e_y11_1 h
  refine lv_istore (lv' := [(11, .int y11_1), (9, .long x3), (7, .long v_seenLost), (5, .long v_seenOnes), (0, .ref z), (1, .int x1), (2, .int x2), (3, .long x3)]) hx hb dX5_bitTold_18 hl (by decide) rfl (fun ls hl => ?_)
  obtain ⟨⟨o_2, o_3, o_4, o_5⟩, hL_6, h⟩ := gx_b h
  refine gJoin (Pj := fun H locs ls => va_P D vwCl [(z, .inr (4, [.int v_width, .long v_checkMask, .int v_hasRead, .int v_left, .ref z_paths, .ref z_nextPaths, .long v_seenOnes, .long v_seenLost]))] H ∧ va_D A [(z, .inr (4, [.int v_width, .long v_checkMask, .int v_hasRead, .int v_left, .ref z_paths, .ref z_nextPaths, .long v_seenOnes, .long v_seenLost]))] ∧ va_S A s.heap H locs ∧ lv_has ls 24 [(11, .int o_2), (9, .long o_3), (7, .long o_4), (5, .long o_5), (0, .ref z), (1, .int x1), (2, .int x2), (3, .long x3)]) (pcM := 148) (st := []) ?_ (fun hJ148 => ?_)
  · intro H locs ls hp_
    obtain ⟨hP, hD, hS, hl⟩ := hp_
    clear hL_6
    refine lv_lload hx hb dX5_bitTold_148 (lv_at hl 2 rfl) ?_
    refine lv_lconst (v := 0) hx hb dX5_bitTold_150 (by decide) ?_
    refine W.lcmp hx hb dX5_bitTold_151 ?_
    refine lv_if_eq (tgt := 159) hx hb dX5_bitTold_152 (by decide) (fun c_7 => ?_) (fun c_7 => ?_)
    · have h := gx_t c_7 h
      refine lv_lload hx hb dX5_bitTold_159 (lv_at hl 3 rfl) ?_
      refine lv_l2i (v := (Int64.toInt32 o_5)) hx hb dX5_bitTold_161 rfl ?_
      cases h
      exact gRi hx hb hr hlocks hP hD hS dX5_bitTold_162
    · have h := gx_f c_7 h
      refine lv_iconst (v := 2) hx hb dX5_bitTold_155 (by decide) ?_
      refine lv_goto (tgt := 162) hx hb dX5_bitTold_156 (by decide) ?_
      cases h
      exact gRi hx hb hr hlocks hP hD hS dX5_bitTold_162
  · refine gLoop (Hy := fun k_ v_ => fL_X5_bitTold_20 K x2 k_ v_ = some (o_2, o_3, o_4, o_5)) (Pl := fun (v_ : Int32 × Int64 × Int64 × Int64) H locs ls => match v_ with | (a_8, a_9, a_10, a_11) => va_P D vwCl [(z, .inr (4, [.int v_width, .long v_checkMask, .int v_hasRead, .int v_left, .ref z_paths, .ref z_nextPaths, .long v_seenOnes, .long v_seenLost]))] H ∧ va_D A [(z, .inr (4, [.int v_width, .long v_checkMask, .int v_hasRead, .int v_left, .ref z_paths, .ref z_nextPaths, .long v_seenOnes, .long v_seenLost]))] ∧ va_S A s.heap H locs ∧ lv_has ls 24 [(11, .int a_8), (9, .long a_9), (7, .long a_10), (5, .long a_11), (0, .ref z), (1, .int x1), (2, .int x2), (3, .long x3)]) (pcH := 20) (fun _ q_ => by cases q_) ?_ K (y11_1, x3, v_seenLost, v_seenOnes) hL_6 ⟨hP, hD, hS, hl⟩
    clear hL_6 h hP hD hS hl
    intro k_ ih ⟨a_8, a_9, a_10, a_11⟩ H locs ls h hp_
    obtain ⟨hP, hD, hS, hl⟩ := hp_
    have hP : va_P D vwCl [(z, .inr (4, [.int v_width, .long v_checkMask, .int v_hasRead, .int v_left, .ref z_paths, .ref z_nextPaths, .long v_seenOnes, .long v_seenLost]))] H := hP
    have hD : va_D A [(z, .inr (4, [.int v_width, .long v_checkMask, .int v_hasRead, .int v_left, .ref z_paths, .ref z_nextPaths, .long v_seenOnes, .long v_seenLost]))] := hD
    have hl : lv_has ls 24 [(11, .int a_8), (9, .long a_9), (7, .long a_10), (5, .long a_11), (0, .ref z), (1, .int x1), (2, .int x2), (3, .long x3)] := hl
    change fL_X5_bitTold_20 K x2 (k_ + 1) (a_8, a_9, a_10, a_11) = _ at h
    rw [fL_X5_bitTold_20] at h
    refine lv_iload hx hb dX5_bitTold_20 (lv_at hl 0 rfl) ?_
    refine lv_iconst (v := 1) hx hb dX5_bitTold_22 (by decide) ?_
    refine lv_icmp_lt (tgt := 148) hx hb dX5_bitTold_23 (by decide) (fun c_12 => ?_) (fun c_12 => ?_)
    · have h := gx_t c_12 h
      have hl := lv_sub (l' := [(11, .int a_8), (9, .long a_9), (7, .long a_10), (5, .long a_11), (0, .ref z), (1, .int x1), (2, .int x2), (3, .long x3)]) hl [0, 1, 2, 3, 4, 5, 6, 7] rfl
      cases h
      exact hJ148 _ _ _ ⟨hP, hD, hS, hl⟩
    · have h := gx_f c_12 h
      refine lv_lconst (v := 1) hx hb dX5_bitTold_26 (by decide) ?_
      refine lv_iload hx hb dX5_bitTold_27 (lv_at hl 0 rfl) ?_
      refine lv_lshl (v := (gLshl 1 a_8)) hx hb dX5_bitTold_29 rfl ?_
      refine lv_lconst (v := 1) hx hb dX5_bitTold_30 (by decide) ?_
      refine lv_lsub hx hb dX5_bitTold_31 ?_
      refine lv_topl (fun y12_13 e_y12_13 => ?_)
      have h := gx_let e_y12_13 h
      refine lv_lstore (lv' := [(12, .long y12_13), (11, .int a_8), (9, .long a_9), (7, .long a_10), (5, .long a_11), (0, .ref z), (1, .int x1), (2, .int x2), (3, .long x3)]) hx hb dX5_bitTold_32 hl (by decide) rfl (fun ls hl => ?_)
      refine lv_lload hx hb dX5_bitTold_34 (lv_at hl 4 rfl) ?_
      refine lv_lload hx hb dX5_bitTold_36 (lv_at hl 0 rfl) ?_
      refine lv_land hx hb dX5_bitTold_38 ?_
      refine lv_topl (fun y14_14 e_y14_14 => ?_)
      have h := gx_let e_y14_14 h
      refine lv_lstore (lv' := [(14, .long y14_14), (12, .long y12_13), (11, .int a_8), (9, .long a_9), (7, .long a_10), (5, .long a_11), (0, .ref z), (1, .int x1), (2, .int x2), (3, .long x3)]) hx hb dX5_bitTold_39 hl (by decide) rfl (fun ls hl => ?_)
      refine lv_lload hx hb dX5_bitTold_41 (lv_at hl 5 rfl) ?_
      refine lv_iload hx hb dX5_bitTold_43 (lv_at hl 2 rfl) ?_
      refine lv_lushr (v := (gLushr a_11 a_8)) hx hb dX5_bitTold_45 rfl ?_
      refine lv_topl (fun y16_15 e_y16_15 => ?_)
      have h := gx_let e_y16_15 h
      refine lv_lstore (lv' := [(16, .long y16_15), (14, .long y14_14), (12, .long y12_13), (11, .int a_8), (9, .long a_9), (7, .long a_10), (5, .long a_11), (0, .ref z), (1, .int x1), (2, .int x2), (3, .long x3)]) hx hb dX5_bitTold_46 hl (by decide) rfl (fun ls hl => ?_)
      refine lv_lload hx hb dX5_bitTold_48 (lv_at hl 5 rfl) ?_
      refine lv_lload hx hb dX5_bitTold_50 (lv_at hl 2 rfl) ?_
      refine lv_land hx hb dX5_bitTold_52 ?_
      refine lv_topl (fun y18_16 e_y18_16 => ?_)
      have h := gx_let e_y18_16 h
      refine lv_lstore (lv' := [(18, .long y18_16), (16, .long y16_15), (14, .long y14_14), (12, .long y12_13), (11, .int a_8), (9, .long a_9), (7, .long a_10), (5, .long a_11), (0, .ref z), (1, .int x1), (2, .int x2), (3, .long x3)]) hx hb dX5_bitTold_53 hl (by decide) rfl (fun ls hl => ?_)
      refine lv_lload hx hb dX5_bitTold_55 (lv_at hl 6 rfl) ?_
      refine lv_iload hx hb dX5_bitTold_57 (lv_at hl 4 rfl) ?_
      refine lv_lushr (v := (gLushr a_10 a_8)) hx hb dX5_bitTold_59 rfl ?_
      refine lv_topl (fun y20_17 e_y20_17 => ?_)
      have h := gx_let e_y20_17 h
      refine lv_lstore (lv' := [(20, .long y20_17), (18, .long y18_16), (16, .long y16_15), (14, .long y14_14), (12, .long y12_13), (11, .int a_8), (9, .long a_9), (7, .long a_10), (5, .long a_11), (0, .ref z), (1, .int x1), (2, .int x2), (3, .long x3)]) hx hb dX5_bitTold_60 hl (by decide) rfl (fun ls hl => ?_)
      refine lv_iload_n hx hb dX5_bitTold_62 rfl (lv_at hl 11 rfl) ?_
      refine lv_iload hx hb dX5_bitTold_63 (lv_at hl 5 rfl) ?_
      refine lv_iand hx hb dX5_bitTold_65 ?_
      obtain ⟨⟨m9_18, m5_19, m7_20⟩, hR_21, h⟩ := gx_b h
      refine gJoin (Pj := fun H locs ls => va_P D vwCl [(z, .inr (4, [.int v_width, .long v_checkMask, .int v_hasRead, .int v_left, .ref z_paths, .ref z_nextPaths, .long v_seenOnes, .long v_seenLost]))] H ∧ va_D A [(z, .inr (4, [.int v_width, .long v_checkMask, .int v_hasRead, .int v_left, .ref z_paths, .ref z_nextPaths, .long v_seenOnes, .long v_seenLost]))] ∧ va_S A s.heap H locs ∧ lv_has ls 24 [(9, .long m9_18), (5, .long m5_19), (7, .long m7_20), (20, .long y20_17), (18, .long y18_16), (16, .long y16_15), (14, .long y14_14), (12, .long y12_13), (11, .int a_8), (0, .ref z), (1, .int x1), (2, .int x2), (3, .long x3)]) (pcM := 139) (st := []) ?_ (fun hJ139 => ?_)
      · intro H locs ls hp_
        obtain ⟨hP, hD, hS, hl⟩ := hp_
        clear hR_21
        refine lv_iload hx hb dX5_bitTold_139 (lv_at hl 8 rfl) ?_
        refine lv_iconst (v := 2) hx hb dX5_bitTold_141 (by decide) ?_
        refine lv_idiv hx hb dX5_bitTold_142 (by decide) ?_
        refine lv_topi (fun y11_22 e_y11_22 => ?_)
        have h := gx_let e_y11_22 h
        refine lv_istore (lv' := [(11, .int y11_22), (9, .long m9_18), (5, .long m5_19), (7, .long m7_20), (20, .long y20_17), (18, .long y18_16), (16, .long y16_15), (14, .long y14_14), (12, .long y12_13), (0, .ref z), (1, .int x1), (2, .int x2), (3, .long x3)]) hx hb dX5_bitTold_143 hl (by decide) rfl (fun ls hl => ?_)
        refine lv_goto (tgt := 20) hx hb dX5_bitTold_145 (by decide) ?_
        exact ih (y11_22, m9_18, m7_20, m5_19) _ _ _ h ⟨hP, hD, hS, lv_sub (l' := [(11, .int y11_22), (9, .long m9_18), (7, .long m7_20), (5, .long m5_19), (0, .ref z), (1, .int x1), (2, .int x2), (3, .long x3)]) hl [0, 1, 3, 2, 9, 10, 11, 12] rfl⟩
      · have h := hR_21
        refine lv_if_ne (tgt := 93) hx hb dX5_bitTold_66 (by decide) (fun c_23 => ?_) (fun c_23 => ?_)
        · have h := gx_f c_23 h
          refine lv_lload hx hb dX5_bitTold_93 (lv_at hl 6 rfl) ?_
          refine lv_lload hx hb dX5_bitTold_95 (lv_at hl 4 rfl) ?_
          refine lv_land hx hb dX5_bitTold_97 ?_
          refine lv_iload hx hb dX5_bitTold_98 (lv_at hl 5 rfl) ?_
          obtain ⟨r_24, hc_25, h⟩ := gx_b h
          refine gCalll (wr := [(z, .inr (4, [.int v_width, .long v_checkMask, .int v_hasRead, .int v_left, .ref z_paths, .ref z_nextPaths, .long v_seenOnes, .long v_seenLost]))]) (va_runSN (As := [.long (a_9 &&& y12_13), .int a_8]) (rest := []) ⟨hx, hb, hml, hown, hts⟩ (c_X9_folded l D cy t H.size K (a_9 &&& y12_13) a_8 r_24 hc_25) ⟨va_cnB 2 hts gX5_bitTold_X9_folded_n67 rfl rfl rfl (hG.2.2.1 12 _ rfl) (hts (.initialized RX9) (by decide +kernel)) (by decide +kernel) ⟨Nat.le_of_ble_eq_true rfl, Nat.le_of_ble_eq_true rfl⟩, hts (.static yX9_folded) (by decide +kernel), trivial⟩ ⟨gBlind, fun U hU hW => ⟨rfl, gPre.call hK hG hA hP hD hS [] (by decide) rfl U hU hW⟩⟩ rfl rfl hl.1 rfl (lv_room (Nat.le_of_ble_eq_true rfl)) dX5_bitTold_100 ⟨Nat.le_of_ble_eq_true rfl, Nat.le_of_ble_eq_true rfl⟩) hA hP hD hS [] [0] rfl rfl (by decide) (by decide) (fun H locs hP hD hS => ?_)
          have hP : va_P D vwCl [(z, .inr (4, [.int v_width, .long v_checkMask, .int v_hasRead, .int v_left, .ref z_paths, .ref z_nextPaths, .long v_seenOnes, .long v_seenLost]))] H := hP
          have hD : va_D A [(z, .inr (4, [.int v_width, .long v_checkMask, .int v_hasRead, .int v_left, .ref z_paths, .ref z_nextPaths, .long v_seenOnes, .long v_seenLost]))] := hD
          refine lv_lstore (lv' := [(22, .long r_24), (20, .long y20_17), (18, .long y18_16), (16, .long y16_15), (14, .long y14_14), (12, .long y12_13), (11, .int a_8), (9, .long a_9), (7, .long a_10), (5, .long a_11), (0, .ref z), (1, .int x1), (2, .int x2), (3, .long x3)]) hx hb dX5_bitTold_103 hl (by decide) rfl (fun ls hl => ?_)
          refine lv_lload hx hb dX5_bitTold_105 (lv_at hl 2 rfl) ?_
          refine lv_lload hx hb dX5_bitTold_107 (lv_at hl 1 rfl) ?_
          refine lv_land hx hb dX5_bitTold_109 ?_
          refine lv_topl (fun y7_26 e_y7_26 => ?_)
          have h := gx_let e_y7_26 h
          refine lv_lstore (lv' := [(7, .long y7_26), (22, .long r_24), (20, .long y20_17), (18, .long y18_16), (16, .long y16_15), (14, .long y14_14), (12, .long y12_13), (11, .int a_8), (9, .long a_9), (5, .long a_11), (0, .ref z), (1, .int x1), (2, .int x2), (3, .long x3)]) hx hb dX5_bitTold_110 hl (by decide) rfl (fun ls hl => ?_)
          refine lv_lload hx hb dX5_bitTold_112 (lv_at hl 4 rfl) ?_
          refine lv_lload hx hb dX5_bitTold_114 (lv_at hl 5 rfl) ?_
          refine lv_lload hx hb dX5_bitTold_116 (lv_at hl 1 rfl) ?_
          refine lv_lxor hx hb dX5_bitTold_118 ?_
          refine lv_lload hx hb dX5_bitTold_119 (lv_at hl 2 rfl) ?_
          refine lv_land hx hb dX5_bitTold_121 ?_
          refine lv_lor hx hb dX5_bitTold_122 ?_
          refine lv_lload hx hb dX5_bitTold_123 (lv_at hl 0 rfl) ?_
          refine lv_ldc2 hx hb hown k65 dX5_bitTold_125 ?_
          refine lv_lxor hx hb dX5_bitTold_128 ?_
          refine lv_land hx hb dX5_bitTold_129 ?_
          refine lv_topl (fun y5_27 e_y5_27 => ?_)
          have h := gx_let e_y5_27 h
          refine lv_lstore (lv' := [(5, .long y5_27), (7, .long y7_26), (22, .long r_24), (20, .long y20_17), (18, .long y18_16), (16, .long y16_15), (14, .long y14_14), (12, .long y12_13), (11, .int a_8), (9, .long a_9), (0, .ref z), (1, .int x1), (2, .int x2), (3, .long x3)]) hx hb dX5_bitTold_130 hl (by decide) rfl (fun ls hl => ?_)
          refine lv_lload hx hb dX5_bitTold_132 (lv_at hl 9 rfl) ?_
          refine lv_iload hx hb dX5_bitTold_134 (lv_at hl 8 rfl) ?_
          refine lv_lushr (v := (gLushr a_9 a_8)) hx hb dX5_bitTold_136 rfl ?_
          refine lv_topl (fun y9_28 e_y9_28 => ?_)
          have h := gx_let e_y9_28 h
          refine lv_lstore (lv' := [(9, .long y9_28), (5, .long y5_27), (7, .long y7_26), (22, .long r_24), (20, .long y20_17), (18, .long y18_16), (16, .long y16_15), (14, .long y14_14), (12, .long y12_13), (11, .int a_8), (0, .ref z), (1, .int x1), (2, .int x2), (3, .long x3)]) hx hb dX5_bitTold_137 hl (by decide) rfl (fun ls hl => ?_)
          have hl := lv_sub (l' := [(9, .long y9_28), (5, .long y5_27), (7, .long y7_26), (20, .long y20_17), (18, .long y18_16), (16, .long y16_15), (14, .long y14_14), (12, .long y12_13), (11, .int a_8), (0, .ref z), (1, .int x1), (2, .int x2), (3, .long x3)]) hl [0, 1, 2, 4, 5, 6, 7, 8, 9, 10, 11, 12, 13] rfl
          cases h
          exact hJ139 _ _ _ ⟨hP, hD, hS, hl⟩
        · have h := gx_t c_23 h
          refine lv_lload hx hb dX5_bitTold_69 (lv_at hl 1 rfl) ?_
          refine lv_lload hx hb dX5_bitTold_71 (lv_at hl 0 rfl) ?_
          refine lv_lor hx hb dX5_bitTold_73 ?_
          refine lv_topl (fun y7_29 e_y7_29 => ?_)
          have h := gx_let e_y7_29 h
          refine lv_lstore (lv' := [(7, .long y7_29), (20, .long y20_17), (18, .long y18_16), (16, .long y16_15), (14, .long y14_14), (12, .long y12_13), (11, .int a_8), (9, .long a_9), (5, .long a_11), (0, .ref z), (1, .int x1), (2, .int x2), (3, .long x3)]) hx hb dX5_bitTold_74 hl (by decide) rfl (fun ls hl => ?_)
          refine lv_lload hx hb dX5_bitTold_76 (lv_at hl 4 rfl) ?_
          refine lv_lload hx hb dX5_bitTold_78 (lv_at hl 3 rfl) ?_
          refine lv_lxor hx hb dX5_bitTold_80 ?_
          refine lv_lload hx hb dX5_bitTold_81 (lv_at hl 0 rfl) ?_
          refine lv_ldc2 hx hb hown k65 dX5_bitTold_83 ?_
          refine lv_lxor hx hb dX5_bitTold_86 ?_
          refine lv_land hx hb dX5_bitTold_87 ?_
          refine lv_topl (fun y5_30 e_y5_30 => ?_)
          have h := gx_let e_y5_30 h
          refine lv_lstore (lv' := [(5, .long y5_30), (7, .long y7_29), (20, .long y20_17), (18, .long y18_16), (16, .long y16_15), (14, .long y14_14), (12, .long y12_13), (11, .int a_8), (9, .long a_9), (0, .ref z), (1, .int x1), (2, .int x2), (3, .long x3)]) hx hb dX5_bitTold_88 hl (by decide) rfl (fun ls hl => ?_)
          refine lv_goto (tgt := 139) hx hb dX5_bitTold_90 (by decide) ?_
          have hl := lv_sub (l' := [(9, .long a_9), (5, .long y5_30), (7, .long y7_29), (20, .long y20_17), (18, .long y18_16), (16, .long y16_15), (14, .long y14_14), (12, .long y12_13), (11, .int a_8), (0, .ref z), (1, .int x1), (2, .int x2), (3, .long x3)]) hl [8, 0, 1, 2, 3, 4, 5, 6, 7, 9, 10, 11, 12] rfl
          cases h
          exact hJ139 _ _ _ ⟨hP, hD, hS, hl⟩

def fL_X5_passGood_5 (K : Nat) (l1 : Int32) (l2 : Int32) (u0_0 : Int32) (u0_3 : Int32) (u0_6 : Int64) (u0_7 : Int64) (u1 : Nat → Int64) : Nat → Int32 × Int32 × (Nat → Int64) → Option (Int32 × Int32 × (Nat → Int64))
  | 0, _ => none
  | k + 1, (l4, l3, u2) =>
    if u0_3 ≤ l4 then
      some (l4, l3, u2)
    else
      if u0_0 ≤ l3 then
        some (l4, l3, u2)
      else
        gIx l4 64 <|
        Option.bind (f_X5_bitTold K l1 l2 (u1 (Int32.toNatClampNeg l4)) u0_6 u0_7) fun r_20 =>
        Option.bind (α := Int32 × (Nat → Int64)) (
          if r_20 = 1 then
            some (l3, u2)
          else
            gIx l4 64 <|
            gLet (u1 (Int32.toNatClampNeg l4)) fun y_24 =>
            gIx l3 64 <|
            gLet (vp_updL u2 (Int32.toNatClampNeg l3) y_24) fun w_25 =>
            gLet (l3 + 1) fun y3_26 =>
            some (y3_26, w_25)) fun (m3_21, mc_22) =>
        if r_20 = 0 then
          gLet (l4 + 1) fun y4_28 =>
          fL_X5_passGood_5 K l1 l2 u0_0 u0_3 u0_6 u0_7 u1 k (y4_28, m3_21, mc_22)
        else
          if u0_0 ≤ m3_21 then
            gLet (l4 + 1) fun y4_30 =>
            fL_X5_passGood_5 K l1 l2 u0_0 u0_3 u0_6 u0_7 u1 k (y4_30, m3_21, mc_22)
          else
            gIx l4 64 <|
            gLet ((u1 (Int32.toNatClampNeg l4)) ||| (gLshl 1 l2)) fun y_31 =>
            gIx m3_21 64 <|
            gLet (vp_updL mc_22 (Int32.toNatClampNeg m3_21) y_31) fun w_32 =>
            gLet (m3_21 + 1) fun y3_33 =>
            gLet (l4 + 1) fun y4_34 =>
            fL_X5_passGood_5 K l1 l2 u0_0 u0_3 u0_6 u0_7 u1 k (y4_34, y3_33, w_32)
def f_X5_passGood (K : Nat) (x1 : Int32) (x2 : Int32) (v_width : Int32) (v_left : Int32) (v_seenOnes : Int64) (v_seenLost : Int64) (v_pathsc : Nat → Int64) (v_nextPathsc : Nat → Int64) : Option (Int32 × (Nat → Int64)) :=
  Option.bind (fL_X5_passGood_5 K x1 x2 v_width v_left v_seenOnes v_seenLost v_pathsc K (0, 0, v_nextPathsc)) fun (o_35, o_36, o_37) =>
  some (o_36, o_37)
set_option maxHeartbeats 4000000 in
set_option maxRecDepth 100000 in
theorem c_X5_passGood (l : Launch) (D : va_G) (cy : Nat → ClassId) (t sz K : Nat) (z : Nat) (z_paths : Nat) (z_nextPaths : Nat) (v_width : Int32) (v_checkMask : Int64) (v_hasRead : Int32) (v_left : Int32) (v_seenOnes : Int64) (v_seenLost : Int64) (v_pathsc : Nat → Int64) (v_nextPathsc : Nat → Int64) (x1 : Int32) (x2 : Int32) (r_ : Int32) (o_v_nextPathsc : Nat → Int64) (h : f_X5_passGood K x1 x2 v_width v_left v_seenOnes v_seenLost v_pathsc v_nextPathsc = some (r_, o_v_nextPathsc)) : gMi l D cy t sz yX5_passGood wsX5_passGood 2 68 [.ref z, .int x1, .int x2] [(z, .inr (4, [.int v_width, .long v_checkMask, .int v_hasRead, .int v_left, .ref z_paths, .ref z_nextPaths, .long v_seenOnes, .long v_seenLost])), (z_paths, .inl (cy 1, 64, .inr (.inl v_pathsc))), (z_nextPaths, .inl (cy 1, 64, .inr (.inl v_nextPathsc)))] r_ [(z, .inr (4, [.int v_width, .long v_checkMask, .int v_hasRead, .int v_left, .ref z_paths, .ref z_nextPaths, .long v_seenOnes, .long v_seenLost])), (z_paths, .inl (cy 1, 64, .inr (.inl v_pathsc))), (z_nextPaths, .inl (cy 1, 64, .inr (.inl o_v_nextPathsc)))] := by
  refine gBi (cc := cX5_passGood) (maxL := 6) (ret := (some .int)) (by decide) rfl (Nat.le_of_ble_eq_true rfl) ?_
  intro p e s m below meth c A ls hAt hl
  obtain ⟨hx, hb, hml, hr, hts, hown, hlocks, hin, hK, hG, hA, hP, hD⟩ := hAt
  have hS : va_S A s.heap s.heap [] := va_S.rf
  have hl : lv_has ls 6 [(0, .ref z), (1, .int x1), (2, .int x2)] := hl
  have f26 := hts (.fieldLink RX5 26 "PlainLines$Reader" "left" "I") (by decide +kernel)
  have iX5 := (by decide +kernel : ∀ w ∈ u_ws RX5 TX5 8, w ∈ wsX5_passGood)
  have f9 := hts (.fieldLink RX5 9 "PlainLines$Reader" "width" "I") (by decide +kernel)
  have f15 := hts (.fieldLink RX5 15 "PlainLines$Reader" "paths" "[J") (by decide +kernel)
  have f19 := hts (.fieldLink RX5 19 "PlainLines$Reader" "nextPaths" "[J") (by decide +kernel)
  rw [f_X5_passGood] at h
  refine lv_iconst (v := 0) hx hb dX5_passGood_0 (by decide) ?_
  refine lv_istore_n (lv' := [(3, .int 0), (0, .ref z), (1, .int x1), (2, .int x2)]) hx hb dX5_passGood_1 rfl hl (by decide) rfl (fun ls hl => ?_)
  refine lv_iconst (v := 0) hx hb dX5_passGood_2 (by decide) ?_
  refine lv_istore (lv' := [(4, .int 0), (3, .int 0), (0, .ref z), (1, .int x1), (2, .int x2)]) hx hb dX5_passGood_3 hl (by decide) rfl (fun ls hl => ?_)
  obtain ⟨⟨o_1, o_2, o_3⟩, hL_4, h⟩ := gx_b h
  refine gJoin (Pj := fun H locs ls => va_P D vwCl [(z, .inr (4, [.int v_width, .long v_checkMask, .int v_hasRead, .int v_left, .ref z_paths, .ref z_nextPaths, .long v_seenOnes, .long v_seenLost])), (z_paths, .inl (cy 1, 64, .inr (.inl v_pathsc))), (z_nextPaths, .inl (cy 1, 64, .inr (.inl o_3)))] H ∧ va_D A [(z, .inr (4, [.int v_width, .long v_checkMask, .int v_hasRead, .int v_left, .ref z_paths, .ref z_nextPaths, .long v_seenOnes, .long v_seenLost])), (z_paths, .inl (cy 1, 64, .inr (.inl v_pathsc))), (z_nextPaths, .inl (cy 1, 64, .inr (.inl o_3)))] ∧ va_S A s.heap H locs ∧ lv_has ls 6 [(4, .int o_1), (3, .int o_2), (0, .ref z), (1, .int x1), (2, .int x2)]) (pcM := 98) (st := []) ?_ (fun hJ98 => ?_)
  · intro H locs ls hp_
    obtain ⟨hP, hD, hS, hl⟩ := hp_
    clear hL_4
    refine lv_iload_n hx hb dX5_passGood_98 rfl (lv_at hl 1 rfl) ?_
    cases h
    exact gRi hx hb hr hlocks hP hD hS dX5_passGood_99
  · refine gLoop (Hy := fun k_ v_ => fL_X5_passGood_5 K x1 x2 v_width v_left v_seenOnes v_seenLost v_pathsc k_ v_ = some (o_1, o_2, o_3)) (Pl := fun (v_ : Int32 × Int32 × (Nat → Int64)) H locs ls => match v_ with | (a_5, a_6, a_7) => va_P D vwCl [(z, .inr (4, [.int v_width, .long v_checkMask, .int v_hasRead, .int v_left, .ref z_paths, .ref z_nextPaths, .long v_seenOnes, .long v_seenLost])), (z_paths, .inl (cy 1, 64, .inr (.inl v_pathsc))), (z_nextPaths, .inl (cy 1, 64, .inr (.inl a_7)))] H ∧ va_D A [(z, .inr (4, [.int v_width, .long v_checkMask, .int v_hasRead, .int v_left, .ref z_paths, .ref z_nextPaths, .long v_seenOnes, .long v_seenLost])), (z_paths, .inl (cy 1, 64, .inr (.inl v_pathsc))), (z_nextPaths, .inl (cy 1, 64, .inr (.inl a_7)))] ∧ va_S A s.heap H locs ∧ lv_has ls 6 [(4, .int a_5), (3, .int a_6), (0, .ref z), (1, .int x1), (2, .int x2)]) (pcH := 5) (fun _ q_ => by cases q_) ?_ K (0, 0, v_nextPathsc) hL_4 ⟨hP, hD, hS, hl⟩
    clear hL_4 h hP hD hS hl
    intro k_ ih ⟨a_5, a_6, a_7⟩ H locs ls h hp_
    obtain ⟨hP, hD, hS, hl⟩ := hp_
    have hP : va_P D vwCl [(z, .inr (4, [.int v_width, .long v_checkMask, .int v_hasRead, .int v_left, .ref z_paths, .ref z_nextPaths, .long v_seenOnes, .long v_seenLost])), (z_paths, .inl (cy 1, 64, .inr (.inl v_pathsc))), (z_nextPaths, .inl (cy 1, 64, .inr (.inl a_7)))] H := hP
    have hD : va_D A [(z, .inr (4, [.int v_width, .long v_checkMask, .int v_hasRead, .int v_left, .ref z_paths, .ref z_nextPaths, .long v_seenOnes, .long v_seenLost])), (z_paths, .inl (cy 1, 64, .inr (.inl v_pathsc))), (z_nextPaths, .inl (cy 1, 64, .inr (.inl a_7)))] := hD
    have hl : lv_has ls 6 [(4, .int a_5), (3, .int a_6), (0, .ref z), (1, .int x1), (2, .int x2)] := hl
    change fL_X5_passGood_5 K x1 x2 v_width v_left v_seenOnes v_seenLost v_pathsc (k_ + 1) (a_5, a_6, a_7) = _ at h
    rw [fL_X5_passGood_5] at h
    refine lv_iload hx hb dX5_passGood_5 (lv_at hl 0 rfl) ?_
    refine lv_aload_n hx hb dX5_passGood_7 rfl (lv_at hl 2 rfl) ?_
    refine va_get (D := D) (ci := 4) (v := .int v_left) (C := RX5) (T := TX5) (N := 8) hx hb hts iX5 hown hK hP 0 rfl rfl 3 (by decide) f26 (fun _ h9 => h9) rfl dX5_passGood_8 ?_
    refine lv_icmp_ge (tgt := 98) hx hb dX5_passGood_11 (by decide) (fun c_8 => ?_) (fun c_8 => ?_)
    · have h := gx_t c_8 h
      have hl := lv_sub (l' := [(4, .int a_5), (3, .int a_6), (0, .ref z), (1, .int x1), (2, .int x2)]) hl [0, 1, 2, 3, 4] rfl
      cases h
      exact hJ98 _ _ _ ⟨hP, hD, hS, hl⟩
    · have h := gx_f c_8 h
      refine lv_iload_n hx hb dX5_passGood_14 rfl (lv_at hl 1 rfl) ?_
      refine lv_aload_n hx hb dX5_passGood_15 rfl (lv_at hl 2 rfl) ?_
      refine va_get (D := D) (ci := 4) (v := .int v_width) (C := RX5) (T := TX5) (N := 8) hx hb hts iX5 hown hK hP 0 rfl rfl 0 (by decide) f9 (fun _ h9 => h9) rfl dX5_passGood_16 ?_
      refine lv_icmp_ge (tgt := 98) hx hb dX5_passGood_19 (by decide) (fun c_9 => ?_) (fun c_9 => ?_)
      · have h := gx_t c_9 h
        have hl := lv_sub (l' := [(4, .int a_5), (3, .int a_6), (0, .ref z), (1, .int x1), (2, .int x2)]) hl [0, 1, 2, 3, 4] rfl
        cases h
        exact hJ98 _ _ _ ⟨hP, hD, hS, hl⟩
      · have h := gx_f c_9 h
        refine lv_aload_n hx hb dX5_passGood_22 rfl (lv_at hl 2 rfl) ?_
        refine lv_iload_n hx hb dX5_passGood_23 rfl (lv_at hl 3 rfl) ?_
        refine lv_iload_n hx hb dX5_passGood_24 rfl (lv_at hl 4 rfl) ?_
        refine lv_aload_n hx hb dX5_passGood_25 rfl (lv_at hl 2 rfl) ?_
        refine va_get (D := D) (ci := 4) (v := .ref z_paths) (C := RX5) (T := TX5) (N := 8) hx hb hts iX5 hown hK hP 0 rfl rfl 4 (by decide) f15 (fun _ h9 => h9) rfl dX5_passGood_26 ?_
        refine lv_iload hx hb dX5_passGood_29 (lv_at hl 0 rfl) ?_
        obtain ⟨hi_, h⟩ := gx_ix h
        refine va_lald hx hb hK hP 1 1 rfl rfl hi_ dX5_passGood_31 ?_
        obtain ⟨r_10, hc_11, h⟩ := gx_b h
        refine gCalli (wr := [(z_paths, .inl (cy 1, 64, .inr (.inl v_pathsc))), (z_nextPaths, .inl (cy 1, 64, .inr (.inl a_7)))]) (va_runV (As := [.int x1, .int x2, .long (v_pathsc (Int32.toNatClampNeg a_5))]) (rest := []) ⟨hx, hb, hml, hown, hts⟩ (c_X5_bitTold l D cy t H.size K z z_paths z_nextPaths v_width v_checkMask v_hasRead v_left v_seenOnes v_seenLost x1 x2 (v_pathsc (Int32.toNatClampNeg a_5)) r_10 hc_11) (cwV 3 hts gX5_passGood_X5_bitTold rfl rfl rfl (by decide +kernel) ⟨Nat.le_of_ble_eq_true rfl, Nat.le_of_ble_eq_true rfl⟩) ⟨gBlind, va_recv hK hP (ci := 4) (q0 := 0) rfl rfl, fun U hU hW => ⟨rfl, gPre.call hK hG hA hP hD hS [0] (by decide) rfl U hU hW⟩⟩ rfl rfl hl.1 rfl (lv_room (Nat.le_of_ble_eq_true rfl)) dX5_passGood_32 ⟨Nat.le_of_ble_eq_true rfl, Nat.le_of_ble_eq_true rfl⟩) hA hP hD hS [0] [1, 2] rfl rfl (by decide) (by decide) (fun H locs hP hD hS => ?_)
        have hP := hP.sub (ws' := [(z, .inr (4, [.int v_width, .long v_checkMask, .int v_hasRead, .int v_left, .ref z_paths, .ref z_nextPaths, .long v_seenOnes, .long v_seenLost])), (z_paths, .inl (cy 1, 64, .inr (.inl v_pathsc))), (z_nextPaths, .inl (cy 1, 64, .inr (.inl a_7)))]) [2, 0, 1] rfl
        have hD := hD.sub (ws' := [(z, .inr (4, [.int v_width, .long v_checkMask, .int v_hasRead, .int v_left, .ref z_paths, .ref z_nextPaths, .long v_seenOnes, .long v_seenLost])), (z_paths, .inl (cy 1, 64, .inr (.inl v_pathsc))), (z_nextPaths, .inl (cy 1, 64, .inr (.inl a_7)))]) [2, 0, 1] (by decide) rfl
        refine lv_istore (lv' := [(5, .int r_10), (4, .int a_5), (3, .int a_6), (0, .ref z), (1, .int x1), (2, .int x2)]) hx hb dX5_passGood_35 hl (by decide) rfl (fun ls hl => ?_)
        refine lv_iload hx hb dX5_passGood_37 (lv_at hl 0 rfl) ?_
        refine lv_iconst (v := 1) hx hb dX5_passGood_39 (by decide) ?_
        obtain ⟨⟨m3_12, mc_13⟩, hR_14, h⟩ := gx_b h
        refine gJoin (Pj := fun H locs ls => va_P D vwCl [(z, .inr (4, [.int v_width, .long v_checkMask, .int v_hasRead, .int v_left, .ref z_paths, .ref z_nextPaths, .long v_seenOnes, .long v_seenLost])), (z_paths, .inl (cy 1, 64, .inr (.inl v_pathsc))), (z_nextPaths, .inl (cy 1, 64, .inr (.inl mc_13)))] H ∧ va_D A [(z, .inr (4, [.int v_width, .long v_checkMask, .int v_hasRead, .int v_left, .ref z_paths, .ref z_nextPaths, .long v_seenOnes, .long v_seenLost])), (z_paths, .inl (cy 1, 64, .inr (.inl v_pathsc))), (z_nextPaths, .inl (cy 1, 64, .inr (.inl mc_13)))] ∧ va_S A s.heap H locs ∧ lv_has ls 6 [(5, .int r_10), (4, .int a_5), (3, .int m3_12), (0, .ref z), (1, .int x1), (2, .int x2)]) (pcM := 59) (st := []) ?_ (fun hJ59 => ?_)
        · intro H locs ls hp_
          obtain ⟨hP, hD, hS, hl⟩ := hp_
          clear hR_14
          refine lv_iload hx hb dX5_passGood_59 (lv_at hl 0 rfl) ?_
          refine lv_if_eq (tgt := 92) hx hb dX5_passGood_61 (by decide) (fun c_15 => ?_) (fun c_15 => ?_)
          · have h := gx_t c_15 h
            obtain ⟨y4_16, e_y4_16⟩ : ∃ y : Int32, y = (a_5 + 1) := ⟨_, rfl⟩
            have h := gx_let e_y4_16 h
            refine lv_iinc (v := y4_16) (lv' := [(4, .int y4_16), (5, .int r_10), (3, .int m3_12), (0, .ref z), (1, .int x1), (2, .int x2)]) hx hb dX5_passGood_92 hl (k := 1) rfl (by rw [e_y4_16]; rfl) (by decide) rfl (fun ls hl => ?_)
            refine lv_goto (tgt := 5) hx hb dX5_passGood_95 (by decide) ?_
            exact ih (y4_16, m3_12, mc_13) _ _ _ h ⟨hP, hD, hS, lv_sub (l' := [(4, .int y4_16), (3, .int m3_12), (0, .ref z), (1, .int x1), (2, .int x2)]) hl [0, 2, 3, 4, 5] rfl⟩
          · have h := gx_f c_15 h
            refine lv_iload_n hx hb dX5_passGood_64 rfl (lv_at hl 2 rfl) ?_
            refine lv_aload_n hx hb dX5_passGood_65 rfl (lv_at hl 3 rfl) ?_
            refine va_get (D := D) (ci := 4) (v := .int v_width) (C := RX5) (T := TX5) (N := 8) hx hb hts iX5 hown hK hP 0 rfl rfl 0 (by decide) f9 (fun _ h9 => h9) rfl dX5_passGood_66 ?_
            refine lv_icmp_ge (tgt := 92) hx hb dX5_passGood_69 (by decide) (fun c_17 => ?_) (fun c_17 => ?_)
            · have h := gx_t c_17 h
              obtain ⟨y4_18, e_y4_18⟩ : ∃ y : Int32, y = (a_5 + 1) := ⟨_, rfl⟩
              have h := gx_let e_y4_18 h
              refine lv_iinc (v := y4_18) (lv' := [(4, .int y4_18), (5, .int r_10), (3, .int m3_12), (0, .ref z), (1, .int x1), (2, .int x2)]) hx hb dX5_passGood_92 hl (k := 1) rfl (by rw [e_y4_18]; rfl) (by decide) rfl (fun ls hl => ?_)
              refine lv_goto (tgt := 5) hx hb dX5_passGood_95 (by decide) ?_
              exact ih (y4_18, m3_12, mc_13) _ _ _ h ⟨hP, hD, hS, lv_sub (l' := [(4, .int y4_18), (3, .int m3_12), (0, .ref z), (1, .int x1), (2, .int x2)]) hl [0, 2, 3, 4, 5] rfl⟩
            · have h := gx_f c_17 h
              refine lv_aload_n hx hb dX5_passGood_72 rfl (lv_at hl 3 rfl) ?_
              refine va_get (D := D) (ci := 4) (v := .ref z_nextPaths) (C := RX5) (T := TX5) (N := 8) hx hb hts iX5 hown hK hP 0 rfl rfl 5 (by decide) f19 (fun _ h9 => h9) rfl dX5_passGood_73 ?_
              refine lv_iload_n hx hb dX5_passGood_76 rfl (lv_at hl 2 rfl) ?_
              refine lv_aload_n hx hb dX5_passGood_77 rfl (lv_at hl 3 rfl) ?_
              refine va_get (D := D) (ci := 4) (v := .ref z_paths) (C := RX5) (T := TX5) (N := 8) hx hb hts iX5 hown hK hP 0 rfl rfl 4 (by decide) f15 (fun _ h9 => h9) rfl dX5_passGood_78 ?_
              refine lv_iload hx hb dX5_passGood_81 (lv_at hl 1 rfl) ?_
              obtain ⟨hi_, h⟩ := gx_ix h
              refine va_lald hx hb hK hP 1 1 rfl rfl hi_ dX5_passGood_83 ?_
              refine lv_lconst (v := 1) hx hb dX5_passGood_84 (by decide) ?_
              refine lv_iload_n hx hb dX5_passGood_85 rfl (lv_at hl 5 rfl) ?_
              refine lv_lshl (v := (gLshl 1 x2)) hx hb dX5_passGood_86 rfl ?_
              refine lv_lor hx hb dX5_passGood_87 ?_
              refine lv_topl (fun y_19 e_y_19 => ?_)
              have h := gx_let e_y_19 h
              obtain ⟨hi_, h⟩ := gx_ix h
              refine va_last hx hb hK hP hD hS 2 1 rfl rfl hi_ dX5_passGood_88 (fun H locs hP hD hS => ?_)
              obtain ⟨w_20, e_w_20⟩ : ∃ y : Nat → Int64, y = (vp_updL mc_13 (Int32.toNatClampNeg m3_12) y_19) := ⟨_, rfl⟩
              have h := gx_let e_w_20 h
              have hP : va_P D vwCl [(z, .inr (4, [.int v_width, .long v_checkMask, .int v_hasRead, .int v_left, .ref z_paths, .ref z_nextPaths, .long v_seenOnes, .long v_seenLost])), (z_paths, .inl (cy 1, 64, .inr (.inl v_pathsc))), (z_nextPaths, .inl (cy 1, 64, .inr (.inl (vp_updL mc_13 (Int32.toNatClampNeg m3_12) y_19))))] H := hP
              have hD : va_D A [(z, .inr (4, [.int v_width, .long v_checkMask, .int v_hasRead, .int v_left, .ref z_paths, .ref z_nextPaths, .long v_seenOnes, .long v_seenLost])), (z_paths, .inl (cy 1, 64, .inr (.inl v_pathsc))), (z_nextPaths, .inl (cy 1, 64, .inr (.inl (vp_updL mc_13 (Int32.toNatClampNeg m3_12) y_19))))] := hD
              rw [← e_w_20] at hP hD
              obtain ⟨y3_21, e_y3_21⟩ : ∃ y : Int32, y = (m3_12 + 1) := ⟨_, rfl⟩
              have h := gx_let e_y3_21 h
              refine lv_iinc (v := y3_21) (lv' := [(3, .int y3_21), (5, .int r_10), (4, .int a_5), (0, .ref z), (1, .int x1), (2, .int x2)]) hx hb dX5_passGood_89 hl (k := 2) rfl (by rw [e_y3_21]; rfl) (by decide) rfl (fun ls hl => ?_)
              obtain ⟨y4_22, e_y4_22⟩ : ∃ y : Int32, y = (a_5 + 1) := ⟨_, rfl⟩
              have h := gx_let e_y4_22 h
              refine lv_iinc (v := y4_22) (lv' := [(4, .int y4_22), (3, .int y3_21), (5, .int r_10), (0, .ref z), (1, .int x1), (2, .int x2)]) hx hb dX5_passGood_92 hl (k := 2) rfl (by rw [e_y4_22]; rfl) (by decide) rfl (fun ls hl => ?_)
              refine lv_goto (tgt := 5) hx hb dX5_passGood_95 (by decide) ?_
              exact ih (y4_22, y3_21, w_20) _ _ _ h ⟨hP, hD, hS, lv_sub (l' := [(4, .int y4_22), (3, .int y3_21), (0, .ref z), (1, .int x1), (2, .int x2)]) hl [0, 1, 3, 4, 5] rfl⟩
        · have h := hR_14
          refine lv_icmp_eq (tgt := 59) hx hb dX5_passGood_40 (by decide) (fun c_23 => ?_) (fun c_23 => ?_)
          · have h := gx_t c_23 h
            have hl := lv_sub (l' := [(5, .int r_10), (4, .int a_5), (3, .int a_6), (0, .ref z), (1, .int x1), (2, .int x2)]) hl [0, 1, 2, 3, 4, 5] rfl
            cases h
            exact hJ59 _ _ _ ⟨hP, hD, hS, hl⟩
          · have h := gx_f c_23 h
            refine lv_aload_n hx hb dX5_passGood_43 rfl (lv_at hl 3 rfl) ?_
            refine va_get (D := D) (ci := 4) (v := .ref z_nextPaths) (C := RX5) (T := TX5) (N := 8) hx hb hts iX5 hown hK hP 0 rfl rfl 5 (by decide) f19 (fun _ h9 => h9) rfl dX5_passGood_44 ?_
            refine lv_iload_n hx hb dX5_passGood_47 rfl (lv_at hl 2 rfl) ?_
            refine lv_aload_n hx hb dX5_passGood_48 rfl (lv_at hl 3 rfl) ?_
            refine va_get (D := D) (ci := 4) (v := .ref z_paths) (C := RX5) (T := TX5) (N := 8) hx hb hts iX5 hown hK hP 0 rfl rfl 4 (by decide) f15 (fun _ h9 => h9) rfl dX5_passGood_49 ?_
            refine lv_iload hx hb dX5_passGood_52 (lv_at hl 1 rfl) ?_
            obtain ⟨hi_, h⟩ := gx_ix h
            refine va_lald hx hb hK hP 1 1 rfl rfl hi_ dX5_passGood_54 ?_
            refine lv_topl (fun y_24 e_y_24 => ?_)
            have h := gx_let e_y_24 h
            obtain ⟨hi_, h⟩ := gx_ix h
            refine va_last hx hb hK hP hD hS 2 1 rfl rfl hi_ dX5_passGood_55 (fun H locs hP hD hS => ?_)
            obtain ⟨w_25, e_w_25⟩ : ∃ y : Nat → Int64, y = (vp_updL a_7 (Int32.toNatClampNeg a_6) y_24) := ⟨_, rfl⟩
            have h := gx_let e_w_25 h
            have hP : va_P D vwCl [(z, .inr (4, [.int v_width, .long v_checkMask, .int v_hasRead, .int v_left, .ref z_paths, .ref z_nextPaths, .long v_seenOnes, .long v_seenLost])), (z_paths, .inl (cy 1, 64, .inr (.inl v_pathsc))), (z_nextPaths, .inl (cy 1, 64, .inr (.inl (vp_updL a_7 (Int32.toNatClampNeg a_6) y_24))))] H := hP
            have hD : va_D A [(z, .inr (4, [.int v_width, .long v_checkMask, .int v_hasRead, .int v_left, .ref z_paths, .ref z_nextPaths, .long v_seenOnes, .long v_seenLost])), (z_paths, .inl (cy 1, 64, .inr (.inl v_pathsc))), (z_nextPaths, .inl (cy 1, 64, .inr (.inl (vp_updL a_7 (Int32.toNatClampNeg a_6) y_24))))] := hD
            rw [← e_w_25] at hP hD
            obtain ⟨y3_26, e_y3_26⟩ : ∃ y : Int32, y = (a_6 + 1) := ⟨_, rfl⟩
            have h := gx_let e_y3_26 h
            refine lv_iinc (v := y3_26) (lv' := [(3, .int y3_26), (5, .int r_10), (4, .int a_5), (0, .ref z), (1, .int x1), (2, .int x2)]) hx hb dX5_passGood_56 hl (k := 2) rfl (by rw [e_y3_26]; rfl) (by decide) rfl (fun ls hl => ?_)
            have hl := lv_sub (l' := [(5, .int r_10), (4, .int a_5), (3, .int y3_26), (0, .ref z), (1, .int x1), (2, .int x2)]) hl [1, 2, 0, 3, 4, 5] rfl
            cases h
            exact hJ59 _ _ _ ⟨hP, hD, hS, hl⟩

def fL_X5_passFrozen_6 (K : Nat) (l1 : Int32) (l2 : Int32) (l3 : Int32) (u0_0 : Int32) (u0_3 : Int32) (u0_6 : Int64) (u0_7 : Int64) (u1 : Nat → Int64) : Nat → Int32 × Int32 × (Nat → Int64) → Option (Int32 × Int32 × (Nat → Int64))
  | 0, _ => none
  | k + 1, (l5, l4, u2) =>
    if u0_3 ≤ l5 then
      some (l5, l4, u2)
    else
      if u0_0 ≤ l4 then
        some (l5, l4, u2)
      else
        gIx l5 64 <|
        Option.bind (f_X5_bitTold K l1 l2 (u1 (Int32.toNatClampNeg l5)) u0_6 u0_7) fun r_17 =>
        if r_17 = 2 then
          gIx l5 64 <|
          gLet ((u1 (Int32.toNatClampNeg l5)) ||| (gLshl (Int32.toInt64 l3) l2)) fun y_19 =>
          gIx l4 64 <|
          gLet (vp_updL u2 (Int32.toNatClampNeg l4) y_19) fun w_20 =>
          gLet (l4 + 1) fun y4_21 =>
          gLet (l5 + 1) fun y5_22 =>
          fL_X5_passFrozen_6 K l1 l2 l3 u0_0 u0_3 u0_6 u0_7 u1 k (y5_22, y4_21, w_20)
        else
          if r_17 = l3 then
            gIx l5 64 <|
            gLet ((u1 (Int32.toNatClampNeg l5)) ||| (gLshl (Int32.toInt64 l3) l2)) fun y_25 =>
            gIx l4 64 <|
            gLet (vp_updL u2 (Int32.toNatClampNeg l4) y_25) fun w_26 =>
            gLet (l4 + 1) fun y4_27 =>
            gLet (l5 + 1) fun y5_28 =>
            fL_X5_passFrozen_6 K l1 l2 l3 u0_0 u0_3 u0_6 u0_7 u1 k (y5_28, y4_27, w_26)
          else
            gLet (l5 + 1) fun y5_24 =>
            fL_X5_passFrozen_6 K l1 l2 l3 u0_0 u0_3 u0_6 u0_7 u1 k (y5_24, l4, u2)
def f_X5_passFrozen (K : Nat) (x1 : Int32) (x2 : Int32) (x3 : Int32) (v_width : Int32) (v_left : Int32) (v_seenOnes : Int64) (v_seenLost : Int64) (v_pathsc : Nat → Int64) (v_nextPathsc : Nat → Int64) : Option (Int32 × (Nat → Int64)) :=
  Option.bind (fL_X5_passFrozen_6 K x1 x2 x3 v_width v_left v_seenOnes v_seenLost v_pathsc K (0, 0, v_nextPathsc)) fun (o_29, o_30, o_31) =>
  some (o_30, o_31)
set_option maxHeartbeats 4000000 in
set_option maxRecDepth 100000 in
theorem c_X5_passFrozen (l : Launch) (D : va_G) (cy : Nat → ClassId) (t sz K : Nat) (z : Nat) (z_paths : Nat) (z_nextPaths : Nat) (v_width : Int32) (v_checkMask : Int64) (v_hasRead : Int32) (v_left : Int32) (v_seenOnes : Int64) (v_seenLost : Int64) (v_pathsc : Nat → Int64) (v_nextPathsc : Nat → Int64) (x1 : Int32) (x2 : Int32) (x3 : Int32) (r_ : Int32) (o_v_nextPathsc : Nat → Int64) (h : f_X5_passFrozen K x1 x2 x3 v_width v_left v_seenOnes v_seenLost v_pathsc v_nextPathsc = some (r_, o_v_nextPathsc)) : gMi l D cy t sz yX5_passFrozen wsX5_passFrozen 2 68 [.ref z, .int x1, .int x2, .int x3] [(z, .inr (4, [.int v_width, .long v_checkMask, .int v_hasRead, .int v_left, .ref z_paths, .ref z_nextPaths, .long v_seenOnes, .long v_seenLost])), (z_paths, .inl (cy 1, 64, .inr (.inl v_pathsc))), (z_nextPaths, .inl (cy 1, 64, .inr (.inl v_nextPathsc)))] r_ [(z, .inr (4, [.int v_width, .long v_checkMask, .int v_hasRead, .int v_left, .ref z_paths, .ref z_nextPaths, .long v_seenOnes, .long v_seenLost])), (z_paths, .inl (cy 1, 64, .inr (.inl v_pathsc))), (z_nextPaths, .inl (cy 1, 64, .inr (.inl o_v_nextPathsc)))] := by
  refine gBi (cc := cX5_passFrozen) (maxL := 7) (ret := (some .int)) (by decide) rfl (Nat.le_of_ble_eq_true rfl) ?_
  intro p e s m below meth c A ls hAt hl
  obtain ⟨hx, hb, hml, hr, hts, hown, hlocks, hin, hK, hG, hA, hP, hD⟩ := hAt
  have hS : va_S A s.heap s.heap [] := va_S.rf
  have hl : lv_has ls 7 [(0, .ref z), (1, .int x1), (2, .int x2), (3, .int x3)] := hl
  have f26 := hts (.fieldLink RX5 26 "PlainLines$Reader" "left" "I") (by decide +kernel)
  have iX5 := (by decide +kernel : ∀ w ∈ u_ws RX5 TX5 8, w ∈ wsX5_passFrozen)
  have f9 := hts (.fieldLink RX5 9 "PlainLines$Reader" "width" "I") (by decide +kernel)
  have f15 := hts (.fieldLink RX5 15 "PlainLines$Reader" "paths" "[J") (by decide +kernel)
  have f19 := hts (.fieldLink RX5 19 "PlainLines$Reader" "nextPaths" "[J") (by decide +kernel)
  rw [f_X5_passFrozen] at h
  refine lv_iconst (v := 0) hx hb dX5_passFrozen_0 (by decide) ?_
  refine lv_istore (lv' := [(4, .int 0), (0, .ref z), (1, .int x1), (2, .int x2), (3, .int x3)]) hx hb dX5_passFrozen_1 hl (by decide) rfl (fun ls hl => ?_)
  refine lv_iconst (v := 0) hx hb dX5_passFrozen_3 (by decide) ?_
  refine lv_istore (lv' := [(5, .int 0), (4, .int 0), (0, .ref z), (1, .int x1), (2, .int x2), (3, .int x3)]) hx hb dX5_passFrozen_4 hl (by decide) rfl (fun ls hl => ?_)
  obtain ⟨⟨o_1, o_2, o_3⟩, hL_4, h⟩ := gx_b h
  refine gJoin (Pj := fun H locs ls => va_P D vwCl [(z, .inr (4, [.int v_width, .long v_checkMask, .int v_hasRead, .int v_left, .ref z_paths, .ref z_nextPaths, .long v_seenOnes, .long v_seenLost])), (z_paths, .inl (cy 1, 64, .inr (.inl v_pathsc))), (z_nextPaths, .inl (cy 1, 64, .inr (.inl o_3)))] H ∧ va_D A [(z, .inr (4, [.int v_width, .long v_checkMask, .int v_hasRead, .int v_left, .ref z_paths, .ref z_nextPaths, .long v_seenOnes, .long v_seenLost])), (z_paths, .inl (cy 1, 64, .inr (.inl v_pathsc))), (z_nextPaths, .inl (cy 1, 64, .inr (.inl o_3)))] ∧ va_S A s.heap H locs ∧ lv_has ls 7 [(5, .int o_1), (4, .int o_2), (0, .ref z), (1, .int x1), (2, .int x2), (3, .int x3)]) (pcM := 79) (st := []) ?_ (fun hJ79 => ?_)
  · intro H locs ls hp_
    obtain ⟨hP, hD, hS, hl⟩ := hp_
    clear hL_4
    refine lv_iload hx hb dX5_passFrozen_79 (lv_at hl 1 rfl) ?_
    cases h
    exact gRi hx hb hr hlocks hP hD hS dX5_passFrozen_81
  · refine gLoop (Hy := fun k_ v_ => fL_X5_passFrozen_6 K x1 x2 x3 v_width v_left v_seenOnes v_seenLost v_pathsc k_ v_ = some (o_1, o_2, o_3)) (Pl := fun (v_ : Int32 × Int32 × (Nat → Int64)) H locs ls => match v_ with | (a_5, a_6, a_7) => va_P D vwCl [(z, .inr (4, [.int v_width, .long v_checkMask, .int v_hasRead, .int v_left, .ref z_paths, .ref z_nextPaths, .long v_seenOnes, .long v_seenLost])), (z_paths, .inl (cy 1, 64, .inr (.inl v_pathsc))), (z_nextPaths, .inl (cy 1, 64, .inr (.inl a_7)))] H ∧ va_D A [(z, .inr (4, [.int v_width, .long v_checkMask, .int v_hasRead, .int v_left, .ref z_paths, .ref z_nextPaths, .long v_seenOnes, .long v_seenLost])), (z_paths, .inl (cy 1, 64, .inr (.inl v_pathsc))), (z_nextPaths, .inl (cy 1, 64, .inr (.inl a_7)))] ∧ va_S A s.heap H locs ∧ lv_has ls 7 [(5, .int a_5), (4, .int a_6), (0, .ref z), (1, .int x1), (2, .int x2), (3, .int x3)]) (pcH := 6) (fun _ q_ => by cases q_) ?_ K (0, 0, v_nextPathsc) hL_4 ⟨hP, hD, hS, hl⟩
    clear hL_4 h hP hD hS hl
    intro k_ ih ⟨a_5, a_6, a_7⟩ H locs ls h hp_
    obtain ⟨hP, hD, hS, hl⟩ := hp_
    have hP : va_P D vwCl [(z, .inr (4, [.int v_width, .long v_checkMask, .int v_hasRead, .int v_left, .ref z_paths, .ref z_nextPaths, .long v_seenOnes, .long v_seenLost])), (z_paths, .inl (cy 1, 64, .inr (.inl v_pathsc))), (z_nextPaths, .inl (cy 1, 64, .inr (.inl a_7)))] H := hP
    have hD : va_D A [(z, .inr (4, [.int v_width, .long v_checkMask, .int v_hasRead, .int v_left, .ref z_paths, .ref z_nextPaths, .long v_seenOnes, .long v_seenLost])), (z_paths, .inl (cy 1, 64, .inr (.inl v_pathsc))), (z_nextPaths, .inl (cy 1, 64, .inr (.inl a_7)))] := hD
    have hl : lv_has ls 7 [(5, .int a_5), (4, .int a_6), (0, .ref z), (1, .int x1), (2, .int x2), (3, .int x3)] := hl
    change fL_X5_passFrozen_6 K x1 x2 x3 v_width v_left v_seenOnes v_seenLost v_pathsc (k_ + 1) (a_5, a_6, a_7) = _ at h
    rw [fL_X5_passFrozen_6] at h
    refine lv_iload hx hb dX5_passFrozen_6 (lv_at hl 0 rfl) ?_
    refine lv_aload_n hx hb dX5_passFrozen_8 rfl (lv_at hl 2 rfl) ?_
    refine va_get (D := D) (ci := 4) (v := .int v_left) (C := RX5) (T := TX5) (N := 8) hx hb hts iX5 hown hK hP 0 rfl rfl 3 (by decide) f26 (fun _ h9 => h9) rfl dX5_passFrozen_9 ?_
    refine lv_icmp_ge (tgt := 79) hx hb dX5_passFrozen_12 (by decide) (fun c_8 => ?_) (fun c_8 => ?_)
    · have h := gx_t c_8 h
      have hl := lv_sub (l' := [(5, .int a_5), (4, .int a_6), (0, .ref z), (1, .int x1), (2, .int x2), (3, .int x3)]) hl [0, 1, 2, 3, 4, 5] rfl
      cases h
      exact hJ79 _ _ _ ⟨hP, hD, hS, hl⟩
    · have h := gx_f c_8 h
      refine lv_iload hx hb dX5_passFrozen_15 (lv_at hl 1 rfl) ?_
      refine lv_aload_n hx hb dX5_passFrozen_17 rfl (lv_at hl 2 rfl) ?_
      refine va_get (D := D) (ci := 4) (v := .int v_width) (C := RX5) (T := TX5) (N := 8) hx hb hts iX5 hown hK hP 0 rfl rfl 0 (by decide) f9 (fun _ h9 => h9) rfl dX5_passFrozen_18 ?_
      refine lv_icmp_ge (tgt := 79) hx hb dX5_passFrozen_21 (by decide) (fun c_9 => ?_) (fun c_9 => ?_)
      · have h := gx_t c_9 h
        have hl := lv_sub (l' := [(5, .int a_5), (4, .int a_6), (0, .ref z), (1, .int x1), (2, .int x2), (3, .int x3)]) hl [0, 1, 2, 3, 4, 5] rfl
        cases h
        exact hJ79 _ _ _ ⟨hP, hD, hS, hl⟩
      · have h := gx_f c_9 h
        refine lv_aload_n hx hb dX5_passFrozen_24 rfl (lv_at hl 2 rfl) ?_
        refine lv_iload_n hx hb dX5_passFrozen_25 rfl (lv_at hl 3 rfl) ?_
        refine lv_iload_n hx hb dX5_passFrozen_26 rfl (lv_at hl 4 rfl) ?_
        refine lv_aload_n hx hb dX5_passFrozen_27 rfl (lv_at hl 2 rfl) ?_
        refine va_get (D := D) (ci := 4) (v := .ref z_paths) (C := RX5) (T := TX5) (N := 8) hx hb hts iX5 hown hK hP 0 rfl rfl 4 (by decide) f15 (fun _ h9 => h9) rfl dX5_passFrozen_28 ?_
        refine lv_iload hx hb dX5_passFrozen_31 (lv_at hl 0 rfl) ?_
        obtain ⟨hi_, h⟩ := gx_ix h
        refine va_lald hx hb hK hP 1 1 rfl rfl hi_ dX5_passFrozen_33 ?_
        obtain ⟨r_10, hc_11, h⟩ := gx_b h
        refine gCalli (wr := [(z_paths, .inl (cy 1, 64, .inr (.inl v_pathsc))), (z_nextPaths, .inl (cy 1, 64, .inr (.inl a_7)))]) (va_runV (As := [.int x1, .int x2, .long (v_pathsc (Int32.toNatClampNeg a_5))]) (rest := []) ⟨hx, hb, hml, hown, hts⟩ (c_X5_bitTold l D cy t H.size K z z_paths z_nextPaths v_width v_checkMask v_hasRead v_left v_seenOnes v_seenLost x1 x2 (v_pathsc (Int32.toNatClampNeg a_5)) r_10 hc_11) (cwV 3 hts gX5_passFrozen_X5_bitTold rfl rfl rfl (by decide +kernel) ⟨Nat.le_of_ble_eq_true rfl, Nat.le_of_ble_eq_true rfl⟩) ⟨gBlind, va_recv hK hP (ci := 4) (q0 := 0) rfl rfl, fun U hU hW => ⟨rfl, gPre.call hK hG hA hP hD hS [0] (by decide) rfl U hU hW⟩⟩ rfl rfl hl.1 rfl (lv_room (Nat.le_of_ble_eq_true rfl)) dX5_passFrozen_34 ⟨Nat.le_of_ble_eq_true rfl, Nat.le_of_ble_eq_true rfl⟩) hA hP hD hS [0] [1, 2] rfl rfl (by decide) (by decide) (fun H locs hP hD hS => ?_)
        have hP := hP.sub (ws' := [(z, .inr (4, [.int v_width, .long v_checkMask, .int v_hasRead, .int v_left, .ref z_paths, .ref z_nextPaths, .long v_seenOnes, .long v_seenLost])), (z_paths, .inl (cy 1, 64, .inr (.inl v_pathsc))), (z_nextPaths, .inl (cy 1, 64, .inr (.inl a_7)))]) [2, 0, 1] rfl
        have hD := hD.sub (ws' := [(z, .inr (4, [.int v_width, .long v_checkMask, .int v_hasRead, .int v_left, .ref z_paths, .ref z_nextPaths, .long v_seenOnes, .long v_seenLost])), (z_paths, .inl (cy 1, 64, .inr (.inl v_pathsc))), (z_nextPaths, .inl (cy 1, 64, .inr (.inl a_7)))]) [2, 0, 1] (by decide) rfl
        refine lv_istore (lv' := [(6, .int r_10), (5, .int a_5), (4, .int a_6), (0, .ref z), (1, .int x1), (2, .int x2), (3, .int x3)]) hx hb dX5_passFrozen_37 hl (by decide) rfl (fun ls hl => ?_)
        refine lv_iload hx hb dX5_passFrozen_39 (lv_at hl 0 rfl) ?_
        refine lv_iconst (v := 2) hx hb dX5_passFrozen_41 (by decide) ?_
        refine lv_icmp_eq (tgt := 51) hx hb dX5_passFrozen_42 (by decide) (fun c_12 => ?_) (fun c_12 => ?_)
        · have h := gx_t c_12 h
          refine lv_aload_n hx hb dX5_passFrozen_51 rfl (lv_at hl 3 rfl) ?_
          refine va_get (D := D) (ci := 4) (v := .ref z_nextPaths) (C := RX5) (T := TX5) (N := 8) hx hb hts iX5 hown hK hP 0 rfl rfl 5 (by decide) f19 (fun _ h9 => h9) rfl dX5_passFrozen_52 ?_
          refine lv_iload hx hb dX5_passFrozen_55 (lv_at hl 2 rfl) ?_
          refine lv_aload_n hx hb dX5_passFrozen_57 rfl (lv_at hl 3 rfl) ?_
          refine va_get (D := D) (ci := 4) (v := .ref z_paths) (C := RX5) (T := TX5) (N := 8) hx hb hts iX5 hown hK hP 0 rfl rfl 4 (by decide) f15 (fun _ h9 => h9) rfl dX5_passFrozen_58 ?_
          refine lv_iload hx hb dX5_passFrozen_61 (lv_at hl 1 rfl) ?_
          obtain ⟨hi_, h⟩ := gx_ix h
          refine va_lald hx hb hK hP 1 1 rfl rfl hi_ dX5_passFrozen_63 ?_
          refine lv_iload_n hx hb dX5_passFrozen_64 rfl (lv_at hl 6 rfl) ?_
          refine lv_i2l (v := (Int32.toInt64 x3)) hx hb dX5_passFrozen_65 rfl ?_
          refine lv_iload_n hx hb dX5_passFrozen_66 rfl (lv_at hl 5 rfl) ?_
          refine lv_lshl (v := (gLshl (Int32.toInt64 x3) x2)) hx hb dX5_passFrozen_67 rfl ?_
          refine lv_lor hx hb dX5_passFrozen_68 ?_
          refine lv_topl (fun y_13 e_y_13 => ?_)
          have h := gx_let e_y_13 h
          obtain ⟨hi_, h⟩ := gx_ix h
          refine va_last hx hb hK hP hD hS 2 1 rfl rfl hi_ dX5_passFrozen_69 (fun H locs hP hD hS => ?_)
          obtain ⟨w_14, e_w_14⟩ : ∃ y : Nat → Int64, y = (vp_updL a_7 (Int32.toNatClampNeg a_6) y_13) := ⟨_, rfl⟩
          have h := gx_let e_w_14 h
          have hP : va_P D vwCl [(z, .inr (4, [.int v_width, .long v_checkMask, .int v_hasRead, .int v_left, .ref z_paths, .ref z_nextPaths, .long v_seenOnes, .long v_seenLost])), (z_paths, .inl (cy 1, 64, .inr (.inl v_pathsc))), (z_nextPaths, .inl (cy 1, 64, .inr (.inl (vp_updL a_7 (Int32.toNatClampNeg a_6) y_13))))] H := hP
          have hD : va_D A [(z, .inr (4, [.int v_width, .long v_checkMask, .int v_hasRead, .int v_left, .ref z_paths, .ref z_nextPaths, .long v_seenOnes, .long v_seenLost])), (z_paths, .inl (cy 1, 64, .inr (.inl v_pathsc))), (z_nextPaths, .inl (cy 1, 64, .inr (.inl (vp_updL a_7 (Int32.toNatClampNeg a_6) y_13))))] := hD
          rw [← e_w_14] at hP hD
          obtain ⟨y4_15, e_y4_15⟩ : ∃ y : Int32, y = (a_6 + 1) := ⟨_, rfl⟩
          have h := gx_let e_y4_15 h
          refine lv_iinc (v := y4_15) (lv' := [(4, .int y4_15), (6, .int r_10), (5, .int a_5), (0, .ref z), (1, .int x1), (2, .int x2), (3, .int x3)]) hx hb dX5_passFrozen_70 hl (k := 2) rfl (by rw [e_y4_15]; rfl) (by decide) rfl (fun ls hl => ?_)
          obtain ⟨y5_16, e_y5_16⟩ : ∃ y : Int32, y = (a_5 + 1) := ⟨_, rfl⟩
          have h := gx_let e_y5_16 h
          refine lv_iinc (v := y5_16) (lv' := [(5, .int y5_16), (4, .int y4_15), (6, .int r_10), (0, .ref z), (1, .int x1), (2, .int x2), (3, .int x3)]) hx hb dX5_passFrozen_73 hl (k := 2) rfl (by rw [e_y5_16]; rfl) (by decide) rfl (fun ls hl => ?_)
          refine lv_goto (tgt := 6) hx hb dX5_passFrozen_76 (by decide) ?_
          exact ih (y5_16, y4_15, w_14) _ _ _ h ⟨hP, hD, hS, lv_sub (l' := [(5, .int y5_16), (4, .int y4_15), (0, .ref z), (1, .int x1), (2, .int x2), (3, .int x3)]) hl [0, 1, 3, 4, 5, 6] rfl⟩
        · have h := gx_f c_12 h
          refine lv_iload hx hb dX5_passFrozen_45 (lv_at hl 0 rfl) ?_
          refine lv_iload_n hx hb dX5_passFrozen_47 rfl (lv_at hl 6 rfl) ?_
          refine lv_icmp_ne (tgt := 73) hx hb dX5_passFrozen_48 (by decide) (fun c_17 => ?_) (fun c_17 => ?_)
          · have h := gx_f c_17 h
            obtain ⟨y5_18, e_y5_18⟩ : ∃ y : Int32, y = (a_5 + 1) := ⟨_, rfl⟩
            have h := gx_let e_y5_18 h
            refine lv_iinc (v := y5_18) (lv' := [(5, .int y5_18), (6, .int r_10), (4, .int a_6), (0, .ref z), (1, .int x1), (2, .int x2), (3, .int x3)]) hx hb dX5_passFrozen_73 hl (k := 1) rfl (by rw [e_y5_18]; rfl) (by decide) rfl (fun ls hl => ?_)
            refine lv_goto (tgt := 6) hx hb dX5_passFrozen_76 (by decide) ?_
            exact ih (y5_18, a_6, a_7) _ _ _ h ⟨hP, hD, hS, lv_sub (l' := [(5, .int y5_18), (4, .int a_6), (0, .ref z), (1, .int x1), (2, .int x2), (3, .int x3)]) hl [0, 2, 3, 4, 5, 6] rfl⟩
          · have h := gx_t c_17 h
            refine lv_aload_n hx hb dX5_passFrozen_51 rfl (lv_at hl 3 rfl) ?_
            refine va_get (D := D) (ci := 4) (v := .ref z_nextPaths) (C := RX5) (T := TX5) (N := 8) hx hb hts iX5 hown hK hP 0 rfl rfl 5 (by decide) f19 (fun _ h9 => h9) rfl dX5_passFrozen_52 ?_
            refine lv_iload hx hb dX5_passFrozen_55 (lv_at hl 2 rfl) ?_
            refine lv_aload_n hx hb dX5_passFrozen_57 rfl (lv_at hl 3 rfl) ?_
            refine va_get (D := D) (ci := 4) (v := .ref z_paths) (C := RX5) (T := TX5) (N := 8) hx hb hts iX5 hown hK hP 0 rfl rfl 4 (by decide) f15 (fun _ h9 => h9) rfl dX5_passFrozen_58 ?_
            refine lv_iload hx hb dX5_passFrozen_61 (lv_at hl 1 rfl) ?_
            obtain ⟨hi_, h⟩ := gx_ix h
            refine va_lald hx hb hK hP 1 1 rfl rfl hi_ dX5_passFrozen_63 ?_
            refine lv_iload_n hx hb dX5_passFrozen_64 rfl (lv_at hl 6 rfl) ?_
            refine lv_i2l (v := (Int32.toInt64 x3)) hx hb dX5_passFrozen_65 rfl ?_
            refine lv_iload_n hx hb dX5_passFrozen_66 rfl (lv_at hl 5 rfl) ?_
            refine lv_lshl (v := (gLshl (Int32.toInt64 x3) x2)) hx hb dX5_passFrozen_67 rfl ?_
            refine lv_lor hx hb dX5_passFrozen_68 ?_
            refine lv_topl (fun y_19 e_y_19 => ?_)
            have h := gx_let e_y_19 h
            obtain ⟨hi_, h⟩ := gx_ix h
            refine va_last hx hb hK hP hD hS 2 1 rfl rfl hi_ dX5_passFrozen_69 (fun H locs hP hD hS => ?_)
            obtain ⟨w_20, e_w_20⟩ : ∃ y : Nat → Int64, y = (vp_updL a_7 (Int32.toNatClampNeg a_6) y_19) := ⟨_, rfl⟩
            have h := gx_let e_w_20 h
            have hP : va_P D vwCl [(z, .inr (4, [.int v_width, .long v_checkMask, .int v_hasRead, .int v_left, .ref z_paths, .ref z_nextPaths, .long v_seenOnes, .long v_seenLost])), (z_paths, .inl (cy 1, 64, .inr (.inl v_pathsc))), (z_nextPaths, .inl (cy 1, 64, .inr (.inl (vp_updL a_7 (Int32.toNatClampNeg a_6) y_19))))] H := hP
            have hD : va_D A [(z, .inr (4, [.int v_width, .long v_checkMask, .int v_hasRead, .int v_left, .ref z_paths, .ref z_nextPaths, .long v_seenOnes, .long v_seenLost])), (z_paths, .inl (cy 1, 64, .inr (.inl v_pathsc))), (z_nextPaths, .inl (cy 1, 64, .inr (.inl (vp_updL a_7 (Int32.toNatClampNeg a_6) y_19))))] := hD
            rw [← e_w_20] at hP hD
            obtain ⟨y4_21, e_y4_21⟩ : ∃ y : Int32, y = (a_6 + 1) := ⟨_, rfl⟩
            have h := gx_let e_y4_21 h
            refine lv_iinc (v := y4_21) (lv' := [(4, .int y4_21), (6, .int r_10), (5, .int a_5), (0, .ref z), (1, .int x1), (2, .int x2), (3, .int x3)]) hx hb dX5_passFrozen_70 hl (k := 2) rfl (by rw [e_y4_21]; rfl) (by decide) rfl (fun ls hl => ?_)
            obtain ⟨y5_22, e_y5_22⟩ : ∃ y : Int32, y = (a_5 + 1) := ⟨_, rfl⟩
            have h := gx_let e_y5_22 h
            refine lv_iinc (v := y5_22) (lv' := [(5, .int y5_22), (4, .int y4_21), (6, .int r_10), (0, .ref z), (1, .int x1), (2, .int x2), (3, .int x3)]) hx hb dX5_passFrozen_73 hl (k := 2) rfl (by rw [e_y5_22]; rfl) (by decide) rfl (fun ls hl => ?_)
            refine lv_goto (tgt := 6) hx hb dX5_passFrozen_76 (by decide) ?_
            exact ih (y5_22, y4_21, w_20) _ _ _ h ⟨hP, hD, hS, lv_sub (l' := [(5, .int y5_22), (4, .int y4_21), (0, .ref z), (1, .int x1), (2, .int x2), (3, .int x3)]) hl [0, 1, 3, 4, 5, 6] rfl⟩

def f_X5_turnTo (K : Nat) (x1 : Int32) : Option (Int32) :=
  some x1
set_option maxHeartbeats 4000000 in
set_option maxRecDepth 100000 in
theorem c_X5_turnTo (l : Launch) (D : va_G) (cy : Nat → ClassId) (t sz K : Nat) (z : Nat) (z_paths : Nat) (z_nextPaths : Nat) (v_width : Int32) (v_checkMask : Int64) (v_hasRead : Int32) (v_left : Int32) (v_seenOnes : Int64) (v_seenLost : Int64) (x1 : Int32) (o_v_left : Int32) (h : f_X5_turnTo K x1 = some o_v_left) : gMv l D cy t sz yX5_turnTo wsX5_turnTo 0 0 [.ref z, .int x1] [(z, .inr (4, [.int v_width, .long v_checkMask, .int v_hasRead, .int v_left, .ref z_paths, .ref z_nextPaths, .long v_seenOnes, .long v_seenLost]))] [(z, .inr (4, [.int v_width, .long v_checkMask, .int v_hasRead, .int o_v_left, .ref z_nextPaths, .ref z_paths, .long v_seenOnes, .long v_seenLost]))] := by
  refine gBv (cc := cX5_turnTo) (maxL := 3) (ret := none) (by decide) rfl (Nat.le_of_ble_eq_true rfl) ?_
  intro p e s m below meth c A ls hAt hl
  obtain ⟨hx, hb, hml, hr, hts, hown, hlocks, hin, hK, hG, hA, hP, hD⟩ := hAt
  have hS : va_S A s.heap s.heap [] := va_S.rf
  have hl : lv_has ls 3 [(0, .ref z), (1, .int x1)] := hl
  have f15 := hts (.fieldLink RX5 15 "PlainLines$Reader" "paths" "[J") (by decide +kernel)
  have iX5 := (by decide +kernel : ∀ w ∈ u_ws RX5 TX5 8, w ∈ wsX5_turnTo)
  have f19 := hts (.fieldLink RX5 19 "PlainLines$Reader" "nextPaths" "[J") (by decide +kernel)
  have f26 := hts (.fieldLink RX5 26 "PlainLines$Reader" "left" "I") (by decide +kernel)
  rw [f_X5_turnTo] at h
  refine lv_aload_n hx hb dX5_turnTo_0 rfl (lv_at hl 0 rfl) ?_
  refine va_get (D := D) (ci := 4) (v := .ref z_paths) (C := RX5) (T := TX5) (N := 8) hx hb hts iX5 hown hK hP 0 rfl rfl 4 (by decide) f15 (fun _ h9 => h9) rfl dX5_turnTo_1 ?_
  refine lv_astore_n (lv' := [(2, .ref z_paths), (0, .ref z), (1, .int x1)]) hx hb dX5_turnTo_4 rfl hl (by decide) rfl (fun ls hl => ?_)
  refine lv_aload_n hx hb dX5_turnTo_5 rfl (lv_at hl 1 rfl) ?_
  refine lv_aload_n hx hb dX5_turnTo_6 rfl (lv_at hl 1 rfl) ?_
  refine va_get (D := D) (ci := 4) (v := .ref z_nextPaths) (C := RX5) (T := TX5) (N := 8) hx hb hts iX5 hown hK hP 0 rfl rfl 5 (by decide) f19 (fun _ h9 => h9) rfl dX5_turnTo_7 ?_
  refine va_put (D := D) (ci := 4) (v := .ref z_nextPaths) (ty := (.array .long)) (C := RX5) (T := TX5) (N := 8) hx hb hts iX5 tyX5 tyX5_ok nmX5 hown hK hP hD hS 0 rfl rfl 4 (by decide) f15 (fun _ h9 => h9) rfl (by decide +kernel) rfl rfl (Nat.le_of_ble_eq_true rfl) dX5_turnTo_10 (fun H locs hP hD hS => ?_)
  have hP : va_P D vwCl [(z, .inr (4, [.int v_width, .long v_checkMask, .int v_hasRead, .int v_left, .ref z_nextPaths, .ref z_nextPaths, .long v_seenOnes, .long v_seenLost]))] H := hP
  have hD : va_D A [(z, .inr (4, [.int v_width, .long v_checkMask, .int v_hasRead, .int v_left, .ref z_nextPaths, .ref z_nextPaths, .long v_seenOnes, .long v_seenLost]))] := hD
  refine lv_aload_n hx hb dX5_turnTo_13 rfl (lv_at hl 1 rfl) ?_
  refine lv_aload_n hx hb dX5_turnTo_14 rfl (lv_at hl 0 rfl) ?_
  refine va_put (D := D) (ci := 4) (v := .ref z_paths) (ty := (.array .long)) (C := RX5) (T := TX5) (N := 8) hx hb hts iX5 tyX5 tyX5_ok nmX5 hown hK hP hD hS 0 rfl rfl 5 (by decide) f19 (fun _ h9 => h9) rfl (by decide +kernel) rfl rfl (Nat.le_of_ble_eq_true rfl) dX5_turnTo_15 (fun H locs hP hD hS => ?_)
  have hP : va_P D vwCl [(z, .inr (4, [.int v_width, .long v_checkMask, .int v_hasRead, .int v_left, .ref z_nextPaths, .ref z_paths, .long v_seenOnes, .long v_seenLost]))] H := hP
  have hD : va_D A [(z, .inr (4, [.int v_width, .long v_checkMask, .int v_hasRead, .int v_left, .ref z_nextPaths, .ref z_paths, .long v_seenOnes, .long v_seenLost]))] := hD
  refine lv_aload_n hx hb dX5_turnTo_18 rfl (lv_at hl 1 rfl) ?_
  refine lv_iload_n hx hb dX5_turnTo_19 rfl (lv_at hl 2 rfl) ?_
  refine va_put (D := D) (ci := 4) (v := .int x1) (ty := .int) (C := RX5) (T := TX5) (N := 8) hx hb hts iX5 tyX5 tyX5_ok nmX5 hown hK hP hD hS 0 rfl rfl 3 (by decide) f26 (fun _ h9 => h9) rfl (by decide +kernel) rfl rfl (Nat.le_of_ble_eq_true rfl) dX5_turnTo_20 (fun H locs hP hD hS => ?_)
  have hP : va_P D vwCl [(z, .inr (4, [.int v_width, .long v_checkMask, .int v_hasRead, .int x1, .ref z_nextPaths, .ref z_paths, .long v_seenOnes, .long v_seenLost]))] H := hP
  have hD : va_D A [(z, .inr (4, [.int v_width, .long v_checkMask, .int v_hasRead, .int x1, .ref z_nextPaths, .ref z_paths, .long v_seenOnes, .long v_seenLost]))] := hD
  cases h
  exact gRv hx hb hr hlocks hP hD hS dX5_turnTo_23

def fL_X5_readRow_26 (K : Nat) (u0_0 : Int32) (u0_6 : Int64) (u0_7 : Int64) (u2_0 : Int32) (u2_3 : Int64) (u2_4 : Int64) : Nat → Int32 × Int32 × Nat × Nat × (Nat → Int64) × (Nat → Int64) → Option (Int32 × Int32 × Nat × Nat × (Nat → Int64) × (Nat → Int64))
  | 0, _ => none
  | k + 1, (l6, u0_3, u0_4, u0_5, u1, u3) =>
    if u2_0 ≤ l6 then
      some (l6, u0_3, u0_4, u0_5, u1, u3)
    else
      Option.bind (f_X4_isGood K l6 u2_3) fun r_15 =>
      Option.bind (α := Int32 × (Nat → Int64)) (
        if r_15 = 0 then
          Option.bind (f_X4_frozenBit K l6 u2_4) fun r_19 =>
          Option.bind (f_X5_passFrozen K u2_0 l6 r_19 u0_0 u0_3 u0_6 u0_7 u1 u3) fun (r_20, o_21) =>
          some (r_20, o_21)
        else
          Option.bind (f_X5_passGood K u2_0 l6 u0_0 u0_3 u0_6 u0_7 u1 u3) fun (r_22, o_23) =>
          some (r_22, o_23)) fun (ms_16, mc_17) =>
      Option.bind (f_X5_turnTo K ms_16) fun o_24 =>
      gLet (l6 + 1) fun y6_25 =>
      fL_X5_readRow_26 K u0_0 u0_6 u0_7 u2_0 u2_3 u2_4 k (y6_25, o_24, u0_5, u0_4, mc_17, u1)
def f_X5_readRow (K : Nat) (x2 : Int64) (x3 : Int64) (v_width : Int32) (z_paths : Nat) (z_nextPaths : Nat) (v_pathsc : Nat → Int64) (v1_n : Int32) (v1_goodOnes : Int64) (v1_frozenOnes : Int64) (v_nextPathsc : Nat → Int64) : Option (Int32 × Int32 × Nat × Nat × Int64 × Int64 × (Nat → Int64) × (Nat → Int64)) :=
  gIx 0 64 <|
  gLet (vp_updL v_pathsc (Int32.toNatClampNeg 0) 0) fun w_1 =>
  Option.bind (fL_X5_readRow_26 K v_width x2 x3 v1_n v1_goodOnes v1_frozenOnes K (0, 1, z_paths, z_nextPaths, w_1, v_nextPathsc)) fun (o_26, o_27, o_28, o_29, o_30, o_31) =>
  some (1, o_27, o_28, o_29, x2, x3, o_30, o_31)
set_option maxHeartbeats 4000000 in
set_option maxRecDepth 100000 in
theorem c_X5_readRow (l : Launch) (D : va_G) (cy : Nat → ClassId) (t sz K : Nat) (z : Nat) (z_paths : Nat) (z1 : Nat) (z_nextPaths : Nat) (z1_uppers : Nat) (v_width : Int32) (v_checkMask : Int64) (v_hasRead : Int32) (v_left : Int32) (v_seenOnes : Int64) (v_seenLost : Int64) (v_pathsc : Nat → Int64) (v1_n : Int32) (v1_p : Int32) (v1_q : Int32) (v1_goodOnes : Int64) (v1_frozenOnes : Int64) (v_nextPathsc : Nat → Int64) (x2 : Int64) (x3 : Int64) (o_v_hasRead : Int32) (o_v_left : Int32) (o_z_paths : Nat) (o_z_nextPaths : Nat) (o_v_seenOnes : Int64) (o_v_seenLost : Int64) (o_v_pathsc : Nat → Int64) (o_v_nextPathsc : Nat → Int64) (h : f_X5_readRow K x2 x3 v_width z_paths z_nextPaths v_pathsc v1_n v1_goodOnes v1_frozenOnes v_nextPathsc = some (o_v_hasRead, o_v_left, o_z_paths, o_z_nextPaths, o_v_seenOnes, o_v_seenLost, o_v_pathsc, o_v_nextPathsc)) : gMv l D cy t sz yX5_readRow wsX5_readRow 3 94 [.ref z, .ref z1, .long x2, .long x3] [(z, .inr (4, [.int v_width, .long v_checkMask, .int v_hasRead, .int v_left, .ref z_paths, .ref z_nextPaths, .long v_seenOnes, .long v_seenLost])), (z_paths, .inl (cy 1, 64, .inr (.inl v_pathsc))), (z1, .inr (3, [.int v1_n, .int v1_p, .int v1_q, .long v1_goodOnes, .long v1_frozenOnes, .ref z1_uppers])), (z_nextPaths, .inl (cy 1, 64, .inr (.inl v_nextPathsc)))] [(z, .inr (4, [.int v_width, .long v_checkMask, .int o_v_hasRead, .int o_v_left, .ref o_z_paths, .ref o_z_nextPaths, .long o_v_seenOnes, .long o_v_seenLost])), (o_z_paths, .inl (cy 1, 64, .inr (.inl o_v_pathsc))), (z1, .inr (3, [.int v1_n, .int v1_p, .int v1_q, .long v1_goodOnes, .long v1_frozenOnes, .ref z1_uppers])), (o_z_nextPaths, .inl (cy 1, 64, .inr (.inl o_v_nextPathsc)))] := by
  refine gBv (cc := cX5_readRow) (maxL := 8) (ret := none) (by decide) rfl (Nat.le_of_ble_eq_true rfl) ?_
  intro p e s m below meth c A ls hAt hl
  obtain ⟨hx, hb, hml, hr, hts, hown, hlocks, hin, hK, hG, hA, hP, hD⟩ := hAt
  have hS : va_S A s.heap s.heap [] := va_S.rf
  have hl : lv_has ls 8 [(0, .ref z), (1, .ref z1), (2, .long x2), (4, .long x3)] := hl
  have f29 := hts (.fieldLink RX5 29 "PlainLines$Reader" "seenOnes" "J") (by decide +kernel)
  have iX5 := (by decide +kernel : ∀ w ∈ u_ws RX5 TX5 8, w ∈ wsX5_readRow)
  have f33 := hts (.fieldLink RX5 33 "PlainLines$Reader" "seenLost" "J") (by decide +kernel)
  have f15 := hts (.fieldLink RX5 15 "PlainLines$Reader" "paths" "[J") (by decide +kernel)
  have f26 := hts (.fieldLink RX5 26 "PlainLines$Reader" "left" "I") (by decide +kernel)
  have f22 := hts (.fieldLink RX5 22 "PlainLines$Reader" "hasRead" "Z") (by decide +kernel)
  have f36 := hts (.fieldLink RX5 36 "PlainLines$Places" "n" "I") (by decide +kernel)
  have iX4 := (by decide +kernel : ∀ w ∈ u_ws RX4 TX4 6, w ∈ wsX5_readRow)
  rw [f_X5_readRow] at h
  refine lv_aload_n hx hb dX5_readRow_0 rfl (lv_at hl 0 rfl) ?_
  refine lv_lload_n hx hb dX5_readRow_1 rfl (lv_at hl 2 rfl) ?_
  refine va_put (D := D) (ci := 4) (v := .long x2) (ty := .long) (C := RX5) (T := TX5) (N := 8) hx hb hts iX5 tyX5 tyX5_ok nmX5 hown hK hP hD hS 0 rfl rfl 6 (by decide) f29 (fun _ h9 => h9) rfl (by decide +kernel) rfl rfl (Nat.le_of_ble_eq_true rfl) dX5_readRow_2 (fun H locs hP hD hS => ?_)
  have hP : va_P D vwCl [(z, .inr (4, [.int v_width, .long v_checkMask, .int v_hasRead, .int v_left, .ref z_paths, .ref z_nextPaths, .long x2, .long v_seenLost])), (z_paths, .inl (cy 1, 64, .inr (.inl v_pathsc))), (z1, .inr (3, [.int v1_n, .int v1_p, .int v1_q, .long v1_goodOnes, .long v1_frozenOnes, .ref z1_uppers])), (z_nextPaths, .inl (cy 1, 64, .inr (.inl v_nextPathsc)))] H := hP
  have hD : va_D A [(z, .inr (4, [.int v_width, .long v_checkMask, .int v_hasRead, .int v_left, .ref z_paths, .ref z_nextPaths, .long x2, .long v_seenLost])), (z_paths, .inl (cy 1, 64, .inr (.inl v_pathsc))), (z1, .inr (3, [.int v1_n, .int v1_p, .int v1_q, .long v1_goodOnes, .long v1_frozenOnes, .ref z1_uppers])), (z_nextPaths, .inl (cy 1, 64, .inr (.inl v_nextPathsc)))] := hD
  refine lv_aload_n hx hb dX5_readRow_5 rfl (lv_at hl 0 rfl) ?_
  refine lv_lload hx hb dX5_readRow_6 (lv_at hl 3 rfl) ?_
  refine va_put (D := D) (ci := 4) (v := .long x3) (ty := .long) (C := RX5) (T := TX5) (N := 8) hx hb hts iX5 tyX5 tyX5_ok nmX5 hown hK hP hD hS 0 rfl rfl 7 (by decide) f33 (fun _ h9 => h9) rfl (by decide +kernel) rfl rfl (Nat.le_of_ble_eq_true rfl) dX5_readRow_8 (fun H locs hP hD hS => ?_)
  have hP : va_P D vwCl [(z, .inr (4, [.int v_width, .long v_checkMask, .int v_hasRead, .int v_left, .ref z_paths, .ref z_nextPaths, .long x2, .long x3])), (z_paths, .inl (cy 1, 64, .inr (.inl v_pathsc))), (z1, .inr (3, [.int v1_n, .int v1_p, .int v1_q, .long v1_goodOnes, .long v1_frozenOnes, .ref z1_uppers])), (z_nextPaths, .inl (cy 1, 64, .inr (.inl v_nextPathsc)))] H := hP
  have hD : va_D A [(z, .inr (4, [.int v_width, .long v_checkMask, .int v_hasRead, .int v_left, .ref z_paths, .ref z_nextPaths, .long x2, .long x3])), (z_paths, .inl (cy 1, 64, .inr (.inl v_pathsc))), (z1, .inr (3, [.int v1_n, .int v1_p, .int v1_q, .long v1_goodOnes, .long v1_frozenOnes, .ref z1_uppers])), (z_nextPaths, .inl (cy 1, 64, .inr (.inl v_nextPathsc)))] := hD
  refine lv_aload_n hx hb dX5_readRow_11 rfl (lv_at hl 0 rfl) ?_
  refine va_get (D := D) (ci := 4) (v := .ref z_paths) (C := RX5) (T := TX5) (N := 8) hx hb hts iX5 hown hK hP 0 rfl rfl 4 (by decide) f15 (fun _ h9 => h9) rfl dX5_readRow_12 ?_
  refine lv_iconst (v := 0) hx hb dX5_readRow_15 (by decide) ?_
  refine lv_lconst (v := 0) hx hb dX5_readRow_16 (by decide) ?_
  obtain ⟨hi_, h⟩ := gx_ix h
  refine va_last hx hb hK hP hD hS 1 1 rfl rfl hi_ dX5_readRow_17 (fun H locs hP hD hS => ?_)
  obtain ⟨w_1, e_w_1⟩ : ∃ y : Nat → Int64, y = (vp_updL v_pathsc (Int32.toNatClampNeg 0) 0) := ⟨_, rfl⟩
  have h := gx_let e_w_1 h
  have hP : va_P D vwCl [(z, .inr (4, [.int v_width, .long v_checkMask, .int v_hasRead, .int v_left, .ref z_paths, .ref z_nextPaths, .long x2, .long x3])), (z_paths, .inl (cy 1, 64, .inr (.inl (vp_updL v_pathsc (Int32.toNatClampNeg 0) 0)))), (z1, .inr (3, [.int v1_n, .int v1_p, .int v1_q, .long v1_goodOnes, .long v1_frozenOnes, .ref z1_uppers])), (z_nextPaths, .inl (cy 1, 64, .inr (.inl v_nextPathsc)))] H := hP
  have hD : va_D A [(z, .inr (4, [.int v_width, .long v_checkMask, .int v_hasRead, .int v_left, .ref z_paths, .ref z_nextPaths, .long x2, .long x3])), (z_paths, .inl (cy 1, 64, .inr (.inl (vp_updL v_pathsc (Int32.toNatClampNeg 0) 0)))), (z1, .inr (3, [.int v1_n, .int v1_p, .int v1_q, .long v1_goodOnes, .long v1_frozenOnes, .ref z1_uppers])), (z_nextPaths, .inl (cy 1, 64, .inr (.inl v_nextPathsc)))] := hD
  rw [← e_w_1] at hP hD
  refine lv_aload_n hx hb dX5_readRow_18 rfl (lv_at hl 0 rfl) ?_
  refine lv_iconst (v := 1) hx hb dX5_readRow_19 (by decide) ?_
  refine va_put (D := D) (ci := 4) (v := .int 1) (ty := .int) (C := RX5) (T := TX5) (N := 8) hx hb hts iX5 tyX5 tyX5_ok nmX5 hown hK hP hD hS 0 rfl rfl 3 (by decide) f26 (fun _ h9 => h9) rfl (by decide +kernel) rfl rfl (Nat.le_of_ble_eq_true rfl) dX5_readRow_20 (fun H locs hP hD hS => ?_)
  have hP : va_P D vwCl [(z, .inr (4, [.int v_width, .long v_checkMask, .int v_hasRead, .int 1, .ref z_paths, .ref z_nextPaths, .long x2, .long x3])), (z_paths, .inl (cy 1, 64, .inr (.inl w_1))), (z1, .inr (3, [.int v1_n, .int v1_p, .int v1_q, .long v1_goodOnes, .long v1_frozenOnes, .ref z1_uppers])), (z_nextPaths, .inl (cy 1, 64, .inr (.inl v_nextPathsc)))] H := hP
  have hD : va_D A [(z, .inr (4, [.int v_width, .long v_checkMask, .int v_hasRead, .int 1, .ref z_paths, .ref z_nextPaths, .long x2, .long x3])), (z_paths, .inl (cy 1, 64, .inr (.inl w_1))), (z1, .inr (3, [.int v1_n, .int v1_p, .int v1_q, .long v1_goodOnes, .long v1_frozenOnes, .ref z1_uppers])), (z_nextPaths, .inl (cy 1, 64, .inr (.inl v_nextPathsc)))] := hD
  refine lv_iconst (v := 0) hx hb dX5_readRow_23 (by decide) ?_
  refine lv_istore (lv' := [(6, .int 0), (0, .ref z), (1, .ref z1), (2, .long x2), (4, .long x3)]) hx hb dX5_readRow_24 hl (by decide) rfl (fun ls hl => ?_)
  obtain ⟨⟨o_2, o_3, o_4, o_5, o_6, o_7⟩, hL_8, h⟩ := gx_b h
  refine gJoin (Pj := fun H locs ls => va_P D vwCl [(z, .inr (4, [.int v_width, .long v_checkMask, .int v_hasRead, .int o_3, .ref o_4, .ref o_5, .long x2, .long x3])), (o_4, .inl (cy 1, 64, .inr (.inl o_6))), (z1, .inr (3, [.int v1_n, .int v1_p, .int v1_q, .long v1_goodOnes, .long v1_frozenOnes, .ref z1_uppers])), (o_5, .inl (cy 1, 64, .inr (.inl o_7)))] H ∧ va_D A [(z, .inr (4, [.int v_width, .long v_checkMask, .int v_hasRead, .int o_3, .ref o_4, .ref o_5, .long x2, .long x3])), (o_4, .inl (cy 1, 64, .inr (.inl o_6))), (z1, .inr (3, [.int v1_n, .int v1_p, .int v1_q, .long v1_goodOnes, .long v1_frozenOnes, .ref z1_uppers])), (o_5, .inl (cy 1, 64, .inr (.inl o_7)))] ∧ va_S A s.heap H locs ∧ lv_has ls 8 [(6, .int o_2), (0, .ref z), (1, .ref z1), (2, .long x2), (4, .long x3)]) (pcM := 87) (st := []) ?_ (fun hJ87 => ?_)
  · intro H locs ls hp_
    obtain ⟨hP, hD, hS, hl⟩ := hp_
    clear hL_8
    refine lv_aload_n hx hb dX5_readRow_87 rfl (lv_at hl 1 rfl) ?_
    refine lv_iconst (v := 1) hx hb dX5_readRow_88 (by decide) ?_
    refine va_put (D := D) (ci := 4) (v := .int 1) (ty := .boolean) (C := RX5) (T := TX5) (N := 8) hx hb hts iX5 tyX5 tyX5_ok nmX5 hown hK hP hD hS 0 rfl rfl 2 (by decide) f22 (fun _ h9 => h9) rfl (by decide +kernel) rfl rfl (Nat.le_of_ble_eq_true rfl) dX5_readRow_89 (fun H locs hP hD hS => ?_)
    have hP : va_P D vwCl [(z, .inr (4, [.int v_width, .long v_checkMask, .int 1, .int o_3, .ref o_4, .ref o_5, .long x2, .long x3])), (o_4, .inl (cy 1, 64, .inr (.inl o_6))), (z1, .inr (3, [.int v1_n, .int v1_p, .int v1_q, .long v1_goodOnes, .long v1_frozenOnes, .ref z1_uppers])), (o_5, .inl (cy 1, 64, .inr (.inl o_7)))] H := hP
    have hD : va_D A [(z, .inr (4, [.int v_width, .long v_checkMask, .int 1, .int o_3, .ref o_4, .ref o_5, .long x2, .long x3])), (o_4, .inl (cy 1, 64, .inr (.inl o_6))), (z1, .inr (3, [.int v1_n, .int v1_p, .int v1_q, .long v1_goodOnes, .long v1_frozenOnes, .ref z1_uppers])), (o_5, .inl (cy 1, 64, .inr (.inl o_7)))] := hD
    cases h
    exact gRv hx hb hr hlocks hP hD hS dX5_readRow_92
  · refine gLoop (Hy := fun k_ v_ => fL_X5_readRow_26 K v_width x2 x3 v1_n v1_goodOnes v1_frozenOnes k_ v_ = some (o_2, o_3, o_4, o_5, o_6, o_7)) (Pl := fun (v_ : Int32 × Int32 × Nat × Nat × (Nat → Int64) × (Nat → Int64)) H locs ls => match v_ with | (a_9, a_10, a_11, a_12, a_13, a_14) => va_P D vwCl [(z, .inr (4, [.int v_width, .long v_checkMask, .int v_hasRead, .int a_10, .ref a_11, .ref a_12, .long x2, .long x3])), (a_11, .inl (cy 1, 64, .inr (.inl a_13))), (z1, .inr (3, [.int v1_n, .int v1_p, .int v1_q, .long v1_goodOnes, .long v1_frozenOnes, .ref z1_uppers])), (a_12, .inl (cy 1, 64, .inr (.inl a_14)))] H ∧ va_D A [(z, .inr (4, [.int v_width, .long v_checkMask, .int v_hasRead, .int a_10, .ref a_11, .ref a_12, .long x2, .long x3])), (a_11, .inl (cy 1, 64, .inr (.inl a_13))), (z1, .inr (3, [.int v1_n, .int v1_p, .int v1_q, .long v1_goodOnes, .long v1_frozenOnes, .ref z1_uppers])), (a_12, .inl (cy 1, 64, .inr (.inl a_14)))] ∧ va_S A s.heap H locs ∧ lv_has ls 8 [(6, .int a_9), (0, .ref z), (1, .ref z1), (2, .long x2), (4, .long x3)]) (pcH := 26) (fun _ q_ => by cases q_) ?_ K (0, 1, z_paths, z_nextPaths, w_1, v_nextPathsc) hL_8 ⟨hP, hD, hS, hl⟩
    clear hL_8 h hP hD hS hl
    intro k_ ih ⟨a_9, a_10, a_11, a_12, a_13, a_14⟩ H locs ls h hp_
    obtain ⟨hP, hD, hS, hl⟩ := hp_
    have hP : va_P D vwCl [(z, .inr (4, [.int v_width, .long v_checkMask, .int v_hasRead, .int a_10, .ref a_11, .ref a_12, .long x2, .long x3])), (a_11, .inl (cy 1, 64, .inr (.inl a_13))), (z1, .inr (3, [.int v1_n, .int v1_p, .int v1_q, .long v1_goodOnes, .long v1_frozenOnes, .ref z1_uppers])), (a_12, .inl (cy 1, 64, .inr (.inl a_14)))] H := hP
    have hD : va_D A [(z, .inr (4, [.int v_width, .long v_checkMask, .int v_hasRead, .int a_10, .ref a_11, .ref a_12, .long x2, .long x3])), (a_11, .inl (cy 1, 64, .inr (.inl a_13))), (z1, .inr (3, [.int v1_n, .int v1_p, .int v1_q, .long v1_goodOnes, .long v1_frozenOnes, .ref z1_uppers])), (a_12, .inl (cy 1, 64, .inr (.inl a_14)))] := hD
    have hl : lv_has ls 8 [(6, .int a_9), (0, .ref z), (1, .ref z1), (2, .long x2), (4, .long x3)] := hl
    change fL_X5_readRow_26 K v_width x2 x3 v1_n v1_goodOnes v1_frozenOnes (k_ + 1) (a_9, a_10, a_11, a_12, a_13, a_14) = _ at h
    rw [fL_X5_readRow_26] at h
    refine lv_iload hx hb dX5_readRow_26 (lv_at hl 0 rfl) ?_
    refine lv_aload_n hx hb dX5_readRow_28 rfl (lv_at hl 2 rfl) ?_
    refine va_get (D := D) (ci := 3) (v := .int v1_n) (C := RX4) (T := TX4) (N := 6) hx hb hts iX4 hown hK hP 2 rfl rfl 0 (by decide) f36 (fun _ h9 => h9) rfl dX5_readRow_29 ?_
    refine lv_icmp_ge (tgt := 87) hx hb dX5_readRow_32 (by decide) (fun c_15 => ?_) (fun c_15 => ?_)
    · have h := gx_t c_15 h
      have hl := lv_sub (l' := [(6, .int a_9), (0, .ref z), (1, .ref z1), (2, .long x2), (4, .long x3)]) hl [0, 1, 2, 3, 4] rfl
      cases h
      exact hJ87 _ _ _ ⟨hP, hD, hS, hl⟩
    · have h := gx_f c_15 h
      refine lv_aload_n hx hb dX5_readRow_35 rfl (lv_at hl 2 rfl) ?_
      refine lv_iload hx hb dX5_readRow_36 (lv_at hl 0 rfl) ?_
      obtain ⟨r_16, hc_17, h⟩ := gx_b h
      refine gCalli (wr := [(z, .inr (4, [.int v_width, .long v_checkMask, .int v_hasRead, .int a_10, .ref a_11, .ref a_12, .long x2, .long x3])), (a_11, .inl (cy 1, 64, .inr (.inl a_13))), (a_12, .inl (cy 1, 64, .inr (.inl a_14)))]) (va_runV (As := [.int a_9]) (rest := []) ⟨hx, hb, hml, hown, hts⟩ (c_X4_isGood l D cy t H.size K z1 z1_uppers v1_n v1_p v1_q v1_goodOnes v1_frozenOnes a_9 r_16 hc_17) (cwV 1 hts gX5_readRow_X4_isGood rfl rfl rfl (by decide +kernel) ⟨Nat.le_of_ble_eq_true rfl, Nat.le_of_ble_eq_true rfl⟩) ⟨gBlind, va_recv hK hP (ci := 3) (q0 := 2) rfl rfl, fun U hU hW => ⟨rfl, gPre.call hK hG hA hP hD hS [2] (by decide) rfl U hU hW⟩⟩ rfl rfl hl.1 rfl (lv_room (Nat.le_of_ble_eq_true rfl)) dX5_readRow_38 ⟨Nat.le_of_ble_eq_true rfl, Nat.le_of_ble_eq_true rfl⟩) hA hP hD hS [2] [0, 1, 3] rfl rfl (by decide) (by decide) (fun H locs hP hD hS => ?_)
      have hP := hP.sub (ws' := [(z, .inr (4, [.int v_width, .long v_checkMask, .int v_hasRead, .int a_10, .ref a_11, .ref a_12, .long x2, .long x3])), (a_11, .inl (cy 1, 64, .inr (.inl a_13))), (z1, .inr (3, [.int v1_n, .int v1_p, .int v1_q, .long v1_goodOnes, .long v1_frozenOnes, .ref z1_uppers])), (a_12, .inl (cy 1, 64, .inr (.inl a_14)))]) [0, 1, 3, 2] rfl
      have hD := hD.sub (ws' := [(z, .inr (4, [.int v_width, .long v_checkMask, .int v_hasRead, .int a_10, .ref a_11, .ref a_12, .long x2, .long x3])), (a_11, .inl (cy 1, 64, .inr (.inl a_13))), (z1, .inr (3, [.int v1_n, .int v1_p, .int v1_q, .long v1_goodOnes, .long v1_frozenOnes, .ref z1_uppers])), (a_12, .inl (cy 1, 64, .inr (.inl a_14)))]) [0, 1, 3, 2] (by decide) rfl
      obtain ⟨⟨ms_18, mc_19⟩, hR_20, h⟩ := gx_b h
      refine gJoin (Pj := fun H locs ls => va_P D vwCl [(z, .inr (4, [.int v_width, .long v_checkMask, .int v_hasRead, .int a_10, .ref a_11, .ref a_12, .long x2, .long x3])), (a_11, .inl (cy 1, 64, .inr (.inl a_13))), (z1, .inr (3, [.int v1_n, .int v1_p, .int v1_q, .long v1_goodOnes, .long v1_frozenOnes, .ref z1_uppers])), (a_12, .inl (cy 1, 64, .inr (.inl mc_19)))] H ∧ va_D A [(z, .inr (4, [.int v_width, .long v_checkMask, .int v_hasRead, .int a_10, .ref a_11, .ref a_12, .long x2, .long x3])), (a_11, .inl (cy 1, 64, .inr (.inl a_13))), (z1, .inr (3, [.int v1_n, .int v1_p, .int v1_q, .long v1_goodOnes, .long v1_frozenOnes, .ref z1_uppers])), (a_12, .inl (cy 1, 64, .inr (.inl mc_19)))] ∧ va_S A s.heap H locs ∧ lv_has ls 8 [(6, .int a_9), (0, .ref z), (1, .ref z1), (2, .long x2), (4, .long x3)]) (pcM := 73) (st := [.int ms_18]) ?_ (fun hJ73 => ?_)
      · intro H locs ls hp_
        obtain ⟨hP, hD, hS, hl⟩ := hp_
        clear hR_20
        refine lv_istore (lv' := [(7, .int ms_18), (6, .int a_9), (0, .ref z), (1, .ref z1), (2, .long x2), (4, .long x3)]) hx hb dX5_readRow_73 hl (by decide) rfl (fun ls hl => ?_)
        refine lv_aload_n hx hb dX5_readRow_75 rfl (lv_at hl 2 rfl) ?_
        refine lv_iload hx hb dX5_readRow_76 (lv_at hl 0 rfl) ?_
        obtain ⟨o_21, hc_22, h⟩ := gx_b h
        refine gCallv (wr := [(a_11, .inl (cy 1, 64, .inr (.inl a_13))), (z1, .inr (3, [.int v1_n, .int v1_p, .int v1_q, .long v1_goodOnes, .long v1_frozenOnes, .ref z1_uppers])), (a_12, .inl (cy 1, 64, .inr (.inl mc_19)))]) (va_runV (As := [.int ms_18]) (rest := []) ⟨hx, hb, hml, hown, hts⟩ (c_X5_turnTo l D cy t H.size K z a_11 a_12 v_width v_checkMask v_hasRead a_10 x2 x3 ms_18 o_21 hc_22) (cwV 1 hts gX5_readRow_X5_turnTo rfl rfl rfl (by decide +kernel) ⟨Nat.le_of_ble_eq_true rfl, Nat.le_of_ble_eq_true rfl⟩) ⟨gBlind, va_recv hK hP (ci := 4) (q0 := 0) rfl rfl, fun U hU hW => ⟨rfl, gPre.call hK hG hA hP hD hS [0] (by decide) rfl U hU hW⟩⟩ rfl rfl hl.1 rfl (lv_room (Nat.le_of_ble_eq_true rfl)) dX5_readRow_78 ⟨Nat.le_of_ble_eq_true rfl, Nat.le_of_ble_eq_true rfl⟩) hA hP hD hS [0] [1, 2, 3] rfl rfl (by decide) (by decide) (fun H locs hP hD hS => ?_)
        have hP := hP.sub (ws' := [(z, .inr (4, [.int v_width, .long v_checkMask, .int v_hasRead, .int o_21, .ref a_12, .ref a_11, .long x2, .long x3])), (a_11, .inl (cy 1, 64, .inr (.inl a_13))), (z1, .inr (3, [.int v1_n, .int v1_p, .int v1_q, .long v1_goodOnes, .long v1_frozenOnes, .ref z1_uppers])), (a_12, .inl (cy 1, 64, .inr (.inl mc_19)))]) [3, 0, 1, 2] rfl
        have hD := hD.sub (ws' := [(z, .inr (4, [.int v_width, .long v_checkMask, .int v_hasRead, .int o_21, .ref a_12, .ref a_11, .long x2, .long x3])), (a_11, .inl (cy 1, 64, .inr (.inl a_13))), (z1, .inr (3, [.int v1_n, .int v1_p, .int v1_q, .long v1_goodOnes, .long v1_frozenOnes, .ref z1_uppers])), (a_12, .inl (cy 1, 64, .inr (.inl mc_19)))]) [3, 0, 1, 2] (by decide) rfl
        obtain ⟨y6_23, e_y6_23⟩ : ∃ y : Int32, y = (a_9 + 1) := ⟨_, rfl⟩
        have h := gx_let e_y6_23 h
        refine lv_iinc (v := y6_23) (lv' := [(6, .int y6_23), (7, .int ms_18), (0, .ref z), (1, .ref z1), (2, .long x2), (4, .long x3)]) hx hb dX5_readRow_81 hl (k := 1) rfl (by rw [e_y6_23]; rfl) (by decide) rfl (fun ls hl => ?_)
        refine lv_goto (tgt := 26) hx hb dX5_readRow_84 (by decide) ?_
        have hP := hP.sub (ws' := [(z, .inr (4, [.int v_width, .long v_checkMask, .int v_hasRead, .int o_21, .ref a_12, .ref a_11, .long x2, .long x3])), (a_12, .inl (cy 1, 64, .inr (.inl mc_19))), (z1, .inr (3, [.int v1_n, .int v1_p, .int v1_q, .long v1_goodOnes, .long v1_frozenOnes, .ref z1_uppers])), (a_11, .inl (cy 1, 64, .inr (.inl a_13)))]) [0, 3, 2, 1] rfl
        have hD := hD.sub (ws' := [(z, .inr (4, [.int v_width, .long v_checkMask, .int v_hasRead, .int o_21, .ref a_12, .ref a_11, .long x2, .long x3])), (a_12, .inl (cy 1, 64, .inr (.inl mc_19))), (z1, .inr (3, [.int v1_n, .int v1_p, .int v1_q, .long v1_goodOnes, .long v1_frozenOnes, .ref z1_uppers])), (a_11, .inl (cy 1, 64, .inr (.inl a_13)))]) [0, 3, 2, 1] (by decide) rfl
        exact ih (y6_23, o_21, a_12, a_11, mc_19, a_13) _ _ _ h ⟨hP, hD, hS, lv_sub (l' := [(6, .int y6_23), (0, .ref z), (1, .ref z1), (2, .long x2), (4, .long x3)]) hl [0, 2, 3, 4, 5] rfl⟩
      · have h := hR_20
        refine lv_if_eq (tgt := 57) hx hb dX5_readRow_41 (by decide) (fun c_24 => ?_) (fun c_24 => ?_)
        · have h := gx_t c_24 h
          refine lv_aload_n hx hb dX5_readRow_57 rfl (lv_at hl 1 rfl) ?_
          refine lv_aload_n hx hb dX5_readRow_58 rfl (lv_at hl 2 rfl) ?_
          refine va_get (D := D) (ci := 3) (v := .int v1_n) (C := RX4) (T := TX4) (N := 6) hx hb hts iX4 hown hK hP 2 rfl rfl 0 (by decide) f36 (fun _ h9 => h9) rfl dX5_readRow_59 ?_
          refine lv_iload hx hb dX5_readRow_62 (lv_at hl 0 rfl) ?_
          refine lv_aload_n hx hb dX5_readRow_64 rfl (lv_at hl 2 rfl) ?_
          refine lv_iload hx hb dX5_readRow_65 (lv_at hl 0 rfl) ?_
          obtain ⟨r_25, hc_26, h⟩ := gx_b h
          refine gCalli (wr := [(z, .inr (4, [.int v_width, .long v_checkMask, .int v_hasRead, .int a_10, .ref a_11, .ref a_12, .long x2, .long x3])), (a_11, .inl (cy 1, 64, .inr (.inl a_13))), (a_12, .inl (cy 1, 64, .inr (.inl a_14)))]) (va_runV (As := [.int a_9]) (rest := [.int a_9, .int v1_n, .ref z]) ⟨hx, hb, hml, hown, hts⟩ (c_X4_frozenBit l D cy t H.size K z1 z1_uppers v1_n v1_p v1_q v1_goodOnes v1_frozenOnes a_9 r_25 hc_26) (cwV 1 hts gX5_readRow_X4_frozenBit rfl rfl rfl (by decide +kernel) ⟨Nat.le_of_ble_eq_true rfl, Nat.le_of_ble_eq_true rfl⟩) ⟨gBlind, va_recv hK hP (ci := 3) (q0 := 2) rfl rfl, fun U hU hW => ⟨rfl, gPre.call hK hG hA hP hD hS [2] (by decide) rfl U hU hW⟩⟩ rfl rfl hl.1 rfl (lv_room (Nat.le_of_ble_eq_true rfl)) dX5_readRow_67 ⟨Nat.le_of_ble_eq_true rfl, Nat.le_of_ble_eq_true rfl⟩) hA hP hD hS [2] [0, 1, 3] rfl rfl (by decide) (by decide) (fun H locs hP hD hS => ?_)
          have hP := hP.sub (ws' := [(z, .inr (4, [.int v_width, .long v_checkMask, .int v_hasRead, .int a_10, .ref a_11, .ref a_12, .long x2, .long x3])), (a_11, .inl (cy 1, 64, .inr (.inl a_13))), (z1, .inr (3, [.int v1_n, .int v1_p, .int v1_q, .long v1_goodOnes, .long v1_frozenOnes, .ref z1_uppers])), (a_12, .inl (cy 1, 64, .inr (.inl a_14)))]) [0, 1, 3, 2] rfl
          have hD := hD.sub (ws' := [(z, .inr (4, [.int v_width, .long v_checkMask, .int v_hasRead, .int a_10, .ref a_11, .ref a_12, .long x2, .long x3])), (a_11, .inl (cy 1, 64, .inr (.inl a_13))), (z1, .inr (3, [.int v1_n, .int v1_p, .int v1_q, .long v1_goodOnes, .long v1_frozenOnes, .ref z1_uppers])), (a_12, .inl (cy 1, 64, .inr (.inl a_14)))]) [0, 1, 3, 2] (by decide) rfl
          obtain ⟨⟨r_27, o_28⟩, hc_29, h⟩ := gx_b h
          refine gCalli (wr := [(z1, .inr (3, [.int v1_n, .int v1_p, .int v1_q, .long v1_goodOnes, .long v1_frozenOnes, .ref z1_uppers]))]) (va_runV (As := [.int v1_n, .int a_9, .int r_25]) (rest := []) ⟨hx, hb, hml, hown, hts⟩ (c_X5_passFrozen l D cy t H.size K z a_11 a_12 v_width v_checkMask v_hasRead a_10 x2 x3 a_13 a_14 v1_n a_9 r_25 r_27 o_28 hc_29) (cwV 3 hts gX5_readRow_X5_passFrozen rfl rfl rfl (by decide +kernel) ⟨Nat.le_of_ble_eq_true rfl, Nat.le_of_ble_eq_true rfl⟩) ⟨gBlind, va_recv hK hP (ci := 4) (q0 := 0) rfl rfl, fun U hU hW => ⟨rfl, gPre.call hK hG hA hP hD hS [0, 1, 3] (by decide) rfl U hU hW⟩⟩ rfl rfl hl.1 rfl (lv_room (Nat.le_of_ble_eq_true rfl)) dX5_readRow_70 ⟨Nat.le_of_ble_eq_true rfl, Nat.le_of_ble_eq_true rfl⟩) hA hP hD hS [0, 1, 3] [2] rfl rfl (by decide) (by decide) (fun H locs hP hD hS => ?_)
          have hP := hP.sub (ws' := [(z, .inr (4, [.int v_width, .long v_checkMask, .int v_hasRead, .int a_10, .ref a_11, .ref a_12, .long x2, .long x3])), (a_11, .inl (cy 1, 64, .inr (.inl a_13))), (z1, .inr (3, [.int v1_n, .int v1_p, .int v1_q, .long v1_goodOnes, .long v1_frozenOnes, .ref z1_uppers])), (a_12, .inl (cy 1, 64, .inr (.inl o_28)))]) [1, 2, 0, 3] rfl
          have hD := hD.sub (ws' := [(z, .inr (4, [.int v_width, .long v_checkMask, .int v_hasRead, .int a_10, .ref a_11, .ref a_12, .long x2, .long x3])), (a_11, .inl (cy 1, 64, .inr (.inl a_13))), (z1, .inr (3, [.int v1_n, .int v1_p, .int v1_q, .long v1_goodOnes, .long v1_frozenOnes, .ref z1_uppers])), (a_12, .inl (cy 1, 64, .inr (.inl o_28)))]) [1, 2, 0, 3] (by decide) rfl
          have hl := lv_sub (l' := [(6, .int a_9), (0, .ref z), (1, .ref z1), (2, .long x2), (4, .long x3)]) hl [0, 1, 2, 3, 4] rfl
          cases h
          exact hJ73 _ _ _ ⟨hP, hD, hS, hl⟩
        · have h := gx_f c_24 h
          refine lv_aload_n hx hb dX5_readRow_44 rfl (lv_at hl 1 rfl) ?_
          refine lv_aload_n hx hb dX5_readRow_45 rfl (lv_at hl 2 rfl) ?_
          refine va_get (D := D) (ci := 3) (v := .int v1_n) (C := RX4) (T := TX4) (N := 6) hx hb hts iX4 hown hK hP 2 rfl rfl 0 (by decide) f36 (fun _ h9 => h9) rfl dX5_readRow_46 ?_
          refine lv_iload hx hb dX5_readRow_49 (lv_at hl 0 rfl) ?_
          obtain ⟨⟨r_30, o_31⟩, hc_32, h⟩ := gx_b h
          refine gCalli (wr := [(z1, .inr (3, [.int v1_n, .int v1_p, .int v1_q, .long v1_goodOnes, .long v1_frozenOnes, .ref z1_uppers]))]) (va_runV (As := [.int v1_n, .int a_9]) (rest := []) ⟨hx, hb, hml, hown, hts⟩ (c_X5_passGood l D cy t H.size K z a_11 a_12 v_width v_checkMask v_hasRead a_10 x2 x3 a_13 a_14 v1_n a_9 r_30 o_31 hc_32) (cwV 2 hts gX5_readRow_X5_passGood rfl rfl rfl (by decide +kernel) ⟨Nat.le_of_ble_eq_true rfl, Nat.le_of_ble_eq_true rfl⟩) ⟨gBlind, va_recv hK hP (ci := 4) (q0 := 0) rfl rfl, fun U hU hW => ⟨rfl, gPre.call hK hG hA hP hD hS [0, 1, 3] (by decide) rfl U hU hW⟩⟩ rfl rfl hl.1 rfl (lv_room (Nat.le_of_ble_eq_true rfl)) dX5_readRow_51 ⟨Nat.le_of_ble_eq_true rfl, Nat.le_of_ble_eq_true rfl⟩) hA hP hD hS [0, 1, 3] [2] rfl rfl (by decide) (by decide) (fun H locs hP hD hS => ?_)
          have hP := hP.sub (ws' := [(z, .inr (4, [.int v_width, .long v_checkMask, .int v_hasRead, .int a_10, .ref a_11, .ref a_12, .long x2, .long x3])), (a_11, .inl (cy 1, 64, .inr (.inl a_13))), (z1, .inr (3, [.int v1_n, .int v1_p, .int v1_q, .long v1_goodOnes, .long v1_frozenOnes, .ref z1_uppers])), (a_12, .inl (cy 1, 64, .inr (.inl o_31)))]) [1, 2, 0, 3] rfl
          have hD := hD.sub (ws' := [(z, .inr (4, [.int v_width, .long v_checkMask, .int v_hasRead, .int a_10, .ref a_11, .ref a_12, .long x2, .long x3])), (a_11, .inl (cy 1, 64, .inr (.inl a_13))), (z1, .inr (3, [.int v1_n, .int v1_p, .int v1_q, .long v1_goodOnes, .long v1_frozenOnes, .ref z1_uppers])), (a_12, .inl (cy 1, 64, .inr (.inl o_31)))]) [1, 2, 0, 3] (by decide) rfl
          refine lv_goto (tgt := 73) hx hb dX5_readRow_54 (by decide) ?_
          have hl := lv_sub (l' := [(6, .int a_9), (0, .ref z), (1, .ref z1), (2, .long x2), (4, .long x3)]) hl [0, 1, 2, 3, 4] rfl
          cases h
          exact hJ73 _ _ _ ⟨hP, hD, hS, hl⟩

def fL_X5_firstThatMeetsCheck_12 (K : Nat) (l2 : Int64) (u0_3 : Int32) (u2 : Nat → Int64) : Nat → Int32 → Option (Int32)
  | 0, _ => none
  | k + 1, l4 =>
    if u0_3 ≤ l4 then
      some (-9)
    else
      gIx l4 64 <|
      Option.bind (f_J13_bitCount_95d88 K ((u2 (Int32.toNatClampNeg l4)) &&& l2)) fun r_3 =>
      if (r_3 &&& 1) = 0 then
        some l4
      else
        gLet (l4 + 1) fun y4_5 =>
        fL_X5_firstThatMeetsCheck_12 K l2 u0_3 u2 k y4_5
def f_X5_firstThatMeetsCheck (K : Nat) (v_checkMask : Int64) (v_left : Int32) (v1_n : Int32) (v1_goodOnes : Int64) (v_pathsc : Nat → Int64) : Option (Int32) :=
  Option.bind (f_X4_spread K v_checkMask v1_n v1_goodOnes) fun r_1 =>
  fL_X5_firstThatMeetsCheck_12 K r_1 v_left v_pathsc K 0
set_option maxHeartbeats 4000000 in
set_option maxRecDepth 100000 in
theorem c_X5_firstThatMeetsCheck (l : Launch) (D : va_G) (cy : Nat → ClassId) (t sz K : Nat) (z : Nat) (z1 : Nat) (z_paths : Nat) (z_nextPaths : Nat) (z1_uppers : Nat) (v_width : Int32) (v_checkMask : Int64) (v_hasRead : Int32) (v_left : Int32) (v_seenOnes : Int64) (v_seenLost : Int64) (v1_n : Int32) (v1_p : Int32) (v1_q : Int32) (v1_goodOnes : Int64) (v1_frozenOnes : Int64) (v_pathsc : Nat → Int64) (r_ : Int32) (h : f_X5_firstThatMeetsCheck K v_checkMask v_left v1_n v1_goodOnes v_pathsc = some r_) : gMi l D cy t sz yX5_firstThatMeetsCheck wsX5_firstThatMeetsCheck 2 48 [.ref z, .ref z1] [(z, .inr (4, [.int v_width, .long v_checkMask, .int v_hasRead, .int v_left, .ref z_paths, .ref z_nextPaths, .long v_seenOnes, .long v_seenLost])), (z1, .inr (3, [.int v1_n, .int v1_p, .int v1_q, .long v1_goodOnes, .long v1_frozenOnes, .ref z1_uppers])), (z_paths, .inl (cy 1, 64, .inr (.inl v_pathsc)))] r_ [(z, .inr (4, [.int v_width, .long v_checkMask, .int v_hasRead, .int v_left, .ref z_paths, .ref z_nextPaths, .long v_seenOnes, .long v_seenLost])), (z1, .inr (3, [.int v1_n, .int v1_p, .int v1_q, .long v1_goodOnes, .long v1_frozenOnes, .ref z1_uppers])), (z_paths, .inl (cy 1, 64, .inr (.inl v_pathsc)))] := by
  refine gBi (cc := cX5_firstThatMeetsCheck) (maxL := 5) (ret := (some .int)) (by decide) rfl (Nat.le_of_ble_eq_true rfl) ?_
  intro p e s m below meth c A ls hAt hl
  obtain ⟨hx, hb, hml, hr, hts, hown, hlocks, hin, hK, hG, hA, hP, hD⟩ := hAt
  have hS : va_S A s.heap s.heap [] := va_S.rf
  have hl : lv_has ls 5 [(0, .ref z), (1, .ref z1)] := hl
  have f71 := hts (.fieldLink RX5 71 "PlainLines$Reader" "checkMask" "J") (by decide +kernel)
  have iX5 := (by decide +kernel : ∀ w ∈ u_ws RX5 TX5 8, w ∈ wsX5_firstThatMeetsCheck)
  have f26 := hts (.fieldLink RX5 26 "PlainLines$Reader" "left" "I") (by decide +kernel)
  have f15 := hts (.fieldLink RX5 15 "PlainLines$Reader" "paths" "[J") (by decide +kernel)
  rw [f_X5_firstThatMeetsCheck] at h
  refine lv_aload_n hx hb dX5_firstThatMeetsCheck_0 rfl (lv_at hl 1 rfl) ?_
  refine lv_aload_n hx hb dX5_firstThatMeetsCheck_1 rfl (lv_at hl 0 rfl) ?_
  refine va_get (D := D) (ci := 4) (v := .long v_checkMask) (C := RX5) (T := TX5) (N := 8) hx hb hts iX5 hown hK hP 0 rfl rfl 1 (by decide) f71 (fun _ h9 => h9) rfl dX5_firstThatMeetsCheck_2 ?_
  obtain ⟨r_1, hc_2, h⟩ := gx_b h
  refine gCalll (wr := [(z, .inr (4, [.int v_width, .long v_checkMask, .int v_hasRead, .int v_left, .ref z_paths, .ref z_nextPaths, .long v_seenOnes, .long v_seenLost])), (z_paths, .inl (cy 1, 64, .inr (.inl v_pathsc)))]) (va_runV (As := [.long v_checkMask]) (rest := []) ⟨hx, hb, hml, hown, hts⟩ (c_X4_spread l D cy t s.heap.size K z1 z1_uppers v1_n v1_p v1_q v1_goodOnes v1_frozenOnes v_checkMask r_1 hc_2) (cwV 1 hts gX5_firstThatMeetsCheck_X4_spread rfl rfl rfl (by decide +kernel) ⟨Nat.le_of_ble_eq_true rfl, Nat.le_of_ble_eq_true rfl⟩) ⟨gBlind, va_recv hK hP (ci := 3) (q0 := 1) rfl rfl, fun U hU hW => ⟨rfl, gPre.call hK hG hA hP hD hS [1] (by decide) rfl U hU hW⟩⟩ rfl rfl hl.1 rfl (lv_room (Nat.le_of_ble_eq_true rfl)) dX5_firstThatMeetsCheck_5 ⟨Nat.le_of_ble_eq_true rfl, Nat.le_of_ble_eq_true rfl⟩) hA hP hD hS [1] [0, 2] rfl rfl (by decide) (by decide) (fun H locs hP hD hS => ?_)
  have hP := hP.sub (ws' := [(z, .inr (4, [.int v_width, .long v_checkMask, .int v_hasRead, .int v_left, .ref z_paths, .ref z_nextPaths, .long v_seenOnes, .long v_seenLost])), (z1, .inr (3, [.int v1_n, .int v1_p, .int v1_q, .long v1_goodOnes, .long v1_frozenOnes, .ref z1_uppers])), (z_paths, .inl (cy 1, 64, .inr (.inl v_pathsc)))]) [0, 2, 1] rfl
  have hD := hD.sub (ws' := [(z, .inr (4, [.int v_width, .long v_checkMask, .int v_hasRead, .int v_left, .ref z_paths, .ref z_nextPaths, .long v_seenOnes, .long v_seenLost])), (z1, .inr (3, [.int v1_n, .int v1_p, .int v1_q, .long v1_goodOnes, .long v1_frozenOnes, .ref z1_uppers])), (z_paths, .inl (cy 1, 64, .inr (.inl v_pathsc)))]) [0, 2, 1] (by decide) rfl
  refine lv_lstore_n (lv' := [(2, .long r_1), (0, .ref z), (1, .ref z1)]) hx hb dX5_firstThatMeetsCheck_8 rfl hl (by decide) rfl (fun ls hl => ?_)
  refine lv_iconst (v := 0) hx hb dX5_firstThatMeetsCheck_9 (by decide) ?_
  refine lv_istore (lv' := [(4, .int 0), (2, .long r_1), (0, .ref z), (1, .ref z1)]) hx hb dX5_firstThatMeetsCheck_10 hl (by decide) rfl (fun ls hl => ?_)
  have hL_3 := h
  refine gLoop (Hy := fun k_ v_ => fL_X5_firstThatMeetsCheck_12 K r_1 v_left v_pathsc k_ v_ = some r_) (Pl := fun (v_ : Int32) H locs ls => match v_ with | a_4 => va_P D vwCl [(z, .inr (4, [.int v_width, .long v_checkMask, .int v_hasRead, .int v_left, .ref z_paths, .ref z_nextPaths, .long v_seenOnes, .long v_seenLost])), (z1, .inr (3, [.int v1_n, .int v1_p, .int v1_q, .long v1_goodOnes, .long v1_frozenOnes, .ref z1_uppers])), (z_paths, .inl (cy 1, 64, .inr (.inl v_pathsc)))] H ∧ va_D A [(z, .inr (4, [.int v_width, .long v_checkMask, .int v_hasRead, .int v_left, .ref z_paths, .ref z_nextPaths, .long v_seenOnes, .long v_seenLost])), (z1, .inr (3, [.int v1_n, .int v1_p, .int v1_q, .long v1_goodOnes, .long v1_frozenOnes, .ref z1_uppers])), (z_paths, .inl (cy 1, 64, .inr (.inl v_pathsc)))] ∧ va_S A s.heap H locs ∧ lv_has ls 5 [(4, .int a_4), (2, .long r_1), (0, .ref z), (1, .ref z1)]) (pcH := 12) (fun _ q_ => by cases q_) ?_ K 0 hL_3 ⟨hP, hD, hS, hl⟩
  clear hL_3 h hP hD hS hl
  intro k_ ih a_4 H locs ls h hp_
  obtain ⟨hP, hD, hS, hl⟩ := hp_
  have hP : va_P D vwCl [(z, .inr (4, [.int v_width, .long v_checkMask, .int v_hasRead, .int v_left, .ref z_paths, .ref z_nextPaths, .long v_seenOnes, .long v_seenLost])), (z1, .inr (3, [.int v1_n, .int v1_p, .int v1_q, .long v1_goodOnes, .long v1_frozenOnes, .ref z1_uppers])), (z_paths, .inl (cy 1, 64, .inr (.inl v_pathsc)))] H := hP
  have hD : va_D A [(z, .inr (4, [.int v_width, .long v_checkMask, .int v_hasRead, .int v_left, .ref z_paths, .ref z_nextPaths, .long v_seenOnes, .long v_seenLost])), (z1, .inr (3, [.int v1_n, .int v1_p, .int v1_q, .long v1_goodOnes, .long v1_frozenOnes, .ref z1_uppers])), (z_paths, .inl (cy 1, 64, .inr (.inl v_pathsc)))] := hD
  have hl : lv_has ls 5 [(4, .int a_4), (2, .long r_1), (0, .ref z), (1, .ref z1)] := hl
  change fL_X5_firstThatMeetsCheck_12 K r_1 v_left v_pathsc (k_ + 1) a_4 = _ at h
  rw [fL_X5_firstThatMeetsCheck_12] at h
  refine lv_iload hx hb dX5_firstThatMeetsCheck_12 (lv_at hl 0 rfl) ?_
  refine lv_aload_n hx hb dX5_firstThatMeetsCheck_14 rfl (lv_at hl 2 rfl) ?_
  refine va_get (D := D) (ci := 4) (v := .int v_left) (C := RX5) (T := TX5) (N := 8) hx hb hts iX5 hown hK hP 0 rfl rfl 3 (by decide) f26 (fun _ h9 => h9) rfl dX5_firstThatMeetsCheck_15 ?_
  refine lv_icmp_ge (tgt := 47) hx hb dX5_firstThatMeetsCheck_18 (by decide) (fun c_5 => ?_) (fun c_5 => ?_)
  · have h := gx_t c_5 h
    refine lv_bipush (v := (-9)) hx hb dX5_firstThatMeetsCheck_47 (by decide) ?_
    cases h
    exact gRi hx hb hr hlocks hP hD hS dX5_firstThatMeetsCheck_49
  · have h := gx_f c_5 h
    refine lv_aload_n hx hb dX5_firstThatMeetsCheck_21 rfl (lv_at hl 2 rfl) ?_
    refine va_get (D := D) (ci := 4) (v := .ref z_paths) (C := RX5) (T := TX5) (N := 8) hx hb hts iX5 hown hK hP 0 rfl rfl 4 (by decide) f15 (fun _ h9 => h9) rfl dX5_firstThatMeetsCheck_22 ?_
    refine lv_iload hx hb dX5_firstThatMeetsCheck_25 (lv_at hl 0 rfl) ?_
    obtain ⟨hi_, h⟩ := gx_ix h
    refine va_lald hx hb hK hP 2 1 rfl rfl hi_ dX5_firstThatMeetsCheck_27 ?_
    refine lv_lload_n hx hb dX5_firstThatMeetsCheck_28 rfl (lv_at hl 1 rfl) ?_
    refine lv_land hx hb dX5_firstThatMeetsCheck_29 ?_
    obtain ⟨r_6, hc_7, h⟩ := gx_b h
    refine gCalli (wr := [(z, .inr (4, [.int v_width, .long v_checkMask, .int v_hasRead, .int v_left, .ref z_paths, .ref z_nextPaths, .long v_seenOnes, .long v_seenLost])), (z1, .inr (3, [.int v1_n, .int v1_p, .int v1_q, .long v1_goodOnes, .long v1_frozenOnes, .ref z1_uppers])), (z_paths, .inl (cy 1, 64, .inr (.inl v_pathsc)))]) (va_runS (As := [.long ((v_pathsc (Int32.toNatClampNeg a_4)) &&& r_1)]) (rest := []) ⟨hx, hb, hml, hown, hts⟩ (c_J13_bitCount_95d88 l D cy t H.size K ((v_pathsc (Int32.toNatClampNeg a_4)) &&& r_1) r_6 hc_7) (va_cwS 1 hts gX5_firstThatMeetsCheck_J13_bitCount_95d88 rfl rfl rfl (by decide +kernel) ⟨Nat.le_of_ble_eq_true rfl, Nat.le_of_ble_eq_true rfl⟩) ⟨gBlind, fun U hU hW => ⟨rfl, gPre.call hK hG hA hP hD hS [] (by decide) rfl U hU hW⟩⟩ rfl rfl hl.1 rfl (lv_room (Nat.le_of_ble_eq_true rfl)) dX5_firstThatMeetsCheck_30 ⟨Nat.le_of_ble_eq_true rfl, Nat.le_of_ble_eq_true rfl⟩) hA hP hD hS [] [0, 1, 2] rfl rfl (by decide) (by decide) (fun H locs hP hD hS => ?_)
    have hP : va_P D vwCl [(z, .inr (4, [.int v_width, .long v_checkMask, .int v_hasRead, .int v_left, .ref z_paths, .ref z_nextPaths, .long v_seenOnes, .long v_seenLost])), (z1, .inr (3, [.int v1_n, .int v1_p, .int v1_q, .long v1_goodOnes, .long v1_frozenOnes, .ref z1_uppers])), (z_paths, .inl (cy 1, 64, .inr (.inl v_pathsc)))] H := hP
    have hD : va_D A [(z, .inr (4, [.int v_width, .long v_checkMask, .int v_hasRead, .int v_left, .ref z_paths, .ref z_nextPaths, .long v_seenOnes, .long v_seenLost])), (z1, .inr (3, [.int v1_n, .int v1_p, .int v1_q, .long v1_goodOnes, .long v1_frozenOnes, .ref z1_uppers])), (z_paths, .inl (cy 1, 64, .inr (.inl v_pathsc)))] := hD
    refine lv_iconst (v := 1) hx hb dX5_firstThatMeetsCheck_33 (by decide) ?_
    refine lv_iand hx hb dX5_firstThatMeetsCheck_34 ?_
    refine lv_if_ne (tgt := 41) hx hb dX5_firstThatMeetsCheck_35 (by decide) (fun c_8 => ?_) (fun c_8 => ?_)
    · have h := gx_f c_8 h
      obtain ⟨y4_9, e_y4_9⟩ : ∃ y : Int32, y = (a_4 + 1) := ⟨_, rfl⟩
      have h := gx_let e_y4_9 h
      refine lv_iinc (v := y4_9) (lv' := [(4, .int y4_9), (2, .long r_1), (0, .ref z), (1, .ref z1)]) hx hb dX5_firstThatMeetsCheck_41 hl (k := 0) rfl (by rw [e_y4_9]; rfl) (by decide) rfl (fun ls hl => ?_)
      refine lv_goto (tgt := 12) hx hb dX5_firstThatMeetsCheck_44 (by decide) ?_
      exact ih y4_9 _ _ _ h ⟨hP, hD, hS, lv_sub (l' := [(4, .int y4_9), (2, .long r_1), (0, .ref z), (1, .ref z1)]) hl [0, 1, 2, 3] rfl⟩
    · have h := gx_t c_8 h
      refine lv_iload hx hb dX5_firstThatMeetsCheck_38 (lv_at hl 0 rfl) ?_
      cases h
      exact gRi hx hb hr hlocks hP hD hS dX5_firstThatMeetsCheck_40
