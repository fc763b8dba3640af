def f_X8_leave (K : Nat) (x1 : Int32) (v_trace : Int32) : Option (Int32) :=
  gLet ((31 * v_trace) + x1) fun y_1 =>
  some y_1
set_option maxHeartbeats 4000000 in
set_option maxRecDepth 100000 in
theorem c_X8_leave (l : Launch) (D : va_G) (cy : Nat → ClassId) (t sz K : Nat) (z : Nat) (v_trace : Int32) (x1 : Int32) (o_v_trace : Int32) (h : f_X8_leave K x1 v_trace = some o_v_trace) : gMv l D cy t sz yX8_leave wsX8_leave 0 0 [.ref z, .int x1] [(z, .inr (7, [.int v_trace]))] [(z, .inr (7, [.int o_v_trace]))] := by
  refine gBv (cc := cX8_leave) (maxL := 2) (ret := none) (by decide) rfl (Nat.le_of_ble_eq_true rfl) ?_
  intro p e s m below meth c A ls hAt hl
  obtain ⟨hx, hb, hml, hr, hts, hown, hlocks, hin, hK, hG, hA, hP, hD⟩ := hAt
  have hS : va_S A s.heap s.heap [] := va_S.rf
  have hl : lv_has ls 2 [(0, .ref z), (1, .int x1)] := hl
  have f7 := hts (.fieldLink RX8 7 "PlainLines$Trail" "trace" "I") (by decide +kernel)
  have iX8 := (by decide +kernel : ∀ w ∈ u_ws RX8 TX8 1, w ∈ wsX8_leave)
  rw [f_X8_leave] at h
  refine lv_aload_n hx hb dX8_leave_0 rfl (lv_at hl 0 rfl) ?_
  refine lv_bipush (v := 31) hx hb dX8_leave_1 (by decide) ?_
  refine lv_aload_n hx hb dX8_leave_3 rfl (lv_at hl 0 rfl) ?_
  refine va_get (D := D) (ci := 7) (v := .int v_trace) (C := RX8) (T := TX8) (N := 1) hx hb hts iX8 hown hK hP 0 rfl rfl 0 (by decide) f7 (fun _ h9 => h9) rfl dX8_leave_4 ?_
  refine lv_imul hx hb dX8_leave_7 ?_
  refine lv_iload_n hx hb dX8_leave_8 rfl (lv_at hl 1 rfl) ?_
  refine lv_iadd hx hb dX8_leave_9 ?_
  refine lv_topi (fun y_1 e_y_1 => ?_)
  have h := gx_let e_y_1 h
  refine va_put (D := D) (ci := 7) (v := .int y_1) (ty := .int) (C := RX8) (T := TX8) (N := 1) hx hb hts iX8 tyX8 tyX8_ok nmX8 hown hK hP hD hS 0 rfl rfl 0 (by decide) f7 (fun _ h9 => h9) rfl (by decide +kernel) rfl rfl (Nat.le_of_ble_eq_true rfl) dX8_leave_10 (fun H locs hP hD hS => ?_)
  have hP : va_P D vwCl [(z, .inr (7, [.int y_1]))] H := hP
  have hD : va_D A [(z, .inr (7, [.int y_1]))] := hD
  cases h
  exact gRv hx hb hr hlocks hP hD hS dX8_leave_13
def f_X4_has (K : Nat) (x1 : Int32) (v_n : Int32) : Option (Int32) :=
  if x1 < 0 then
    some 0
  else
    if v_n ≤ x1 then
      some 0
    else
      some 1
set_option maxHeartbeats 4000000 in
set_option maxRecDepth 100000 in
theorem c_X4_has (l : Launch) (D : va_G) (cy : Nat → ClassId) (t sz K : Nat) (z : Nat) (z_uppers : Nat) (v_n : Int32) (v_p : Int32) (v_q : Int32) (v_goodOnes : Int64) (v_frozenOnes : Int64) (x1 : Int32) (r_ : Int32) (h : f_X4_has K x1 v_n = some r_) : gMi l D cy t sz yX4_has wsX4_has 0 0 [.ref z, .int x1] [(z, .inr (3, [.int v_n, .int v_p, .int v_q, .long v_goodOnes, .long v_frozenOnes, .ref z_uppers]))] r_ [(z, .inr (3, [.int v_n, .int v_p, .int v_q, .long v_goodOnes, .long v_frozenOnes, .ref z_uppers]))] := by
  refine gBi (cc := cX4_has) (maxL := 2) (ret := (some .boolean)) (by decide) rfl (Nat.le_of_ble_eq_true rfl) ?_
  intro p e s m below meth c A ls hAt hl
  obtain ⟨hx, hb, hml, hr, hts, hown, hlocks, hin, hK, hG, hA, hP, hD⟩ := hAt
  have hS : va_S A s.heap s.heap [] := va_S.rf
  have hl : lv_has ls 2 [(0, .ref z), (1, .int x1)] := hl
  have f9 := hts (.fieldLink RX4 9 "PlainLines$Places" "n" "I") (by decide +kernel)
  have iX4 := (by decide +kernel : ∀ w ∈ u_ws RX4 TX4 6, w ∈ wsX4_has)
  rw [f_X4_has] at h
  refine lv_iload_n hx hb dX4_has_0 rfl (lv_at hl 1 rfl) ?_
  refine lv_if_lt (tgt := 16) hx hb dX4_has_1 (by decide) (fun c_1 => ?_) (fun c_1 => ?_)
  · have h := gx_t c_1 h
    refine lv_iconst (v := 0) hx hb dX4_has_16 (by decide) ?_
    cases h
    exact gRz hx hb hr hlocks rfl hP hD hS dX4_has_17
  · have h := gx_f c_1 h
    refine lv_iload_n hx hb dX4_has_4 rfl (lv_at hl 1 rfl) ?_
    refine lv_aload_n hx hb dX4_has_5 rfl (lv_at hl 0 rfl) ?_
    refine va_get (D := D) (ci := 3) (v := .int v_n) (C := RX4) (T := TX4) (N := 6) hx hb hts iX4 hown hK hP 0 rfl rfl 0 (by decide) f9 (fun _ h9 => h9) rfl dX4_has_6 ?_
    refine lv_icmp_ge (tgt := 16) hx hb dX4_has_9 (by decide) (fun c_2 => ?_) (fun c_2 => ?_)
    · have h := gx_t c_2 h
      refine lv_iconst (v := 0) hx hb dX4_has_16 (by decide) ?_
      cases h
      exact gRz hx hb hr hlocks rfl hP hD hS dX4_has_17
    · have h := gx_f c_2 h
      refine lv_iconst (v := 1) hx hb dX4_has_12 (by decide) ?_
      refine lv_goto (tgt := 17) hx hb dX4_has_13 (by decide) ?_
      cases h
      exact gRz hx hb hr hlocks rfl hP hD hS dX4_has_17
def f_J13_bitCount_95d88 (K : Nat) (x1 : Int64) : Option (Int32) :=
  gLet (x1 - ((gLushr x1 1) &&& 6148914691236517205)) fun y0_1 =>
  gLet ((y0_1 &&& 3689348814741910323) + ((gLushr y0_1 2) &&& 3689348814741910323)) fun y0_2 =>
  gLet ((y0_2 + (gLushr y0_2 4)) &&& 1085102592571150095) fun y0_3 =>
  gLet (y0_3 + (gLushr y0_3 8)) fun y0_4 =>
  gLet (y0_4 + (gLushr y0_4 16)) fun y0_5 =>
  gLet (y0_5 + (gLushr y0_5 32)) fun y0_6 =>
  some ((Int64.toInt32 y0_6) &&& 127)
set_option maxHeartbeats 4000000 in
set_option maxRecDepth 100000 in
theorem c_J13_bitCount_95d88 (l : Launch) (D : va_G) (cy : Nat → ClassId) (t sz K : Nat) (x1 : Int64) (r_ : Int32) (h : f_J13_bitCount_95d88 K x1 = some r_) : gMi l D cy t sz yJ13_bitCount_95d88 wsJ13_bitCount_95d88 0 0 [.long x1] [] r_ [] := by
  refine gBi (cc := cJ13_bitCount_95d88) (maxL := 2) (ret := (some .int)) (by decide) rfl (Nat.le_of_ble_eq_true rfl) ?_
  intro p e s m below meth c A ls hAt hl
  obtain ⟨hx, hb, hml, hr, hts, hown, hlocks, hin, hK, hG, hA, hP, hD⟩ := hAt
  have hS : va_S A s.heap s.heap [] := va_S.rf
  have hl : lv_has ls 2 [(0, .long x1)] := hl
  have k314 := hts (.constantLong RJ13 314 (6148914691236517205)) (by decide +kernel)
  have k316 := hts (.constantLong RJ13 316 (3689348814741910323)) (by decide +kernel)
  have k318 := hts (.constantLong RJ13 318 (1085102592571150095)) (by decide +kernel)
  rw [f_J13_bitCount_95d88] at h
  refine lv_lload_n hx hb dJ13_bitCount_95d88_0 rfl (lv_at hl 0 rfl) ?_
  refine lv_lload_n hx hb dJ13_bitCount_95d88_1 rfl (lv_at hl 0 rfl) ?_
  refine lv_iconst (v := 1) hx hb dJ13_bitCount_95d88_2 (by decide) ?_
  refine lv_lushr (v := (gLushr x1 1)) hx hb dJ13_bitCount_95d88_3 rfl ?_
  refine lv_ldc2 hx hb hown k314 dJ13_bitCount_95d88_4 ?_
  refine lv_land hx hb dJ13_bitCount_95d88_7 ?_
  refine lv_lsub hx hb dJ13_bitCount_95d88_8 ?_
  refine lv_topl (fun y0_1 e_y0_1 => ?_)
  have h := gx_let e_y0_1 h
  refine lv_lstore_n (lv' := [(0, .long y0_1)]) hx hb dJ13_bitCount_95d88_9 rfl hl (by decide) rfl (fun ls hl => ?_)
  refine lv_lload_n hx hb dJ13_bitCount_95d88_10 rfl (lv_at hl 0 rfl) ?_
  refine lv_ldc2 hx hb hown k316 dJ13_bitCount_95d88_11 ?_
  refine lv_land hx hb dJ13_bitCount_95d88_14 ?_
  refine lv_lload_n hx hb dJ13_bitCount_95d88_15 rfl (lv_at hl 0 rfl) ?_
  refine lv_iconst (v := 2) hx hb dJ13_bitCount_95d88_16 (by decide) ?_
  refine lv_lushr (v := (gLushr y0_1 2)) hx hb dJ13_bitCount_95d88_17 rfl ?_
  refine lv_ldc2 hx hb hown k316 dJ13_bitCount_95d88_18 ?_
  refine lv_land hx hb dJ13_bitCount_95d88_21 ?_
  refine lv_ladd hx hb dJ13_bitCount_95d88_22 ?_
  refine lv_topl (fun y0_2 e_y0_2 => ?_)
  have h := gx_let e_y0_2 h
  refine lv_lstore_n (lv' := [(0, .long y0_2)]) hx hb dJ13_bitCount_95d88_23 rfl hl (by decide) rfl (fun ls hl => ?_)
  refine lv_lload_n hx hb dJ13_bitCount_95d88_24 rfl (lv_at hl 0 rfl) ?_
  refine lv_lload_n hx hb dJ13_bitCount_95d88_25 rfl (lv_at hl 0 rfl) ?_
  refine lv_iconst (v := 4) hx hb dJ13_bitCount_95d88_26 (by decide) ?_
  refine lv_lushr (v := (gLushr y0_2 4)) hx hb dJ13_bitCount_95d88_27 rfl ?_
  refine lv_ladd hx hb dJ13_bitCount_95d88_28 ?_
  refine lv_ldc2 hx hb hown k318 dJ13_bitCount_95d88_29 ?_
  refine lv_land hx hb dJ13_bitCount_95d88_32 ?_
  refine lv_topl (fun y0_3 e_y0_3 => ?_)
  have h := gx_let e_y0_3 h
  refine lv_lstore_n (lv' := [(0, .long y0_3)]) hx hb dJ13_bitCount_95d88_33 rfl hl (by decide) rfl (fun ls hl => ?_)
  refine lv_lload_n hx hb dJ13_bitCount_95d88_34 rfl (lv_at hl 0 rfl) ?_
  refine lv_lload_n hx hb dJ13_bitCount_95d88_35 rfl (lv_at hl 0 rfl) ?_
  refine lv_bipush (v := 8) hx hb dJ13_bitCount_95d88_36 (by decide) ?_
  refine lv_lushr (v := (gLushr y0_3 8)) hx hb dJ13_bitCount_95d88_38 rfl ?_
  refine lv_ladd hx hb dJ13_bitCount_95d88_39 ?_
  refine lv_topl (fun y0_4 e_y0_4 => ?_)
  have h := gx_let e_y0_4 h
  refine lv_lstore_n (lv' := [(0, .long y0_4)]) hx hb dJ13_bitCount_95d88_40 rfl hl (by decide) rfl (fun ls hl => ?_)
  refine lv_lload_n hx hb dJ13_bitCount_95d88_41 rfl (lv_at hl 0 rfl) ?_
  refine lv_lload_n hx hb dJ13_bitCount_95d88_42 rfl (lv_at hl 0 rfl) ?_
  refine lv_bipush (v := 16) hx hb dJ13_bitCount_95d88_43 (by decide) ?_
  refine lv_lushr (v := (gLushr y0_4 16)) hx hb dJ13_bitCount_95d88_45 rfl ?_
  refine lv_ladd hx hb dJ13_bitCount_95d88_46 ?_
  refine lv_topl (fun y0_5 e_y0_5 => ?_)
  have h := gx_let e_y0_5 h
  refine lv_lstore_n (lv' := [(0, .long y0_5)]) hx hb dJ13_bitCount_95d88_47 rfl hl (by decide) rfl (fun ls hl => ?_)
  refine lv_lload_n hx hb dJ13_bitCount_95d88_48 rfl (lv_at hl 0 rfl) ?_
  refine lv_lload_n hx hb dJ13_bitCount_95d88_49 rfl (lv_at hl 0 rfl) ?_
  refine lv_bipush (v := 32) hx hb dJ13_bitCount_95d88_50 (by decide) ?_
  refine lv_lushr (v := (gLushr y0_5 32)) hx hb dJ13_bitCount_95d88_52 rfl ?_
  refine lv_ladd hx hb dJ13_bitCount_95d88_53 ?_
  refine lv_topl (fun y0_6 e_y0_6 => ?_)
  have h := gx_let e_y0_6 h
  refine lv_lstore_n (lv' := [(0, .long y0_6)]) hx hb dJ13_bitCount_95d88_54 rfl hl (by decide) rfl (fun ls hl => ?_)
  refine lv_lload_n hx hb dJ13_bitCount_95d88_55 rfl (lv_at hl 0 rfl) ?_
  refine lv_l2i (v := (Int64.toInt32 y0_6)) hx hb dJ13_bitCount_95d88_56 rfl ?_
  refine lv_bipush (v := 127) hx hb dJ13_bitCount_95d88_57 (by decide) ?_
  refine lv_iand hx hb dJ13_bitCount_95d88_59 ?_
  cases h
  exact gRi hx hb hr hlocks hP hD hS dJ13_bitCount_95d88_60
def f_X4_goodCount (K : Nat) (v_goodOnes : Int64) : Option (Int32) :=
  Option.bind (f_J13_bitCount_95d88 K v_goodOnes) fun r_1 =>
  some r_1
set_option maxHeartbeats 4000000 in
set_option maxRecDepth 100000 in
theorem c_X4_goodCount (l : Launch) (D : va_G) (cy : Nat → ClassId) (t sz K : Nat) (z : Nat) (z_uppers : Nat) (v_n : Int32) (v_p : Int32) (v_q : Int32) (v_goodOnes : Int64) (v_frozenOnes : Int64) (r_ : Int32) (h : f_X4_goodCount K v_goodOnes = some r_) : gMi l D cy t sz yX4_goodCount wsX4_goodCount 1 21 [.ref z] [(z, .inr (3, [.int v_n, .int v_p, .int v_q, .long v_goodOnes, .long v_frozenOnes, .ref z_uppers]))] r_ [(z, .inr (3, [.int v_n, .int v_p, .int v_q, .long v_goodOnes, .long v_frozenOnes, .ref z_uppers]))] := by
  refine gBi (cc := cX4_goodCount) (maxL := 1) (ret := (some .int)) (by decide) rfl (Nat.le_of_ble_eq_true rfl) ?_
  intro p e s m below meth c A ls hAt hl
  obtain ⟨hx, hb, hml, hr, hts, hown, hlocks, hin, hK, hG, hA, hP, hD⟩ := hAt
  have hS : va_S A s.heap s.heap [] := va_S.rf
  have hl : lv_has ls 1 [(0, .ref z)] := hl
  have f25 := hts (.fieldLink RX4 25 "PlainLines$Places" "goodOnes" "J") (by decide +kernel)
  have iX4 := (by decide +kernel : ∀ w ∈ u_ws RX4 TX4 6, w ∈ wsX4_goodCount)
  rw [f_X4_goodCount] at h
  refine lv_aload_n hx hb dX4_goodCount_0 rfl (lv_at hl 0 rfl) ?_
  refine va_get (D := D) (ci := 3) (v := .long v_goodOnes) (C := RX4) (T := TX4) (N := 6) hx hb hts iX4 hown hK hP 0 rfl rfl 3 (by decide) f25 (fun _ h9 => h9) rfl dX4_goodCount_1 ?_
  obtain ⟨r_1, hc_2, h⟩ := gx_b h
  refine gCalli (wr := [(z, .inr (3, [.int v_n, .int v_p, .int v_q, .long v_goodOnes, .long v_frozenOnes, .ref z_uppers]))]) (va_runS (As := [.long v_goodOnes]) (rest := []) ⟨hx, hb, hml, hown, hts⟩ (c_J13_bitCount_95d88 l D cy t s.heap.size K v_goodOnes r_1 hc_2) (va_cwS 1 hts gX4_goodCount_J13_bitCount_95d88 rfl rfl rfl (by decide +kernel) ⟨Nat.le_of_ble_eq_true rfl, Nat.le_of_ble_eq_true rfl⟩) ⟨gBlind, fun U hU hW => ⟨rfl, gPre.call hK hG hA hP hD hS [] (by decide) rfl U hU hW⟩⟩ rfl rfl hl.1 rfl (lv_room (Nat.le_of_ble_eq_true rfl)) dX4_goodCount_4 ⟨Nat.le_of_ble_eq_true rfl, Nat.le_of_ble_eq_true rfl⟩) hA hP hD hS [] [0] rfl rfl (by decide) (by decide) (fun H locs hP hD hS => ?_)
  have hP : va_P D vwCl [(z, .inr (3, [.int v_n, .int v_p, .int v_q, .long v_goodOnes, .long v_frozenOnes, .ref z_uppers]))] H := hP
  have hD : va_D A [(z, .inr (3, [.int v_n, .int v_p, .int v_q, .long v_goodOnes, .long v_frozenOnes, .ref z_uppers]))] := hD
  cases h
  exact gRi hx hb hr hlocks hP hD hS dX4_goodCount_7
def f_X4_isGood (K : Nat) (x1 : Int32) (v_goodOnes : Int64) : Option (Int32) :=
  if (lg_cmp ((gLushr v_goodOnes x1) &&& 1) 0) = 0 then
    some 0
  else
    some 1
set_option maxHeartbeats 4000000 in
set_option maxRecDepth 100000 in
theorem c_X4_isGood (l : Launch) (D : va_G) (cy : Nat → ClassId) (t sz K : Nat) (z : Nat) (z_uppers : Nat) (v_n : Int32) (v_p : Int32) (v_q : Int32) (v_goodOnes : Int64) (v_frozenOnes : Int64) (x1 : Int32) (r_ : Int32) (h : f_X4_isGood K x1 v_goodOnes = some r_) : gMi l D cy t sz yX4_isGood wsX4_isGood 0 0 [.ref z, .int x1] [(z, .inr (3, [.int v_n, .int v_p, .int v_q, .long v_goodOnes, .long v_frozenOnes, .ref z_uppers]))] r_ [(z, .inr (3, [.int v_n, .int v_p, .int v_q, .long v_goodOnes, .long v_frozenOnes, .ref z_uppers]))] := by
  refine gBi (cc := cX4_isGood) (maxL := 2) (ret := (some .boolean)) (by decide) rfl (Nat.le_of_ble_eq_true rfl) ?_
  intro p e s m below meth c A ls hAt hl
  obtain ⟨hx, hb, hml, hr, hts, hown, hlocks, hin, hK, hG, hA, hP, hD⟩ := hAt
  have hS : va_S A s.heap s.heap [] := va_S.rf
  have hl : lv_has ls 2 [(0, .ref z), (1, .int x1)] := hl
  have f25 := hts (.fieldLink RX4 25 "PlainLines$Places" "goodOnes" "J") (by decide +kernel)
  have iX4 := (by decide +kernel : ∀ w ∈ u_ws RX4 TX4 6, w ∈ wsX4_isGood)
  rw [f_X4_isGood] at h
  refine lv_aload_n hx hb dX4_isGood_0 rfl (lv_at hl 0 rfl) ?_
  refine va_get (D := D) (ci := 3) (v := .long v_goodOnes) (C := RX4) (T := TX4) (N := 6) hx hb hts iX4 hown hK hP 0 rfl rfl 3 (by decide) f25 (fun _ h9 => h9) rfl dX4_isGood_1 ?_
  refine lv_iload_n hx hb dX4_isGood_4 rfl (lv_at hl 1 rfl) ?_
  refine lv_lushr (v := (gLushr v_goodOnes x1)) hx hb dX4_isGood_5 rfl ?_
  refine lv_lconst (v := 1) hx hb dX4_isGood_6 (by decide) ?_
  refine lv_land hx hb dX4_isGood_7 ?_
  refine lv_lconst (v := 0) hx hb dX4_isGood_8 (by decide) ?_
  refine W.lcmp hx hb dX4_isGood_9 ?_
  refine lv_if_eq (tgt := 17) hx hb dX4_isGood_10 (by decide) (fun c_1 => ?_) (fun c_1 => ?_)
  · have h := gx_t c_1 h
    refine lv_iconst (v := 0) hx hb dX4_isGood_17 (by decide) ?_
    cases h
    exact gRz hx hb hr hlocks rfl hP hD hS dX4_isGood_18
  · have h := gx_f c_1 h
    refine lv_iconst (v := 1) hx hb dX4_isGood_13 (by decide) ?_
    refine lv_goto (tgt := 18) hx hb dX4_isGood_14 (by decide) ?_
    cases h
    exact gRz hx hb hr hlocks rfl hP hD hS dX4_isGood_18
def fL_X4_spread_8 (K : Nat) (u0_0 : Int32) (u0_3 : Int64) : Nat → Int32 × Int64 × Int64 → Option (Int32 × Int64 × Int64)
  | 0, _ => none
  | k + 1, (l7, l5, l3) =>
    if u0_0 ≤ l7 then
      some (l7, l5, l3)
    else
      Option.bind (f_X4_isGood K l7 u0_3) fun r_2 =>
      if r_2 = 0 then
        gLet (l7 + 1) fun y7_4 =>
        fL_X4_spread_8 K u0_0 u0_3 k (y7_4, l5, l3)
      else
        gLet (l3 ||| (gLshl (l5 &&& 1) l7)) fun y3_5 =>
        gLet (gLushr l5 1) fun y5_6 =>
        gLet (l7 + 1) fun y7_7 =>
        fL_X4_spread_8 K u0_0 u0_3 k (y7_7, y5_6, y3_5)
def f_X4_spread (K : Nat) (x1 : Int64) (v_n : Int32) (v_goodOnes : Int64) : Option (Int64) :=
  Option.bind (fL_X4_spread_8 K v_n v_goodOnes K (0, x1, 0)) fun (o_8, o_9, o_10) =>
  some o_10
set_option maxHeartbeats 4000000 in
set_option maxRecDepth 100000 in
theorem c_X4_spread (l : Launch) (D : va_G) (cy : Nat → ClassId) (t sz K : Nat) (z : Nat) (z_uppers : Nat) (v_n : Int32) (v_p : Int32) (v_q : Int32) (v_goodOnes : Int64) (v_frozenOnes : Int64) (x1 : Int64) (r_ : Int64) (h : f_X4_spread K x1 v_n v_goodOnes = some r_) : gMl l D cy t sz yX4_spread wsX4_spread 1 21 [.ref z, .long x1] [(z, .inr (3, [.int v_n, .int v_p, .int v_q, .long v_goodOnes, .long v_frozenOnes, .ref z_uppers]))] r_ [(z, .inr (3, [.int v_n, .int v_p, .int v_q, .long v_goodOnes, .long v_frozenOnes, .ref z_uppers]))] := by
  refine gBl (cc := cX4_spread) (maxL := 8) (ret := (some .long)) (by decide) rfl (Nat.le_of_ble_eq_true rfl) ?_
  intro p e s m below meth c A ls hAt hl
  obtain ⟨hx, hb, hml, hr, hts, hown, hlocks, hin, hK, hG, hA, hP, hD⟩ := hAt
  have hS : va_S A s.heap s.heap [] := va_S.rf
  have hl : lv_has ls 8 [(0, .ref z), (1, .long x1)] := hl
  have f9 := hts (.fieldLink RX4 9 "PlainLines$Places" "n" "I") (by decide +kernel)
  have iX4 := (by decide +kernel : ∀ w ∈ u_ws RX4 TX4 6, w ∈ wsX4_spread)
  rw [f_X4_spread] at h
  refine lv_lconst (v := 0) hx hb dX4_spread_0 (by decide) ?_
  refine lv_lstore_n (lv' := [(3, .long 0), (0, .ref z), (1, .long x1)]) hx hb dX4_spread_1 rfl hl (by decide) rfl (fun ls hl => ?_)
  refine lv_lload_n hx hb dX4_spread_2 rfl (lv_at hl 2 rfl) ?_
  refine lv_lstore (lv' := [(5, .long x1), (3, .long 0), (0, .ref z), (1, .long x1)]) hx hb dX4_spread_3 hl (by decide) rfl (fun ls hl => ?_)
  refine lv_iconst (v := 0) hx hb dX4_spread_5 (by decide) ?_
  refine lv_istore (lv' := [(7, .int 0), (5, .long x1), (3, .long 0), (0, .ref z), (1, .long x1)]) hx hb dX4_spread_6 hl (by decide) rfl (fun ls hl => ?_)
  obtain ⟨⟨o_1, o_2, o_3⟩, hL_4, h⟩ := gx_b h
  refine gJoin (Pj := fun H locs ls => va_P D vwCl [(z, .inr (3, [.int v_n, .int v_p, .int v_q, .long v_goodOnes, .long v_frozenOnes, .ref z_uppers]))] H ∧ va_D A [(z, .inr (3, [.int v_n, .int v_p, .int v_q, .long v_goodOnes, .long v_frozenOnes, .ref z_uppers]))] ∧ va_S A s.heap H locs ∧ lv_has ls 8 [(7, .int o_1), (5, .long o_2), (3, .long o_3), (0, .ref z), (1, .long x1)]) (pcM := 48) (st := []) ?_ (fun hJ48 => ?_)
  · intro H locs ls hp_
    obtain ⟨hP, hD, hS, hl⟩ := hp_
    clear hL_4
    refine lv_lload_n hx hb dX4_spread_48 rfl (lv_at hl 2 rfl) ?_
    cases h
    exact gRl hx hb hr hlocks hP hD hS dX4_spread_49
  · refine gLoop (Hy := fun k_ v_ => fL_X4_spread_8 K v_n v_goodOnes k_ v_ = some (o_1, o_2, o_3)) (Pl := fun (v_ : Int32 × Int64 × Int64) H locs ls => match v_ with | (a_5, a_6, a_7) => va_P D vwCl [(z, .inr (3, [.int v_n, .int v_p, .int v_q, .long v_goodOnes, .long v_frozenOnes, .ref z_uppers]))] H ∧ va_D A [(z, .inr (3, [.int v_n, .int v_p, .int v_q, .long v_goodOnes, .long v_frozenOnes, .ref z_uppers]))] ∧ va_S A s.heap H locs ∧ lv_has ls 8 [(7, .int a_5), (5, .long a_6), (3, .long a_7), (0, .ref z), (1, .long x1)]) (pcH := 8) (fun _ q_ => by cases q_) ?_ K (0, x1, 0) hL_4 ⟨hP, hD, hS, hl⟩
    clear hL_4 h hP hD hS hl
    intro k_ ih ⟨a_5, a_6, a_7⟩ H locs ls h hp_
    obtain ⟨hP, hD, hS, hl⟩ := hp_
    have hP : va_P D vwCl [(z, .inr (3, [.int v_n, .int v_p, .int v_q, .long v_goodOnes, .long v_frozenOnes, .ref z_uppers]))] H := hP
    have hD : va_D A [(z, .inr (3, [.int v_n, .int v_p, .int v_q, .long v_goodOnes, .long v_frozenOnes, .ref z_uppers]))] := hD
    have hl : lv_has ls 8 [(7, .int a_5), (5, .long a_6), (3, .long a_7), (0, .ref z), (1, .long x1)] := hl
    change fL_X4_spread_8 K v_n v_goodOnes (k_ + 1) (a_5, a_6, a_7) = _ at h
    rw [fL_X4_spread_8] at h
    refine lv_iload hx hb dX4_spread_8 (lv_at hl 0 rfl) ?_
    refine lv_aload_n hx hb dX4_spread_10 rfl (lv_at hl 3 rfl) ?_
    refine va_get (D := D) (ci := 3) (v := .int v_n) (C := RX4) (T := TX4) (N := 6) hx hb hts iX4 hown hK hP 0 rfl rfl 0 (by decide) f9 (fun _ h9 => h9) rfl dX4_spread_11 ?_
    refine lv_icmp_ge (tgt := 48) hx hb dX4_spread_14 (by decide) (fun c_8 => ?_) (fun c_8 => ?_)
    · have h := gx_t c_8 h
      have hl := lv_sub (l' := [(7, .int a_5), (5, .long a_6), (3, .long a_7), (0, .ref z), (1, .long x1)]) hl [0, 1, 2, 3, 4] rfl
      cases h
      exact hJ48 _ _ _ ⟨hP, hD, hS, hl⟩
    · have h := gx_f c_8 h
      refine lv_aload_n hx hb dX4_spread_17 rfl (lv_at hl 3 rfl) ?_
      refine lv_iload hx hb dX4_spread_18 (lv_at hl 0 rfl) ?_
      obtain ⟨r_9, hc_10, h⟩ := gx_b h
      refine gCalli (wr := []) (va_runV (As := [.int a_5]) (rest := []) ⟨hx, hb, hml, hown, hts⟩ (c_X4_isGood l D cy t H.size K z z_uppers v_n v_p v_q v_goodOnes v_frozenOnes a_5 r_9 hc_10) (cwV 1 hts gX4_spread_X4_isGood rfl rfl rfl (by decide +kernel) ⟨Nat.le_of_ble_eq_true rfl, Nat.le_of_ble_eq_true rfl⟩) ⟨gBlind, va_recv hK hP (ci := 3) (q0 := 0) rfl rfl, fun U hU hW => ⟨rfl, gPre.call hK hG hA hP hD hS [0] (by decide) rfl U hU hW⟩⟩ rfl rfl hl.1 rfl (lv_room (Nat.le_of_ble_eq_true rfl)) dX4_spread_20 ⟨Nat.le_of_ble_eq_true rfl, Nat.le_of_ble_eq_true rfl⟩) hA hP hD hS [0] [] rfl rfl (by decide) (by decide) (fun H locs hP hD hS => ?_)
      have hP : va_P D vwCl [(z, .inr (3, [.int v_n, .int v_p, .int v_q, .long v_goodOnes, .long v_frozenOnes, .ref z_uppers]))] H := hP
      have hD : va_D A [(z, .inr (3, [.int v_n, .int v_p, .int v_q, .long v_goodOnes, .long v_frozenOnes, .ref z_uppers]))] := hD
      refine lv_if_eq (tgt := 42) hx hb dX4_spread_23 (by decide) (fun c_11 => ?_) (fun c_11 => ?_)
      · have h := gx_t c_11 h
        obtain ⟨y7_12, e_y7_12⟩ : ∃ y : Int32, y = (a_5 + 1) := ⟨_, rfl⟩
        have h := gx_let e_y7_12 h
        refine lv_iinc (v := y7_12) (lv' := [(7, .int y7_12), (5, .long a_6), (3, .long a_7), (0, .ref z), (1, .long x1)]) hx hb dX4_spread_42 hl (k := 0) rfl (by rw [e_y7_12]; rfl) (by decide) rfl (fun ls hl => ?_)
        refine lv_goto (tgt := 8) hx hb dX4_spread_45 (by decide) ?_
        exact ih (y7_12, a_6, a_7) _ _ _ h ⟨hP, hD, hS, lv_sub (l' := [(7, .int y7_12), (5, .long a_6), (3, .long a_7), (0, .ref z), (1, .long x1)]) hl [0, 1, 2, 3, 4] rfl⟩
      · have h := gx_f c_11 h
        refine lv_lload_n hx hb dX4_spread_26 rfl (lv_at hl 2 rfl) ?_
        refine lv_lload hx hb dX4_spread_27 (lv_at hl 1 rfl) ?_
        refine lv_lconst (v := 1) hx hb dX4_spread_29 (by decide) ?_
        refine lv_land hx hb dX4_spread_30 ?_
        refine lv_iload hx hb dX4_spread_31 (lv_at hl 0 rfl) ?_
        refine lv_lshl (v := (gLshl (a_6 &&& 1) a_5)) hx hb dX4_spread_33 rfl ?_
        refine lv_lor hx hb dX4_spread_34 ?_
        refine lv_topl (fun y3_13 e_y3_13 => ?_)
        have h := gx_let e_y3_13 h
        refine lv_lstore_n (lv' := [(3, .long y3_13), (7, .int a_5), (5, .long a_6), (0, .ref z), (1, .long x1)]) hx hb dX4_spread_35 rfl hl (by decide) rfl (fun ls hl => ?_)
        refine lv_lload hx hb dX4_spread_36 (lv_at hl 2 rfl) ?_
        refine lv_iconst (v := 1) hx hb dX4_spread_38 (by decide) ?_
        refine lv_lushr (v := (gLushr a_6 1)) hx hb dX4_spread_39 rfl ?_
        refine lv_topl (fun y5_14 e_y5_14 => ?_)
        have h := gx_let e_y5_14 h
        refine lv_lstore (lv' := [(5, .long y5_14), (3, .long y3_13), (7, .int a_5), (0, .ref z), (1, .long x1)]) hx hb dX4_spread_40 hl (by decide) rfl (fun ls hl => ?_)
        obtain ⟨y7_15, e_y7_15⟩ : ∃ y : Int32, y = (a_5 + 1) := ⟨_, rfl⟩
        have h := gx_let e_y7_15 h
        refine lv_iinc (v := y7_15) (lv' := [(7, .int y7_15), (5, .long y5_14), (3, .long y3_13), (0, .ref z), (1, .long x1)]) hx hb dX4_spread_42 hl (k := 2) rfl (by rw [e_y7_15]; rfl) (by decide) rfl (fun ls hl => ?_)
        refine lv_goto (tgt := 8) hx hb dX4_spread_45 (by decide) ?_
        exact ih (y7_15, y5_14, y3_13) _ _ _ h ⟨hP, hD, hS, lv_sub (l' := [(7, .int y7_15), (5, .long y5_14), (3, .long y3_13), (0, .ref z), (1, .long x1)]) hl [0, 1, 2, 3, 4] rfl⟩
def fL_J7_fill_53178_5 (K : Nat) (l3 : Int32) (l1 : Int32) : Nat → Int32 × (Nat → Int32) → Option (Int32 × (Nat → Int32))
  | 0, _ => none
  | k + 1, (l2, u0) =>
    if l3 ≤ l2 then
      some (l2, u0)
    else
      gIx l2 33 <|
      gLet (upd u0 (Int32.toNatClampNeg l2) l1) fun w_5 =>
      gLet (l2 + 1) fun y2_6 =>
      fL_J7_fill_53178_5 K l3 l1 k (y2_6, w_5)
def f_J7_fill_53178 (K : Nat) (x2 : Int32) (v1 : Nat → Int32) : Option ((Nat → Int32)) :=
  Option.bind (fL_J7_fill_53178_5 K 33 x2 K (0, v1)) fun (o_7, o_8) =>
  some o_8
set_option maxHeartbeats 4000000 in
set_option maxRecDepth 100000 in
theorem c_J7_fill_53178 (l : Launch) (D : va_G) (cy : Nat → ClassId) (t sz K : Nat) (z1 : Nat) (v1 : Nat → Int32) (x2 : Int32) (o_v1 : Nat → Int32) (h : f_J7_fill_53178 K x2 v1 = some o_v1) : gMv l D cy t sz yJ7_fill_53178 wsJ7_fill_53178 0 0 [.ref z1, .int x2] [(z1, .inl (cy 0, 33, .inl v1))] [(z1, .inl (cy 0, 33, .inl o_v1))] := by
  refine gBv (cc := cJ7_fill_53178) (maxL := 4) (ret := none) (by decide) rfl (Nat.le_of_ble_eq_true rfl) ?_
  intro p e s m below meth c A ls hAt hl
  obtain ⟨hx, hb, hml, hr, hts, hown, hlocks, hin, hK, hG, hA, hP, hD⟩ := hAt
  have hS : va_S A s.heap s.heap [] := va_S.rf
  have hl : lv_has ls 4 [(0, .ref z1), (1, .int x2)] := hl
  rw [f_J7_fill_53178] at h
  refine lv_iconst (v := 0) hx hb dJ7_fill_53178_0 (by decide) ?_
  refine lv_istore_n (lv' := [(2, .int 0), (0, .ref z1), (1, .int x2)]) hx hb dJ7_fill_53178_1 rfl hl (by decide) rfl (fun ls hl => ?_)
  refine lv_aload_n hx hb dJ7_fill_53178_2 rfl (lv_at hl 1 rfl) ?_
  refine va_alen (v := 33) hx hb hK hP 0 0 (ha := rfl) (ht := rfl) rfl dJ7_fill_53178_3 ?_
  refine lv_istore_n (lv' := [(3, .int 33), (2, .int 0), (0, .ref z1), (1, .int x2)]) hx hb dJ7_fill_53178_4 rfl hl (by decide) rfl (fun ls hl => ?_)
  obtain ⟨⟨o_1, o_2⟩, hL_3, h⟩ := gx_b h
  refine gJoin (Pj := fun H locs ls => va_P D vwCl [(z1, .inl (cy 0, 33, .inl o_2))] H ∧ va_D A [(z1, .inl (cy 0, 33, .inl o_2))] ∧ va_S A s.heap H locs ∧ lv_has ls 4 [(3, .int 33), (2, .int o_1), (0, .ref z1), (1, .int x2)]) (pcM := 20) (st := []) ?_ (fun hJ20 => ?_)
  · intro H locs ls hp_
    obtain ⟨hP, hD, hS, hl⟩ := hp_
    clear hL_3
    cases h
    exact gRv hx hb hr hlocks hP hD hS dJ7_fill_53178_20
  · refine gLoop (Hy := fun k_ v_ => fL_J7_fill_53178_5 K 33 x2 k_ v_ = some (o_1, o_2)) (Pl := fun (v_ : Int32 × (Nat → Int32)) H locs ls => match v_ with | (a_4, a_5) => va_P D vwCl [(z1, .inl (cy 0, 33, .inl a_5))] H ∧ va_D A [(z1, .inl (cy 0, 33, .inl a_5))] ∧ va_S A s.heap H locs ∧ lv_has ls 4 [(3, .int 33), (2, .int a_4), (0, .ref z1), (1, .int x2)]) (pcH := 5) (fun _ q_ => by cases q_) ?_ K (0, v1) hL_3 ⟨hP, hD, hS, hl⟩
    clear hL_3 h hP hD hS hl
    intro k_ ih ⟨a_4, a_5⟩ H locs ls h hp_
    obtain ⟨hP, hD, hS, hl⟩ := hp_
    have hP : va_P D vwCl [(z1, .inl (cy 0, 33, .inl a_5))] H := hP
    have hD : va_D A [(z1, .inl (cy 0, 33, .inl a_5))] := hD
    have hl : lv_has ls 4 [(3, .int 33), (2, .int a_4), (0, .ref z1), (1, .int x2)] := hl
    change fL_J7_fill_53178_5 K 33 x2 (k_ + 1) (a_4, a_5) = _ at h
    rw [fL_J7_fill_53178_5] at h
    refine lv_iload_n hx hb dJ7_fill_53178_5 rfl (lv_at hl 1 rfl) ?_
    refine lv_iload_n hx hb dJ7_fill_53178_6 rfl (lv_at hl 0 rfl) ?_
    refine lv_icmp_ge (tgt := 20) hx hb dJ7_fill_53178_7 (by decide) (fun c_6 => ?_) (fun c_6 => ?_)
    · have h := gx_t c_6 h
      have hl := lv_sub (l' := [(3, .int 33), (2, .int a_4), (0, .ref z1), (1, .int x2)]) hl [0, 1, 2, 3] rfl
      cases h
      exact hJ20 _ _ _ ⟨hP, hD, hS, hl⟩
    · have h := gx_f c_6 h
      refine lv_aload_n hx hb dJ7_fill_53178_10 rfl (lv_at hl 2 rfl) ?_
      refine lv_iload_n hx hb dJ7_fill_53178_11 rfl (lv_at hl 1 rfl) ?_
      refine lv_iload_n hx hb dJ7_fill_53178_12 rfl (lv_at hl 3 rfl) ?_
      obtain ⟨hi_, h⟩ := gx_ix h
      refine va_iast hx hb hK hP hD hS 0 0 rfl rfl hi_ dJ7_fill_53178_13 (fun H locs hP hD hS => ?_)
      obtain ⟨w_7, e_w_7⟩ : ∃ y : Nat → Int32, y = (upd a_5 (Int32.toNatClampNeg a_4) x2) := ⟨_, rfl⟩
      have h := gx_let e_w_7 h
      have hP : va_P D vwCl [(z1, .inl (cy 0, 33, .inl (upd a_5 (Int32.toNatClampNeg a_4) x2)))] H := hP
      have hD : va_D A [(z1, .inl (cy 0, 33, .inl (upd a_5 (Int32.toNatClampNeg a_4) x2)))] := hD
      rw [← e_w_7] at hP hD
      obtain ⟨y2_8, e_y2_8⟩ : ∃ y : Int32, y = (a_4 + 1) := ⟨_, rfl⟩
      have h := gx_let e_y2_8 h
      refine lv_iinc (v := y2_8) (lv' := [(2, .int y2_8), (3, .int 33), (0, .ref z1), (1, .int x2)]) hx hb dJ7_fill_53178_14 hl (k := 1) rfl (by rw [e_y2_8]; rfl) (by decide) rfl (fun ls hl => ?_)
      refine lv_goto (tgt := 5) hx hb dJ7_fill_53178_17 (by decide) ?_
      exact ih (y2_8, w_7) _ _ _ h ⟨hP, hD, hS, lv_sub (l' := [(3, .int 33), (2, .int y2_8), (0, .ref z1), (1, .int x2)]) hl [1, 0, 2, 3] rfl⟩
def f_X4_setGood (K : Nat) (x1 : Int32) (v_goodOnes : Int64) (v_frozenOnes : Int64) : Option (Int64 × Int64) :=
  gLet (v_goodOnes ||| (gLshl 1 x1)) fun y_1 =>
  gLet (v_frozenOnes &&& ((gLshl 1 x1) ^^^ (-1))) fun y_2 =>
  some (y_1, y_2)
set_option maxHeartbeats 4000000 in
set_option maxRecDepth 100000 in
theorem c_X4_setGood (l : Launch) (D : va_G) (cy : Nat → ClassId) (t sz K : Nat) (z : Nat) (z_uppers : Nat) (v_n : Int32) (v_p : Int32) (v_q : Int32) (v_goodOnes : Int64) (v_frozenOnes : Int64) (x1 : Int32) (o_v_goodOnes : Int64) (o_v_frozenOnes : Int64) (h : f_X4_setGood K x1 v_goodOnes v_frozenOnes = some (o_v_goodOnes, o_v_frozenOnes)) : gMv l D cy t sz yX4_setGood wsX4_setGood 0 0 [.ref z, .int x1] [(z, .inr (3, [.int v_n, .int v_p, .int v_q, .long v_goodOnes, .long v_frozenOnes, .ref z_uppers]))] [(z, .inr (3, [.int v_n, .int v_p, .int v_q, .long o_v_goodOnes, .long o_v_frozenOnes, .ref z_uppers]))] := by
  refine gBv (cc := cX4_setGood) (maxL := 2) (ret := none) (by decide) rfl (Nat.le_of_ble_eq_true rfl) ?_
  intro p e s m below meth c A ls hAt hl
  obtain ⟨hx, hb, hml, hr, hts, hown, hlocks, hin, hK, hG, hA, hP, hD⟩ := hAt
  have hS : va_S A s.heap s.heap [] := va_S.rf
  have hl : lv_has ls 2 [(0, .ref z), (1, .int x1)] := hl
  have f25 := hts (.fieldLink RX4 25 "PlainLines$Places" "goodOnes" "J") (by decide +kernel)
  have iX4 := (by decide +kernel : ∀ w ∈ u_ws RX4 TX4 6, w ∈ wsX4_setGood)
  have f29 := hts (.fieldLink RX4 29 "PlainLines$Places" "frozenOnes" "J") (by decide +kernel)
  have k46 := hts (.constantLong RX4 46 (-1)) (by decide +kernel)
  rw [f_X4_setGood] at h
  refine lv_aload_n hx hb dX4_setGood_0 rfl (lv_at hl 0 rfl) ?_
  refine lv_dup hx hb dX4_setGood_1 rfl ?_
  refine va_get (D := D) (ci := 3) (v := .long v_goodOnes) (C := RX4) (T := TX4) (N := 6) hx hb hts iX4 hown hK hP 0 rfl rfl 3 (by decide) f25 (fun _ h9 => h9) rfl dX4_setGood_2 ?_
  refine lv_lconst (v := 1) hx hb dX4_setGood_5 (by decide) ?_
  refine lv_iload_n hx hb dX4_setGood_6 rfl (lv_at hl 1 rfl) ?_
  refine lv_lshl (v := (gLshl 1 x1)) hx hb dX4_setGood_7 rfl ?_
  refine lv_lor hx hb dX4_setGood_8 ?_
  refine lv_topl (fun y_1 e_y_1 => ?_)
  have h := gx_let e_y_1 h
  refine va_put (D := D) (ci := 3) (v := .long y_1) (ty := .long) (C := RX4) (T := TX4) (N := 6) hx hb hts iX4 tyX4 tyX4_ok nmX4 hown hK hP hD hS 0 rfl rfl 3 (by decide) f25 (fun _ h9 => h9) rfl (by decide +kernel) rfl rfl (Nat.le_of_ble_eq_true rfl) dX4_setGood_9 (fun H locs hP hD hS => ?_)
  have hP : va_P D vwCl [(z, .inr (3, [.int v_n, .int v_p, .int v_q, .long y_1, .long v_frozenOnes, .ref z_uppers]))] H := hP
  have hD : va_D A [(z, .inr (3, [.int v_n, .int v_p, .int v_q, .long y_1, .long v_frozenOnes, .ref z_uppers]))] := hD
  refine lv_aload_n hx hb dX4_setGood_12 rfl (lv_at hl 0 rfl) ?_
  refine lv_dup hx hb dX4_setGood_13 rfl ?_
  refine va_get (D := D) (ci := 3) (v := .long v_frozenOnes) (C := RX4) (T := TX4) (N := 6) hx hb hts iX4 hown hK hP 0 rfl rfl 4 (by decide) f29 (fun _ h9 => h9) rfl dX4_setGood_14 ?_
  refine lv_lconst (v := 1) hx hb dX4_setGood_17 (by decide) ?_
  refine lv_iload_n hx hb dX4_setGood_18 rfl (lv_at hl 1 rfl) ?_
  refine lv_lshl (v := (gLshl 1 x1)) hx hb dX4_setGood_19 rfl ?_
  refine lv_ldc2 hx hb hown k46 dX4_setGood_20 ?_
  refine lv_lxor hx hb dX4_setGood_23 ?_
  refine lv_land hx hb dX4_setGood_24 ?_
  refine lv_topl (fun y_2 e_y_2 => ?_)
  have h := gx_let e_y_2 h
  refine va_put (D := D) (ci := 3) (v := .long y_2) (ty := .long) (C := RX4) (T := TX4) (N := 6) hx hb hts iX4 tyX4 tyX4_ok nmX4 hown hK hP hD hS 0 rfl rfl 4 (by decide) f29 (fun _ h9 => h9) rfl (by decide +kernel) rfl rfl (Nat.le_of_ble_eq_true rfl) dX4_setGood_25 (fun H locs hP hD hS => ?_)
  have hP : va_P D vwCl [(z, .inr (3, [.int v_n, .int v_p, .int v_q, .long y_1, .long y_2, .ref z_uppers]))] H := hP
  have hD : va_D A [(z, .inr (3, [.int v_n, .int v_p, .int v_q, .long y_1, .long y_2, .ref z_uppers]))] := hD
  cases h
  exact gRv hx hb hr hlocks hP hD hS dX4_setGood_28
def fL_J7_fill_d0a16_6 (K : Nat) (l4 : Int32) (l1 : Int64) : Nat → Int32 × (Nat → Int64) → Option (Int32 × (Nat → Int64))
  | 0, _ => none
  | k + 1, (l3, u0) =>
    if l4 ≤ l3 then
      some (l3, u0)
    else
      gIx l3 40 <|
      gLet (vp_updL u0 (Int32.toNatClampNeg l3) l1) fun w_5 =>
      gLet (l3 + 1) fun y3_6 =>
      fL_J7_fill_d0a16_6 K l4 l1 k (y3_6, w_5)
def f_J7_fill_d0a16 (K : Nat) (x2 : Int64) (v1 : Nat → Int64) : Option ((Nat → Int64)) :=
  Option.bind (fL_J7_fill_d0a16_6 K 40 x2 K (0, v1)) fun (o_7, o_8) =>
  some o_8
set_option maxHeartbeats 4000000 in
set_option maxRecDepth 100000 in
theorem c_J7_fill_d0a16 (l : Launch) (D : va_G) (cy : Nat → ClassId) (t sz K : Nat) (z1 : Nat) (v1 : Nat → Int64) (x2 : Int64) (o_v1 : Nat → Int64) (h : f_J7_fill_d0a16 K x2 v1 = some o_v1) : gMv l D cy t sz yJ7_fill_d0a16 wsJ7_fill_d0a16 0 0 [.ref z1, .long x2] [(z1, .inl (cy 1, 40, .inr (.inl v1)))] [(z1, .inl (cy 1, 40, .inr (.inl o_v1)))] := by
  refine gBv (cc := cJ7_fill_d0a16) (maxL := 5) (ret := none) (by decide) rfl (Nat.le_of_ble_eq_true rfl) ?_
  intro p e s m below meth c A ls hAt hl
  obtain ⟨hx, hb, hml, hr, hts, hown, hlocks, hin, hK, hG, hA, hP, hD⟩ := hAt
  have hS : va_S A s.heap s.heap [] := va_S.rf
  have hl : lv_has ls 5 [(0, .ref z1), (1, .long x2)] := hl
  rw [f_J7_fill_d0a16] at h
  refine lv_iconst (v := 0) hx hb dJ7_fill_d0a16_0 (by decide) ?_
  refine lv_istore_n (lv' := [(3, .int 0), (0, .ref z1), (1, .long x2)]) hx hb dJ7_fill_d0a16_1 rfl hl (by decide) rfl (fun ls hl => ?_)
  refine lv_aload_n hx hb dJ7_fill_d0a16_2 rfl (lv_at hl 1 rfl) ?_
  refine va_alen (v := 40) hx hb hK hP 0 1 (ha := rfl) (ht := rfl) rfl dJ7_fill_d0a16_3 ?_
  refine lv_istore (lv' := [(4, .int 40), (3, .int 0), (0, .ref z1), (1, .long x2)]) hx hb dJ7_fill_d0a16_4 hl (by decide) rfl (fun ls hl => ?_)
  obtain ⟨⟨o_1, o_2⟩, hL_3, h⟩ := gx_b h
  refine gJoin (Pj := fun H locs ls => va_P D vwCl [(z1, .inl (cy 1, 40, .inr (.inl o_2)))] H ∧ va_D A [(z1, .inl (cy 1, 40, .inr (.inl o_2)))] ∧ va_S A s.heap H locs ∧ lv_has ls 5 [(4, .int 40), (3, .int o_1), (0, .ref z1), (1, .long x2)]) (pcM := 22) (st := []) ?_ (fun hJ22 => ?_)
  · intro H locs ls hp_
    obtain ⟨hP, hD, hS, hl⟩ := hp_
    clear hL_3
    cases h
    exact gRv hx hb hr hlocks hP hD hS dJ7_fill_d0a16_22
  · refine gLoop (Hy := fun k_ v_ => fL_J7_fill_d0a16_6 K 40 x2 k_ v_ = some (o_1, o_2)) (Pl := fun (v_ : Int32 × (Nat → Int64)) H locs ls => match v_ with | (a_4, a_5) => va_P D vwCl [(z1, .inl (cy 1, 40, .inr (.inl a_5)))] H ∧ va_D A [(z1, .inl (cy 1, 40, .inr (.inl a_5)))] ∧ va_S A s.heap H locs ∧ lv_has ls 5 [(4, .int 40), (3, .int a_4), (0, .ref z1), (1, .long x2)]) (pcH := 6) (fun _ q_ => by cases q_) ?_ K (0, v1) hL_3 ⟨hP, hD, hS, hl⟩
    clear hL_3 h hP hD hS hl
    intro k_ ih ⟨a_4, a_5⟩ H locs ls h hp_
    obtain ⟨hP, hD, hS, hl⟩ := hp_
    have hP : va_P D vwCl [(z1, .inl (cy 1, 40, .inr (.inl a_5)))] H := hP
    have hD : va_D A [(z1, .inl (cy 1, 40, .inr (.inl a_5)))] := hD
    have hl : lv_has ls 5 [(4, .int 40), (3, .int a_4), (0, .ref z1), (1, .long x2)] := hl
    change fL_J7_fill_d0a16_6 K 40 x2 (k_ + 1) (a_4, a_5) = _ at h
    rw [fL_J7_fill_d0a16_6] at h
    refine lv_iload_n hx hb dJ7_fill_d0a16_6 rfl (lv_at hl 1 rfl) ?_
    refine lv_iload hx hb dJ7_fill_d0a16_7 (lv_at hl 0 rfl) ?_
    refine lv_icmp_ge (tgt := 22) hx hb dJ7_fill_d0a16_9 (by decide) (fun c_6 => ?_) (fun c_6 => ?_)
    · have h := gx_t c_6 h
      have hl := lv_sub (l' := [(4, .int 40), (3, .int a_4), (0, .ref z1), (1, .long x2)]) hl [0, 1, 2, 3] rfl
      cases h
      exact hJ22 _ _ _ ⟨hP, hD, hS, hl⟩
    · have h := gx_f c_6 h
      refine lv_aload_n hx hb dJ7_fill_d0a16_12 rfl (lv_at hl 2 rfl) ?_
      refine lv_iload_n hx hb dJ7_fill_d0a16_13 rfl (lv_at hl 1 rfl) ?_
      refine lv_lload_n hx hb dJ7_fill_d0a16_14 rfl (lv_at hl 3 rfl) ?_
      obtain ⟨hi_, h⟩ := gx_ix h
      refine va_last hx hb hK hP hD hS 0 1 rfl rfl hi_ dJ7_fill_d0a16_15 (fun H locs hP hD hS => ?_)
      obtain ⟨w_7, e_w_7⟩ : ∃ y : Nat → Int64, y = (vp_updL a_5 (Int32.toNatClampNeg a_4) x2) := ⟨_, rfl⟩
      have h := gx_let e_w_7 h
      have hP : va_P D vwCl [(z1, .inl (cy 1, 40, .inr (.inl (vp_updL a_5 (Int32.toNatClampNeg a_4) x2))))] H := hP
      have hD : va_D A [(z1, .inl (cy 1, 40, .inr (.inl (vp_updL a_5 (Int32.toNatClampNeg a_4) x2))))] := hD
      rw [← e_w_7] at hP hD
      obtain ⟨y3_8, e_y3_8⟩ : ∃ y : Int32, y = (a_4 + 1) := ⟨_, rfl⟩
      have h := gx_let e_y3_8 h
      refine lv_iinc (v := y3_8) (lv' := [(3, .int y3_8), (4, .int 40), (0, .ref z1), (1, .long x2)]) hx hb dJ7_fill_d0a16_16 hl (k := 1) rfl (by rw [e_y3_8]; rfl) (by decide) rfl (fun ls hl => ?_)
      refine lv_goto (tgt := 6) hx hb dJ7_fill_d0a16_19 (by decide) ?_
      exact ih (y3_8, w_7) _ _ _ h ⟨hP, hD, hS, lv_sub (l' := [(4, .int 40), (3, .int y3_8), (0, .ref z1), (1, .long x2)]) hl [1, 0, 2, 3] rfl⟩
def f_X6_begin (K : Nat) (x1 : Int32) (x2 : Int32) (v_cellsc : Nat → Int64) : Option (Int32 × Int32 × Int32 × (Nat → Int64)) :=
  Option.bind (f_J7_fill_d0a16 K 0 v_cellsc) fun o_1 =>
  some (1, x1, x2, o_1)
set_option maxHeartbeats 4000000 in
set_option maxRecDepth 100000 in
theorem c_X6_begin (l : Launch) (D : va_G) (cy : Nat → ClassId) (t sz K : Nat) (z : Nat) (z_cells : Nat) (v_isThere : Int32) (v_lane : Int32) (v_length : Int32) (v_cellsc : Nat → Int64) (x1 : Int32) (x2 : Int32) (o_v_isThere : Int32) (o_v_lane : Int32) (o_v_length : Int32) (o_v_cellsc : Nat → Int64) (h : f_X6_begin K x1 x2 v_cellsc = some (o_v_isThere, o_v_lane, o_v_length, o_v_cellsc)) : gMv l D cy t sz yX6_begin wsX6_begin 1 24 [.ref z, .int x1, .int x2] [(z, .inr (5, [.int v_isThere, .int v_lane, .int v_length, .ref z_cells])), (z_cells, .inl (cy 1, 40, .inr (.inl v_cellsc)))] [(z, .inr (5, [.int o_v_isThere, .int o_v_lane, .int o_v_length, .ref z_cells])), (z_cells, .inl (cy 1, 40, .inr (.inl o_v_cellsc)))] := by
  refine gBv (cc := cX6_begin) (maxL := 3) (ret := none) (by decide) rfl (Nat.le_of_ble_eq_true rfl) ?_
  intro p e s m below meth c A ls hAt hl
  obtain ⟨hx, hb, hml, hr, hts, hown, hlocks, hin, hK, hG, hA, hP, hD⟩ := hAt
  have hS : va_S A s.heap s.heap [] := va_S.rf
  have hl : lv_has ls 3 [(0, .ref z), (1, .int x1), (2, .int x2)] := hl
  have f15 := hts (.fieldLink RX6 15 "PlainLines$Sheet" "isThere" "Z") (by decide +kernel)
  have iX6 := (by decide +kernel : ∀ w ∈ u_ws RX6 TX6 4, w ∈ wsX6_begin)
  have f19 := hts (.fieldLink RX6 19 "PlainLines$Sheet" "lane" "I") (by decide +kernel)
  have f23 := hts (.fieldLink RX6 23 "PlainLines$Sheet" "length" "I") (by decide +kernel)
  have f9 := hts (.fieldLink RX6 9 "PlainLines$Sheet" "cells" "[J") (by decide +kernel)
  rw [f_X6_begin] at h
  refine lv_aload_n hx hb dX6_begin_0 rfl (lv_at hl 0 rfl) ?_
  refine lv_iconst (v := 1) hx hb dX6_begin_1 (by decide) ?_
  refine va_put (D := D) (ci := 5) (v := .int 1) (ty := .boolean) (C := RX6) (T := TX6) (N := 4) hx hb hts iX6 tyX6 tyX6_ok nmX6 hown hK hP hD hS 0 rfl rfl 0 (by decide) f15 (fun _ h9 => h9) rfl (by decide +kernel) rfl rfl (Nat.le_of_ble_eq_true rfl) dX6_begin_2 (fun H locs hP hD hS => ?_)
  have hP : va_P D vwCl [(z, .inr (5, [.int 1, .int v_lane, .int v_length, .ref z_cells])), (z_cells, .inl (cy 1, 40, .inr (.inl v_cellsc)))] H := hP
  have hD : va_D A [(z, .inr (5, [.int 1, .int v_lane, .int v_length, .ref z_cells])), (z_cells, .inl (cy 1, 40, .inr (.inl v_cellsc)))] := hD
  refine lv_aload_n hx hb dX6_begin_5 rfl (lv_at hl 0 rfl) ?_
  refine lv_iload_n hx hb dX6_begin_6 rfl (lv_at hl 1 rfl) ?_
  refine va_put (D := D) (ci := 5) (v := .int x1) (ty := .int) (C := RX6) (T := TX6) (N := 4) hx hb hts iX6 tyX6 tyX6_ok nmX6 hown hK hP hD hS 0 rfl rfl 1 (by decide) f19 (fun _ h9 => h9) rfl (by decide +kernel) rfl rfl (Nat.le_of_ble_eq_true rfl) dX6_begin_7 (fun H locs hP hD hS => ?_)
  have hP : va_P D vwCl [(z, .inr (5, [.int 1, .int x1, .int v_length, .ref z_cells])), (z_cells, .inl (cy 1, 40, .inr (.inl v_cellsc)))] H := hP
  have hD : va_D A [(z, .inr (5, [.int 1, .int x1, .int v_length, .ref z_cells])), (z_cells, .inl (cy 1, 40, .inr (.inl v_cellsc)))] := hD
  refine lv_aload_n hx hb dX6_begin_10 rfl (lv_at hl 0 rfl) ?_
  refine lv_iload_n hx hb dX6_begin_11 rfl (lv_at hl 2 rfl) ?_
  refine va_put (D := D) (ci := 5) (v := .int x2) (ty := .int) (C := RX6) (T := TX6) (N := 4) hx hb hts iX6 tyX6 tyX6_ok nmX6 hown hK hP hD hS 0 rfl rfl 2 (by decide) f23 (fun _ h9 => h9) rfl (by decide +kernel) rfl rfl (Nat.le_of_ble_eq_true rfl) dX6_begin_12 (fun H locs hP hD hS => ?_)
  have hP : va_P D vwCl [(z, .inr (5, [.int 1, .int x1, .int x2, .ref z_cells])), (z_cells, .inl (cy 1, 40, .inr (.inl v_cellsc)))] H := hP
  have hD : va_D A [(z, .inr (5, [.int 1, .int x1, .int x2, .ref z_cells])), (z_cells, .inl (cy 1, 40, .inr (.inl v_cellsc)))] := hD
  refine lv_aload_n hx hb dX6_begin_15 rfl (lv_at hl 0 rfl) ?_
  refine va_get (D := D) (ci := 5) (v := .ref z_cells) (C := RX6) (T := TX6) (N := 4) hx hb hts iX6 hown hK hP 0 rfl rfl 3 (by decide) f9 (fun _ h9 => h9) rfl dX6_begin_16 ?_
  refine lv_lconst (v := 0) hx hb dX6_begin_19 (by decide) ?_
  obtain ⟨o_1, hc_2, h⟩ := gx_b h
  refine gCallv (wr := [(z, .inr (5, [.int 1, .int x1, .int x2, .ref z_cells]))]) (va_runS (As := [.ref z_cells, .long 0]) (rest := []) ⟨hx, hb, hml, hown, hts⟩ (c_J7_fill_d0a16 l D cy t H.size K z_cells v_cellsc 0 o_1 hc_2) (va_cwS 2 hts gX6_begin_J7_fill_d0a16 rfl rfl rfl (by decide +kernel) ⟨Nat.le_of_ble_eq_true rfl, Nat.le_of_ble_eq_true rfl⟩) ⟨gBlind, fun U hU hW => ⟨rfl, gPre.call hK hG hA hP hD hS [1] (by decide) rfl U hU hW⟩⟩ rfl rfl hl.1 rfl (lv_room (Nat.le_of_ble_eq_true rfl)) dX6_begin_20 ⟨Nat.le_of_ble_eq_true rfl, Nat.le_of_ble_eq_true rfl⟩) hA hP hD hS [1] [0] rfl rfl (by decide) (by decide) (fun H locs hP hD hS => ?_)
  have hP : va_P D vwCl [(z, .inr (5, [.int 1, .int x1, .int x2, .ref z_cells])), (z_cells, .inl (cy 1, 40, .inr (.inl o_1)))] H := hP
  have hD : va_D A [(z, .inr (5, [.int 1, .int x1, .int x2, .ref z_cells])), (z_cells, .inl (cy 1, 40, .inr (.inl o_1)))] := hD
  cases h
  exact gRv hx hb hr hlocks hP hD hS dX6_begin_23
def fL_X4_lowerNumber_4 (K : Nat) (u0_0 : Int32) (u0_2 : Int32) : Nat → Int32 × Int64 → Option (Int64)
  | 0, _ => none
  | k + 1, (l3, l1) =>
    if u0_0 ≤ l3 then
      some l1
    else
      gLet (l1 * (Int32.toInt64 u0_2)) fun y1_2 =>
      if (lg_cmp y1_2 1000000000000000) ≤ 0 then
        gLet (l3 + 1) fun y3_4 =>
        fL_X4_lowerNumber_4 K u0_0 u0_2 k (y3_4, y1_2)
      else
        some (-9223372036854775808)
def f_X4_lowerNumber (K : Nat) (v_n : Int32) (v_q : Int32) : Option (Int64) :=
  fL_X4_lowerNumber_4 K v_n v_q K (0, 1)
set_option maxHeartbeats 4000000 in
set_option maxRecDepth 100000 in
theorem c_X4_lowerNumber (l : Launch) (D : va_G) (cy : Nat → ClassId) (t sz K : Nat) (z : Nat) (z_uppers : Nat) (v_n : Int32) (v_p : Int32) (v_q : Int32) (v_goodOnes : Int64) (v_frozenOnes : Int64) (r_ : Int64) (h : f_X4_lowerNumber K v_n v_q = some r_) : gMl l D cy t sz yX4_lowerNumber wsX4_lowerNumber 0 0 [.ref z] [(z, .inr (3, [.int v_n, .int v_p, .int v_q, .long v_goodOnes, .long v_frozenOnes, .ref z_uppers]))] r_ [(z, .inr (3, [.int v_n, .int v_p, .int v_q, .long v_goodOnes, .long v_frozenOnes, .ref z_uppers]))] := by
  refine gBl (cc := cX4_lowerNumber) (maxL := 4) (ret := (some .long)) (by decide) rfl (Nat.le_of_ble_eq_true rfl) ?_
  intro p e s m below meth c A ls hAt hl
  obtain ⟨hx, hb, hml, hr, hts, hown, hlocks, hin, hK, hG, hA, hP, hD⟩ := hAt
  have hS : va_S A s.heap s.heap [] := va_S.rf
  have hl : lv_has ls 4 [(0, .ref z)] := hl
  have f9 := hts (.fieldLink RX4 9 "PlainLines$Places" "n" "I") (by decide +kernel)
  have iX4 := (by decide +kernel : ∀ w ∈ u_ws RX4 TX4 6, w ∈ wsX4_lowerNumber)
  have f18 := hts (.fieldLink RX4 18 "PlainLines$Places" "q" "I") (by decide +kernel)
  have k60 := hts (.constantLong RX4 60 (1000000000000000)) (by decide +kernel)
  have k62 := hts (.constantLong RX4 62 (-9223372036854775808)) (by decide +kernel)
  rw [f_X4_lowerNumber] at h
  refine lv_lconst (v := 1) hx hb dX4_lowerNumber_0 (by decide) ?_
  refine lv_lstore_n (lv' := [(1, .long 1), (0, .ref z)]) hx hb dX4_lowerNumber_1 rfl hl (by decide) rfl (fun ls hl => ?_)
  refine lv_iconst (v := 0) hx hb dX4_lowerNumber_2 (by decide) ?_
  refine lv_istore_n (lv' := [(3, .int 0), (1, .long 1), (0, .ref z)]) hx hb dX4_lowerNumber_3 rfl hl (by decide) rfl (fun ls hl => ?_)
  have hL_1 := h
  refine gLoop (Hy := fun k_ v_ => fL_X4_lowerNumber_4 K v_n v_q k_ v_ = some r_) (Pl := fun (v_ : Int32 × Int64) H locs ls => match v_ with | (a_2, a_3) => va_P D vwCl [(z, .inr (3, [.int v_n, .int v_p, .int v_q, .long v_goodOnes, .long v_frozenOnes, .ref z_uppers]))] H ∧ va_D A [(z, .inr (3, [.int v_n, .int v_p, .int v_q, .long v_goodOnes, .long v_frozenOnes, .ref z_uppers]))] ∧ va_S A s.heap H locs ∧ lv_has ls 4 [(3, .int a_2), (1, .long a_3), (0, .ref z)]) (pcH := 4) (fun _ q_ => by cases q_) ?_ K (0, 1) hL_1 ⟨hP, hD, hS, hl⟩
  clear hL_1 h hP hD hS hl
  intro k_ ih ⟨a_2, a_3⟩ H locs ls h hp_
  obtain ⟨hP, hD, hS, hl⟩ := hp_
  have hP : va_P D vwCl [(z, .inr (3, [.int v_n, .int v_p, .int v_q, .long v_goodOnes, .long v_frozenOnes, .ref z_uppers]))] H := hP
  have hD : va_D A [(z, .inr (3, [.int v_n, .int v_p, .int v_q, .long v_goodOnes, .long v_frozenOnes, .ref z_uppers]))] := hD
  have hl : lv_has ls 4 [(3, .int a_2), (1, .long a_3), (0, .ref z)] := hl
  change fL_X4_lowerNumber_4 K v_n v_q (k_ + 1) (a_2, a_3) = _ at h
  rw [fL_X4_lowerNumber_4] at h
  refine lv_iload_n hx hb dX4_lowerNumber_4 rfl (lv_at hl 0 rfl) ?_
  refine lv_aload_n hx hb dX4_lowerNumber_5 rfl (lv_at hl 2 rfl) ?_
  refine va_get (D := D) (ci := 3) (v := .int v_n) (C := RX4) (T := TX4) (N := 6) hx hb hts iX4 hown hK hP 0 rfl rfl 0 (by decide) f9 (fun _ h9 => h9) rfl dX4_lowerNumber_6 ?_
  refine lv_icmp_ge (tgt := 38) hx hb dX4_lowerNumber_9 (by decide) (fun c_4 => ?_) (fun c_4 => ?_)
  · have h := gx_t c_4 h
    refine lv_lload_n hx hb dX4_lowerNumber_38 rfl (lv_at hl 1 rfl) ?_
    cases h
    exact gRl hx hb hr hlocks hP hD hS dX4_lowerNumber_39
  · have h := gx_f c_4 h
    refine lv_lload_n hx hb dX4_lowerNumber_12 rfl (lv_at hl 1 rfl) ?_
    refine lv_aload_n hx hb dX4_lowerNumber_13 rfl (lv_at hl 2 rfl) ?_
    refine va_get (D := D) (ci := 3) (v := .int v_q) (C := RX4) (T := TX4) (N := 6) hx hb hts iX4 hown hK hP 0 rfl rfl 2 (by decide) f18 (fun _ h9 => h9) rfl dX4_lowerNumber_14 ?_
    refine lv_i2l (v := (Int32.toInt64 v_q)) hx hb dX4_lowerNumber_17 rfl ?_
    refine lv_lmul hx hb dX4_lowerNumber_18 ?_
    refine lv_topl (fun y1_5 e_y1_5 => ?_)
    have h := gx_let e_y1_5 h
    refine lv_lstore_n (lv' := [(1, .long y1_5), (3, .int a_2), (0, .ref z)]) hx hb dX4_lowerNumber_19 rfl hl (by decide) rfl (fun ls hl => ?_)
    refine lv_lload_n hx hb dX4_lowerNumber_20 rfl (lv_at hl 0 rfl) ?_
    refine lv_ldc2 hx hb hown k60 dX4_lowerNumber_21 ?_
    refine W.lcmp hx hb dX4_lowerNumber_24 ?_
    refine lv_if_le (tgt := 32) hx hb dX4_lowerNumber_25 (by decide) (fun c_6 => ?_) (fun c_6 => ?_)
    · have h := gx_t c_6 h
      obtain ⟨y3_7, e_y3_7⟩ : ∃ y : Int32, y = (a_2 + 1) := ⟨_, rfl⟩
      have h := gx_let e_y3_7 h
      refine lv_iinc (v := y3_7) (lv' := [(3, .int y3_7), (1, .long y1_5), (0, .ref z)]) hx hb dX4_lowerNumber_32 hl (k := 1) rfl (by rw [e_y3_7]; rfl) (by decide) rfl (fun ls hl => ?_)
      refine lv_goto (tgt := 4) hx hb dX4_lowerNumber_35 (by decide) ?_
      exact ih (y3_7, y1_5) _ _ _ h ⟨hP, hD, hS, lv_sub (l' := [(3, .int y3_7), (1, .long y1_5), (0, .ref z)]) hl [0, 1, 2] rfl⟩
    · have h := gx_f c_6 h
      refine lv_ldc2 hx hb hown k62 dX4_lowerNumber_28 ?_
      cases h
      exact gRl hx hb hr hlocks hP hD hS dX4_lowerNumber_31
def fL_X9_folded_5 (K : Nat) (l2 : Int32) : Nat → Int32 × Int64 → Option (Int32 × Int64)
  | 0, _ => none
  | k + 1, (l5, l3) =>
    if 5 ≤ l5 then
      some (l5, l3)
    else
      if l2 ≤ (1 <<< (l5 &&& 31)) then
        some (l5, l3)
      else
        gIx l5 5 <|
        gLet (l3 ^^^ ((gLushr l3 (1 <<< (l5 &&& 31))) &&& (gFP (Int32.toNatClampNeg l5)))) fun y3_3 =>
        gLet (l5 + 1) fun y5_4 =>
        fL_X9_folded_5 K l2 k (y5_4, y3_3)
def f_X9_folded (K : Nat) (x1 : Int64) (x2 : Int32) : Option (Int64) :=
  Option.bind (fL_X9_folded_5 K x2 K (0, x1)) fun (o_5, o_6) =>
  some o_6
set_option maxHeartbeats 4000000 in
set_option maxRecDepth 100000 in
theorem c_X9_folded (l : Launch) (D : va_G) (cy : Nat → ClassId) (t sz K : Nat) (x1 : Int64) (x2 : Int32) (r_ : Int64) (h : f_X9_folded K x1 x2 = some r_) : gMl l D cy t sz yX9_folded wsX9_folded 0 0 [.long x1, .int x2] [] r_ [] := by
  refine gBl (cc := cX9_folded) (maxL := 6) (ret := (some .long)) (by decide) rfl (Nat.le_of_ble_eq_true rfl) ?_
  intro p e s m below meth c A ls hAt hl
  obtain ⟨hx, hb, hml, hr, hts, hown, hlocks, hin, hK, hG, hA, hP, hD⟩ := hAt
  have hS : va_S A s.heap s.heap [] := va_S.rf
  have hl : lv_has ls 6 [(0, .long x1), (2, .int x2)] := hl
  have f289 := hts (.fieldLink RX9 289 "PlainLines" "FIRST_PARTNERS" "[J") (by decide +kernel)
  rw [f_X9_folded] at h
  refine lv_lload_n hx hb dX9_folded_0 rfl (lv_at hl 0 rfl) ?_
  refine lv_lstore_n (lv' := [(3, .long x1), (0, .long x1), (2, .int x2)]) hx hb dX9_folded_1 rfl hl (by decide) rfl (fun ls hl => ?_)
  refine lv_iconst (v := 0) hx hb dX9_folded_2 (by decide) ?_
  refine lv_istore (lv' := [(5, .int 0), (3, .long x1), (0, .long x1), (2, .int x2)]) hx hb dX9_folded_3 hl (by decide) rfl (fun ls hl => ?_)
  obtain ⟨⟨o_1, o_2⟩, hL_3, h⟩ := gx_b h
  refine gJoin (Pj := fun H locs ls => va_P D vwCl [] H ∧ va_D A [] ∧ va_S A s.heap H locs ∧ lv_has ls 6 [(5, .int o_1), (3, .long o_2), (0, .long x1), (2, .int x2)]) (pcM := 44) (st := []) ?_ (fun hJ44 => ?_)
  · intro H locs ls hp_
    obtain ⟨hP, hD, hS, hl⟩ := hp_
    clear hL_3
    refine lv_lload_n hx hb dX9_folded_44 rfl (lv_at hl 1 rfl) ?_
    cases h
    exact gRl hx hb hr hlocks hP hD hS dX9_folded_45
  · refine gLoop (Hy := fun k_ v_ => fL_X9_folded_5 K x2 k_ v_ = some (o_1, o_2)) (Pl := fun (v_ : Int32 × Int64) H locs ls => match v_ with | (a_4, a_5) => va_P D vwCl [] H ∧ va_D A [] ∧ va_S A s.heap H locs ∧ lv_has ls 6 [(5, .int a_4), (3, .long a_5), (0, .long x1), (2, .int x2)]) (pcH := 5) (fun _ q_ => by cases q_) ?_ K (0, x1) hL_3 ⟨hP, hD, hS, hl⟩
    clear hL_3 h hP hD hS hl
    intro k_ ih ⟨a_4, a_5⟩ H locs ls h hp_
    obtain ⟨hP, hD, hS, hl⟩ := hp_
    have hP : va_P D vwCl [] H := hP
    have hD : va_D A [] := hD
    have hl : lv_has ls 6 [(5, .int a_4), (3, .long a_5), (0, .long x1), (2, .int x2)] := hl
    change fL_X9_folded_5 K x2 (k_ + 1) (a_4, a_5) = _ at h
    rw [fL_X9_folded_5] at h
    refine lv_iload hx hb dX9_folded_5 (lv_at hl 0 rfl) ?_
    refine va_gets hx hb hG.1 hS hown f289 (fun _ h9 => h9) dX9_folded_7 ?_
    refine va_tlen (v := 5) hx hb hG.2.1 hS rfl dX9_folded_10 ?_
    refine lv_icmp_ge (tgt := 44) hx hb dX9_folded_11 (by decide) (fun c_6 => ?_) (fun c_6 => ?_)
    · have h := gx_t c_6 h
      have hl := lv_sub (l' := [(5, .int a_4), (3, .long a_5), (0, .long x1), (2, .int x2)]) hl [0, 1, 2, 3] rfl
      cases h
      exact hJ44 _ _ _ ⟨hP, hD, hS, hl⟩
    · have h := gx_f c_6 h
      refine lv_iconst (v := 1) hx hb dX9_folded_14 (by decide) ?_
      refine lv_iload hx hb dX9_folded_15 (lv_at hl 0 rfl) ?_
      refine lv_ishl hx hb dX9_folded_17 ?_
      refine lv_iload_n hx hb dX9_folded_18 rfl (lv_at hl 3 rfl) ?_
      refine lv_icmp_ge (tgt := 44) hx hb dX9_folded_19 (by decide) (fun c_7 => ?_) (fun c_7 => ?_)
      · have h := gx_t c_7 h
        have hl := lv_sub (l' := [(5, .int a_4), (3, .long a_5), (0, .long x1), (2, .int x2)]) hl [0, 1, 2, 3] rfl
        cases h
        exact hJ44 _ _ _ ⟨hP, hD, hS, hl⟩
      · have h := gx_f c_7 h
        refine lv_lload_n hx hb dX9_folded_22 rfl (lv_at hl 1 rfl) ?_
        refine lv_lload_n hx hb dX9_folded_23 rfl (lv_at hl 1 rfl) ?_
        refine lv_iconst (v := 1) hx hb dX9_folded_24 (by decide) ?_
        refine lv_iload hx hb dX9_folded_25 (lv_at hl 0 rfl) ?_
        refine lv_ishl hx hb dX9_folded_27 ?_
        refine lv_lushr (v := (gLushr a_5 (1 <<< (a_4 &&& 31)))) hx hb dX9_folded_28 rfl ?_
        refine va_gets hx hb hG.1 hS hown f289 (fun _ h9 => h9) dX9_folded_29 ?_
        refine lv_iload hx hb dX9_folded_32 (lv_at hl 0 rfl) ?_
        obtain ⟨hi_, h⟩ := gx_ix h
        refine va_tl hx hb hG.2.1 hS hi_ rfl dX9_folded_34 ?_
        refine lv_land hx hb dX9_folded_35 ?_
        refine lv_lxor hx hb dX9_folded_36 ?_
        refine lv_topl (fun y3_8 e_y3_8 => ?_)
        have h := gx_let e_y3_8 h
        refine lv_lstore_n (lv' := [(3, .long y3_8), (5, .int a_4), (0, .long x1), (2, .int x2)]) hx hb dX9_folded_37 rfl hl (by decide) rfl (fun ls hl => ?_)
        obtain ⟨y5_9, e_y5_9⟩ : ∃ y : Int32, y = (a_4 + 1) := ⟨_, rfl⟩
        have h := gx_let e_y5_9 h
        refine lv_iinc (v := y5_9) (lv' := [(5, .int y5_9), (3, .long y3_8), (0, .long x1), (2, .int x2)]) hx hb dX9_folded_38 hl (k := 1) rfl (by rw [e_y5_9]; rfl) (by decide) rfl (fun ls hl => ?_)
        refine lv_goto (tgt := 5) hx hb dX9_folded_41 (by decide) ?_
        exact ih (y5_9, y3_8) _ _ _ h ⟨hP, hD, hS, lv_sub (l' := [(5, .int y5_9), (3, .long y3_8), (0, .long x1), (2, .int x2)]) hl [0, 1, 2, 3] rfl⟩
def fL_X7_prepareSteps_9 (K : Nat) (l1 : Int64) (l3 : Int32) : Nat → Int32 × Int32 × Int64 × (Nat → Int64) → Option (Int32 × Int32 × Int64 × (Nat → Int64))
  | 0, _ => none
  | k + 1, (l7, l6, l4, u1) =>
    if l3 ≤ l7 then
      some (l7, l6, l4, u1)
    else
      if (lg_cmp ((gLushr l1 l7) &&& 1) 0) = 0 then
        gLet (l7 + 1) fun y7_11 =>
        fL_X7_prepareSteps_9 K l1 l3 k (y7_11, l6, l4, u1)
      else
        gLet (l4 ||| (gLshl 1 l7)) fun y4_12 =>
        Option.bind (f_X9_folded K y4_12 l3) fun r_13 =>
        gIx l6 32 <|
        gLet (vp_updL u1 (Int32.toNatClampNeg l6) r_13) fun w_14 =>
        gLet (l6 + 1) fun y6_15 =>
        gLet (l7 + 1) fun y7_16 =>
        fL_X7_prepareSteps_9 K l1 l3 k (y7_16, y6_15, y4_12, w_14)
def f_X7_prepareSteps (K : Nat) (x1 : Int64) (x2 : Int32) (v_stepWordsc : Nat → Int64) : Option ((Nat → Int64)) :=
  Option.bind (fL_X7_prepareSteps_9 K x1 x2 K (0, 0, 0, v_stepWordsc)) fun (o_17, o_18, o_19, o_20) =>
  some o_20
set_option maxHeartbeats 4000000 in
set_option maxRecDepth 100000 in
theorem c_X7_prepareSteps (l : Launch) (D : va_G) (cy : Nat → ClassId) (t sz K : Nat) (z : Nat) (z_stepWords : Nat) (z_words : Nat) (z_rows : Nat) (z_failures : Nat) (z_plain : Nat) (z_factors : Nat) (z_lostByLost : Nat) (v_hasWords : Int32) (v_hasRows : Int32) (v_hasFailures : Int32) (v_stepWordsc : Nat → Int64) (x1 : Int64) (x2 : Int32) (o_v_stepWordsc : Nat → Int64) (h : f_X7_prepareSteps K x1 x2 v_stepWordsc = some o_v_stepWordsc) : gMv l D cy t sz yX7_prepareSteps wsX7_prepareSteps 1 25 [.ref z, .long x1, .int x2] [(z, .inr (6, [.ref z_words, .ref z_rows, .ref z_failures, .int v_hasWords, .int v_hasRows, .int v_hasFailures, .ref z_stepWords, .ref z_plain, .ref z_factors, .ref z_lostByLost])), (z_stepWords, .inl (cy 1, 32, .inr (.inl v_stepWordsc)))] [(z, .inr (6, [.ref z_words, .ref z_rows, .ref z_failures, .int v_hasWords, .int v_hasRows, .int v_hasFailures, .ref z_stepWords, .ref z_plain, .ref z_factors, .ref z_lostByLost])), (z_stepWords, .inl (cy 1, 32, .inr (.inl o_v_stepWordsc)))] := by
  refine gBv (cc := cX7_prepareSteps) (maxL := 8) (ret := none) (by decide) rfl (Nat.le_of_ble_eq_true rfl) ?_
  intro p e s m below meth c A ls hAt hl
  obtain ⟨hx, hb, hml, hr, hts, hown, hlocks, hin, hK, hG, hA, hP, hD⟩ := hAt
  have hS : va_S A s.heap s.heap [] := va_S.rf
  have hl : lv_has ls 8 [(0, .ref z), (1, .long x1), (3, .int x2)] := hl
  have f21 := hts (.fieldLink RX7 21 "PlainLines$Tally" "stepWords" "[J") (by decide +kernel)
  have iX7 := (by decide +kernel : ∀ w ∈ u_ws RX7 TX7 10, w ∈ wsX7_prepareSteps)
  rw [f_X7_prepareSteps] at h
  refine lv_lconst (v := 0) hx hb dX7_prepareSteps_0 (by decide) ?_
  refine lv_lstore (lv' := [(4, .long 0), (0, .ref z), (1, .long x1), (3, .int x2)]) hx hb dX7_prepareSteps_1 hl (by decide) rfl (fun ls hl => ?_)
  refine lv_iconst (v := 0) hx hb dX7_prepareSteps_3 (by decide) ?_
  refine lv_istore (lv' := [(6, .int 0), (4, .long 0), (0, .ref z), (1, .long x1), (3, .int x2)]) hx hb dX7_prepareSteps_4 hl (by decide) rfl (fun ls hl => ?_)
  refine lv_iconst (v := 0) hx hb dX7_prepareSteps_6 (by decide) ?_
  refine lv_istore (lv' := [(7, .int 0), (6, .int 0), (4, .long 0), (0, .ref z), (1, .long x1), (3, .int x2)]) hx hb dX7_prepareSteps_7 hl (by decide) rfl (fun ls hl => ?_)
  obtain ⟨⟨o_1, o_2, o_3, o_4⟩, hL_5, h⟩ := gx_b h
  refine gJoin (Pj := fun H locs ls => va_P D vwCl [(z, .inr (6, [.ref z_words, .ref z_rows, .ref z_failures, .int v_hasWords, .int v_hasRows, .int v_hasFailures, .ref z_stepWords, .ref z_plain, .ref z_factors, .ref z_lostByLost])), (z_stepWords, .inl (cy 1, 32, .inr (.inl o_4)))] H ∧ va_D A [(z, .inr (6, [.ref z_words, .ref z_rows, .ref z_failures, .int v_hasWords, .int v_hasRows, .int v_hasFailures, .ref z_stepWords, .ref z_plain, .ref z_factors, .ref z_lostByLost])), (z_stepWords, .inl (cy 1, 32, .inr (.inl o_4)))] ∧ va_S A s.heap H locs ∧ lv_has ls 8 [(7, .int o_1), (6, .int o_2), (4, .long o_3), (0, .ref z), (1, .long x1), (3, .int x2)]) (pcM := 57) (st := []) ?_ (fun hJ57 => ?_)
  · intro H locs ls hp_
    obtain ⟨hP, hD, hS, hl⟩ := hp_
    clear hL_5
    cases h
    exact gRv hx hb hr hlocks hP hD hS dX7_prepareSteps_57
  · refine gLoop (Hy := fun k_ v_ => fL_X7_prepareSteps_9 K x1 x2 k_ v_ = some (o_1, o_2, o_3, o_4)) (Pl := fun (v_ : Int32 × Int32 × Int64 × (Nat → Int64)) H locs ls => match v_ with | (a_6, a_7, a_8, a_9) => va_P D vwCl [(z, .inr (6, [.ref z_words, .ref z_rows, .ref z_failures, .int v_hasWords, .int v_hasRows, .int v_hasFailures, .ref z_stepWords, .ref z_plain, .ref z_factors, .ref z_lostByLost])), (z_stepWords, .inl (cy 1, 32, .inr (.inl a_9)))] H ∧ va_D A [(z, .inr (6, [.ref z_words, .ref z_rows, .ref z_failures, .int v_hasWords, .int v_hasRows, .int v_hasFailures, .ref z_stepWords, .ref z_plain, .ref z_factors, .ref z_lostByLost])), (z_stepWords, .inl (cy 1, 32, .inr (.inl a_9)))] ∧ va_S A s.heap H locs ∧ lv_has ls 8 [(7, .int a_6), (6, .int a_7), (4, .long a_8), (0, .ref z), (1, .long x1), (3, .int x2)]) (pcH := 9) (fun _ q_ => by cases q_) ?_ K (0, 0, 0, v_stepWordsc) hL_5 ⟨hP, hD, hS, hl⟩
    clear hL_5 h hP hD hS hl
    intro k_ ih ⟨a_6, a_7, a_8, a_9⟩ H locs ls h hp_
    obtain ⟨hP, hD, hS, hl⟩ := hp_
    have hP : va_P D vwCl [(z, .inr (6, [.ref z_words, .ref z_rows, .ref z_failures, .int v_hasWords, .int v_hasRows, .int v_hasFailures, .ref z_stepWords, .ref z_plain, .ref z_factors, .ref z_lostByLost])), (z_stepWords, .inl (cy 1, 32, .inr (.inl a_9)))] H := hP
    have hD : va_D A [(z, .inr (6, [.ref z_words, .ref z_rows, .ref z_failures, .int v_hasWords, .int v_hasRows, .int v_hasFailures, .ref z_stepWords, .ref z_plain, .ref z_factors, .ref z_lostByLost])), (z_stepWords, .inl (cy 1, 32, .inr (.inl a_9)))] := hD
    have hl : lv_has ls 8 [(7, .int a_6), (6, .int a_7), (4, .long a_8), (0, .ref z), (1, .long x1), (3, .int x2)] := hl
    change fL_X7_prepareSteps_9 K x1 x2 (k_ + 1) (a_6, a_7, a_8, a_9) = _ at h
    rw [fL_X7_prepareSteps_9] at h
    refine lv_iload hx hb dX7_prepareSteps_9 (lv_at hl 0 rfl) ?_
    refine lv_iload_n hx hb dX7_prepareSteps_11 rfl (lv_at hl 5 rfl) ?_
    refine lv_icmp_ge (tgt := 57) hx hb dX7_prepareSteps_12 (by decide) (fun c_10 => ?_) (fun c_10 => ?_)
    · have h := gx_t c_10 h
      have hl := lv_sub (l' := [(7, .int a_6), (6, .int a_7), (4, .long a_8), (0, .ref z), (1, .long x1), (3, .int x2)]) hl [0, 1, 2, 3, 4, 5] rfl
      cases h
      exact hJ57 _ _ _ ⟨hP, hD, hS, hl⟩
    · have h := gx_f c_10 h
      refine lv_lload_n hx hb dX7_prepareSteps_15 rfl (lv_at hl 4 rfl) ?_
      refine lv_iload hx hb dX7_prepareSteps_16 (lv_at hl 0 rfl) ?_
      refine lv_lushr (v := (gLushr x1 a_6)) hx hb dX7_prepareSteps_18 rfl ?_
      refine lv_lconst (v := 1) hx hb dX7_prepareSteps_19 (by decide) ?_
      refine lv_land hx hb dX7_prepareSteps_20 ?_
      refine lv_lconst (v := 0) hx hb dX7_prepareSteps_21 (by decide) ?_
      refine W.lcmp hx hb dX7_prepareSteps_22 ?_
      refine lv_if_eq (tgt := 51) hx hb dX7_prepareSteps_23 (by decide) (fun c_11 => ?_) (fun c_11 => ?_)
      · have h := gx_t c_11 h
        obtain ⟨y7_12, e_y7_12⟩ : ∃ y : Int32, y = (a_6 + 1) := ⟨_, rfl⟩
        have h := gx_let e_y7_12 h
        refine lv_iinc (v := y7_12) (lv' := [(7, .int y7_12), (6, .int a_7), (4, .long a_8), (0, .ref z), (1, .long x1), (3, .int x2)]) hx hb dX7_prepareSteps_51 hl (k := 0) rfl (by rw [e_y7_12]; rfl) (by decide) rfl (fun ls hl => ?_)
        refine lv_goto (tgt := 9) hx hb dX7_prepareSteps_54 (by decide) ?_
        exact ih (y7_12, a_7, a_8, a_9) _ _ _ h ⟨hP, hD, hS, lv_sub (l' := [(7, .int y7_12), (6, .int a_7), (4, .long a_8), (0, .ref z), (1, .long x1), (3, .int x2)]) hl [0, 1, 2, 3, 4, 5] rfl⟩
      · have h := gx_f c_11 h
        refine lv_lload hx hb dX7_prepareSteps_26 (lv_at hl 2 rfl) ?_
        refine lv_lconst (v := 1) hx hb dX7_prepareSteps_28 (by decide) ?_
        refine lv_iload hx hb dX7_prepareSteps_29 (lv_at hl 0 rfl) ?_
        refine lv_lshl (v := (gLshl 1 a_6)) hx hb dX7_prepareSteps_31 rfl ?_
        refine lv_lor hx hb dX7_prepareSteps_32 ?_
        refine lv_topl (fun y4_13 e_y4_13 => ?_)
        have h := gx_let e_y4_13 h
        refine lv_lstore (lv' := [(4, .long y4_13), (7, .int a_6), (6, .int a_7), (0, .ref z), (1, .long x1), (3, .int x2)]) hx hb dX7_prepareSteps_33 hl (by decide) rfl (fun ls hl => ?_)
        refine lv_aload_n hx hb dX7_prepareSteps_35 rfl (lv_at hl 3 rfl) ?_
        refine va_get (D := D) (ci := 6) (v := .ref z_stepWords) (C := RX7) (T := TX7) (N := 10) hx hb hts iX7 hown hK hP 0 rfl rfl 6 (by decide) f21 (fun _ h9 => h9) rfl dX7_prepareSteps_36 ?_
        refine lv_iload hx hb dX7_prepareSteps_39 (lv_at hl 2 rfl) ?_
        refine lv_lload hx hb dX7_prepareSteps_41 (lv_at hl 0 rfl) ?_
        refine lv_iload_n hx hb dX7_prepareSteps_43 rfl (lv_at hl 5 rfl) ?_
        obtain ⟨r_14, hc_15, h⟩ := gx_b h
        refine gCalll (wr := [(z, .inr (6, [.ref z_words, .ref z_rows, .ref z_failures, .int v_hasWords, .int v_hasRows, .int v_hasFailures, .ref z_stepWords, .ref z_plain, .ref z_factors, .ref z_lostByLost])), (z_stepWords, .inl (cy 1, 32, .inr (.inl a_9)))]) (va_runSN (As := [.long y4_13, .int x2]) (rest := [.int a_7, .ref z_stepWords]) ⟨hx, hb, hml, hown, hts⟩ (c_X9_folded l D cy t H.size K y4_13 x2 r_14 hc_15) ⟨va_cnB 2 hts gX7_prepareSteps_X9_folded_n89 rfl rfl rfl (hG.2.2.1 13 _ rfl) (hts (.initialized RX9) (by decide +kernel)) (by decide +kernel) ⟨Nat.le_of_ble_eq_true rfl, Nat.le_of_ble_eq_true rfl⟩, hts (.static yX9_folded) (by decide +kernel), trivial⟩ ⟨gBlind, fun U hU hW => ⟨rfl, gPre.call hK hG hA hP hD hS [] (by decide) rfl U hU hW⟩⟩ rfl rfl hl.1 rfl (lv_room (Nat.le_of_ble_eq_true rfl)) dX7_prepareSteps_44 ⟨Nat.le_of_ble_eq_true rfl, Nat.le_of_ble_eq_true rfl⟩) hA hP hD hS [] [0, 1] rfl rfl (by decide) (by decide) (fun H locs hP hD hS => ?_)
        have hP : va_P D vwCl [(z, .inr (6, [.ref z_words, .ref z_rows, .ref z_failures, .int v_hasWords, .int v_hasRows, .int v_hasFailures, .ref z_stepWords, .ref z_plain, .ref z_factors, .ref z_lostByLost])), (z_stepWords, .inl (cy 1, 32, .inr (.inl a_9)))] H := hP
        have hD : va_D A [(z, .inr (6, [.ref z_words, .ref z_rows, .ref z_failures, .int v_hasWords, .int v_hasRows, .int v_hasFailures, .ref z_stepWords, .ref z_plain, .ref z_factors, .ref z_lostByLost])), (z_stepWords, .inl (cy 1, 32, .inr (.inl a_9)))] := hD
        obtain ⟨hi_, h⟩ := gx_ix h
        refine va_last hx hb hK hP hD hS 1 1 rfl rfl hi_ dX7_prepareSteps_47 (fun H locs hP hD hS => ?_)
        obtain ⟨w_16, e_w_16⟩ : ∃ y : Nat → Int64, y = (vp_updL a_9 (Int32.toNatClampNeg a_7) r_14) := ⟨_, rfl⟩
        have h := gx_let e_w_16 h
        have hP : va_P D vwCl [(z, .inr (6, [.ref z_words, .ref z_rows, .ref z_failures, .int v_hasWords, .int v_hasRows, .int v_hasFailures, .ref z_stepWords, .ref z_plain, .ref z_factors, .ref z_lostByLost])), (z_stepWords, .inl (cy 1, 32, .inr (.inl (vp_updL a_9 (Int32.toNatClampNeg a_7) r_14))))] H := hP
        have hD : va_D A [(z, .inr (6, [.ref z_words, .ref z_rows, .ref z_failures, .int v_hasWords, .int v_hasRows, .int v_hasFailures, .ref z_stepWords, .ref z_plain, .ref z_factors, .ref z_lostByLost])), (z_stepWords, .inl (cy 1, 32, .inr (.inl (vp_updL a_9 (Int32.toNatClampNeg a_7) r_14))))] := hD
        rw [← e_w_16] at hP hD
        obtain ⟨y6_17, e_y6_17⟩ : ∃ y : Int32, y = (a_7 + 1) := ⟨_, rfl⟩
        have h := gx_let e_y6_17 h
        refine lv_iinc (v := y6_17) (lv' := [(6, .int y6_17), (4, .long y4_13), (7, .int a_6), (0, .ref z), (1, .long x1), (3, .int x2)]) hx hb dX7_prepareSteps_48 hl (k := 2) rfl (by rw [e_y6_17]; rfl) (by decide) rfl (fun ls hl => ?_)
        obtain ⟨y7_18, e_y7_18⟩ : ∃ y : Int32, y = (a_6 + 1) := ⟨_, rfl⟩
        have h := gx_let e_y7_18 h
        refine lv_iinc (v := y7_18) (lv' := [(7, .int y7_18), (6, .int y6_17), (4, .long y4_13), (0, .ref z), (1, .long x1), (3, .int x2)]) hx hb dX7_prepareSteps_51 hl (k := 2) rfl (by rw [e_y7_18]; rfl) (by decide) rfl (fun ls hl => ?_)
        refine lv_goto (tgt := 9) hx hb dX7_prepareSteps_54 (by decide) ?_
        exact ih (y7_18, y6_17, y4_13, w_16) _ _ _ h ⟨hP, hD, hS, lv_sub (l' := [(7, .int y7_18), (6, .int y6_17), (4, .long y4_13), (0, .ref z), (1, .long x1), (3, .int x2)]) hl [0, 1, 2, 3, 4, 5] rfl⟩
def fL_X4_upperBelowLimit_21 (K : Nat) (l1 : Int32) : Nat → Int32 × Int64 × Int64 → Option (Int32 × Int64 × Int64)
  | 0, _ => none
  | k + 1, (l6, l4, l2) =>
    if l6 < 1 then
      some (l6, l4, l2)
    else
      gLet (l2 * l2) fun y7_5 =>
      Option.bind (
        if (l1 &&& l6) = 0 then
          some (((2 * l2) * l4) - y7_5)
        else
          some y7_5) fun ms_6 =>
      gLet (l4 * l4) fun y4_8 =>
      gLet (l6 / 2) fun y6_9 =>
      fL_X4_upperBelowLimit_21 K l1 k (y6_9, y4_8, ms_6)
def f_X4_upperBelowLimit (K : Nat) (x1 : Int32) (v_n : Int32) (v_p : Int32) (v_q : Int32) : Option (Int64) :=
  gLet (Int32.toInt64 v_p) fun y2_1 =>
  gLet (Int32.toInt64 v_q) fun y4_2 =>
  gLet (v_n / 2) fun y6_3 =>
  Option.bind (fL_X4_upperBelowLimit_21 K x1 K (y6_3, y4_2, y2_1)) fun (o_10, o_11, o_12) =>
  some o_12
set_option maxHeartbeats 4000000 in
set_option maxRecDepth 100000 in
theorem c_X4_upperBelowLimit (l : Launch) (D : va_G) (cy : Nat → ClassId) (t sz K : Nat) (z : Nat) (z_uppers : Nat) (v_n : Int32) (v_p : Int32) (v_q : Int32) (v_goodOnes : Int64) (v_frozenOnes : Int64) (x1 : Int32) (r_ : Int64) (h : f_X4_upperBelowLimit K x1 v_n v_p v_q = some r_) : gMl l D cy t sz yX4_upperBelowLimit wsX4_upperBelowLimit 0 0 [.ref z, .int x1] [(z, .inr (3, [.int v_n, .int v_p, .int v_q, .long v_goodOnes, .long v_frozenOnes, .ref z_uppers]))] r_ [(z, .inr (3, [.int v_n, .int v_p, .int v_q, .long v_goodOnes, .long v_frozenOnes, .ref z_uppers]))] := by
  refine gBl (cc := cX4_upperBelowLimit) (maxL := 9) (ret := (some .long)) (by decide) rfl (Nat.le_of_ble_eq_true rfl) ?_
  intro p e s m below meth c A ls hAt hl
  obtain ⟨hx, hb, hml, hr, hts, hown, hlocks, hin, hK, hG, hA, hP, hD⟩ := hAt
  have hS : va_S A s.heap s.heap [] := va_S.rf
  have hl : lv_has ls 9 [(0, .ref z), (1, .int x1)] := hl
  have f15 := hts (.fieldLink RX4 15 "PlainLines$Places" "p" "I") (by decide +kernel)
  have iX4 := (by decide +kernel : ∀ w ∈ u_ws RX4 TX4 6, w ∈ wsX4_upperBelowLimit)
  have f18 := hts (.fieldLink RX4 18 "PlainLines$Places" "q" "I") (by decide +kernel)
  have f9 := hts (.fieldLink RX4 9 "PlainLines$Places" "n" "I") (by decide +kernel)
  have k71 := hts (.constantLong RX4 71 (2)) (by decide +kernel)
  rw [f_X4_upperBelowLimit] at h
  refine lv_aload_n hx hb dX4_upperBelowLimit_0 rfl (lv_at hl 0 rfl) ?_
  refine va_get (D := D) (ci := 3) (v := .int v_p) (C := RX4) (T := TX4) (N := 6) hx hb hts iX4 hown hK hP 0 rfl rfl 1 (by decide) f15 (fun _ h9 => h9) rfl dX4_upperBelowLimit_1 ?_
  refine lv_i2l (v := (Int32.toInt64 v_p)) hx hb dX4_upperBelowLimit_4 rfl ?_
  refine lv_topl (fun y2_1 e_y2_1 => ?_)
  have h := gx_let e_y2_1 h
  refine lv_lstore_n (lv' := [(2, .long y2_1), (0, .ref z), (1, .int x1)]) hx hb dX4_upperBelowLimit_5 rfl hl (by decide) rfl (fun ls hl => ?_)
  refine lv_aload_n hx hb dX4_upperBelowLimit_6 rfl (lv_at hl 1 rfl) ?_
  refine va_get (D := D) (ci := 3) (v := .int v_q) (C := RX4) (T := TX4) (N := 6) hx hb hts iX4 hown hK hP 0 rfl rfl 2 (by decide) f18 (fun _ h9 => h9) rfl dX4_upperBelowLimit_7 ?_
  refine lv_i2l (v := (Int32.toInt64 v_q)) hx hb dX4_upperBelowLimit_10 rfl ?_
  refine lv_topl (fun y4_2 e_y4_2 => ?_)
  have h := gx_let e_y4_2 h
  refine lv_lstore (lv' := [(4, .long y4_2), (2, .long y2_1), (0, .ref z), (1, .int x1)]) hx hb dX4_upperBelowLimit_11 hl (by decide) rfl (fun ls hl => ?_)
  refine lv_aload_n hx hb dX4_upperBelowLimit_13 rfl (lv_at hl 2 rfl) ?_
  refine va_get (D := D) (ci := 3) (v := .int v_n) (C := RX4) (T := TX4) (N := 6) hx hb hts iX4 hown hK hP 0 rfl rfl 0 (by decide) f9 (fun _ h9 => h9) rfl dX4_upperBelowLimit_14 ?_
  refine lv_iconst (v := 2) hx hb dX4_upperBelowLimit_17 (by decide) ?_
  refine lv_idiv hx hb dX4_upperBelowLimit_18 (by decide) ?_
  refine lv_topi (fun y6_3 e_y6_3 => ?_)
  have h := gx_let e_y6_3 h
  refine lv_istore (lv' := [(6, .int y6_3), (4, .long y4_2), (2, .long y2_1), (0, .ref z), (1, .int x1)]) hx hb dX4_upperBelowLimit_19 hl (by decide) rfl (fun ls hl => ?_)
  obtain ⟨⟨o_4, o_5, o_6⟩, hL_7, h⟩ := gx_b h
  refine gJoin (Pj := fun H locs ls => va_P D vwCl [(z, .inr (3, [.int v_n, .int v_p, .int v_q, .long v_goodOnes, .long v_frozenOnes, .ref z_uppers]))] H ∧ va_D A [(z, .inr (3, [.int v_n, .int v_p, .int v_q, .long v_goodOnes, .long v_frozenOnes, .ref z_uppers]))] ∧ va_S A s.heap H locs ∧ lv_has ls 9 [(6, .int o_4), (4, .long o_5), (2, .long o_6), (0, .ref z), (1, .int x1)]) (pcM := 72) (st := []) ?_ (fun hJ72 => ?_)
  · intro H locs ls hp_
    obtain ⟨hP, hD, hS, hl⟩ := hp_
    clear hL_7
    refine lv_lload_n hx hb dX4_upperBelowLimit_72 rfl (lv_at hl 2 rfl) ?_
    cases h
    exact gRl hx hb hr hlocks hP hD hS dX4_upperBelowLimit_73
  · refine gLoop (Hy := fun k_ v_ => fL_X4_upperBelowLimit_21 K x1 k_ v_ = some (o_4, o_5, o_6)) (Pl := fun (v_ : Int32 × Int64 × Int64) H locs ls => match v_ with | (a_8, a_9, a_10) => va_P D vwCl [(z, .inr (3, [.int v_n, .int v_p, .int v_q, .long v_goodOnes, .long v_frozenOnes, .ref z_uppers]))] H ∧ va_D A [(z, .inr (3, [.int v_n, .int v_p, .int v_q, .long v_goodOnes, .long v_frozenOnes, .ref z_uppers]))] ∧ va_S A s.heap H locs ∧ lv_has ls 9 [(6, .int a_8), (4, .long a_9), (2, .long a_10), (0, .ref z), (1, .int x1)]) (pcH := 21) (fun _ q_ => by cases q_) ?_ K (y6_3, y4_2, y2_1) hL_7 ⟨hP, hD, hS, hl⟩
    clear hL_7 h hP hD hS hl
    intro k_ ih ⟨a_8, a_9, a_10⟩ H locs ls h hp_
    obtain ⟨hP, hD, hS, hl⟩ := hp_
    have hP : va_P D vwCl [(z, .inr (3, [.int v_n, .int v_p, .int v_q, .long v_goodOnes, .long v_frozenOnes, .ref z_uppers]))] H := hP
    have hD : va_D A [(z, .inr (3, [.int v_n, .int v_p, .int v_q, .long v_goodOnes, .long v_frozenOnes, .ref z_uppers]))] := hD
    have hl : lv_has ls 9 [(6, .int a_8), (4, .long a_9), (2, .long a_10), (0, .ref z), (1, .int x1)] := hl
    change fL_X4_upperBelowLimit_21 K x1 (k_ + 1) (a_8, a_9, a_10) = _ at h
    rw [fL_X4_upperBelowLimit_21] at h
    refine lv_iload hx hb dX4_upperBelowLimit_21 (lv_at hl 0 rfl) ?_
    refine lv_iconst (v := 1) hx hb dX4_upperBelowLimit_23 (by decide) ?_
    refine lv_icmp_lt (tgt := 72) hx hb dX4_upperBelowLimit_24 (by decide) (fun c_11 => ?_) (fun c_11 => ?_)
    · have h := gx_t c_11 h
      have hl := lv_sub (l' := [(6, .int a_8), (4, .long a_9), (2, .long a_10), (0, .ref z), (1, .int x1)]) hl [0, 1, 2, 3, 4] rfl
      cases h
      exact hJ72 _ _ _ ⟨hP, hD, hS, hl⟩
    · have h := gx_f c_11 h
      refine lv_lload_n hx hb dX4_upperBelowLimit_27 rfl (lv_at hl 2 rfl) ?_
      refine lv_lload_n hx hb dX4_upperBelowLimit_28 rfl (lv_at hl 2 rfl) ?_
      refine lv_lmul hx hb dX4_upperBelowLimit_29 ?_
      refine lv_topl (fun y7_12 e_y7_12 => ?_)
      have h := gx_let e_y7_12 h
      refine lv_lstore (lv' := [(7, .long y7_12), (6, .int a_8), (4, .long a_9), (2, .long a_10), (0, .ref z), (1, .int x1)]) hx hb dX4_upperBelowLimit_30 hl (by decide) rfl (fun ls hl => ?_)
      refine lv_iload_n hx hb dX4_upperBelowLimit_32 rfl (lv_at hl 5 rfl) ?_
      refine lv_iload hx hb dX4_upperBelowLimit_33 (lv_at hl 1 rfl) ?_
      refine lv_iand hx hb dX4_upperBelowLimit_35 ?_
      obtain ⟨ms_13, hR_14, h⟩ := gx_b h
      refine gJoin (Pj := fun H locs ls => va_P D vwCl [(z, .inr (3, [.int v_n, .int v_p, .int v_q, .long v_goodOnes, .long v_frozenOnes, .ref z_uppers]))] H ∧ va_D A [(z, .inr (3, [.int v_n, .int v_p, .int v_q, .long v_goodOnes, .long v_frozenOnes, .ref z_uppers]))] ∧ va_S A s.heap H locs ∧ lv_has ls 9 [(7, .long y7_12), (6, .int a_8), (4, .long a_9), (2, .long a_10), (0, .ref z), (1, .int x1)]) (pcM := 55) (st := [.long ms_13]) ?_ (fun hJ55 => ?_)
      · intro H locs ls hp_
        obtain ⟨hP, hD, hS, hl⟩ := hp_
        clear hR_14
        refine lv_lstore_n (lv' := [(2, .long ms_13), (7, .long y7_12), (6, .int a_8), (4, .long a_9), (0, .ref z), (1, .int x1)]) hx hb dX4_upperBelowLimit_55 rfl hl (by decide) rfl (fun ls hl => ?_)
        refine lv_lload hx hb dX4_upperBelowLimit_56 (lv_at hl 3 rfl) ?_
        refine lv_lload hx hb dX4_upperBelowLimit_58 (lv_at hl 3 rfl) ?_
        refine lv_lmul hx hb dX4_upperBelowLimit_60 ?_
        refine lv_topl (fun y4_15 e_y4_15 => ?_)
        have h := gx_let e_y4_15 h
        refine lv_lstore (lv' := [(4, .long y4_15), (2, .long ms_13), (7, .long y7_12), (6, .int a_8), (0, .ref z), (1, .int x1)]) hx hb dX4_upperBelowLimit_61 hl (by decide) rfl (fun ls hl => ?_)
        refine lv_iload hx hb dX4_upperBelowLimit_63 (lv_at hl 3 rfl) ?_
        refine lv_iconst (v := 2) hx hb dX4_upperBelowLimit_65 (by decide) ?_
        refine lv_idiv hx hb dX4_upperBelowLimit_66 (by decide) ?_
        refine lv_topi (fun y6_16 e_y6_16 => ?_)
        have h := gx_let e_y6_16 h
        refine lv_istore (lv' := [(6, .int y6_16), (4, .long y4_15), (2, .long ms_13), (7, .long y7_12), (0, .ref z), (1, .int x1)]) hx hb dX4_upperBelowLimit_67 hl (by decide) rfl (fun ls hl => ?_)
        refine lv_goto (tgt := 21) hx hb dX4_upperBelowLimit_69 (by decide) ?_
        exact ih (y6_16, y4_15, ms_13) _ _ _ h ⟨hP, hD, hS, lv_sub (l' := [(6, .int y6_16), (4, .long y4_15), (2, .long ms_13), (0, .ref z), (1, .int x1)]) hl [0, 1, 2, 4, 5] rfl⟩
      · have h := hR_14
        refine lv_if_ne (tgt := 53) hx hb dX4_upperBelowLimit_36 (by decide) (fun c_17 => ?_) (fun c_17 => ?_)
        · have h := gx_f c_17 h
          refine lv_lload hx hb dX4_upperBelowLimit_53 (lv_at hl 0 rfl) ?_
          have hl := lv_sub (l' := [(7, .long y7_12), (6, .int a_8), (4, .long a_9), (2, .long a_10), (0, .ref z), (1, .int x1)]) hl [0, 1, 2, 3, 4, 5] rfl
          cases h
          exact hJ55 _ _ _ ⟨hP, hD, hS, hl⟩
        · have h := gx_t c_17 h
          refine lv_ldc2 hx hb hown k71 dX4_upperBelowLimit_39 ?_
          refine lv_lload_n hx hb dX4_upperBelowLimit_42 rfl (lv_at hl 3 rfl) ?_
          refine lv_lmul hx hb dX4_upperBelowLimit_43 ?_
          refine lv_lload hx hb dX4_upperBelowLimit_44 (lv_at hl 2 rfl) ?_
          refine lv_lmul hx hb dX4_upperBelowLimit_46 ?_
          refine lv_lload hx hb dX4_upperBelowLimit_47 (lv_at hl 0 rfl) ?_
          refine lv_lsub hx hb dX4_upperBelowLimit_49 ?_
          refine lv_goto (tgt := 55) hx hb dX4_upperBelowLimit_50 (by decide) ?_
          have hl := lv_sub (l' := [(7, .long y7_12), (6, .int a_8), (4, .long a_9), (2, .long a_10), (0, .ref z), (1, .int x1)]) hl [0, 1, 2, 3, 4, 5] rfl
          cases h
          exact hJ55 _ _ _ ⟨hP, hD, hS, hl⟩
def fL_X4_leastBeside_10 (K : Nat) (l1 : Int64) (u0_0 : Int32) (u1 : Nat → Int64) : Nat → Int32 × Int64 × Int32 → Option (Int32 × Int64 × Int32)
  | 0, _ => none
  | k + 1, (l6, l4, l3) =>
    if u0_0 ≤ l6 then
      some (l6, l4, l3)
    else
      if (lg_cmp ((gLushr l1 l6) &&& 1) 0) = 0 then
        gIx l6 32 <|
        if 0 < (lg_cmp (u1 (Int32.toNatClampNeg l6)) l4) then
          gLet (l6 + 1) fun y6_5 =>
          fL_X4_leastBeside_10 K l1 u0_0 u1 k (y6_5, l4, l3)
        else
          gIx l6 32 <|
          gLet (u1 (Int32.toNatClampNeg l6)) fun y4_6 =>
          gLet (l6 + 1) fun y6_7 =>
          fL_X4_leastBeside_10 K l1 u0_0 u1 k (y6_7, y4_6, l6)
      else
        gLet (l6 + 1) fun y6_3 =>
        fL_X4_leastBeside_10 K l1 u0_0 u1 k (y6_3, l4, l3)
def f_X4_leastBeside (K : Nat) (x1 : Int64) (v_n : Int32) (v_uppersc : Nat → Int64) : Option (Int32) :=
  Option.bind (fL_X4_leastBeside_10 K x1 v_n v_uppersc K (0, 9223372036854775807, 0)) fun (o_8, o_9, o_10) =>
  some o_10
set_option maxHeartbeats 4000000 in
set_option maxRecDepth 100000 in
theorem c_X4_leastBeside (l : Launch) (D : va_G) (cy : Nat → ClassId) (t sz K : Nat) (z : Nat) (z_uppers : Nat) (v_n : Int32) (v_p : Int32) (v_q : Int32) (v_goodOnes : Int64) (v_frozenOnes : Int64) (v_uppersc : Nat → Int64) (x1 : Int64) (r_ : Int32) (h : f_X4_leastBeside K x1 v_n v_uppersc = some r_) : gMi l D cy t sz yX4_leastBeside wsX4_leastBeside 0 0 [.ref z, .long x1] [(z, .inr (3, [.int v_n, .int v_p, .int v_q, .long v_goodOnes, .long v_frozenOnes, .ref z_uppers])), (z_uppers, .inl (cy 1, 32, .inr (.inl v_uppersc)))] r_ [(z, .inr (3, [.int v_n, .int v_p, .int v_q, .long v_goodOnes, .long v_frozenOnes, .ref z_uppers])), (z_uppers, .inl (cy 1, 32, .inr (.inl v_uppersc)))] := by
  refine gBi (cc := cX4_leastBeside) (maxL := 7) (ret := (some .int)) (by decide) rfl (Nat.le_of_ble_eq_true rfl) ?_
  intro p e s m below meth c A ls hAt hl
  obtain ⟨hx, hb, hml, hr, hts, hown, hlocks, hin, hK, hG, hA, hP, hD⟩ := hAt
  have hS : va_S A s.heap s.heap [] := va_S.rf
  have hl : lv_has ls 7 [(0, .ref z), (1, .long x1)] := hl
  have k80 := hts (.constantLong RX4 80 (9223372036854775807)) (by decide +kernel)
  have f9 := hts (.fieldLink RX4 9 "PlainLines$Places" "n" "I") (by decide +kernel)
  have iX4 := (by decide +kernel : ∀ w ∈ u_ws RX4 TX4 6, w ∈ wsX4_leastBeside)
  have f21 := hts (.fieldLink RX4 21 "PlainLines$Places" "uppers" "[J") (by decide +kernel)
  rw [f_X4_leastBeside] at h
  refine lv_iconst (v := 0) hx hb dX4_leastBeside_0 (by decide) ?_
  refine lv_istore_n (lv' := [(3, .int 0), (0, .ref z), (1, .long x1)]) hx hb dX4_leastBeside_1 rfl hl (by decide) rfl (fun ls hl => ?_)
  refine lv_ldc2 hx hb hown k80 dX4_leastBeside_2 ?_
  refine lv_lstore (lv' := [(4, .long 9223372036854775807), (3, .int 0), (0, .ref z), (1, .long x1)]) hx hb dX4_leastBeside_5 hl (by decide) rfl (fun ls hl => ?_)
  refine lv_iconst (v := 0) hx hb dX4_leastBeside_7 (by decide) ?_
  refine lv_istore (lv' := [(6, .int 0), (4, .long 9223372036854775807), (3, .int 0), (0, .ref z), (1, .long x1)]) hx hb dX4_leastBeside_8 hl (by decide) rfl (fun ls hl => ?_)
  obtain ⟨⟨o_1, o_2, o_3⟩, hL_4, h⟩ := gx_b h
  refine gJoin (Pj := fun H locs ls => va_P D vwCl [(z, .inr (3, [.int v_n, .int v_p, .int v_q, .long v_goodOnes, .long v_frozenOnes, .ref z_uppers])), (z_uppers, .inl (cy 1, 32, .inr (.inl v_uppersc)))] H ∧ va_D A [(z, .inr (3, [.int v_n, .int v_p, .int v_q, .long v_goodOnes, .long v_frozenOnes, .ref z_uppers])), (z_uppers, .inl (cy 1, 32, .inr (.inl v_uppersc)))] ∧ va_S A s.heap H locs ∧ lv_has ls 7 [(6, .int o_1), (4, .long o_2), (3, .int o_3), (0, .ref z), (1, .long x1)]) (pcM := 61) (st := []) ?_ (fun hJ61 => ?_)
  · intro H locs ls hp_
    obtain ⟨hP, hD, hS, hl⟩ := hp_
    clear hL_4
    refine lv_iload_n hx hb dX4_leastBeside_61 rfl (lv_at hl 2 rfl) ?_
    cases h
    exact gRi hx hb hr hlocks hP hD hS dX4_leastBeside_62
  · refine gLoop (Hy := fun k_ v_ => fL_X4_leastBeside_10 K x1 v_n v_uppersc k_ v_ = some (o_1, o_2, o_3)) (Pl := fun (v_ : Int32 × Int64 × Int32) H locs ls => match v_ with | (a_5, a_6, a_7) => va_P D vwCl [(z, .inr (3, [.int v_n, .int v_p, .int v_q, .long v_goodOnes, .long v_frozenOnes, .ref z_uppers])), (z_uppers, .inl (cy 1, 32, .inr (.inl v_uppersc)))] H ∧ va_D A [(z, .inr (3, [.int v_n, .int v_p, .int v_q, .long v_goodOnes, .long v_frozenOnes, .ref z_uppers])), (z_uppers, .inl (cy 1, 32, .inr (.inl v_uppersc)))] ∧ va_S A s.heap H locs ∧ lv_has ls 7 [(6, .int a_5), (4, .long a_6), (3, .int a_7), (0, .ref z), (1, .long x1)]) (pcH := 10) (fun _ q_ => by cases q_) ?_ K (0, 9223372036854775807, 0) hL_4 ⟨hP, hD, hS, hl⟩
    clear hL_4 h hP hD hS hl
    intro k_ ih ⟨a_5, a_6, a_7⟩ H locs ls h hp_
    obtain ⟨hP, hD, hS, hl⟩ := hp_
    have hP : va_P D vwCl [(z, .inr (3, [.int v_n, .int v_p, .int v_q, .long v_goodOnes, .long v_frozenOnes, .ref z_uppers])), (z_uppers, .inl (cy 1, 32, .inr (.inl v_uppersc)))] H := hP
    have hD : va_D A [(z, .inr (3, [.int v_n, .int v_p, .int v_q, .long v_goodOnes, .long v_frozenOnes, .ref z_uppers])), (z_uppers, .inl (cy 1, 32, .inr (.inl v_uppersc)))] := hD
    have hl : lv_has ls 7 [(6, .int a_5), (4, .long a_6), (3, .int a_7), (0, .ref z), (1, .long x1)] := hl
    change fL_X4_leastBeside_10 K x1 v_n v_uppersc (k_ + 1) (a_5, a_6, a_7) = _ at h
    rw [fL_X4_leastBeside_10] at h
    refine lv_iload hx hb dX4_leastBeside_10 (lv_at hl 0 rfl) ?_
    refine lv_aload_n hx hb dX4_leastBeside_12 rfl (lv_at hl 3 rfl) ?_
    refine va_get (D := D) (ci := 3) (v := .int v_n) (C := RX4) (T := TX4) (N := 6) hx hb hts iX4 hown hK hP 0 rfl rfl 0 (by decide) f9 (fun _ h9 => h9) rfl dX4_leastBeside_13 ?_
    refine lv_icmp_ge (tgt := 61) hx hb dX4_leastBeside_16 (by decide) (fun c_8 => ?_) (fun c_8 => ?_)
    · have h := gx_t c_8 h
      have hl := lv_sub (l' := [(6, .int a_5), (4, .long a_6), (3, .int a_7), (0, .ref z), (1, .long x1)]) hl [0, 1, 2, 3, 4] rfl
      cases h
      exact hJ61 _ _ _ ⟨hP, hD, hS, hl⟩
    · have h := gx_f c_8 h
      refine lv_lload_n hx hb dX4_leastBeside_19 rfl (lv_at hl 4 rfl) ?_
      refine lv_iload hx hb dX4_leastBeside_20 (lv_at hl 0 rfl) ?_
      refine lv_lushr (v := (gLushr x1 a_5)) hx hb dX4_leastBeside_22 rfl ?_
      refine lv_lconst (v := 1) hx hb dX4_leastBeside_23 (by decide) ?_
      refine lv_land hx hb dX4_leastBeside_24 ?_
      refine lv_lconst (v := 0) hx hb dX4_leastBeside_25 (by decide) ?_
      refine W.lcmp hx hb dX4_leastBeside_26 ?_
      refine lv_if_ne (tgt := 55) hx hb dX4_leastBeside_27 (by decide) (fun c_9 => ?_) (fun c_9 => ?_)
      · have h := gx_f c_9 h
        obtain ⟨y6_10, e_y6_10⟩ : ∃ y : Int32, y = (a_5 + 1) := ⟨_, rfl⟩
        have h := gx_let e_y6_10 h
        refine lv_iinc (v := y6_10) (lv' := [(6, .int y6_10), (4, .long a_6), (3, .int a_7), (0, .ref z), (1, .long x1)]) hx hb dX4_leastBeside_55 hl (k := 0) rfl (by rw [e_y6_10]; rfl) (by decide) rfl (fun ls hl => ?_)
        refine lv_goto (tgt := 10) hx hb dX4_leastBeside_58 (by decide) ?_
        exact ih (y6_10, a_6, a_7) _ _ _ h ⟨hP, hD, hS, lv_sub (l' := [(6, .int y6_10), (4, .long a_6), (3, .int a_7), (0, .ref z), (1, .long x1)]) hl [0, 1, 2, 3, 4] rfl⟩
      · have h := gx_t c_9 h
        refine lv_aload_n hx hb dX4_leastBeside_30 rfl (lv_at hl 3 rfl) ?_
        refine va_get (D := D) (ci := 3) (v := .ref z_uppers) (C := RX4) (T := TX4) (N := 6) hx hb hts iX4 hown hK hP 0 rfl rfl 5 (by decide) f21 (fun _ h9 => h9) rfl dX4_leastBeside_31 ?_
        refine lv_iload hx hb dX4_leastBeside_34 (lv_at hl 0 rfl) ?_
        obtain ⟨hi_, h⟩ := gx_ix h
        refine va_lald hx hb hK hP 1 1 rfl rfl hi_ dX4_leastBeside_36 ?_
        refine lv_lload hx hb dX4_leastBeside_37 (lv_at hl 1 rfl) ?_
        refine W.lcmp hx hb dX4_leastBeside_39 ?_
        refine lv_if_gt (tgt := 55) hx hb dX4_leastBeside_40 (by decide) (fun c_11 => ?_) (fun c_11 => ?_)
        · have h := gx_t c_11 h
          obtain ⟨y6_12, e_y6_12⟩ : ∃ y : Int32, y = (a_5 + 1) := ⟨_, rfl⟩
          have h := gx_let e_y6_12 h
          refine lv_iinc (v := y6_12) (lv' := [(6, .int y6_12), (4, .long a_6), (3, .int a_7), (0, .ref z), (1, .long x1)]) hx hb dX4_leastBeside_55 hl (k := 0) rfl (by rw [e_y6_12]; rfl) (by decide) rfl (fun ls hl => ?_)
          refine lv_goto (tgt := 10) hx hb dX4_leastBeside_58 (by decide) ?_
          exact ih (y6_12, a_6, a_7) _ _ _ h ⟨hP, hD, hS, lv_sub (l' := [(6, .int y6_12), (4, .long a_6), (3, .int a_7), (0, .ref z), (1, .long x1)]) hl [0, 1, 2, 3, 4] rfl⟩
        · have h := gx_f c_11 h
          refine lv_iload hx hb dX4_leastBeside_43 (lv_at hl 0 rfl) ?_
          refine lv_istore_n (lv' := [(3, .int a_5), (6, .int a_5), (4, .long a_6), (0, .ref z), (1, .long x1)]) hx hb dX4_leastBeside_45 rfl hl (by decide) rfl (fun ls hl => ?_)
          refine lv_aload_n hx hb dX4_leastBeside_46 rfl (lv_at hl 3 rfl) ?_
          refine va_get (D := D) (ci := 3) (v := .ref z_uppers) (C := RX4) (T := TX4) (N := 6) hx hb hts iX4 hown hK hP 0 rfl rfl 5 (by decide) f21 (fun _ h9 => h9) rfl dX4_leastBeside_47 ?_
          refine lv_iload hx hb dX4_leastBeside_50 (lv_at hl 1 rfl) ?_
          obtain ⟨hi_, h⟩ := gx_ix h
          refine va_lald hx hb hK hP 1 1 rfl rfl hi_ dX4_leastBeside_52 ?_
          refine lv_topl (fun y4_13 e_y4_13 => ?_)
          have h := gx_let e_y4_13 h
          refine lv_lstore (lv' := [(4, .long y4_13), (3, .int a_5), (6, .int a_5), (0, .ref z), (1, .long x1)]) hx hb dX4_leastBeside_53 hl (by decide) rfl (fun ls hl => ?_)
          obtain ⟨y6_14, e_y6_14⟩ : ∃ y : Int32, y = (a_5 + 1) := ⟨_, rfl⟩
          have h := gx_let e_y6_14 h
          refine lv_iinc (v := y6_14) (lv' := [(6, .int y6_14), (4, .long y4_13), (3, .int a_5), (0, .ref z), (1, .long x1)]) hx hb dX4_leastBeside_55 hl (k := 2) rfl (by rw [e_y6_14]; rfl) (by decide) rfl (fun ls hl => ?_)
          refine lv_goto (tgt := 10) hx hb dX4_leastBeside_58 (by decide) ?_
          exact ih (y6_14, y4_13, a_5) _ _ _ h ⟨hP, hD, hS, lv_sub (l' := [(6, .int y6_14), (4, .long y4_13), (3, .int a_5), (0, .ref z), (1, .long x1)]) hl [0, 1, 2, 3, 4] rfl⟩
def f_X4_setAll (K : Nat) (x1 : Int64) : Option (Int64 × Int64) :=
  some (x1, 0)
set_option maxHeartbeats 4000000 in
set_option maxRecDepth 100000 in
theorem c_X4_setAll (l : Launch) (D : va_G) (cy : Nat → ClassId) (t sz K : Nat) (z : Nat) (z_uppers : Nat) (v_n : Int32) (v_p : Int32) (v_q : Int32) (v_goodOnes : Int64) (v_frozenOnes : Int64) (x1 : Int64) (o_v_goodOnes : Int64) (o_v_frozenOnes : Int64) (h : f_X4_setAll K x1 = some (o_v_goodOnes, o_v_frozenOnes)) : gMv l D cy t sz yX4_setAll wsX4_setAll 0 0 [.ref z, .long x1] [(z, .inr (3, [.int v_n, .int v_p, .int v_q, .long v_goodOnes, .long v_frozenOnes, .ref z_uppers]))] [(z, .inr (3, [.int v_n, .int v_p, .int v_q, .long o_v_goodOnes, .long o_v_frozenOnes, .ref z_uppers]))] := by
  refine gBv (cc := cX4_setAll) (maxL := 3) (ret := none) (by decide) rfl (Nat.le_of_ble_eq_true rfl) ?_
  intro p e s m below meth c A ls hAt hl
  obtain ⟨hx, hb, hml, hr, hts, hown, hlocks, hin, hK, hG, hA, hP, hD⟩ := hAt
  have hS : va_S A s.heap s.heap [] := va_S.rf
  have hl : lv_has ls 3 [(0, .ref z), (1, .long x1)] := hl
  have f25 := hts (.fieldLink RX4 25 "PlainLines$Places" "goodOnes" "J") (by decide +kernel)
  have iX4 := (by decide +kernel : ∀ w ∈ u_ws RX4 TX4 6, w ∈ wsX4_setAll)
  have f29 := hts (.fieldLink RX4 29 "PlainLines$Places" "frozenOnes" "J") (by decide +kernel)
  rw [f_X4_setAll] at h
  refine lv_aload_n hx hb dX4_setAll_0 rfl (lv_at hl 0 rfl) ?_
  refine lv_lload_n hx hb dX4_setAll_1 rfl (lv_at hl 1 rfl) ?_
  refine va_put (D := D) (ci := 3) (v := .long x1) (ty := .long) (C := RX4) (T := TX4) (N := 6) hx hb hts iX4 tyX4 tyX4_ok nmX4 hown hK hP hD hS 0 rfl rfl 3 (by decide) f25 (fun _ h9 => h9) rfl (by decide +kernel) rfl rfl (Nat.le_of_ble_eq_true rfl) dX4_setAll_2 (fun H locs hP hD hS => ?_)
  have hP : va_P D vwCl [(z, .inr (3, [.int v_n, .int v_p, .int v_q, .long x1, .long v_frozenOnes, .ref z_uppers]))] H := hP
  have hD : va_D A [(z, .inr (3, [.int v_n, .int v_p, .int v_q, .long x1, .long v_frozenOnes, .ref z_uppers]))] := hD
  refine lv_aload_n hx hb dX4_setAll_5 rfl (lv_at hl 0 rfl) ?_
  refine lv_lconst (v := 0) hx hb dX4_setAll_6 (by decide) ?_
  refine va_put (D := D) (ci := 3) (v := .long 0) (ty := .long) (C := RX4) (T := TX4) (N := 6) hx hb hts iX4 tyX4 tyX4_ok nmX4 hown hK hP hD hS 0 rfl rfl 4 (by decide) f29 (fun _ h9 => h9) rfl (by decide +kernel) rfl rfl (Nat.le_of_ble_eq_true rfl) dX4_setAll_7 (fun H locs hP hD hS => ?_)
  have hP : va_P D vwCl [(z, .inr (3, [.int v_n, .int v_p, .int v_q, .long x1, .long 0, .ref z_uppers]))] H := hP
  have hD : va_D A [(z, .inr (3, [.int v_n, .int v_p, .int v_q, .long x1, .long 0, .ref z_uppers]))] := hD
  cases h
  exact gRv hx hb hr hlocks hP hD hS dX4_setAll_10
def fL_X4_takeLeastShares_2 (K : Nat) (u0_0 : Int32) (u0_1 : Int32) (u0_2 : Int32) : Nat → Int32 × (Nat → Int64) → Option (Int32 × (Nat → Int64))
  | 0, _ => none
  | k + 1, (l2, u1) =>
    if u0_0 ≤ l2 then
      some (l2, u1)
    else
      Option.bind (f_X4_upperBelowLimit K l2 u0_0 u0_1 u0_2) fun r_6 =>
      gIx l2 32 <|
      gLet (vp_updL u1 (Int32.toNatClampNeg l2) r_6) fun w_7 =>
      gLet (l2 + 1) fun y2_8 =>
      fL_X4_takeLeastShares_2 K u0_0 u0_1 u0_2 k (y2_8, w_7)
def fL_X4_takeLeastShares_35 (K : Nat) (l1 : Int32) (u0_0 : Int32) (u1 : Nat → Int64) : Nat → Int32 × Int64 × Int64 → Option (Int32 × Int64 × Int64)
  | 0, _ => none
  | k + 1, (l6, l4, l2) =>
    if l1 ≤ l6 then
      some (l6, l4, l2)
    else
      Option.bind (f_X4_leastBeside K l2 u0_0 u1) fun r_12 =>
      gLet (l2 ||| (gLshl 1 r_12)) fun y2_13 =>
      gIx r_12 32 <|
      gLet (l4 + (u1 (Int32.toNatClampNeg r_12))) fun y4_14 =>
      gLet (l6 + 1) fun y6_15 =>
      fL_X4_takeLeastShares_35 K l1 u0_0 u1 k (y6_15, y4_14, y2_13)
def f_X4_takeLeastShares (K : Nat) (x1 : Int32) (v_n : Int32) (v_p : Int32) (v_q : Int32) (v_uppersc : Nat → Int64) : Option (Int64 × Int64 × Int64 × (Nat → Int64)) :=
  Option.bind (fL_X4_takeLeastShares_2 K v_n v_p v_q K (0, v_uppersc)) fun (o_9, o_10) =>
  Option.bind (fL_X4_takeLeastShares_35 K x1 v_n o_10 K (0, 0, 0)) fun (o_16, o_17, o_18) =>
  Option.bind (f_X4_setAll K o_18) fun (o_19, o_20) =>
  some (o_17, o_19, o_20, o_10)
set_option maxHeartbeats 4000000 in
set_option maxRecDepth 100000 in
theorem c_X4_takeLeastShares (l : Launch) (D : va_G) (cy : Nat → ClassId) (t sz K : Nat) (z : Nat) (z_uppers : Nat) (v_n : Int32) (v_p : Int32) (v_q : Int32) (v_goodOnes : Int64) (v_frozenOnes : Int64) (v_uppersc : Nat → Int64) (x1 : Int32) (r_ : Int64) (o_v_goodOnes : Int64) (o_v_frozenOnes : Int64) (o_v_uppersc : Nat → Int64) (h : f_X4_takeLeastShares K x1 v_n v_p v_q v_uppersc = some (r_, o_v_goodOnes, o_v_frozenOnes, o_v_uppersc)) : gMl l D cy t sz yX4_takeLeastShares wsX4_takeLeastShares 1 28 [.ref z, .int x1] [(z, .inr (3, [.int v_n, .int v_p, .int v_q, .long v_goodOnes, .long v_frozenOnes, .ref z_uppers])), (z_uppers, .inl (cy 1, 32, .inr (.inl v_uppersc)))] r_ [(z, .inr (3, [.int v_n, .int v_p, .int v_q, .long o_v_goodOnes, .long o_v_frozenOnes, .ref z_uppers])), (z_uppers, .inl (cy 1, 32, .inr (.inl o_v_uppersc)))] := by
  refine gBl (cc := cX4_takeLeastShares) (maxL := 8) (ret := (some .long)) (by decide) rfl (Nat.le_of_ble_eq_true rfl) ?_
  intro p e s m below meth c A ls hAt hl
  obtain ⟨hx, hb, hml, hr, hts, hown, hlocks, hin, hK, hG, hA, hP, hD⟩ := hAt
  have hS : va_S A s.heap s.heap [] := va_S.rf
  have hl : lv_has ls 8 [(0, .ref z), (1, .int x1)] := hl
  have f21 := hts (.fieldLink RX4 21 "PlainLines$Places" "uppers" "[J") (by decide +kernel)
  have iX4 := (by decide +kernel : ∀ w ∈ u_ws RX4 TX4 6, w ∈ wsX4_takeLeastShares)
  have f9 := hts (.fieldLink RX4 9 "PlainLines$Places" "n" "I") (by decide +kernel)
  rw [f_X4_takeLeastShares] at h
  refine lv_iconst (v := 0) hx hb dX4_takeLeastShares_0 (by decide) ?_
  refine lv_istore_n (lv' := [(2, .int 0), (0, .ref z), (1, .int x1)]) hx hb dX4_takeLeastShares_1 rfl hl (by decide) rfl (fun ls hl => ?_)
  obtain ⟨⟨o_1, o_2⟩, hL_3, h⟩ := gx_b h
  refine gJoin (Pj := fun H locs ls => va_P D vwCl [(z, .inr (3, [.int v_n, .int v_p, .int v_q, .long v_goodOnes, .long v_frozenOnes, .ref z_uppers])), (z_uppers, .inl (cy 1, 32, .inr (.inl o_2)))] H ∧ va_D A [(z, .inr (3, [.int v_n, .int v_p, .int v_q, .long v_goodOnes, .long v_frozenOnes, .ref z_uppers])), (z_uppers, .inl (cy 1, 32, .inr (.inl o_2)))] ∧ va_S A s.heap H locs ∧ lv_has ls 8 [(2, .int o_1), (0, .ref z), (1, .int x1)]) (pcM := 27) (st := []) ?_ (fun hJ27 => ?_)
  · intro H locs ls hp_
    obtain ⟨hP, hD, hS, hl⟩ := hp_
    clear hL_3
    refine lv_lconst (v := 0) hx hb dX4_takeLeastShares_27 (by decide) ?_
    refine lv_lstore_n (lv' := [(2, .long 0), (0, .ref z), (1, .int x1)]) hx hb dX4_takeLeastShares_28 rfl hl (by decide) rfl (fun ls hl => ?_)
    refine lv_lconst (v := 0) hx hb dX4_takeLeastShares_29 (by decide) ?_
    refine lv_lstore (lv' := [(4, .long 0), (2, .long 0), (0, .ref z), (1, .int x1)]) hx hb dX4_takeLeastShares_30 hl (by decide) rfl (fun ls hl => ?_)
    refine lv_iconst (v := 0) hx hb dX4_takeLeastShares_32 (by decide) ?_
    refine lv_istore (lv' := [(6, .int 0), (4, .long 0), (2, .long 0), (0, .ref z), (1, .int x1)]) hx hb dX4_takeLeastShares_33 hl (by decide) rfl (fun ls hl => ?_)
    obtain ⟨⟨o_4, o_5, o_6⟩, hL_7, h⟩ := gx_b h
    refine gJoin (Pj := fun H locs ls => va_P D vwCl [(z, .inr (3, [.int v_n, .int v_p, .int v_q, .long v_goodOnes, .long v_frozenOnes, .ref z_uppers])), (z_uppers, .inl (cy 1, 32, .inr (.inl o_2)))] H ∧ va_D A [(z, .inr (3, [.int v_n, .int v_p, .int v_q, .long v_goodOnes, .long v_frozenOnes, .ref z_uppers])), (z_uppers, .inl (cy 1, 32, .inr (.inl o_2)))] ∧ va_S A s.heap H locs ∧ lv_has ls 8 [(6, .int o_4), (4, .long o_5), (2, .long o_6), (0, .ref z), (1, .int x1)]) (pcM := 73) (st := []) ?_ (fun hJ73 => ?_)
    · intro H locs ls hp_
      obtain ⟨hP, hD, hS, hl⟩ := hp_
      clear hL_7
      refine lv_aload_n hx hb dX4_takeLeastShares_73 rfl (lv_at hl 3 rfl) ?_
      refine lv_lload_n hx hb dX4_takeLeastShares_74 rfl (lv_at hl 2 rfl) ?_
      obtain ⟨⟨o_8, o_9⟩, hc_10, h⟩ := gx_b h
      refine gCallv (wr := [(z_uppers, .inl (cy 1, 32, .inr (.inl o_2)))]) (va_runV (As := [.long o_6]) (rest := []) ⟨hx, hb, hml, hown, hts⟩ (c_X4_setAll l D cy t H.size K z z_uppers v_n v_p v_q v_goodOnes v_frozenOnes o_6 o_8 o_9 hc_10) (cwV 1 hts gX4_takeLeastShares_X4_setAll rfl rfl rfl (by decide +kernel) ⟨Nat.le_of_ble_eq_true rfl, Nat.le_of_ble_eq_true rfl⟩) ⟨gBlind, va_recv hK hP (ci := 3) (q0 := 0) rfl rfl, fun U hU hW => ⟨rfl, gPre.call hK hG hA hP hD hS [0] (by decide) rfl U hU hW⟩⟩ rfl rfl hl.1 rfl (lv_room (Nat.le_of_ble_eq_true rfl)) dX4_takeLeastShares_75 ⟨Nat.le_of_ble_eq_true rfl, Nat.le_of_ble_eq_true rfl⟩) hA hP hD hS [0] [1] rfl rfl (by decide) (by decide) (fun H locs hP hD hS => ?_)
      have hP := hP.sub (ws' := [(z, .inr (3, [.int v_n, .int v_p, .int v_q, .long o_8, .long o_9, .ref z_uppers])), (z_uppers, .inl (cy 1, 32, .inr (.inl o_2)))]) [1, 0] rfl
      have hD := hD.sub (ws' := [(z, .inr (3, [.int v_n, .int v_p, .int v_q, .long o_8, .long o_9, .ref z_uppers])), (z_uppers, .inl (cy 1, 32, .inr (.inl o_2)))]) [1, 0] (by decide) rfl
      refine lv_lload hx hb dX4_takeLeastShares_78 (lv_at hl 1 rfl) ?_
      cases h
      exact gRl hx hb hr hlocks hP hD hS dX4_takeLeastShares_80
    · refine gLoop (Hy := fun k_ v_ => fL_X4_takeLeastShares_35 K x1 v_n o_2 k_ v_ = some (o_4, o_5, o_6)) (Pl := fun (v_ : Int32 × Int64 × Int64) H locs ls => match v_ with | (a_11, a_12, a_13) => va_P D vwCl [(z, .inr (3, [.int v_n, .int v_p, .int v_q, .long v_goodOnes, .long v_frozenOnes, .ref z_uppers])), (z_uppers, .inl (cy 1, 32, .inr (.inl o_2)))] H ∧ va_D A [(z, .inr (3, [.int v_n, .int v_p, .int v_q, .long v_goodOnes, .long v_frozenOnes, .ref z_uppers])), (z_uppers, .inl (cy 1, 32, .inr (.inl o_2)))] ∧ va_S A s.heap H locs ∧ lv_has ls 8 [(6, .int a_11), (4, .long a_12), (2, .long a_13), (0, .ref z), (1, .int x1)]) (pcH := 35) (fun _ q_ => by cases q_) ?_ K (0, 0, 0) hL_7 ⟨hP, hD, hS, hl⟩
      clear hL_7 h hP hD hS hl
      intro k_ ih ⟨a_11, a_12, a_13⟩ H locs ls h hp_
      obtain ⟨hP, hD, hS, hl⟩ := hp_
      have hP : va_P D vwCl [(z, .inr (3, [.int v_n, .int v_p, .int v_q, .long v_goodOnes, .long v_frozenOnes, .ref z_uppers])), (z_uppers, .inl (cy 1, 32, .inr (.inl o_2)))] H := hP
      have hD : va_D A [(z, .inr (3, [.int v_n, .int v_p, .int v_q, .long v_goodOnes, .long v_frozenOnes, .ref z_uppers])), (z_uppers, .inl (cy 1, 32, .inr (.inl o_2)))] := hD
      have hl : lv_has ls 8 [(6, .int a_11), (4, .long a_12), (2, .long a_13), (0, .ref z), (1, .int x1)] := hl
      change fL_X4_takeLeastShares_35 K x1 v_n o_2 (k_ + 1) (a_11, a_12, a_13) = _ at h
      rw [fL_X4_takeLeastShares_35] at h
      refine lv_iload hx hb dX4_takeLeastShares_35 (lv_at hl 0 rfl) ?_
      refine lv_iload_n hx hb dX4_takeLeastShares_37 rfl (lv_at hl 4 rfl) ?_
      refine lv_icmp_ge (tgt := 73) hx hb dX4_takeLeastShares_38 (by decide) (fun c_14 => ?_) (fun c_14 => ?_)
      · have h := gx_t c_14 h
        have hl := lv_sub (l' := [(6, .int a_11), (4, .long a_12), (2, .long a_13), (0, .ref z), (1, .int x1)]) hl [0, 1, 2, 3, 4] rfl
        cases h
        exact hJ73 _ _ _ ⟨hP, hD, hS, hl⟩
      · have h := gx_f c_14 h
        refine lv_aload_n hx hb dX4_takeLeastShares_41 rfl (lv_at hl 3 rfl) ?_
        refine lv_lload_n hx hb dX4_takeLeastShares_42 rfl (lv_at hl 2 rfl) ?_
        obtain ⟨r_15, hc_16, h⟩ := gx_b h
        refine gCalli (wr := []) (va_runV (As := [.long a_13]) (rest := []) ⟨hx, hb, hml, hown, hts⟩ (c_X4_leastBeside l D cy t H.size K z z_uppers v_n v_p v_q v_goodOnes v_frozenOnes o_2 a_13 r_15 hc_16) (cwV 1 hts gX4_takeLeastShares_X4_leastBeside rfl rfl rfl (by decide +kernel) ⟨Nat.le_of_ble_eq_true rfl, Nat.le_of_ble_eq_true rfl⟩) ⟨gBlind, va_recv hK hP (ci := 3) (q0 := 0) rfl rfl, fun U hU hW => ⟨rfl, gPre.call hK hG hA hP hD hS [0, 1] (by decide) rfl U hU hW⟩⟩ rfl rfl hl.1 rfl (lv_room (Nat.le_of_ble_eq_true rfl)) dX4_takeLeastShares_43 ⟨Nat.le_of_ble_eq_true rfl, Nat.le_of_ble_eq_true rfl⟩) hA hP hD hS [0, 1] [] rfl rfl (by decide) (by decide) (fun H locs hP hD hS => ?_)
        have hP : va_P D vwCl [(z, .inr (3, [.int v_n, .int v_p, .int v_q, .long v_goodOnes, .long v_frozenOnes, .ref z_uppers])), (z_uppers, .inl (cy 1, 32, .inr (.inl o_2)))] H := hP
        have hD : va_D A [(z, .inr (3, [.int v_n, .int v_p, .int v_q, .long v_goodOnes, .long v_frozenOnes, .ref z_uppers])), (z_uppers, .inl (cy 1, 32, .inr (.inl o_2)))] := hD
        refine lv_istore (lv' := [(7, .int r_15), (6, .int a_11), (4, .long a_12), (2, .long a_13), (0, .ref z), (1, .int x1)]) hx hb dX4_takeLeastShares_46 hl (by decide) rfl (fun ls hl => ?_)
        refine lv_lload_n hx hb dX4_takeLeastShares_48 rfl (lv_at hl 3 rfl) ?_
        refine lv_lconst (v := 1) hx hb dX4_takeLeastShares_49 (by decide) ?_
        refine lv_iload hx hb dX4_takeLeastShares_50 (lv_at hl 0 rfl) ?_
        refine lv_lshl (v := (gLshl 1 r_15)) hx hb dX4_takeLeastShares_52 rfl ?_
        refine lv_lor hx hb dX4_takeLeastShares_53 ?_
        refine lv_topl (fun y2_17 e_y2_17 => ?_)
        have h := gx_let e_y2_17 h
        refine lv_lstore_n (lv' := [(2, .long y2_17), (7, .int r_15), (6, .int a_11), (4, .long a_12), (0, .ref z), (1, .int x1)]) hx hb dX4_takeLeastShares_54 rfl hl (by decide) rfl (fun ls hl => ?_)
        refine lv_lload hx hb dX4_takeLeastShares_55 (lv_at hl 3 rfl) ?_
        refine lv_aload_n hx hb dX4_takeLeastShares_57 rfl (lv_at hl 4 rfl) ?_
        refine va_get (D := D) (ci := 3) (v := .ref z_uppers) (C := RX4) (T := TX4) (N := 6) hx hb hts iX4 hown hK hP 0 rfl rfl 5 (by decide) f21 (fun _ h9 => h9) rfl dX4_takeLeastShares_58 ?_
        refine lv_iload hx hb dX4_takeLeastShares_61 (lv_at hl 1 rfl) ?_
        obtain ⟨hi_, h⟩ := gx_ix h
        refine va_lald hx hb hK hP 1 1 rfl rfl hi_ dX4_takeLeastShares_63 ?_
        refine lv_ladd hx hb dX4_takeLeastShares_64 ?_
        refine lv_topl (fun y4_18 e_y4_18 => ?_)
        have h := gx_let e_y4_18 h
        refine lv_lstore (lv' := [(4, .long y4_18), (2, .long y2_17), (7, .int r_15), (6, .int a_11), (0, .ref z), (1, .int x1)]) hx hb dX4_takeLeastShares_65 hl (by decide) rfl (fun ls hl => ?_)
        obtain ⟨y6_19, e_y6_19⟩ : ∃ y : Int32, y = (a_11 + 1) := ⟨_, rfl⟩
        have h := gx_let e_y6_19 h
        refine lv_iinc (v := y6_19) (lv' := [(6, .int y6_19), (4, .long y4_18), (2, .long y2_17), (7, .int r_15), (0, .ref z), (1, .int x1)]) hx hb dX4_takeLeastShares_67 hl (k := 3) rfl (by rw [e_y6_19]; rfl) (by decide) rfl (fun ls hl => ?_)
        refine lv_goto (tgt := 35) hx hb dX4_takeLeastShares_70 (by decide) ?_
        exact ih (y6_19, y4_18, y2_17) _ _ _ h ⟨hP, hD, hS, lv_sub (l' := [(6, .int y6_19), (4, .long y4_18), (2, .long y2_17), (0, .ref z), (1, .int x1)]) hl [0, 1, 2, 4, 5] rfl⟩
  · refine gLoop (Hy := fun k_ v_ => fL_X4_takeLeastShares_2 K v_n v_p v_q k_ v_ = some (o_1, o_2)) (Pl := fun (v_ : Int32 × (Nat → Int64)) H locs ls => match v_ with | (a_20, a_21) => va_P D vwCl [(z, .inr (3, [.int v_n, .int v_p, .int v_q, .long v_goodOnes, .long v_frozenOnes, .ref z_uppers])), (z_uppers, .inl (cy 1, 32, .inr (.inl a_21)))] H ∧ va_D A [(z, .inr (3, [.int v_n, .int v_p, .int v_q, .long v_goodOnes, .long v_frozenOnes, .ref z_uppers])), (z_uppers, .inl (cy 1, 32, .inr (.inl a_21)))] ∧ va_S A s.heap H locs ∧ lv_has ls 8 [(2, .int a_20), (0, .ref z), (1, .int x1)]) (pcH := 2) (fun _ q_ => by cases q_) ?_ K (0, v_uppersc) hL_3 ⟨hP, hD, hS, hl⟩
    clear hL_3 h hP hD hS hl
    intro k_ ih ⟨a_20, a_21⟩ H locs ls h hp_
    obtain ⟨hP, hD, hS, hl⟩ := hp_
    have hP : va_P D vwCl [(z, .inr (3, [.int v_n, .int v_p, .int v_q, .long v_goodOnes, .long v_frozenOnes, .ref z_uppers])), (z_uppers, .inl (cy 1, 32, .inr (.inl a_21)))] H := hP
    have hD : va_D A [(z, .inr (3, [.int v_n, .int v_p, .int v_q, .long v_goodOnes, .long v_frozenOnes, .ref z_uppers])), (z_uppers, .inl (cy 1, 32, .inr (.inl a_21)))] := hD
    have hl : lv_has ls 8 [(2, .int a_20), (0, .ref z), (1, .int x1)] := hl
    change fL_X4_takeLeastShares_2 K v_n v_p v_q (k_ + 1) (a_20, a_21) = _ at h
    rw [fL_X4_takeLeastShares_2] at h
    refine lv_iload_n hx hb dX4_takeLeastShares_2 rfl (lv_at hl 0 rfl) ?_
    refine lv_aload_n hx hb dX4_takeLeastShares_3 rfl (lv_at hl 1 rfl) ?_
    refine va_get (D := D) (ci := 3) (v := .int v_n) (C := RX4) (T := TX4) (N := 6) hx hb hts iX4 hown hK hP 0 rfl rfl 0 (by decide) f9 (fun _ h9 => h9) rfl dX4_takeLeastShares_4 ?_
    refine lv_icmp_ge (tgt := 27) hx hb dX4_takeLeastShares_7 (by decide) (fun c_22 => ?_) (fun c_22 => ?_)
    · have h := gx_t c_22 h
      have hl := lv_sub (l' := [(2, .int a_20), (0, .ref z), (1, .int x1)]) hl [0, 1, 2] rfl
      cases h
      exact hJ27 _ _ _ ⟨hP, hD, hS, hl⟩
    · have h := gx_f c_22 h
      refine lv_aload_n hx hb dX4_takeLeastShares_10 rfl (lv_at hl 1 rfl) ?_
      refine va_get (D := D) (ci := 3) (v := .ref z_uppers) (C := RX4) (T := TX4) (N := 6) hx hb hts iX4 hown hK hP 0 rfl rfl 5 (by decide) f21 (fun _ h9 => h9) rfl dX4_takeLeastShares_11 ?_
      refine lv_iload_n hx hb dX4_takeLeastShares_14 rfl (lv_at hl 0 rfl) ?_
      refine lv_aload_n hx hb dX4_takeLeastShares_15 rfl (lv_at hl 1 rfl) ?_
      refine lv_iload_n hx hb dX4_takeLeastShares_16 rfl (lv_at hl 0 rfl) ?_
      obtain ⟨r_23, hc_24, h⟩ := gx_b h
      refine gCalll (wr := [(z_uppers, .inl (cy 1, 32, .inr (.inl a_21)))]) (va_runV (As := [.int a_20]) (rest := [.int a_20, .ref z_uppers]) ⟨hx, hb, hml, hown, hts⟩ (c_X4_upperBelowLimit l D cy t H.size K z z_uppers v_n v_p v_q v_goodOnes v_frozenOnes a_20 r_23 hc_24) (cwV 1 hts gX4_takeLeastShares_X4_upperBelowLimit rfl rfl rfl (by decide +kernel) ⟨Nat.le_of_ble_eq_true rfl, Nat.le_of_ble_eq_true rfl⟩) ⟨gBlind, va_recv hK hP (ci := 3) (q0 := 0) rfl rfl, fun U hU hW => ⟨rfl, gPre.call hK hG hA hP hD hS [0] (by decide) rfl U hU hW⟩⟩ rfl rfl hl.1 rfl (lv_room (Nat.le_of_ble_eq_true rfl)) dX4_takeLeastShares_17 ⟨Nat.le_of_ble_eq_true rfl, Nat.le_of_ble_eq_true rfl⟩) hA hP hD hS [0] [1] rfl rfl (by decide) (by decide) (fun H locs hP hD hS => ?_)
      have hP := hP.sub (ws' := [(z, .inr (3, [.int v_n, .int v_p, .int v_q, .long v_goodOnes, .long v_frozenOnes, .ref z_uppers])), (z_uppers, .inl (cy 1, 32, .inr (.inl a_21)))]) [1, 0] rfl
      have hD := hD.sub (ws' := [(z, .inr (3, [.int v_n, .int v_p, .int v_q, .long v_goodOnes, .long v_frozenOnes, .ref z_uppers])), (z_uppers, .inl (cy 1, 32, .inr (.inl a_21)))]) [1, 0] (by decide) rfl
      obtain ⟨hi_, h⟩ := gx_ix h
      refine va_last hx hb hK hP hD hS 1 1 rfl rfl hi_ dX4_takeLeastShares_20 (fun H locs hP hD hS => ?_)
      obtain ⟨w_25, e_w_25⟩ : ∃ y : Nat → Int64, y = (vp_updL a_21 (Int32.toNatClampNeg a_20) r_23) := ⟨_, rfl⟩
      have h := gx_let e_w_25 h
      have hP : va_P D vwCl [(z, .inr (3, [.int v_n, .int v_p, .int v_q, .long v_goodOnes, .long v_frozenOnes, .ref z_uppers])), (z_uppers, .inl (cy 1, 32, .inr (.inl (vp_updL a_21 (Int32.toNatClampNeg a_20) r_23))))] H := hP
      have hD : va_D A [(z, .inr (3, [.int v_n, .int v_p, .int v_q, .long v_goodOnes, .long v_frozenOnes, .ref z_uppers])), (z_uppers, .inl (cy 1, 32, .inr (.inl (vp_updL a_21 (Int32.toNatClampNeg a_20) r_23))))] := hD
      rw [← e_w_25] at hP hD
      obtain ⟨y2_26, e_y2_26⟩ : ∃ y : Int32, y = (a_20 + 1) := ⟨_, rfl⟩
      have h := gx_let e_y2_26 h
      refine lv_iinc (v := y2_26) (lv' := [(2, .int y2_26), (0, .ref z), (1, .int x1)]) hx hb dX4_takeLeastShares_21 hl (k := 0) rfl (by rw [e_y2_26]; rfl) (by decide) rfl (fun ls hl => ?_)
      refine lv_goto (tgt := 2) hx hb dX4_takeLeastShares_24 (by decide) ?_
      exact ih (y2_26, w_25) _ _ _ h ⟨hP, hD, hS, lv_sub (l' := [(2, .int y2_26), (0, .ref z), (1, .int x1)]) hl [0, 1, 2] rfl⟩
def fL_X5_bitTold_20 (K : Nat) (l2 : Int32) : Nat → Int32 × Int64 × Int64 × Int64 → Option (Int32 × Int64 × Int64 × Int64)
  | 0, _ => none
  | k + 1, (l11, l9, l7, l5) =>
    if l11 < 1 then
      some (l11, l9, l7, l5)
    else
      gLet ((gLshl 1 l11) - 1) fun y12_3 =>
      gLet (l5 &&& y12_3) fun y14_4 =>
      gLet (gLushr l5 l11) fun y16_5 =>
      gLet (l7 &&& y12_3) fun y18_6 =>
      gLet (gLushr l7 l11) fun y20_7 =>
      Option.bind (
        if (l2 &&& l11) = 0 then
          gLet (y18_6 ||| y20_7) fun y7_16 =>
          gLet ((y14_4 ^^^ y16_5) &&& (y7_16 ^^^ (-1))) fun y5_17 =>
          some (l9, y5_17, y7_16)
        else
          Option.bind (f_X9_folded K (l9 &&& y12_3) l11) fun r_12 =>
          gLet (y18_6 &&& y20_7) fun y7_13 =>
          gLet ((y16_5 ||| ((y14_4 ^^^ r_12) &&& y20_7)) &&& (y7_13 ^^^ (-1))) fun y5_14 =>
          gLet (gLushr l9 l11) fun y9_15 =>
          some (y9_15, y5_14, y7_13)) fun (m9_8, m5_9, m7_10) =>
      gLet (l11 / 2) fun y11_18 =>
      fL_X5_bitTold_20 K l2 k (y11_18, m9_8, m7_10, m5_9)
def f_X5_bitTold (K : Nat) (x1 : Int32) (x2 : Int32) (x3 : Int64) (v_seenOnes : Int64) (v_seenLost : Int64) : Option (Int32) :=
  gLet (x1 / 2) fun y11_1 =>
  Option.bind (fL_X5_bitTold_20 K x2 K (y11_1, x3, v_seenLost, v_seenOnes)) fun (o_19, o_20, o_21, o_22) =>
  if (lg_cmp o_21 0) = 0 then
    some (Int64.toInt32 o_22)
  else
    some 2
set_option maxHeartbeats 4000000 in
set_option maxRecDepth 100000 in
theorem c_X5_bitTold (l : Launch) (D : va_G) (cy : Nat → ClassId) (t sz K : Nat) (z : Nat) (z_paths : Nat) (z_nextPaths : Nat) (v_width : Int32) (v_checkMask : Int64) (v_hasRead : Int32) (v_left : Int32) (v_seenOnes : Int64) (v_seenLost : Int64) (x1 : Int32) (x2 : Int32) (x3 : Int64) (r_ : Int32) (h : f_X5_bitTold K x1 x2 x3 v_seenOnes v_seenLost = some r_) : gMi l D cy t sz yX5_bitTold wsX5_bitTold 1 25 [.ref z, .int x1, .int x2, .long x3] [(z, .inr (4, [.int v_width, .long v_checkMask, .int v_hasRead, .int v_left, .ref z_paths, .ref z_nextPaths, .long v_seenOnes, .long v_seenLost]))] r_ [(z, .inr (4, [.int v_width, .long v_checkMask, .int v_hasRead, .int v_left, .ref z_paths, .ref z_nextPaths, .long v_seenOnes, .long v_seenLost]))] := by
  refine gBi (cc := cX5_bitTold) (maxL := 24) (ret := (some .int)) (by decide) rfl (Nat.le_of_ble_eq_true rfl) ?_
  intro p e s m below meth c A ls hAt hl
  obtain ⟨hx, hb, hml, hr, hts, hown, hlocks, hin, hK, hG, hA, hP, hD⟩ := hAt
  have hS : va_S A s.heap s.heap [] := va_S.rf
  have hl : lv_has ls 24 [(0, .ref z), (1, .int x1), (2, .int x2), (3, .long x3)] := hl
  have f29 := hts (.fieldLink RX5 29 "PlainLines$Reader" "seenOnes" "J") (by decide +kernel)
  have iX5 := (by decide +kernel : ∀ w ∈ u_ws RX5 TX5 8, w ∈ wsX5_bitTold)
  have f33 := hts (.fieldLink RX5 33 "PlainLines$Reader" "seenLost" "J") (by decide +kernel)
  have k65 := hts (.constantLong RX5 65 (-1)) (by decide +kernel)
  rw [f_X5_bitTold] at h
  refine lv_aload_n hx hb dX5_bitTold_0 rfl (lv_at hl 0 rfl) ?_
  refine va_get (D := D) (ci := 4) (v := .long v_seenOnes) (C := RX5) (T := TX5) (N := 8) hx hb hts iX5 hown hK hP 0 rfl rfl 6 (by decide) f29 (fun _ h9 => h9) rfl dX5_bitTold_1 ?_
  refine lv_lstore (lv' := [(5, .long v_seenOnes), (0, .ref z), (1, .int x1), (2, .int x2), (3, .long x3)]) hx hb dX5_bitTold_4 hl (by decide) rfl (fun ls hl => ?_)
  refine lv_aload_n hx hb dX5_bitTold_6 rfl (lv_at hl 1 rfl) ?_
  refine va_get (D := D) (ci := 4) (v := .long v_seenLost) (C := RX5) (T := TX5) (N := 8) hx hb hts iX5 hown hK hP 0 rfl rfl 7 (by decide) f33 (fun _ h9 => h9) rfl dX5_bitTold_7 ?_
  refine lv_lstore (lv' := [(7, .long v_seenLost), (5, .long v_seenOnes), (0, .ref z), (1, .int x1), (2, .int x2), (3, .long x3)]) hx hb dX5_bitTold_10 hl (by decide) rfl (fun ls hl => ?_)
  refine lv_lload_n hx hb dX5_bitTold_12 rfl (lv_at hl 5 rfl) ?_
  refine lv_lstore (lv' := [(9, .long x3), (7, .long v_seenLost), (5, .long v_seenOnes), (0, .ref z), (1, .int x1), (2, .int x2), (3, .long x3)]) hx hb dX5_bitTold_13 hl (by decide) rfl (fun ls hl => ?_)
  refine lv_iload_n hx hb dX5_bitTold_15 rfl (lv_at hl 4 rfl) ?_
  refine lv_iconst (v := 2) hx hb dX5_bitTold_16 (by decide) ?_
  refine lv_idiv hx hb dX5_bitTold_17 (by decide) ?_
  refine lv_topi (fun y11_1 e_y11_1 => ?_)
  have h := gx_let e_y11_1 h
  refine lv_istore (lv' := [(11, .int y11_1), (9, .long x3), (7, .long v_seenLost), (5, .long v_seenOnes), (0, .ref z), (1, .int x1), (2, .int x2), (3, .long x3)]) hx hb dX5_bitTold_18 hl (by decide) rfl (fun ls hl => ?_)
  obtain ⟨⟨o_2, o_3, o_4, o_5⟩, hL_6, h⟩ := gx_b h
  refine gJoin (Pj := fun H locs ls => va_P D vwCl [(z, .inr (4, [.int v_width, .long v_checkMask, .int v_hasRead, .int v_left, .ref z_paths, .ref z_nextPaths, .long v_seenOnes, .long v_seenLost]))] H ∧ va_D A [(z, .inr (4, [.int v_width, .long v_checkMask, .int v_hasRead, .int v_left, .ref z_paths, .ref z_nextPaths, .long v_seenOnes, .long v_seenLost]))] ∧ va_S A s.heap H locs ∧ lv_has ls 24 [(11, .int o_2), (9, .long o_3), (7, .long o_4), (5, .long o_5), (0, .ref z), (1, .int x1), (2, .int x2), (3, .long x3)]) (pcM := 148) (st := []) ?_ (fun hJ148 => ?_)
  · intro H locs ls hp_
    obtain ⟨hP, hD, hS, hl⟩ := hp_
    clear hL_6
    refine lv_lload hx hb dX5_bitTold_148 (lv_at hl 2 rfl) ?_
    refine lv_lconst (v := 0) hx hb dX5_bitTold_150 (by decide) ?_
    refine W.lcmp hx hb dX5_bitTold_151 ?_
    refine lv_if_eq (tgt := 159) hx hb dX5_bitTold_152 (by decide) (fun c_7 => ?_) (fun c_7 => ?_)
    · have h := gx_t c_7 h
      refine lv_lload hx hb dX5_bitTold_159 (lv_at hl 3 rfl) ?_
      refine lv_l2i (v := (Int64.toInt32 o_5)) hx hb dX5_bitTold_161 rfl ?_
      cases h
      exact gRi hx hb hr hlocks hP hD hS dX5_bitTold_162
    · have h := gx_f c_7 h
      refine lv_iconst (v := 2) hx hb dX5_bitTold_155 (by decide) ?_
      refine lv_goto (tgt := 162) hx hb dX5_bitTold_156 (by decide) ?_
      cases h
      exact gRi hx hb hr hlocks hP hD hS dX5_bitTold_162
  · refine gLoop (Hy := fun k_ v_ => fL_X5_bitTold_20 K x2 k_ v_ = some (o_2, o_3, o_4, o_5)) (Pl := fun (v_ : Int32 × Int64 × Int64 × Int64) H locs ls => match v_ with | (a_8, a_9, a_10, a_11) => va_P D vwCl [(z, .inr (4, [.int v_width, .long v_checkMask, .int v_hasRead, .int v_left, .ref z_paths, .ref z_nextPaths, .long v_seenOnes, .long v_seenLost]))] H ∧ va_D A [(z, .inr (4, [.int v_width, .long v_checkMask, .int v_hasRead, .int v_left, .ref z_paths, .ref z_nextPaths, .long v_seenOnes, .long v_seenLost]))] ∧ va_S A s.heap H locs ∧ lv_has ls 24 [(11, .int a_8), (9, .long a_9), (7, .long a_10), (5, .long a_11), (0, .ref z), (1, .int x1), (2, .int x2), (3, .long x3)]) (pcH := 20) (fun _ q_ => by cases q_) ?_ K (y11_1, x3, v_seenLost, v_seenOnes) hL_6 ⟨hP, hD, hS, hl⟩
    clear hL_6 h hP hD hS hl
    intro k_ ih ⟨a_8, a_9, a_10, a_11⟩ H locs ls h hp_
    obtain ⟨hP, hD, hS, hl⟩ := hp_
    have hP : va_P D vwCl [(z, .inr (4, [.int v_width, .long v_checkMask, .int v_hasRead, .int v_left, .ref z_paths, .ref z_nextPaths, .long v_seenOnes, .long v_seenLost]))] H := hP
    have hD : va_D A [(z, .inr (4, [.int v_width, .long v_checkMask, .int v_hasRead, .int v_left, .ref z_paths, .ref z_nextPaths, .long v_seenOnes, .long v_seenLost]))] := hD
    have hl : lv_has ls 24 [(11, .int a_8), (9, .long a_9), (7, .long a_10), (5, .long a_11), (0, .ref z), (1, .int x1), (2, .int x2), (3, .long x3)] := hl
    change fL_X5_bitTold_20 K x2 (k_ + 1) (a_8, a_9, a_10, a_11) = _ at h
    rw [fL_X5_bitTold_20] at h
    refine lv_iload hx hb dX5_bitTold_20 (lv_at hl 0 rfl) ?_
    refine lv_iconst (v := 1) hx hb dX5_bitTold_22 (by decide) ?_
    refine lv_icmp_lt (tgt := 148) hx hb dX5_bitTold_23 (by decide) (fun c_12 => ?_) (fun c_12 => ?_)
    · have h := gx_t c_12 h
      have hl := lv_sub (l' := [(11, .int a_8), (9, .long a_9), (7, .long a_10), (5, .long a_11), (0, .ref z), (1, .int x1), (2, .int x2), (3, .long x3)]) hl [0, 1, 2, 3, 4, 5, 6, 7] rfl
      cases h
      exact hJ148 _ _ _ ⟨hP, hD, hS, hl⟩
    · have h := gx_f c_12 h
      refine lv_lconst (v := 1) hx hb dX5_bitTold_26 (by decide) ?_
      refine lv_iload hx hb dX5_bitTold_27 (lv_at hl 0 rfl) ?_
      refine lv_lshl (v := (gLshl 1 a_8)) hx hb dX5_bitTold_29 rfl ?_
      refine lv_lconst (v := 1) hx hb dX5_bitTold_30 (by decide) ?_
      refine lv_lsub hx hb dX5_bitTold_31 ?_
      refine lv_topl (fun y12_13 e_y12_13 => ?_)
      have h := gx_let e_y12_13 h
      refine lv_lstore (lv' := [(12, .long y12_13), (11, .int a_8), (9, .long a_9), (7, .long a_10), (5, .long a_11), (0, .ref z), (1, .int x1), (2, .int x2), (3, .long x3)]) hx hb dX5_bitTold_32 hl (by decide) rfl (fun ls hl => ?_)
      refine lv_lload hx hb dX5_bitTold_34 (lv_at hl 4 rfl) ?_
      refine lv_lload hx hb dX5_bitTold_36 (lv_at hl 0 rfl) ?_
      refine lv_land hx hb dX5_bitTold_38 ?_
      refine lv_topl (fun y14_14 e_y14_14 => ?_)
      have h := gx_let e_y14_14 h
      refine lv_lstore (lv' := [(14, .long y14_14), (12, .long y12_13), (11, .int a_8), (9, .long a_9), (7, .long a_10), (5, .long a_11), (0, .ref z), (1, .int x1), (2, .int x2), (3, .long x3)]) hx hb dX5_bitTold_39 hl (by decide) rfl (fun ls hl => ?_)
      refine lv_lload hx hb dX5_bitTold_41 (lv_at hl 5 rfl) ?_
      refine lv_iload hx hb dX5_bitTold_43 (lv_at hl 2 rfl) ?_
      refine lv_lushr (v := (gLushr a_11 a_8)) hx hb dX5_bitTold_45 rfl ?_
      refine lv_topl (fun y16_15 e_y16_15 => ?_)
      have h := gx_let e_y16_15 h
      refine lv_lstore (lv' := [(16, .long y16_15), (14, .long y14_14), (12, .long y12_13), (11, .int a_8), (9, .long a_9), (7, .long a_10), (5, .long a_11), (0, .ref z), (1, .int x1), (2, .int x2), (3, .long x3)]) hx hb dX5_bitTold_46 hl (by decide) rfl (fun ls hl => ?_)
      refine lv_lload hx hb dX5_bitTold_48 (lv_at hl 5 rfl) ?_
      refine lv_lload hx hb dX5_bitTold_50 (lv_at hl 2 rfl) ?_
      refine lv_land hx hb dX5_bitTold_52 ?_
      refine lv_topl (fun y18_16 e_y18_16 => ?_)
      have h := gx_let e_y18_16 h
      refine lv_lstore (lv' := [(18, .long y18_16), (16, .long y16_15), (14, .long y14_14), (12, .long y12_13), (11, .int a_8), (9, .long a_9), (7, .long a_10), (5, .long a_11), (0, .ref z), (1, .int x1), (2, .int x2), (3, .long x3)]) hx hb dX5_bitTold_53 hl (by decide) rfl (fun ls hl => ?_)
      refine lv_lload hx hb dX5_bitTold_55 (lv_at hl 6 rfl) ?_
      refine lv_iload hx hb dX5_bitTold_57 (lv_at hl 4 rfl) ?_
      refine lv_lushr (v := (gLushr a_10 a_8)) hx hb dX5_bitTold_59 rfl ?_
      refine lv_topl (fun y20_17 e_y20_17 => ?_)
      have h := gx_let e_y20_17 h
      refine lv_lstore (lv' := [(20, .long y20_17), (18, .long y18_16), (16, .long y16_15), (14, .long y14_14), (12, .long y12_13), (11, .int a_8), (9, .long a_9), (7, .long a_10), (5, .long a_11), (0, .ref z), (1, .int x1), (2, .int x2), (3, .long x3)]) hx hb dX5_bitTold_60 hl (by decide) rfl (fun ls hl => ?_)
      refine lv_iload_n hx hb dX5_bitTold_62 rfl (lv_at hl 11 rfl) ?_
      refine lv_iload hx hb dX5_bitTold_63 (lv_at hl 5 rfl) ?_
      refine lv_iand hx hb dX5_bitTold_65 ?_
      obtain ⟨⟨m9_18, m5_19, m7_20⟩, hR_21, h⟩ := gx_b h
      refine gJoin (Pj := fun H locs ls => va_P D vwCl [(z, .inr (4, [.int v_width, .long v_checkMask, .int v_hasRead, .int v_left, .ref z_paths, .ref z_nextPaths, .long v_seenOnes, .long v_seenLost]))] H ∧ va_D A [(z, .inr (4, [.int v_width, .long v_checkMask, .int v_hasRead, .int v_left, .ref z_paths, .ref z_nextPaths, .long v_seenOnes, .long v_seenLost]))] ∧ va_S A s.heap H locs ∧ lv_has ls 24 [(9, .long m9_18), (5, .long m5_19), (7, .long m7_20), (20, .long y20_17), (18, .long y18_16), (16, .long y16_15), (14, .long y14_14), (12, .long y12_13), (11, .int a_8), (0, .ref z), (1, .int x1), (2, .int x2), (3, .long x3)]) (pcM := 139) (st := []) ?_ (fun hJ139 => ?_)
      · intro H locs ls hp_
        obtain ⟨hP, hD, hS, hl⟩ := hp_
        clear hR_21
        refine lv_iload hx hb dX5_bitTold_139 (lv_at hl 8 rfl) ?_
        refine lv_iconst (v := 2) hx hb dX5_bitTold_141 (by decide) ?_
        refine lv_idiv hx hb dX5_bitTold_142 (by decide) ?_
        refine lv_topi (fun y11_22 e_y11_22 => ?_)
        have h := gx_let e_y11_22 h
        refine lv_istore (lv' := [(11, .int y11_22), (9, .long m9_18), (5, .long m5_19), (7, .long m7_20), (20, .long y20_17), (18, .long y18_16), (16, .long y16_15), (14, .long y14_14), (12, .long y12_13), (0, .ref z), (1, .int x1), (2, .int x2), (3, .long x3)]) hx hb dX5_bitTold_143 hl (by decide) rfl (fun ls hl => ?_)
        refine lv_goto (tgt := 20) hx hb dX5_bitTold_145 (by decide) ?_
        exact ih (y11_22, m9_18, m7_20, m5_19) _ _ _ h ⟨hP, hD, hS, lv_sub (l' := [(11, .int y11_22), (9, .long m9_18), (7, .long m7_20), (5, .long m5_19), (0, .ref z), (1, .int x1), (2, .int x2), (3, .long x3)]) hl [0, 1, 3, 2, 9, 10, 11, 12] rfl⟩
      · have h := hR_21
        refine lv_if_ne (tgt := 93) hx hb dX5_bitTold_66 (by decide) (fun c_23 => ?_) (fun c_23 => ?_)
        · have h := gx_f c_23 h
          refine lv_lload hx hb dX5_bitTold_93 (lv_at hl 6 rfl) ?_
          refine lv_lload hx hb dX5_bitTold_95 (lv_at hl 4 rfl) ?_
          refine lv_land hx hb dX5_bitTold_97 ?_
          refine lv_iload hx hb dX5_bitTold_98 (lv_at hl 5 rfl) ?_
          obtain ⟨r_24, hc_25, h⟩ := gx_b h
          refine gCalll (wr := [(z, .inr (4, [.int v_width, .long v_checkMask, .int v_hasRead, .int v_left, .ref z_paths, .ref z_nextPaths, .long v_seenOnes, .long v_seenLost]))]) (va_runSN (As := [.long (a_9 &&& y12_13), .int a_8]) (rest := []) ⟨hx, hb, hml, hown, hts⟩ (c_X9_folded l D cy t H.size K (a_9 &&& y12_13) a_8 r_24 hc_25) ⟨va_cnB 2 hts gX5_bitTold_X9_folded_n67 rfl rfl rfl (hG.2.2.1 12 _ rfl) (hts (.initialized RX9) (by decide +kernel)) (by decide +kernel) ⟨Nat.le_of_ble_eq_true rfl, Nat.le_of_ble_eq_true rfl⟩, hts (.static yX9_folded) (by decide +kernel), trivial⟩ ⟨gBlind, fun U hU hW => ⟨rfl, gPre.call hK hG hA hP hD hS [] (by decide) rfl U hU hW⟩⟩ rfl rfl hl.1 rfl (lv_room (Nat.le_of_ble_eq_true rfl)) dX5_bitTold_100 ⟨Nat.le_of_ble_eq_true rfl, Nat.le_of_ble_eq_true rfl⟩) hA hP hD hS [] [0] rfl rfl (by decide) (by decide) (fun H locs hP hD hS => ?_)
          have hP : va_P D vwCl [(z, .inr (4, [.int v_width, .long v_checkMask, .int v_hasRead, .int v_left, .ref z_paths, .ref z_nextPaths, .long v_seenOnes, .long v_seenLost]))] H := hP
          have hD : va_D A [(z, .inr (4, [.int v_width, .long v_checkMask, .int v_hasRead, .int v_left, .ref z_paths, .ref z_nextPaths, .long v_seenOnes, .long v_seenLost]))] := hD
          refine lv_lstore (lv' := [(22, .long r_24), (20, .long y20_17), (18, .long y18_16), (16, .long y16_15), (14, .long y14_14), (12, .long y12_13), (11, .int a_8), (9, .long a_9), (7, .long a_10), (5, .long a_11), (0, .ref z), (1, .int x1), (2, .int x2), (3, .long x3)]) hx hb dX5_bitTold_103 hl (by decide) rfl (fun ls hl => ?_)
          refine lv_lload hx hb dX5_bitTold_105 (lv_at hl 2 rfl) ?_
          refine lv_lload hx hb dX5_bitTold_107 (lv_at hl 1 rfl) ?_
          refine lv_land hx hb dX5_bitTold_109 ?_
          refine lv_topl (fun y7_26 e_y7_26 => ?_)
          have h := gx_let e_y7_26 h
          refine lv_lstore (lv' := [(7, .long y7_26), (22, .long r_24), (20, .long y20_17), (18, .long y18_16), (16, .long y16_15), (14, .long y14_14), (12, .long y12_13), (11, .int a_8), (9, .long a_9), (5, .long a_11), (0, .ref z), (1, .int x1), (2, .int x2), (3, .long x3)]) hx hb dX5_bitTold_110 hl (by decide) rfl (fun ls hl => ?_)
          refine lv_lload hx hb dX5_bitTold_112 (lv_at hl 4 rfl) ?_
          refine lv_lload hx hb dX5_bitTold_114 (lv_at hl 5 rfl) ?_
          refine lv_lload hx hb dX5_bitTold_116 (lv_at hl 1 rfl) ?_
          refine lv_lxor hx hb dX5_bitTold_118 ?_
          refine lv_lload hx hb dX5_bitTold_119 (lv_at hl 2 rfl) ?_
          refine lv_land hx hb dX5_bitTold_121 ?_
          refine lv_lor hx hb dX5_bitTold_122 ?_
          refine lv_lload hx hb dX5_bitTold_123 (lv_at hl 0 rfl) ?_
          refine lv_ldc2 hx hb hown k65 dX5_bitTold_125 ?_
          refine lv_lxor hx hb dX5_bitTold_128 ?_
          refine lv_land hx hb dX5_bitTold_129 ?_
          refine lv_topl (fun y5_27 e_y5_27 => ?_)
          have h := gx_let e_y5_27 h
          refine lv_lstore (lv' := [(5, .long y5_27), (7, .long y7_26), (22, .long r_24), (20, .long y20_17), (18, .long y18_16), (16, .long y16_15), (14, .long y14_14), (12, .long y12_13), (11, .int a_8), (9, .long a_9), (0, .ref z), (1, .int x1), (2, .int x2), (3, .long x3)]) hx hb dX5_bitTold_130 hl (by decide) rfl (fun ls hl => ?_)
          refine lv_lload hx hb dX5_bitTold_132 (lv_at hl 9 rfl) ?_
          refine lv_iload hx hb dX5_bitTold_134 (lv_at hl 8 rfl) ?_
          refine lv_lushr (v := (gLushr a_9 a_8)) hx hb dX5_bitTold_136 rfl ?_
          refine lv_topl (fun y9_28 e_y9_28 => ?_)
          have h := gx_let e_y9_28 h
          refine lv_lstore (lv' := [(9, .long y9_28), (5, .long y5_27), (7, .long y7_26), (22, .long r_24), (20, .long y20_17), (18, .long y18_16), (16, .long y16_15), (14, .long y14_14), (12, .long y12_13), (11, .int a_8), (0, .ref z), (1, .int x1), (2, .int x2), (3, .long x3)]) hx hb dX5_bitTold_137 hl (by decide) rfl (fun ls hl => ?_)
          have hl := lv_sub (l' := [(9, .long y9_28), (5, .long y5_27), (7, .long y7_26), (20, .long y20_17), (18, .long y18_16), (16, .long y16_15), (14, .long y14_14), (12, .long y12_13), (11, .int a_8), (0, .ref z), (1, .int x1), (2, .int x2), (3, .long x3)]) hl [0, 1, 2, 4, 5, 6, 7, 8, 9, 10, 11, 12, 13] rfl
          cases h
          exact hJ139 _ _ _ ⟨hP, hD, hS, hl⟩
        · have h := gx_t c_23 h
          refine lv_lload hx hb dX5_bitTold_69 (lv_at hl 1 rfl) ?_
          refine lv_lload hx hb dX5_bitTold_71 (lv_at hl 0 rfl) ?_
          refine lv_lor hx hb dX5_bitTold_73 ?_
          refine lv_topl (fun y7_29 e_y7_29 => ?_)
          have h := gx_let e_y7_29 h
          refine lv_lstore (lv' := [(7, .long y7_29), (20, .long y20_17), (18, .long y18_16), (16, .long y16_15), (14, .long y14_14), (12, .long y12_13), (11, .int a_8), (9, .long a_9), (5, .long a_11), (0, .ref z), (1, .int x1), (2, .int x2), (3, .long x3)]) hx hb dX5_bitTold_74 hl (by decide) rfl (fun ls hl => ?_)
          refine lv_lload hx hb dX5_bitTold_76 (lv_at hl 4 rfl) ?_
          refine lv_lload hx hb dX5_bitTold_78 (lv_at hl 3 rfl) ?_
          refine lv_lxor hx hb dX5_bitTold_80 ?_
          refine lv_lload hx hb dX5_bitTold_81 (lv_at hl 0 rfl) ?_
          refine lv_ldc2 hx hb hown k65 dX5_bitTold_83 ?_
          refine lv_lxor hx hb dX5_bitTold_86 ?_
          refine lv_land hx hb dX5_bitTold_87 ?_
          refine lv_topl (fun y5_30 e_y5_30 => ?_)
          have h := gx_let e_y5_30 h
          refine lv_lstore (lv' := [(5, .long y5_30), (7, .long y7_29), (20, .long y20_17), (18, .long y18_16), (16, .long y16_15), (14, .long y14_14), (12, .long y12_13), (11, .int a_8), (9, .long a_9), (0, .ref z), (1, .int x1), (2, .int x2), (3, .long x3)]) hx hb dX5_bitTold_88 hl (by decide) rfl (fun ls hl => ?_)
          refine lv_goto (tgt := 139) hx hb dX5_bitTold_90 (by decide) ?_
          have hl := lv_sub (l' := [(9, .long a_9), (5, .long y5_30), (7, .long y7_29), (20, .long y20_17), (18, .long y18_16), (16, .long y16_15), (14, .long y14_14), (12, .long y12_13), (11, .int a_8), (0, .ref z), (1, .int x1), (2, .int x2), (3, .long x3)]) hl [8, 0, 1, 2, 3, 4, 5, 6, 7, 9, 10, 11, 12] rfl
          cases h
          exact hJ139 _ _ _ ⟨hP, hD, hS, hl⟩
def fL_X5_passGood_5 (K : Nat) (l1 : Int32) (l2 : Int32) (u0_0 : Int32) (u0_3 : Int32) (u0_6 : Int64) (u0_7 : Int64) (u1 : Nat → Int64) : Nat → Int32 × Int32 × (Nat → Int64) → Option (Int32 × Int32 × (Nat → Int64))
  | 0, _ => none
  | k + 1, (l4, l3, u2) =>
    if u0_3 ≤ l4 then
      some (l4, l3, u2)
    else
      if u0_0 ≤ l3 then
        some (l4, l3, u2)
      else
        gIx l4 64 <|
        Option.bind (f_X5_bitTold K l1 l2 (u1 (Int32.toNatClampNeg l4)) u0_6 u0_7) fun r_20 =>
        Option.bind (
          if r_20 = 1 then
            some (l3, u2)
          else
            gIx l4 64 <|
            gLet (u1 (Int32.toNatClampNeg l4)) fun y_24 =>
            gIx l3 64 <|
            gLet (vp_updL u2 (Int32.toNatClampNeg l3) y_24) fun w_25 =>
            gLet (l3 + 1) fun y3_26 =>
            some (y3_26, w_25)) fun (m3_21, mc_22) =>
        if r_20 = 0 then
          gLet (l4 + 1) fun y4_28 =>
          fL_X5_passGood_5 K l1 l2 u0_0 u0_3 u0_6 u0_7 u1 k (y4_28, m3_21, mc_22)
        else
          if u0_0 ≤ m3_21 then
            gLet (l4 + 1) fun y4_30 =>
            fL_X5_passGood_5 K l1 l2 u0_0 u0_3 u0_6 u0_7 u1 k (y4_30, m3_21, mc_22)
          else
            gIx l4 64 <|
            gLet ((u1 (Int32.toNatClampNeg l4)) ||| (gLshl 1 l2)) fun y_31 =>
            gIx m3_21 64 <|
            gLet (vp_updL mc_22 (Int32.toNatClampNeg m3_21) y_31) fun w_32 =>
            gLet (m3_21 + 1) fun y3_33 =>
            gLet (l4 + 1) fun y4_34 =>
            fL_X5_passGood_5 K l1 l2 u0_0 u0_3 u0_6 u0_7 u1 k (y4_34, y3_33, w_32)
def f_X5_passGood (K : Nat) (x1 : Int32) (x2 : Int32) (v_width : Int32) (v_left : Int32) (v_seenOnes : Int64) (v_seenLost : Int64) (v_pathsc : Nat → Int64) (v_nextPathsc : Nat → Int64) : Option (Int32 × (Nat → Int64)) :=
  Option.bind (fL_X5_passGood_5 K x1 x2 v_width v_left v_seenOnes v_seenLost v_pathsc K (0, 0, v_nextPathsc)) fun (o_35, o_36, o_37) =>
  some (o_36, o_37)
set_option maxHeartbeats 4000000 in
set_option maxRecDepth 100000 in
theorem c_X5_passGood (l : Launch) (D : va_G) (cy : Nat → ClassId) (t sz K : Nat) (z : Nat) (z_paths : Nat) (z_nextPaths : Nat) (v_width : Int32) (v_checkMask : Int64) (v_hasRead : Int32) (v_left : Int32) (v_seenOnes : Int64) (v_seenLost : Int64) (v_pathsc : Nat → Int64) (v_nextPathsc : Nat → Int64) (x1 : Int32) (x2 : Int32) (r_ : Int32) (o_v_nextPathsc : Nat → Int64) (h : f_X5_passGood K x1 x2 v_width v_left v_seenOnes v_seenLost v_pathsc v_nextPathsc = some (r_, o_v_nextPathsc)) : gMi l D cy t sz yX5_passGood wsX5_passGood 2 68 [.ref z, .int x1, .int x2] [(z, .inr (4, [.int v_width, .long v_checkMask, .int v_hasRead, .int v_left, .ref z_paths, .ref z_nextPaths, .long v_seenOnes, .long v_seenLost])), (z_paths, .inl (cy 1, 64, .inr (.inl v_pathsc))), (z_nextPaths, .inl (cy 1, 64, .inr (.inl v_nextPathsc)))] r_ [(z, .inr (4, [.int v_width, .long v_checkMask, .int v_hasRead, .int v_left, .ref z_paths, .ref z_nextPaths, .long v_seenOnes, .long v_seenLost])), (z_paths, .inl (cy 1, 64, .inr (.inl v_pathsc))), (z_nextPaths, .inl (cy 1, 64, .inr (.inl o_v_nextPathsc)))] := by
  refine gBi (cc := cX5_passGood) (maxL := 6) (ret := (some .int)) (by decide) rfl (Nat.le_of_ble_eq_true rfl) ?_
  intro p e s m below meth c A ls hAt hl
  obtain ⟨hx, hb, hml, hr, hts, hown, hlocks, hin, hK, hG, hA, hP, hD⟩ := hAt
  have hS : va_S A s.heap s.heap [] := va_S.rf
  have hl : lv_has ls 6 [(0, .ref z), (1, .int x1), (2, .int x2)] := hl
  have f26 := hts (.fieldLink RX5 26 "PlainLines$Reader" "left" "I") (by decide +kernel)
  have iX5 := (by decide +kernel : ∀ w ∈ u_ws RX5 TX5 8, w ∈ wsX5_passGood)
  have f9 := hts (.fieldLink RX5 9 "PlainLines$Reader" "width" "I") (by decide +kernel)
  have f15 := hts (.fieldLink RX5 15 "PlainLines$Reader" "paths" "[J") (by decide +kernel)
  have f19 := hts (.fieldLink RX5 19 "PlainLines$Reader" "nextPaths" "[J") (by decide +kernel)
  rw [f_X5_passGood] at h
  refine lv_iconst (v := 0) hx hb dX5_passGood_0 (by decide) ?_
  refine lv_istore_n (lv' := [(3, .int 0), (0, .ref z), (1, .int x1), (2, .int x2)]) hx hb dX5_passGood_1 rfl hl (by decide) rfl (fun ls hl => ?_)
  refine lv_iconst (v := 0) hx hb dX5_passGood_2 (by decide) ?_
  refine lv_istore (lv' := [(4, .int 0), (3, .int 0), (0, .ref z), (1, .int x1), (2, .int x2)]) hx hb dX5_passGood_3 hl (by decide) rfl (fun ls hl => ?_)
  obtain ⟨⟨o_1, o_2, o_3⟩, hL_4, h⟩ := gx_b h
  refine gJoin (Pj := fun H locs ls => va_P D vwCl [(z, .inr (4, [.int v_width, .long v_checkMask, .int v_hasRead, .int v_left, .ref z_paths, .ref z_nextPaths, .long v_seenOnes, .long v_seenLost])), (z_paths, .inl (cy 1, 64, .inr (.inl v_pathsc))), (z_nextPaths, .inl (cy 1, 64, .inr (.inl o_3)))] H ∧ va_D A [(z, .inr (4, [.int v_width, .long v_checkMask, .int v_hasRead, .int v_left, .ref z_paths, .ref z_nextPaths, .long v_seenOnes, .long v_seenLost])), (z_paths, .inl (cy 1, 64, .inr (.inl v_pathsc))), (z_nextPaths, .inl (cy 1, 64, .inr (.inl o_3)))] ∧ va_S A s.heap H locs ∧ lv_has ls 6 [(4, .int o_1), (3, .int o_2), (0, .ref z), (1, .int x1), (2, .int x2)]) (pcM := 98) (st := []) ?_ (fun hJ98 => ?_)
  · intro H locs ls hp_
    obtain ⟨hP, hD, hS, hl⟩ := hp_
    clear hL_4
    refine lv_iload_n hx hb dX5_passGood_98 rfl (lv_at hl 1 rfl) ?_
    cases h
    exact gRi hx hb hr hlocks hP hD hS dX5_passGood_99
  · refine gLoop (Hy := fun k_ v_ => fL_X5_passGood_5 K x1 x2 v_width v_left v_seenOnes v_seenLost v_pathsc k_ v_ = some (o_1, o_2, o_3)) (Pl := fun (v_ : Int32 × Int32 × (Nat → Int64)) H locs ls => match v_ with | (a_5, a_6, a_7) => va_P D vwCl [(z, .inr (4, [.int v_width, .long v_checkMask, .int v_hasRead, .int v_left, .ref z_paths, .ref z_nextPaths, .long v_seenOnes, .long v_seenLost])), (z_paths, .inl (cy 1, 64, .inr (.inl v_pathsc))), (z_nextPaths, .inl (cy 1, 64, .inr (.inl a_7)))] H ∧ va_D A [(z, .inr (4, [.int v_width, .long v_checkMask, .int v_hasRead, .int v_left, .ref z_paths, .ref z_nextPaths, .long v_seenOnes, .long v_seenLost])), (z_paths, .inl (cy 1, 64, .inr (.inl v_pathsc))), (z_nextPaths, .inl (cy 1, 64, .inr (.inl a_7)))] ∧ va_S A s.heap H locs ∧ lv_has ls 6 [(4, .int a_5), (3, .int a_6), (0, .ref z), (1, .int x1), (2, .int x2)]) (pcH := 5) (fun _ q_ => by cases q_) ?_ K (0, 0, v_nextPathsc) hL_4 ⟨hP, hD, hS, hl⟩
    clear hL_4 h hP hD hS hl
    intro k_ ih ⟨a_5, a_6, a_7⟩ H locs ls h hp_
    obtain ⟨hP, hD, hS, hl⟩ := hp_
    have hP : va_P D vwCl [(z, .inr (4, [.int v_width, .long v_checkMask, .int v_hasRead, .int v_left, .ref z_paths, .ref z_nextPaths, .long v_seenOnes, .long v_seenLost])), (z_paths, .inl (cy 1, 64, .inr (.inl v_pathsc))), (z_nextPaths, .inl (cy 1, 64, .inr (.inl a_7)))] H := hP
    have hD : va_D A [(z, .inr (4, [.int v_width, .long v_checkMask, .int v_hasRead, .int v_left, .ref z_paths, .ref z_nextPaths, .long v_seenOnes, .long v_seenLost])), (z_paths, .inl (cy 1, 64, .inr (.inl v_pathsc))), (z_nextPaths, .inl (cy 1, 64, .inr (.inl a_7)))] := hD
    have hl : lv_has ls 6 [(4, .int a_5), (3, .int a_6), (0, .ref z), (1, .int x1), (2, .int x2)] := hl
    change fL_X5_passGood_5 K x1 x2 v_width v_left v_seenOnes v_seenLost v_pathsc (k_ + 1) (a_5, a_6, a_7) = _ at h
    rw [fL_X5_passGood_5] at h
    refine lv_iload hx hb dX5_passGood_5 (lv_at hl 0 rfl) ?_
    refine lv_aload_n hx hb dX5_passGood_7 rfl (lv_at hl 2 rfl) ?_
    refine va_get (D := D) (ci := 4) (v := .int v_left) (C := RX5) (T := TX5) (N := 8) hx hb hts iX5 hown hK hP 0 rfl rfl 3 (by decide) f26 (fun _ h9 => h9) rfl dX5_passGood_8 ?_
    refine lv_icmp_ge (tgt := 98) hx hb dX5_passGood_11 (by decide) (fun c_8 => ?_) (fun c_8 => ?_)
    · have h := gx_t c_8 h
      have hl := lv_sub (l' := [(4, .int a_5), (3, .int a_6), (0, .ref z), (1, .int x1), (2, .int x2)]) hl [0, 1, 2, 3, 4] rfl
      cases h
      exact hJ98 _ _ _ ⟨hP, hD, hS, hl⟩
    · have h := gx_f c_8 h
      refine lv_iload_n hx hb dX5_passGood_14 rfl (lv_at hl 1 rfl) ?_
      refine lv_aload_n hx hb dX5_passGood_15 rfl (lv_at hl 2 rfl) ?_
      refine va_get (D := D) (ci := 4) (v := .int v_width) (C := RX5) (T := TX5) (N := 8) hx hb hts iX5 hown hK hP 0 rfl rfl 0 (by decide) f9 (fun _ h9 => h9) rfl dX5_passGood_16 ?_
      refine lv_icmp_ge (tgt := 98) hx hb dX5_passGood_19 (by decide) (fun c_9 => ?_) (fun c_9 => ?_)
      · have h := gx_t c_9 h
        have hl := lv_sub (l' := [(4, .int a_5), (3, .int a_6), (0, .ref z), (1, .int x1), (2, .int x2)]) hl [0, 1, 2, 3, 4] rfl
        cases h
        exact hJ98 _ _ _ ⟨hP, hD, hS, hl⟩
      · have h := gx_f c_9 h
        refine lv_aload_n hx hb dX5_passGood_22 rfl (lv_at hl 2 rfl) ?_
        refine lv_iload_n hx hb dX5_passGood_23 rfl (lv_at hl 3 rfl) ?_
        refine lv_iload_n hx hb dX5_passGood_24 rfl (lv_at hl 4 rfl) ?_
        refine lv_aload_n hx hb dX5_passGood_25 rfl (lv_at hl 2 rfl) ?_
        refine va_get (D := D) (ci := 4) (v := .ref z_paths) (C := RX5) (T := TX5) (N := 8) hx hb hts iX5 hown hK hP 0 rfl rfl 4 (by decide) f15 (fun _ h9 => h9) rfl dX5_passGood_26 ?_
        refine lv_iload hx hb dX5_passGood_29 (lv_at hl 0 rfl) ?_
        obtain ⟨hi_, h⟩ := gx_ix h
        refine va_lald hx hb hK hP 1 1 rfl rfl hi_ dX5_passGood_31 ?_
        obtain ⟨r_10, hc_11, h⟩ := gx_b h
        refine gCalli (wr := [(z_paths, .inl (cy 1, 64, .inr (.inl v_pathsc))), (z_nextPaths, .inl (cy 1, 64, .inr (.inl a_7)))]) (va_runV (As := [.int x1, .int x2, .long (v_pathsc (Int32.toNatClampNeg a_5))]) (rest := []) ⟨hx, hb, hml, hown, hts⟩ (c_X5_bitTold l D cy t H.size K z z_paths z_nextPaths v_width v_checkMask v_hasRead v_left v_seenOnes v_seenLost x1 x2 (v_pathsc (Int32.toNatClampNeg a_5)) r_10 hc_11) (cwV 3 hts gX5_passGood_X5_bitTold rfl rfl rfl (by decide +kernel) ⟨Nat.le_of_ble_eq_true rfl, Nat.le_of_ble_eq_true rfl⟩) ⟨gBlind, va_recv hK hP (ci := 4) (q0 := 0) rfl rfl, fun U hU hW => ⟨rfl, gPre.call hK hG hA hP hD hS [0] (by decide) rfl U hU hW⟩⟩ rfl rfl hl.1 rfl (lv_room (Nat.le_of_ble_eq_true rfl)) dX5_passGood_32 ⟨Nat.le_of_ble_eq_true rfl, Nat.le_of_ble_eq_true rfl⟩) hA hP hD hS [0] [1, 2] rfl rfl (by decide) (by decide) (fun H locs hP hD hS => ?_)
        have hP := hP.sub (ws' := [(z, .inr (4, [.int v_width, .long v_checkMask, .int v_hasRead, .int v_left, .ref z_paths, .ref z_nextPaths, .long v_seenOnes, .long v_seenLost])), (z_paths, .inl (cy 1, 64, .inr (.inl v_pathsc))), (z_nextPaths, .inl (cy 1, 64, .inr (.inl a_7)))]) [2, 0, 1] rfl
        have hD := hD.sub (ws' := [(z, .inr (4, [.int v_width, .long v_checkMask, .int v_hasRead, .int v_left, .ref z_paths, .ref z_nextPaths, .long v_seenOnes, .long v_seenLost])), (z_paths, .inl (cy 1, 64, .inr (.inl v_pathsc))), (z_nextPaths, .inl (cy 1, 64, .inr (.inl a_7)))]) [2, 0, 1] (by decide) rfl
        refine lv_istore (lv' := [(5, .int r_10), (4, .int a_5), (3, .int a_6), (0, .ref z), (1, .int x1), (2, .int x2)]) hx hb dX5_passGood_35 hl (by decide) rfl (fun ls hl => ?_)
        refine lv_iload hx hb dX5_passGood_37 (lv_at hl 0 rfl) ?_
        refine lv_iconst (v := 1) hx hb dX5_passGood_39 (by decide) ?_
        obtain ⟨⟨m3_12, mc_13⟩, hR_14, h⟩ := gx_b h
        refine gJoin (Pj := fun H locs ls => va_P D vwCl [(z, .inr (4, [.int v_width, .long v_checkMask, .int v_hasRead, .int v_left, .ref z_paths, .ref z_nextPaths, .long v_seenOnes, .long v_seenLost])), (z_paths, .inl (cy 1, 64, .inr (.inl v_pathsc))), (z_nextPaths, .inl (cy 1, 64, .inr (.inl mc_13)))] H ∧ va_D A [(z, .inr (4, [.int v_width, .long v_checkMask, .int v_hasRead, .int v_left, .ref z_paths, .ref z_nextPaths, .long v_seenOnes, .long v_seenLost])), (z_paths, .inl (cy 1, 64, .inr (.inl v_pathsc))), (z_nextPaths, .inl (cy 1, 64, .inr (.inl mc_13)))] ∧ va_S A s.heap H locs ∧ lv_has ls 6 [(5, .int r_10), (4, .int a_5), (3, .int m3_12), (0, .ref z), (1, .int x1), (2, .int x2)]) (pcM := 59) (st := []) ?_ (fun hJ59 => ?_)
        · intro H locs ls hp_
          obtain ⟨hP, hD, hS, hl⟩ := hp_
          clear hR_14
          refine lv_iload hx hb dX5_passGood_59 (lv_at hl 0 rfl) ?_
          refine lv_if_eq (tgt := 92) hx hb dX5_passGood_61 (by decide) (fun c_15 => ?_) (fun c_15 => ?_)
          · have h := gx_t c_15 h
            obtain ⟨y4_16, e_y4_16⟩ : ∃ y : Int32, y = (a_5 + 1) := ⟨_, rfl⟩
            have h := gx_let e_y4_16 h
            refine lv_iinc (v := y4_16) (lv' := [(4, .int y4_16), (5, .int r_10), (3, .int m3_12), (0, .ref z), (1, .int x1), (2, .int x2)]) hx hb dX5_passGood_92 hl (k := 1) rfl (by rw [e_y4_16]; rfl) (by decide) rfl (fun ls hl => ?_)
            refine lv_goto (tgt := 5) hx hb dX5_passGood_95 (by decide) ?_
            exact ih (y4_16, m3_12, mc_13) _ _ _ h ⟨hP, hD, hS, lv_sub (l' := [(4, .int y4_16), (3, .int m3_12), (0, .ref z), (1, .int x1), (2, .int x2)]) hl [0, 2, 3, 4, 5] rfl⟩
          · have h := gx_f c_15 h
            refine lv_iload_n hx hb dX5_passGood_64 rfl (lv_at hl 2 rfl) ?_
            refine lv_aload_n hx hb dX5_passGood_65 rfl (lv_at hl 3 rfl) ?_
            refine va_get (D := D) (ci := 4) (v := .int v_width) (C := RX5) (T := TX5) (N := 8) hx hb hts iX5 hown hK hP 0 rfl rfl 0 (by decide) f9 (fun _ h9 => h9) rfl dX5_passGood_66 ?_
            refine lv_icmp_ge (tgt := 92) hx hb dX5_passGood_69 (by decide) (fun c_17 => ?_) (fun c_17 => ?_)
            · have h := gx_t c_17 h
              obtain ⟨y4_18, e_y4_18⟩ : ∃ y : Int32, y = (a_5 + 1) := ⟨_, rfl⟩
              have h := gx_let e_y4_18 h
              refine lv_iinc (v := y4_18) (lv' := [(4, .int y4_18), (5, .int r_10), (3, .int m3_12), (0, .ref z), (1, .int x1), (2, .int x2)]) hx hb dX5_passGood_92 hl (k := 1) rfl (by rw [e_y4_18]; rfl) (by decide) rfl (fun ls hl => ?_)
              refine lv_goto (tgt := 5) hx hb dX5_passGood_95 (by decide) ?_
              exact ih (y4_18, m3_12, mc_13) _ _ _ h ⟨hP, hD, hS, lv_sub (l' := [(4, .int y4_18), (3, .int m3_12), (0, .ref z), (1, .int x1), (2, .int x2)]) hl [0, 2, 3, 4, 5] rfl⟩
            · have h := gx_f c_17 h
              refine lv_aload_n hx hb dX5_passGood_72 rfl (lv_at hl 3 rfl) ?_
              refine va_get (D := D) (ci := 4) (v := .ref z_nextPaths) (C := RX5) (T := TX5) (N := 8) hx hb hts iX5 hown hK hP 0 rfl rfl 5 (by decide) f19 (fun _ h9 => h9) rfl dX5_passGood_73 ?_
              refine lv_iload_n hx hb dX5_passGood_76 rfl (lv_at hl 2 rfl) ?_
              refine lv_aload_n hx hb dX5_passGood_77 rfl (lv_at hl 3 rfl) ?_
              refine va_get (D := D) (ci := 4) (v := .ref z_paths) (C := RX5) (T := TX5) (N := 8) hx hb hts iX5 hown hK hP 0 rfl rfl 4 (by decide) f15 (fun _ h9 => h9) rfl dX5_passGood_78 ?_
              refine lv_iload hx hb dX5_passGood_81 (lv_at hl 1 rfl) ?_
              obtain ⟨hi_, h⟩ := gx_ix h
              refine va_lald hx hb hK hP 1 1 rfl rfl hi_ dX5_passGood_83 ?_
              refine lv_lconst (v := 1) hx hb dX5_passGood_84 (by decide) ?_
              refine lv_iload_n hx hb dX5_passGood_85 rfl (lv_at hl 5 rfl) ?_
              refine lv_lshl (v := (gLshl 1 x2)) hx hb dX5_passGood_86 rfl ?_
              refine lv_lor hx hb dX5_passGood_87 ?_
              refine lv_topl (fun y_19 e_y_19 => ?_)
              have h := gx_let e_y_19 h
              obtain ⟨hi_, h⟩ := gx_ix h
              refine va_last hx hb hK hP hD hS 2 1 rfl rfl hi_ dX5_passGood_88 (fun H locs hP hD hS => ?_)
              obtain ⟨w_20, e_w_20⟩ : ∃ y : Nat → Int64, y = (vp_updL mc_13 (Int32.toNatClampNeg m3_12) y_19) := ⟨_, rfl⟩
              have h := gx_let e_w_20 h
              have hP : va_P D vwCl [(z, .inr (4, [.int v_width, .long v_checkMask, .int v_hasRead, .int v_left, .ref z_paths, .ref z_nextPaths, .long v_seenOnes, .long v_seenLost])), (z_paths, .inl (cy 1, 64, .inr (.inl v_pathsc))), (z_nextPaths, .inl (cy 1, 64, .inr (.inl (vp_updL mc_13 (Int32.toNatClampNeg m3_12) y_19))))] H := hP
              have hD : va_D A [(z, .inr (4, [.int v_width, .long v_checkMask, .int v_hasRead, .int v_left, .ref z_paths, .ref z_nextPaths, .long v_seenOnes, .long v_seenLost])), (z_paths, .inl (cy 1, 64, .inr (.inl v_pathsc))), (z_nextPaths, .inl (cy 1, 64, .inr (.inl (vp_updL mc_13 (Int32.toNatClampNeg m3_12) y_19))))] := hD
              rw [← e_w_20] at hP hD
              obtain ⟨y3_21, e_y3_21⟩ : ∃ y : Int32, y = (m3_12 + 1) := ⟨_, rfl⟩
              have h := gx_let e_y3_21 h
              refine lv_iinc (v := y3_21) (lv' := [(3, .int y3_21), (5, .int r_10), (4, .int a_5), (0, .ref z), (1, .int x1), (2, .int x2)]) hx hb dX5_passGood_89 hl (k := 2) rfl (by rw [e_y3_21]; rfl) (by decide) rfl (fun ls hl => ?_)
              obtain ⟨y4_22, e_y4_22⟩ : ∃ y : Int32, y = (a_5 + 1) := ⟨_, rfl⟩
              have h := gx_let e_y4_22 h
              refine lv_iinc (v := y4_22) (lv' := [(4, .int y4_22), (3, .int y3_21), (5, .int r_10), (0, .ref z), (1, .int x1), (2, .int x2)]) hx hb dX5_passGood_92 hl (k := 2) rfl (by rw [e_y4_22]; rfl) (by decide) rfl (fun ls hl => ?_)
              refine lv_goto (tgt := 5) hx hb dX5_passGood_95 (by decide) ?_
              exact ih (y4_22, y3_21, w_20) _ _ _ h ⟨hP, hD, hS, lv_sub (l' := [(4, .int y4_22), (3, .int y3_21), (0, .ref z), (1, .int x1), (2, .int x2)]) hl [0, 1, 3, 4, 5] rfl⟩
        · have h := hR_14
          refine lv_icmp_eq (tgt := 59) hx hb dX5_passGood_40 (by decide) (fun c_23 => ?_) (fun c_23 => ?_)
          · have h := gx_t c_23 h
            have hl := lv_sub (l' := [(5, .int r_10), (4, .int a_5), (3, .int a_6), (0, .ref z), (1, .int x1), (2, .int x2)]) hl [0, 1, 2, 3, 4, 5] rfl
            cases h
            exact hJ59 _ _ _ ⟨hP, hD, hS, hl⟩
          · have h := gx_f c_23 h
            refine lv_aload_n hx hb dX5_passGood_43 rfl (lv_at hl 3 rfl) ?_
            refine va_get (D := D) (ci := 4) (v := .ref z_nextPaths) (C := RX5) (T := TX5) (N := 8) hx hb hts iX5 hown hK hP 0 rfl rfl 5 (by decide) f19 (fun _ h9 => h9) rfl dX5_passGood_44 ?_
            refine lv_iload_n hx hb dX5_passGood_47 rfl (lv_at hl 2 rfl) ?_
            refine lv_aload_n hx hb dX5_passGood_48 rfl (lv_at hl 3 rfl) ?_
            refine va_get (D := D) (ci := 4) (v := .ref z_paths) (C := RX5) (T := TX5) (N := 8) hx hb hts iX5 hown hK hP 0 rfl rfl 4 (by decide) f15 (fun _ h9 => h9) rfl dX5_passGood_49 ?_
            refine lv_iload hx hb dX5_passGood_52 (lv_at hl 1 rfl) ?_
            obtain ⟨hi_, h⟩ := gx_ix h
            refine va_lald hx hb hK hP 1 1 rfl rfl hi_ dX5_passGood_54 ?_
            refine lv_topl (fun y_24 e_y_24 => ?_)
            have h := gx_let e_y_24 h
            obtain ⟨hi_, h⟩ := gx_ix h
            refine va_last hx hb hK hP hD hS 2 1 rfl rfl hi_ dX5_passGood_55 (fun H locs hP hD hS => ?_)
            obtain ⟨w_25, e_w_25⟩ : ∃ y : Nat → Int64, y = (vp_updL a_7 (Int32.toNatClampNeg a_6) y_24) := ⟨_, rfl⟩
            have h := gx_let e_w_25 h
            have hP : va_P D vwCl [(z, .inr (4, [.int v_width, .long v_checkMask, .int v_hasRead, .int v_left, .ref z_paths, .ref z_nextPaths, .long v_seenOnes, .long v_seenLost])), (z_paths, .inl (cy 1, 64, .inr (.inl v_pathsc))), (z_nextPaths, .inl (cy 1, 64, .inr (.inl (vp_updL a_7 (Int32.toNatClampNeg a_6) y_24))))] H := hP
            have hD : va_D A [(z, .inr (4, [.int v_width, .long v_checkMask, .int v_hasRead, .int v_left, .ref z_paths, .ref z_nextPaths, .long v_seenOnes, .long v_seenLost])), (z_paths, .inl (cy 1, 64, .inr (.inl v_pathsc))), (z_nextPaths, .inl (cy 1, 64, .inr (.inl (vp_updL a_7 (Int32.toNatClampNeg a_6) y_24))))] := hD
            rw [← e_w_25] at hP hD
            obtain ⟨y3_26, e_y3_26⟩ : ∃ y : Int32, y = (a_6 + 1) := ⟨_, rfl⟩
            have h := gx_let e_y3_26 h
            refine lv_iinc (v := y3_26) (lv' := [(3, .int y3_26), (5, .int r_10), (4, .int a_5), (0, .ref z), (1, .int x1), (2, .int x2)]) hx hb dX5_passGood_56 hl (k := 2) rfl (by rw [e_y3_26]; rfl) (by decide) rfl (fun ls hl => ?_)
            have hl := lv_sub (l' := [(5, .int r_10), (4, .int a_5), (3, .int y3_26), (0, .ref z), (1, .int x1), (2, .int x2)]) hl [1, 2, 0, 3, 4, 5] rfl
            cases h
            exact hJ59 _ _ _ ⟨hP, hD, hS, hl⟩
