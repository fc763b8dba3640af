def f_X10_count (K : Nat) (x1 : Int32) (v_size : Int32) (v_isCounted : Int32) (v_basis : Int32) (v_isGoodc : Nat → Int32) (v_countsc : Nat → Int32) (v_acrossesc : Nat → Int32) (v_failingsc : Nat → Int32) (v_frozenc : Nat → Int32) (v_givenc : Nat → Int64) : Option (Int32 × Int32 × Int32 × (Nat → Int32) × (Nat → Int32) × (Nat → Int32) × (Nat → Int64)) :=
  Option.bind (f_X10_goods K v_size v_isGoodc) fun r_1 =>
  if r_1 ≤ 12 then
    Option.bind (f_X10_in K (Int32.toInt64 x1) 0 (Int32.toInt64 v_size)) fun r_3 =>
    if r_3 = 0 then
      some ((-2), v_isCounted, v_basis, v_countsc, v_acrossesc, v_failingsc, v_givenc)
    else
      Option.bind (f_X10_countAll K v_size v_isCounted v_basis v_countsc v_acrossesc v_failingsc v_isGoodc v_frozenc v_givenc) fun (o_5, o_6, o_7, o_8, o_9, o_10) =>
      gIx x1 33 <|
      some ((o_7 (Int32.toNatClampNeg x1)), o_5, o_6, o_7, o_8, o_9, o_10)
  else
    some ((-3), v_isCounted, v_basis, v_countsc, v_acrossesc, v_failingsc, v_givenc)
set_option maxHeartbeats 4000000 in
set_option maxRecDepth 100000 in
theorem c_X10_count (l : Launch) (D : va_G) (cy : Nat → ClassId) (t sz K : Nat) (z : Nat) (z_isGood : Nat) (z_counts : Nat) (z_acrosses : Nat) (z_failings : Nat) (z_frozen : Nat) (z_given : Nat) (z_sheetSize : Nat) (z_sheetLane : Nat) (z_sheet : Nat) (z_hands : Nat) (z_seen : Nat) (z_work : Nat) (z_known : Nat) (z_next : Nat) (v_fault : Int32) (v_size : Int32) (v_upper : Int32) (v_base : Int32) (v_wide : Int32) (v_mask : Int64) (v_paths : Int32) (v_come : Int32) (v_isCounted : Int32) (v_basis : Int32) (v_trace : Int32) (v_isGoodc : Nat → Int32) (v_countsc : Nat → Int32) (v_acrossesc : Nat → Int32) (v_failingsc : Nat → Int32) (v_frozenc : Nat → Int32) (v_givenc : Nat → Int64) (x1 : Int32) (r_ : Int32) (o_v_isCounted : Int32) (o_v_basis : Int32) (o_v_countsc : Nat → Int32) (o_v_acrossesc : Nat → Int32) (o_v_failingsc : Nat → Int32) (o_v_givenc : Nat → Int64) (h : f_X10_count K x1 v_size v_isCounted v_basis v_isGoodc v_countsc v_acrossesc v_failingsc v_frozenc v_givenc = some (r_, o_v_isCounted, o_v_basis, o_v_countsc, o_v_acrossesc, o_v_failingsc, o_v_givenc)) : gMi l D cy t sz yX10_count wsX10_count 3 69 [.ref z, .int x1] [(z, .inr (9, [.int v_fault, .int v_size, .int v_upper, .int v_base, .ref z_isGood, .ref z_frozen, .ref z_sheetSize, .ref z_sheetLane, .ref z_sheet, .ref z_hands, .int v_wide, .long v_mask, .int v_paths, .ref z_seen, .ref z_work, .ref z_known, .ref z_next, .int v_come, .int v_isCounted, .ref z_counts, .ref z_acrosses, .ref z_failings, .int v_basis, .ref z_given, .int v_trace])), (z_isGood, .inl (cy 2, 32, .inl v_isGoodc)), (z_counts, .inl (cy 0, 33, .inl v_countsc)), (z_acrosses, .inl (cy 0, 33, .inl v_acrossesc)), (z_failings, .inl (cy 0, 33, .inl v_failingsc)), (z_frozen, .inl (cy 0, 32, .inl v_frozenc)), (z_given, .inl (cy 1, 32, .inr (.inl v_givenc)))] r_ [(z, .inr (9, [.int v_fault, .int v_size, .int v_upper, .int v_base, .ref z_isGood, .ref z_frozen, .ref z_sheetSize, .ref z_sheetLane, .ref z_sheet, .ref z_hands, .int v_wide, .long v_mask, .int v_paths, .ref z_seen, .ref z_work, .ref z_known, .ref z_next, .int v_come, .int o_v_isCounted, .ref z_counts, .ref z_acrosses, .ref z_failings, .int o_v_basis, .ref z_given, .int v_trace])), (z_isGood, .inl (cy 2, 32, .inl v_isGoodc)), (z_counts, .inl (cy 0, 33, .inl o_v_countsc)), (z_acrosses, .inl (cy 0, 33, .inl o_v_acrossesc)), (z_failings, .inl (cy 0, 33, .inl o_v_failingsc)), (z_frozen, .inl (cy 0, 32, .inl v_frozenc)), (z_given, .inl (cy 1, 32, .inr (.inl o_v_givenc)))] := by
  refine gBi (cc := cX10_count) (maxL := 2) (ret := (some .int)) (by decide) rfl (Nat.le_of_ble_eq_true rfl) ?_
  intro p e s m below meth c A ls hAt hl
  obtain ⟨hx, hb, hml, hr, hts, hown, hlocks, hin, hK, hG, hA, hP, hD⟩ := hAt
  have hS : va_S A s.heap s.heap [] := va_S.rf
  have hl : lv_has ls 2 [(0, .ref z), (1, .int x1)] := hl
  have f54 := hts (.fieldLink RX10 54 "PlainLinesModel" "size" "I") (by decide +kernel)
  have iX10 := (by decide +kernel : ∀ w ∈ u_ws RX10 TX10 25, w ∈ wsX10_count)
  have f42 := hts (.fieldLink RX10 42 "PlainLinesModel" "counts" "[I") (by decide +kernel)
  rw [f_X10_count] at h
  refine lv_aload_n hx hb dX10_count_0 rfl (lv_at hl 0 rfl) ?_
  obtain ⟨r_1, hc_2, h⟩ := gx_b h
  refine gCalli (wr := [(z_counts, .inl (cy 0, 33, .inl v_countsc)), (z_acrosses, .inl (cy 0, 33, .inl v_acrossesc)), (z_failings, .inl (cy 0, 33, .inl v_failingsc)), (z_frozen, .inl (cy 0, 32, .inl v_frozenc)), (z_given, .inl (cy 1, 32, .inr (.inl v_givenc)))]) (va_runV (As := []) (rest := []) ⟨hx, hb, hml, hown, hts⟩ (c_X10_goods l D cy t s.heap.size K z z_isGood z_frozen z_sheetSize z_sheetLane z_sheet z_hands z_seen z_work z_known z_next z_counts z_acrosses z_failings z_given v_fault v_size v_upper v_base v_wide v_mask v_paths v_come v_isCounted v_basis v_trace v_isGoodc r_1 hc_2) (cwV 0 hts gX10_count_X10_goods rfl rfl rfl (by decide +kernel) ⟨Nat.le_of_ble_eq_true rfl, Nat.le_of_ble_eq_true rfl⟩) ⟨gBlind, va_recv hK hP (ci := 9) (q0 := 0) rfl rfl, fun U hU hW => ⟨rfl, gPre.call hK hG hA hP hD hS [0, 1] (by decide) rfl U hU hW⟩⟩ rfl rfl hl.1 rfl (lv_room (Nat.le_of_ble_eq_true rfl)) dX10_count_1 ⟨Nat.le_of_ble_eq_true rfl, Nat.le_of_ble_eq_true rfl⟩) hA hP hD hS [0, 1] [2, 3, 4, 5, 6] rfl rfl (by decide) (by decide) (fun H locs hP hD hS => ?_)
  have hP := hP.sub (ws' := [(z, .inr (9, [.int v_fault, .int v_size, .int v_upper, .int v_base, .ref z_isGood, .ref z_frozen, .ref z_sheetSize, .ref z_sheetLane, .ref z_sheet, .ref z_hands, .int v_wide, .long v_mask, .int v_paths, .ref z_seen, .ref z_work, .ref z_known, .ref z_next, .int v_come, .int v_isCounted, .ref z_counts, .ref z_acrosses, .ref z_failings, .int v_basis, .ref z_given, .int v_trace])), (z_isGood, .inl (cy 2, 32, .inl v_isGoodc)), (z_counts, .inl (cy 0, 33, .inl v_countsc)), (z_acrosses, .inl (cy 0, 33, .inl v_acrossesc)), (z_failings, .inl (cy 0, 33, .inl v_failingsc)), (z_frozen, .inl (cy 0, 32, .inl v_frozenc)), (z_given, .inl (cy 1, 32, .inr (.inl v_givenc)))]) [5, 6, 0, 1, 2, 3, 4] rfl
  have hD := hD.sub (ws' := [(z, .inr (9, [.int v_fault, .int v_size, .int v_upper, .int v_base, .ref z_isGood, .ref z_frozen, .ref z_sheetSize, .ref z_sheetLane, .ref z_sheet, .ref z_hands, .int v_wide, .long v_mask, .int v_paths, .ref z_seen, .ref z_work, .ref z_known, .ref z_next, .int v_come, .int v_isCounted, .ref z_counts, .ref z_acrosses, .ref z_failings, .int v_basis, .ref z_given, .int v_trace])), (z_isGood, .inl (cy 2, 32, .inl v_isGoodc)), (z_counts, .inl (cy 0, 33, .inl v_countsc)), (z_acrosses, .inl (cy 0, 33, .inl v_acrossesc)), (z_failings, .inl (cy 0, 33, .inl v_failingsc)), (z_frozen, .inl (cy 0, 32, .inl v_frozenc)), (z_given, .inl (cy 1, 32, .inr (.inl v_givenc)))]) [5, 6, 0, 1, 2, 3, 4] (by decide) rfl
  refine lv_bipush (v := 12) hx hb dX10_count_4 (by decide) ?_
  refine lv_icmp_le (tgt := 12) hx hb dX10_count_6 (by decide) (fun c_3 => ?_) (fun c_3 => ?_)
  · have h := gx_t c_3 h
    refine lv_iload_n hx hb dX10_count_12 rfl (lv_at hl 1 rfl) ?_
    refine lv_i2l (v := (Int32.toInt64 x1)) hx hb dX10_count_13 rfl ?_
    refine lv_lconst (v := 0) hx hb dX10_count_14 (by decide) ?_
    refine lv_aload_n hx hb dX10_count_15 rfl (lv_at hl 0 rfl) ?_
    refine va_get (D := D) (ci := 9) (v := .int v_size) (C := RX10) (T := TX10) (N := 25) hx hb hts iX10 hown hK hP 0 rfl rfl 1 (by decide) f54 (fun _ h9 => h9) rfl dX10_count_16 ?_
    refine lv_i2l (v := (Int32.toInt64 v_size)) hx hb dX10_count_19 rfl ?_
    obtain ⟨r_4, hc_5, h⟩ := gx_b h
    refine gCalli (wr := [(z, .inr (9, [.int v_fault, .int v_size, .int v_upper, .int v_base, .ref z_isGood, .ref z_frozen, .ref z_sheetSize, .ref z_sheetLane, .ref z_sheet, .ref z_hands, .int v_wide, .long v_mask, .int v_paths, .ref z_seen, .ref z_work, .ref z_known, .ref z_next, .int v_come, .int v_isCounted, .ref z_counts, .ref z_acrosses, .ref z_failings, .int v_basis, .ref z_given, .int v_trace])), (z_isGood, .inl (cy 2, 32, .inl v_isGoodc)), (z_counts, .inl (cy 0, 33, .inl v_countsc)), (z_acrosses, .inl (cy 0, 33, .inl v_acrossesc)), (z_failings, .inl (cy 0, 33, .inl v_failingsc)), (z_frozen, .inl (cy 0, 32, .inl v_frozenc)), (z_given, .inl (cy 1, 32, .inr (.inl v_givenc)))]) (va_runS (As := [.long (Int32.toInt64 x1), .long 0, .long (Int32.toInt64 v_size)]) (rest := []) ⟨hx, hb, hml, hown, hts⟩ (c_X10_in l D cy t H.size K (Int32.toInt64 x1) 0 (Int32.toInt64 v_size) r_4 hc_5) (va_cwS 3 hts gX10_count_X10_in rfl rfl rfl (by decide +kernel) ⟨Nat.le_of_ble_eq_true rfl, Nat.le_of_ble_eq_true rfl⟩) ⟨gBlind, fun U hU hW => ⟨rfl, gPre.call hK hG hA hP hD hS [] (by decide) rfl U hU hW⟩⟩ rfl rfl hl.1 rfl (lv_room (Nat.le_of_ble_eq_true rfl)) dX10_count_20 ⟨Nat.le_of_ble_eq_true rfl, Nat.le_of_ble_eq_true rfl⟩) hA hP hD hS [] [0, 1, 2, 3, 4, 5, 6] rfl rfl (by decide) (by decide) (fun H locs hP hD hS => ?_)
    have hP : va_P D vwCl [(z, .inr (9, [.int v_fault, .int v_size, .int v_upper, .int v_base, .ref z_isGood, .ref z_frozen, .ref z_sheetSize, .ref z_sheetLane, .ref z_sheet, .ref z_hands, .int v_wide, .long v_mask, .int v_paths, .ref z_seen, .ref z_work, .ref z_known, .ref z_next, .int v_come, .int v_isCounted, .ref z_counts, .ref z_acrosses, .ref z_failings, .int v_basis, .ref z_given, .int v_trace])), (z_isGood, .inl (cy 2, 32, .inl v_isGoodc)), (z_counts, .inl (cy 0, 33, .inl v_countsc)), (z_acrosses, .inl (cy 0, 33, .inl v_acrossesc)), (z_failings, .inl (cy 0, 33, .inl v_failingsc)), (z_frozen, .inl (cy 0, 32, .inl v_frozenc)), (z_given, .inl (cy 1, 32, .inr (.inl v_givenc)))] H := hP
    have hD : va_D A [(z, .inr (9, [.int v_fault, .int v_size, .int v_upper, .int v_base, .ref z_isGood, .ref z_frozen, .ref z_sheetSize, .ref z_sheetLane, .ref z_sheet, .ref z_hands, .int v_wide, .long v_mask, .int v_paths, .ref z_seen, .ref z_work, .ref z_known, .ref z_next, .int v_come, .int v_isCounted, .ref z_counts, .ref z_acrosses, .ref z_failings, .int v_basis, .ref z_given, .int v_trace])), (z_isGood, .inl (cy 2, 32, .inl v_isGoodc)), (z_counts, .inl (cy 0, 33, .inl v_countsc)), (z_acrosses, .inl (cy 0, 33, .inl v_acrossesc)), (z_failings, .inl (cy 0, 33, .inl v_failingsc)), (z_frozen, .inl (cy 0, 32, .inl v_frozenc)), (z_given, .inl (cy 1, 32, .inr (.inl v_givenc)))] := hD
    refine lv_if_ne (tgt := 29) hx hb dX10_count_23 (by decide) (fun c_6 => ?_) (fun c_6 => ?_)
    · have h := gx_f c_6 h
      refine lv_aload_n hx hb dX10_count_29 rfl (lv_at hl 0 rfl) ?_
      obtain ⟨⟨o_7, o_8, o_9, o_10, o_11, o_12⟩, hc_13, h⟩ := gx_b h
      refine gCallv (wr := []) (va_runV (As := []) (rest := []) ⟨hx, hb, hml, hown, hts⟩ (c_X10_countAll l D cy t H.size K z z_counts z_acrosses z_failings z_isGood z_frozen z_given z_sheetSize z_sheetLane z_sheet z_hands z_seen z_work z_known z_next v_fault v_size v_upper v_base v_wide v_mask v_paths v_come v_isCounted v_basis v_trace v_countsc v_acrossesc v_failingsc v_isGoodc v_frozenc v_givenc o_7 o_8 o_9 o_10 o_11 o_12 hc_13) (cwV 0 hts gX10_count_X10_countAll rfl rfl rfl (by decide +kernel) ⟨Nat.le_of_ble_eq_true rfl, Nat.le_of_ble_eq_true rfl⟩) ⟨gBlind, va_recv hK hP (ci := 9) (q0 := 0) rfl rfl, fun U hU hW => ⟨rfl, gPre.call hK hG hA hP hD hS [0, 2, 3, 4, 1, 5, 6] (by decide) rfl U hU hW⟩⟩ rfl rfl hl.1 rfl (lv_room (Nat.le_of_ble_eq_true rfl)) dX10_count_30 ⟨Nat.le_of_ble_eq_true rfl, Nat.le_of_ble_eq_true rfl⟩) hA hP hD hS [0, 2, 3, 4, 1, 5, 6] [] rfl rfl (by decide) (by decide) (fun H locs hP hD hS => ?_)
      have hP := hP.sub (ws' := [(z, .inr (9, [.int v_fault, .int v_size, .int v_upper, .int v_base, .ref z_isGood, .ref z_frozen, .ref z_sheetSize, .ref z_sheetLane, .ref z_sheet, .ref z_hands, .int v_wide, .long v_mask, .int v_paths, .ref z_seen, .ref z_work, .ref z_known, .ref z_next, .int v_come, .int o_7, .ref z_counts, .ref z_acrosses, .ref z_failings, .int o_8, .ref z_given, .int v_trace])), (z_isGood, .inl (cy 2, 32, .inl v_isGoodc)), (z_counts, .inl (cy 0, 33, .inl o_9)), (z_acrosses, .inl (cy 0, 33, .inl o_10)), (z_failings, .inl (cy 0, 33, .inl o_11)), (z_frozen, .inl (cy 0, 32, .inl v_frozenc)), (z_given, .inl (cy 1, 32, .inr (.inl o_12)))]) [0, 4, 1, 2, 3, 5, 6] rfl
      have hD := hD.sub (ws' := [(z, .inr (9, [.int v_fault, .int v_size, .int v_upper, .int v_base, .ref z_isGood, .ref z_frozen, .ref z_sheetSize, .ref z_sheetLane, .ref z_sheet, .ref z_hands, .int v_wide, .long v_mask, .int v_paths, .ref z_seen, .ref z_work, .ref z_known, .ref z_next, .int v_come, .int o_7, .ref z_counts, .ref z_acrosses, .ref z_failings, .int o_8, .ref z_given, .int v_trace])), (z_isGood, .inl (cy 2, 32, .inl v_isGoodc)), (z_counts, .inl (cy 0, 33, .inl o_9)), (z_acrosses, .inl (cy 0, 33, .inl o_10)), (z_failings, .inl (cy 0, 33, .inl o_11)), (z_frozen, .inl (cy 0, 32, .inl v_frozenc)), (z_given, .inl (cy 1, 32, .inr (.inl o_12)))]) [0, 4, 1, 2, 3, 5, 6] (by decide) rfl
      refine lv_aload_n hx hb dX10_count_33 rfl (lv_at hl 0 rfl) ?_
      refine va_get (D := D) (ci := 9) (v := .ref z_counts) (C := RX10) (T := TX10) (N := 25) hx hb hts iX10 hown hK hP 0 rfl rfl 19 (by decide) f42 (fun _ h9 => h9) rfl dX10_count_34 ?_
      refine lv_iload_n hx hb dX10_count_37 rfl (lv_at hl 1 rfl) ?_
      obtain ⟨hi_, h⟩ := gx_ix h
      refine va_iald hx hb hK hP 2 0 rfl rfl hi_ dX10_count_38 ?_
      cases h
      exact gRi hx hb hr hlocks hP hD hS dX10_count_39
    · have h := gx_t c_6 h
      refine lv_bipush (v := (-2)) hx hb dX10_count_26 (by decide) ?_
      cases h
      exact gRi hx hb hr hlocks hP hD hS dX10_count_28
  · have h := gx_f c_3 h
    refine lv_bipush (v := (-3)) hx hb dX10_count_9 (by decide) ?_
    cases h
    exact gRi hx hb hr hlocks hP hD hS dX10_count_11

def f_X10_across (K : Nat) (x1 : Int32) (v_size : Int32) (v_isCounted : Int32) (v_basis : Int32) (v_countsc : Nat → Int32) (v_acrossesc : Nat → Int32) (v_failingsc : Nat → Int32) (v_isGoodc : Nat → Int32) (v_frozenc : Nat → Int32) (v_givenc : Nat → Int64) : Option (Int32 × Int32 × Int32 × (Nat → Int32) × (Nat → Int32) × (Nat → Int32) × (Nat → Int64)) :=
  if v_size = 32 then
    some ((-3), v_isCounted, v_basis, v_countsc, v_acrossesc, v_failingsc, v_givenc)
  else
    Option.bind (f_X10_in K (Int32.toInt64 x1) 0 (Int32.toInt64 v_size)) fun r_2 =>
    if r_2 = 0 then
      some ((-2), v_isCounted, v_basis, v_countsc, v_acrossesc, v_failingsc, v_givenc)
    else
      Option.bind (f_X10_countAll K v_size v_isCounted v_basis v_countsc v_acrossesc v_failingsc v_isGoodc v_frozenc v_givenc) fun (o_4, o_5, o_6, o_7, o_8, o_9) =>
      gIx x1 33 <|
      some ((o_7 (Int32.toNatClampNeg x1)), o_4, o_5, o_6, o_7, o_8, o_9)
set_option maxHeartbeats 4000000 in
set_option maxRecDepth 100000 in
theorem c_X10_across (l : Launch) (D : va_G) (cy : Nat → ClassId) (t sz K : Nat) (z : Nat) (z_counts : Nat) (z_acrosses : Nat) (z_failings : Nat) (z_isGood : Nat) (z_frozen : Nat) (z_given : Nat) (z_sheetSize : Nat) (z_sheetLane : Nat) (z_sheet : Nat) (z_hands : Nat) (z_seen : Nat) (z_work : Nat) (z_known : Nat) (z_next : Nat) (v_fault : Int32) (v_size : Int32) (v_upper : Int32) (v_base : Int32) (v_wide : Int32) (v_mask : Int64) (v_paths : Int32) (v_come : Int32) (v_isCounted : Int32) (v_basis : Int32) (v_trace : Int32) (v_countsc : Nat → Int32) (v_acrossesc : Nat → Int32) (v_failingsc : Nat → Int32) (v_isGoodc : Nat → Int32) (v_frozenc : Nat → Int32) (v_givenc : Nat → Int64) (x1 : Int32) (r_ : Int32) (o_v_isCounted : Int32) (o_v_basis : Int32) (o_v_countsc : Nat → Int32) (o_v_acrossesc : Nat → Int32) (o_v_failingsc : Nat → Int32) (o_v_givenc : Nat → Int64) (h : f_X10_across K x1 v_size v_isCounted v_basis v_countsc v_acrossesc v_failingsc v_isGoodc v_frozenc v_givenc = some (r_, o_v_isCounted, o_v_basis, o_v_countsc, o_v_acrossesc, o_v_failingsc, o_v_givenc)) : gMi l D cy t sz yX10_across wsX10_across 3 69 [.ref z, .int x1] [(z, .inr (9, [.int v_fault, .int v_size, .int v_upper, .int v_base, .ref z_isGood, .ref z_frozen, .ref z_sheetSize, .ref z_sheetLane, .ref z_sheet, .ref z_hands, .int v_wide, .long v_mask, .int v_paths, .ref z_seen, .ref z_work, .ref z_known, .ref z_next, .int v_come, .int v_isCounted, .ref z_counts, .ref z_acrosses, .ref z_failings, .int v_basis, .ref z_given, .int v_trace])), (z_counts, .inl (cy 0, 33, .inl v_countsc)), (z_acrosses, .inl (cy 0, 33, .inl v_acrossesc)), (z_failings, .inl (cy 0, 33, .inl v_failingsc)), (z_isGood, .inl (cy 2, 32, .inl v_isGoodc)), (z_frozen, .inl (cy 0, 32, .inl v_frozenc)), (z_given, .inl (cy 1, 32, .inr (.inl v_givenc)))] r_ [(z, .inr (9, [.int v_fault, .int v_size, .int v_upper, .int v_base, .ref z_isGood, .ref z_frozen, .ref z_sheetSize, .ref z_sheetLane, .ref z_sheet, .ref z_hands, .int v_wide, .long v_mask, .int v_paths, .ref z_seen, .ref z_work, .ref z_known, .ref z_next, .int v_come, .int o_v_isCounted, .ref z_counts, .ref z_acrosses, .ref z_failings, .int o_v_basis, .ref z_given, .int v_trace])), (z_counts, .inl (cy 0, 33, .inl o_v_countsc)), (z_acrosses, .inl (cy 0, 33, .inl o_v_acrossesc)), (z_failings, .inl (cy 0, 33, .inl o_v_failingsc)), (z_isGood, .inl (cy 2, 32, .inl v_isGoodc)), (z_frozen, .inl (cy 0, 32, .inl v_frozenc)), (z_given, .inl (cy 1, 32, .inr (.inl o_v_givenc)))] := by
  refine gBi (cc := cX10_across) (maxL := 2) (ret := (some .int)) (by decide) rfl (Nat.le_of_ble_eq_true rfl) ?_
  intro p e s m below meth c A ls hAt hl
  obtain ⟨hx, hb, hml, hr, hts, hown, hlocks, hin, hK, hG, hA, hP, hD⟩ := hAt
  have hS : va_S A s.heap s.heap [] := va_S.rf
  have hl : lv_has ls 2 [(0, .ref z), (1, .int x1)] := hl
  have f54 := hts (.fieldLink RX10 54 "PlainLinesModel" "size" "I") (by decide +kernel)
  have iX10 := (by decide +kernel : ∀ w ∈ u_ws RX10 TX10 25, w ∈ wsX10_across)
  have f45 := hts (.fieldLink RX10 45 "PlainLinesModel" "acrosses" "[I") (by decide +kernel)
  rw [f_X10_across] at h
  refine lv_aload_n hx hb dX10_across_0 rfl (lv_at hl 0 rfl) ?_
  refine va_get (D := D) (ci := 9) (v := .int v_size) (C := RX10) (T := TX10) (N := 25) hx hb hts iX10 hown hK hP 0 rfl rfl 1 (by decide) f54 (fun _ h9 => h9) rfl dX10_across_1 ?_
  refine lv_bipush (v := 32) hx hb dX10_across_4 (by decide) ?_
  refine lv_icmp_ne (tgt := 12) hx hb dX10_across_6 (by decide) (fun c_1 => ?_) (fun c_1 => ?_)
  · have h := gx_f c_1 h
    refine lv_iload_n hx hb dX10_across_12 rfl (lv_at hl 1 rfl) ?_
    refine lv_i2l (v := (Int32.toInt64 x1)) hx hb dX10_across_13 rfl ?_
    refine lv_lconst (v := 0) hx hb dX10_across_14 (by decide) ?_
    refine lv_aload_n hx hb dX10_across_15 rfl (lv_at hl 0 rfl) ?_
    refine va_get (D := D) (ci := 9) (v := .int v_size) (C := RX10) (T := TX10) (N := 25) hx hb hts iX10 hown hK hP 0 rfl rfl 1 (by decide) f54 (fun _ h9 => h9) rfl dX10_across_16 ?_
    refine lv_i2l (v := (Int32.toInt64 v_size)) hx hb dX10_across_19 rfl ?_
    obtain ⟨r_2, hc_3, h⟩ := gx_b h
    refine gCalli (wr := [(z, .inr (9, [.int v_fault, .int v_size, .int v_upper, .int v_base, .ref z_isGood, .ref z_frozen, .ref z_sheetSize, .ref z_sheetLane, .ref z_sheet, .ref z_hands, .int v_wide, .long v_mask, .int v_paths, .ref z_seen, .ref z_work, .ref z_known, .ref z_next, .int v_come, .int v_isCounted, .ref z_counts, .ref z_acrosses, .ref z_failings, .int v_basis, .ref z_given, .int v_trace])), (z_counts, .inl (cy 0, 33, .inl v_countsc)), (z_acrosses, .inl (cy 0, 33, .inl v_acrossesc)), (z_failings, .inl (cy 0, 33, .inl v_failingsc)), (z_isGood, .inl (cy 2, 32, .inl v_isGoodc)), (z_frozen, .inl (cy 0, 32, .inl v_frozenc)), (z_given, .inl (cy 1, 32, .inr (.inl v_givenc)))]) (va_runS (As := [.long (Int32.toInt64 x1), .long 0, .long (Int32.toInt64 v_size)]) (rest := []) ⟨hx, hb, hml, hown, hts⟩ (c_X10_in l D cy t s.heap.size K (Int32.toInt64 x1) 0 (Int32.toInt64 v_size) r_2 hc_3) (va_cwS 3 hts gX10_across_X10_in rfl rfl rfl (by decide +kernel) ⟨Nat.le_of_ble_eq_true rfl, Nat.le_of_ble_eq_true rfl⟩) ⟨gBlind, fun U hU hW => ⟨rfl, gPre.call hK hG hA hP hD hS [] (by decide) rfl U hU hW⟩⟩ rfl rfl hl.1 rfl (lv_room (Nat.le_of_ble_eq_true rfl)) dX10_across_20 ⟨Nat.le_of_ble_eq_true rfl, Nat.le_of_ble_eq_true rfl⟩) hA hP hD hS [] [0, 1, 2, 3, 4, 5, 6] rfl rfl (by decide) (by decide) (fun H locs hP hD hS => ?_)
    have hP : va_P D vwCl [(z, .inr (9, [.int v_fault, .int v_size, .int v_upper, .int v_base, .ref z_isGood, .ref z_frozen, .ref z_sheetSize, .ref z_sheetLane, .ref z_sheet, .ref z_hands, .int v_wide, .long v_mask, .int v_paths, .ref z_seen, .ref z_work, .ref z_known, .ref z_next, .int v_come, .int v_isCounted, .ref z_counts, .ref z_acrosses, .ref z_failings, .int v_basis, .ref z_given, .int v_trace])), (z_counts, .inl (cy 0, 33, .inl v_countsc)), (z_acrosses, .inl (cy 0, 33, .inl v_acrossesc)), (z_failings, .inl (cy 0, 33, .inl v_failingsc)), (z_isGood, .inl (cy 2, 32, .inl v_isGoodc)), (z_frozen, .inl (cy 0, 32, .inl v_frozenc)), (z_given, .inl (cy 1, 32, .inr (.inl v_givenc)))] H := hP
    have hD : va_D A [(z, .inr (9, [.int v_fault, .int v_size, .int v_upper, .int v_base, .ref z_isGood, .ref z_frozen, .ref z_sheetSize, .ref z_sheetLane, .ref z_sheet, .ref z_hands, .int v_wide, .long v_mask, .int v_paths, .ref z_seen, .ref z_work, .ref z_known, .ref z_next, .int v_come, .int v_isCounted, .ref z_counts, .ref z_acrosses, .ref z_failings, .int v_basis, .ref z_given, .int v_trace])), (z_counts, .inl (cy 0, 33, .inl v_countsc)), (z_acrosses, .inl (cy 0, 33, .inl v_acrossesc)), (z_failings, .inl (cy 0, 33, .inl v_failingsc)), (z_isGood, .inl (cy 2, 32, .inl v_isGoodc)), (z_frozen, .inl (cy 0, 32, .inl v_frozenc)), (z_given, .inl (cy 1, 32, .inr (.inl v_givenc)))] := hD
    refine lv_if_ne (tgt := 29) hx hb dX10_across_23 (by decide) (fun c_4 => ?_) (fun c_4 => ?_)
    · have h := gx_f c_4 h
      refine lv_aload_n hx hb dX10_across_29 rfl (lv_at hl 0 rfl) ?_
      obtain ⟨⟨o_5, o_6, o_7, o_8, o_9, o_10⟩, hc_11, h⟩ := gx_b h
      refine gCallv (wr := []) (va_runV (As := []) (rest := []) ⟨hx, hb, hml, hown, hts⟩ (c_X10_countAll l D cy t H.size K z z_counts z_acrosses z_failings z_isGood z_frozen z_given z_sheetSize z_sheetLane z_sheet z_hands z_seen z_work z_known z_next v_fault v_size v_upper v_base v_wide v_mask v_paths v_come v_isCounted v_basis v_trace v_countsc v_acrossesc v_failingsc v_isGoodc v_frozenc v_givenc o_5 o_6 o_7 o_8 o_9 o_10 hc_11) (cwV 0 hts gX10_across_X10_countAll rfl rfl rfl (by decide +kernel) ⟨Nat.le_of_ble_eq_true rfl, Nat.le_of_ble_eq_true rfl⟩) ⟨gBlind, va_recv hK hP (ci := 9) (q0 := 0) rfl rfl, fun U hU hW => ⟨rfl, gPre.call hK hG hA hP hD hS [0, 1, 2, 3, 4, 5, 6] (by decide) rfl U hU hW⟩⟩ rfl rfl hl.1 rfl (lv_room (Nat.le_of_ble_eq_true rfl)) dX10_across_30 ⟨Nat.le_of_ble_eq_true rfl, Nat.le_of_ble_eq_true rfl⟩) hA hP hD hS [0, 1, 2, 3, 4, 5, 6] [] rfl rfl (by decide) (by decide) (fun H locs hP hD hS => ?_)
      have hP : va_P D vwCl [(z, .inr (9, [.int v_fault, .int v_size, .int v_upper, .int v_base, .ref z_isGood, .ref z_frozen, .ref z_sheetSize, .ref z_sheetLane, .ref z_sheet, .ref z_hands, .int v_wide, .long v_mask, .int v_paths, .ref z_seen, .ref z_work, .ref z_known, .ref z_next, .int v_come, .int o_5, .ref z_counts, .ref z_acrosses, .ref z_failings, .int o_6, .ref z_given, .int v_trace])), (z_counts, .inl (cy 0, 33, .inl o_7)), (z_acrosses, .inl (cy 0, 33, .inl o_8)), (z_failings, .inl (cy 0, 33, .inl o_9)), (z_isGood, .inl (cy 2, 32, .inl v_isGoodc)), (z_frozen, .inl (cy 0, 32, .inl v_frozenc)), (z_given, .inl (cy 1, 32, .inr (.inl o_10)))] H := hP
      have hD : va_D A [(z, .inr (9, [.int v_fault, .int v_size, .int v_upper, .int v_base, .ref z_isGood, .ref z_frozen, .ref z_sheetSize, .ref z_sheetLane, .ref z_sheet, .ref z_hands, .int v_wide, .long v_mask, .int v_paths, .ref z_seen, .ref z_work, .ref z_known, .ref z_next, .int v_come, .int o_5, .ref z_counts, .ref z_acrosses, .ref z_failings, .int o_6, .ref z_given, .int v_trace])), (z_counts, .inl (cy 0, 33, .inl o_7)), (z_acrosses, .inl (cy 0, 33, .inl o_8)), (z_failings, .inl (cy 0, 33, .inl o_9)), (z_isGood, .inl (cy 2, 32, .inl v_isGoodc)), (z_frozen, .inl (cy 0, 32, .inl v_frozenc)), (z_given, .inl (cy 1, 32, .inr (.inl o_10)))] := hD
      refine lv_aload_n hx hb dX10_across_33 rfl (lv_at hl 0 rfl) ?_
      refine va_get (D := D) (ci := 9) (v := .ref z_acrosses) (C := RX10) (T := TX10) (N := 25) hx hb hts iX10 hown hK hP 0 rfl rfl 20 (by decide) f45 (fun _ h9 => h9) rfl dX10_across_34 ?_
      refine lv_iload_n hx hb dX10_across_37 rfl (lv_at hl 1 rfl) ?_
      obtain ⟨hi_, h⟩ := gx_ix h
      refine va_iald hx hb hK hP 2 0 rfl rfl hi_ dX10_across_38 ?_
      cases h
      exact gRi hx hb hr hlocks hP hD hS dX10_across_39
    · have h := gx_t c_4 h
      refine lv_bipush (v := (-2)) hx hb dX10_across_26 (by decide) ?_
      cases h
      exact gRi hx hb hr hlocks hP hD hS dX10_across_28
  · have h := gx_t c_1 h
    refine lv_bipush (v := (-3)) hx hb dX10_across_9 (by decide) ?_
    cases h
    exact gRi hx hb hr hlocks hP hD hS dX10_across_11

def f_X10_fails (K : Nat) (x1 : Int32) (v_size : Int32) (v_isCounted : Int32) (v_basis : Int32) (v_countsc : Nat → Int32) (v_acrossesc : Nat → Int32) (v_failingsc : Nat → Int32) (v_isGoodc : Nat → Int32) (v_frozenc : Nat → Int32) (v_givenc : Nat → Int64) : Option (Int32 × Int32 × Int32 × (Nat → Int32) × (Nat → Int32) × (Nat → Int32) × (Nat → Int64)) :=
  if v_size = 32 then
    some ((-3), v_isCounted, v_basis, v_countsc, v_acrossesc, v_failingsc, v_givenc)
  else
    Option.bind (f_X10_in K (Int32.toInt64 x1) 0 (Int32.toInt64 v_size)) fun r_2 =>
    if r_2 = 0 then
      some ((-2), v_isCounted, v_basis, v_countsc, v_acrossesc, v_failingsc, v_givenc)
    else
      Option.bind (f_X10_countAll K v_size v_isCounted v_basis v_countsc v_acrossesc v_failingsc v_isGoodc v_frozenc v_givenc) fun (o_4, o_5, o_6, o_7, o_8, o_9) =>
      gIx x1 33 <|
      some ((o_8 (Int32.toNatClampNeg x1)), o_4, o_5, o_6, o_7, o_8, o_9)
set_option maxHeartbeats 4000000 in
set_option maxRecDepth 100000 in
theorem c_X10_fails (l : Launch) (D : va_G) (cy : Nat → ClassId) (t sz K : Nat) (z : Nat) (z_counts : Nat) (z_acrosses : Nat) (z_failings : Nat) (z_isGood : Nat) (z_frozen : Nat) (z_given : Nat) (z_sheetSize : Nat) (z_sheetLane : Nat) (z_sheet : Nat) (z_hands : Nat) (z_seen : Nat) (z_work : Nat) (z_known : Nat) (z_next : Nat) (v_fault : Int32) (v_size : Int32) (v_upper : Int32) (v_base : Int32) (v_wide : Int32) (v_mask : Int64) (v_paths : Int32) (v_come : Int32) (v_isCounted : Int32) (v_basis : Int32) (v_trace : Int32) (v_countsc : Nat → Int32) (v_acrossesc : Nat → Int32) (v_failingsc : Nat → Int32) (v_isGoodc : Nat → Int32) (v_frozenc : Nat → Int32) (v_givenc : Nat → Int64) (x1 : Int32) (r_ : Int32) (o_v_isCounted : Int32) (o_v_basis : Int32) (o_v_countsc : Nat → Int32) (o_v_acrossesc : Nat → Int32) (o_v_failingsc : Nat → Int32) (o_v_givenc : Nat → Int64) (h : f_X10_fails K x1 v_size v_isCounted v_basis v_countsc v_acrossesc v_failingsc v_isGoodc v_frozenc v_givenc = some (r_, o_v_isCounted, o_v_basis, o_v_countsc, o_v_acrossesc, o_v_failingsc, o_v_givenc)) : gMi l D cy t sz yX10_fails wsX10_fails 3 69 [.ref z, .int x1] [(z, .inr (9, [.int v_fault, .int v_size, .int v_upper, .int v_base, .ref z_isGood, .ref z_frozen, .ref z_sheetSize, .ref z_sheetLane, .ref z_sheet, .ref z_hands, .int v_wide, .long v_mask, .int v_paths, .ref z_seen, .ref z_work, .ref z_known, .ref z_next, .int v_come, .int v_isCounted, .ref z_counts, .ref z_acrosses, .ref z_failings, .int v_basis, .ref z_given, .int v_trace])), (z_counts, .inl (cy 0, 33, .inl v_countsc)), (z_acrosses, .inl (cy 0, 33, .inl v_acrossesc)), (z_failings, .inl (cy 0, 33, .inl v_failingsc)), (z_isGood, .inl (cy 2, 32, .inl v_isGoodc)), (z_frozen, .inl (cy 0, 32, .inl v_frozenc)), (z_given, .inl (cy 1, 32, .inr (.inl v_givenc)))] r_ [(z, .inr (9, [.int v_fault, .int v_size, .int v_upper, .int v_base, .ref z_isGood, .ref z_frozen, .ref z_sheetSize, .ref z_sheetLane, .ref z_sheet, .ref z_hands, .int v_wide, .long v_mask, .int v_paths, .ref z_seen, .ref z_work, .ref z_known, .ref z_next, .int v_come, .int o_v_isCounted, .ref z_counts, .ref z_acrosses, .ref z_failings, .int o_v_basis, .ref z_given, .int v_trace])), (z_counts, .inl (cy 0, 33, .inl o_v_countsc)), (z_acrosses, .inl (cy 0, 33, .inl o_v_acrossesc)), (z_failings, .inl (cy 0, 33, .inl o_v_failingsc)), (z_isGood, .inl (cy 2, 32, .inl v_isGoodc)), (z_frozen, .inl (cy 0, 32, .inl v_frozenc)), (z_given, .inl (cy 1, 32, .inr (.inl o_v_givenc)))] := by
  refine gBi (cc := cX10_fails) (maxL := 2) (ret := (some .int)) (by decide) rfl (Nat.le_of_ble_eq_true rfl) ?_
  intro p e s m below meth c A ls hAt hl
  obtain ⟨hx, hb, hml, hr, hts, hown, hlocks, hin, hK, hG, hA, hP, hD⟩ := hAt
  have hS : va_S A s.heap s.heap [] := va_S.rf
  have hl : lv_has ls 2 [(0, .ref z), (1, .int x1)] := hl
  have f54 := hts (.fieldLink RX10 54 "PlainLinesModel" "size" "I") (by decide +kernel)
  have iX10 := (by decide +kernel : ∀ w ∈ u_ws RX10 TX10 25, w ∈ wsX10_fails)
  have f48 := hts (.fieldLink RX10 48 "PlainLinesModel" "failings" "[I") (by decide +kernel)
  rw [f_X10_fails] at h
  refine lv_aload_n hx hb dX10_fails_0 rfl (lv_at hl 0 rfl) ?_
  refine va_get (D := D) (ci := 9) (v := .int v_size) (C := RX10) (T := TX10) (N := 25) hx hb hts iX10 hown hK hP 0 rfl rfl 1 (by decide) f54 (fun _ h9 => h9) rfl dX10_fails_1 ?_
  refine lv_bipush (v := 32) hx hb dX10_fails_4 (by decide) ?_
  refine lv_icmp_ne (tgt := 12) hx hb dX10_fails_6 (by decide) (fun c_1 => ?_) (fun c_1 => ?_)
  · have h := gx_f c_1 h
    refine lv_iload_n hx hb dX10_fails_12 rfl (lv_at hl 1 rfl) ?_
    refine lv_i2l (v := (Int32.toInt64 x1)) hx hb dX10_fails_13 rfl ?_
    refine lv_lconst (v := 0) hx hb dX10_fails_14 (by decide) ?_
    refine lv_aload_n hx hb dX10_fails_15 rfl (lv_at hl 0 rfl) ?_
    refine va_get (D := D) (ci := 9) (v := .int v_size) (C := RX10) (T := TX10) (N := 25) hx hb hts iX10 hown hK hP 0 rfl rfl 1 (by decide) f54 (fun _ h9 => h9) rfl dX10_fails_16 ?_
    refine lv_i2l (v := (Int32.toInt64 v_size)) hx hb dX10_fails_19 rfl ?_
    obtain ⟨r_2, hc_3, h⟩ := gx_b h
    refine gCalli (wr := [(z, .inr (9, [.int v_fault, .int v_size, .int v_upper, .int v_base, .ref z_isGood, .ref z_frozen, .ref z_sheetSize, .ref z_sheetLane, .ref z_sheet, .ref z_hands, .int v_wide, .long v_mask, .int v_paths, .ref z_seen, .ref z_work, .ref z_known, .ref z_next, .int v_come, .int v_isCounted, .ref z_counts, .ref z_acrosses, .ref z_failings, .int v_basis, .ref z_given, .int v_trace])), (z_counts, .inl (cy 0, 33, .inl v_countsc)), (z_acrosses, .inl (cy 0, 33, .inl v_acrossesc)), (z_failings, .inl (cy 0, 33, .inl v_failingsc)), (z_isGood, .inl (cy 2, 32, .inl v_isGoodc)), (z_frozen, .inl (cy 0, 32, .inl v_frozenc)), (z_given, .inl (cy 1, 32, .inr (.inl v_givenc)))]) (va_runS (As := [.long (Int32.toInt64 x1), .long 0, .long (Int32.toInt64 v_size)]) (rest := []) ⟨hx, hb, hml, hown, hts⟩ (c_X10_in l D cy t s.heap.size K (Int32.toInt64 x1) 0 (Int32.toInt64 v_size) r_2 hc_3) (va_cwS 3 hts gX10_fails_X10_in rfl rfl rfl (by decide +kernel) ⟨Nat.le_of_ble_eq_true rfl, Nat.le_of_ble_eq_true rfl⟩) ⟨gBlind, fun U hU hW => ⟨rfl, gPre.call hK hG hA hP hD hS [] (by decide) rfl U hU hW⟩⟩ rfl rfl hl.1 rfl (lv_room (Nat.le_of_ble_eq_true rfl)) dX10_fails_20 ⟨Nat.le_of_ble_eq_true rfl, Nat.le_of_ble_eq_true rfl⟩) hA hP hD hS [] [0, 1, 2, 3, 4, 5, 6] rfl rfl (by decide) (by decide) (fun H locs hP hD hS => ?_)
    have hP : va_P D vwCl [(z, .inr (9, [.int v_fault, .int v_size, .int v_upper, .int v_base, .ref z_isGood, .ref z_frozen, .ref z_sheetSize, .ref z_sheetLane, .ref z_sheet, .ref z_hands, .int v_wide, .long v_mask, .int v_paths, .ref z_seen, .ref z_work, .ref z_known, .ref z_next, .int v_come, .int v_isCounted, .ref z_counts, .ref z_acrosses, .ref z_failings, .int v_basis, .ref z_given, .int v_trace])), (z_counts, .inl (cy 0, 33, .inl v_countsc)), (z_acrosses, .inl (cy 0, 33, .inl v_acrossesc)), (z_failings, .inl (cy 0, 33, .inl v_failingsc)), (z_isGood, .inl (cy 2, 32, .inl v_isGoodc)), (z_frozen, .inl (cy 0, 32, .inl v_frozenc)), (z_given, .inl (cy 1, 32, .inr (.inl v_givenc)))] H := hP
    have hD : va_D A [(z, .inr (9, [.int v_fault, .int v_size, .int v_upper, .int v_base, .ref z_isGood, .ref z_frozen, .ref z_sheetSize, .ref z_sheetLane, .ref z_sheet, .ref z_hands, .int v_wide, .long v_mask, .int v_paths, .ref z_seen, .ref z_work, .ref z_known, .ref z_next, .int v_come, .int v_isCounted, .ref z_counts, .ref z_acrosses, .ref z_failings, .int v_basis, .ref z_given, .int v_trace])), (z_counts, .inl (cy 0, 33, .inl v_countsc)), (z_acrosses, .inl (cy 0, 33, .inl v_acrossesc)), (z_failings, .inl (cy 0, 33, .inl v_failingsc)), (z_isGood, .inl (cy 2, 32, .inl v_isGoodc)), (z_frozen, .inl (cy 0, 32, .inl v_frozenc)), (z_given, .inl (cy 1, 32, .inr (.inl v_givenc)))] := hD
    refine lv_if_ne (tgt := 29) hx hb dX10_fails_23 (by decide) (fun c_4 => ?_) (fun c_4 => ?_)
    · have h := gx_f c_4 h
      refine lv_aload_n hx hb dX10_fails_29 rfl (lv_at hl 0 rfl) ?_
      obtain ⟨⟨o_5, o_6, o_7, o_8, o_9, o_10⟩, hc_11, h⟩ := gx_b h
      refine gCallv (wr := []) (va_runV (As := []) (rest := []) ⟨hx, hb, hml, hown, hts⟩ (c_X10_countAll l D cy t H.size K z z_counts z_acrosses z_failings z_isGood z_frozen z_given z_sheetSize z_sheetLane z_sheet z_hands z_seen z_work z_known z_next v_fault v_size v_upper v_base v_wide v_mask v_paths v_come v_isCounted v_basis v_trace v_countsc v_acrossesc v_failingsc v_isGoodc v_frozenc v_givenc o_5 o_6 o_7 o_8 o_9 o_10 hc_11) (cwV 0 hts gX10_fails_X10_countAll rfl rfl rfl (by decide +kernel) ⟨Nat.le_of_ble_eq_true rfl, Nat.le_of_ble_eq_true rfl⟩) ⟨gBlind, va_recv hK hP (ci := 9) (q0 := 0) rfl rfl, fun U hU hW => ⟨rfl, gPre.call hK hG hA hP hD hS [0, 1, 2, 3, 4, 5, 6] (by decide) rfl U hU hW⟩⟩ rfl rfl hl.1 rfl (lv_room (Nat.le_of_ble_eq_true rfl)) dX10_fails_30 ⟨Nat.le_of_ble_eq_true rfl, Nat.le_of_ble_eq_true rfl⟩) hA hP hD hS [0, 1, 2, 3, 4, 5, 6] [] rfl rfl (by decide) (by decide) (fun H locs hP hD hS => ?_)
      have hP : va_P D vwCl [(z, .inr (9, [.int v_fault, .int v_size, .int v_upper, .int v_base, .ref z_isGood, .ref z_frozen, .ref z_sheetSize, .ref z_sheetLane, .ref z_sheet, .ref z_hands, .int v_wide, .long v_mask, .int v_paths, .ref z_seen, .ref z_work, .ref z_known, .ref z_next, .int v_come, .int o_5, .ref z_counts, .ref z_acrosses, .ref z_failings, .int o_6, .ref z_given, .int v_trace])), (z_counts, .inl (cy 0, 33, .inl o_7)), (z_acrosses, .inl (cy 0, 33, .inl o_8)), (z_failings, .inl (cy 0, 33, .inl o_9)), (z_isGood, .inl (cy 2, 32, .inl v_isGoodc)), (z_frozen, .inl (cy 0, 32, .inl v_frozenc)), (z_given, .inl (cy 1, 32, .inr (.inl o_10)))] H := hP
      have hD : va_D A [(z, .inr (9, [.int v_fault, .int v_size, .int v_upper, .int v_base, .ref z_isGood, .ref z_frozen, .ref z_sheetSize, .ref z_sheetLane, .ref z_sheet, .ref z_hands, .int v_wide, .long v_mask, .int v_paths, .ref z_seen, .ref z_work, .ref z_known, .ref z_next, .int v_come, .int o_5, .ref z_counts, .ref z_acrosses, .ref z_failings, .int o_6, .ref z_given, .int v_trace])), (z_counts, .inl (cy 0, 33, .inl o_7)), (z_acrosses, .inl (cy 0, 33, .inl o_8)), (z_failings, .inl (cy 0, 33, .inl o_9)), (z_isGood, .inl (cy 2, 32, .inl v_isGoodc)), (z_frozen, .inl (cy 0, 32, .inl v_frozenc)), (z_given, .inl (cy 1, 32, .inr (.inl o_10)))] := hD
      refine lv_aload_n hx hb dX10_fails_33 rfl (lv_at hl 0 rfl) ?_
      refine va_get (D := D) (ci := 9) (v := .ref z_failings) (C := RX10) (T := TX10) (N := 25) hx hb hts iX10 hown hK hP 0 rfl rfl 21 (by decide) f48 (fun _ h9 => h9) rfl dX10_fails_34 ?_
      refine lv_iload_n hx hb dX10_fails_37 rfl (lv_at hl 1 rfl) ?_
      obtain ⟨hi_, h⟩ := gx_ix h
      refine va_iald hx hb hK hP 3 0 rfl rfl hi_ dX10_fails_38 ?_
      cases h
      exact gRi hx hb hr hlocks hP hD hS dX10_fails_39
    · have h := gx_t c_4 h
      refine lv_bipush (v := (-2)) hx hb dX10_fails_26 (by decide) ?_
      cases h
      exact gRi hx hb hr hlocks hP hD hS dX10_fails_28
  · have h := gx_t c_1 h
    refine lv_bipush (v := (-3)) hx hb dX10_fails_9 (by decide) ?_
    cases h
    exact gRi hx hb hr hlocks hP hD hS dX10_fails_11

def f_X10_traced (K : Nat) (x1 : Int32) (v_trace : Int32) : Option (Int32) :=
  gLet ((31 * v_trace) + x1) fun y_1 =>
  some y_1
set_option maxHeartbeats 4000000 in
set_option maxRecDepth 100000 in
theorem c_X10_traced (l : Launch) (D : va_G) (cy : Nat → ClassId) (t sz K : Nat) (z : Nat) (z_isGood : Nat) (z_frozen : Nat) (z_sheetSize : Nat) (z_sheetLane : Nat) (z_sheet : Nat) (z_hands : Nat) (z_seen : Nat) (z_work : Nat) (z_known : Nat) (z_next : Nat) (z_counts : Nat) (z_acrosses : Nat) (z_failings : Nat) (z_given : Nat) (v_fault : Int32) (v_size : Int32) (v_upper : Int32) (v_base : Int32) (v_wide : Int32) (v_mask : Int64) (v_paths : Int32) (v_come : Int32) (v_isCounted : Int32) (v_basis : Int32) (v_trace : Int32) (x1 : Int32) (o_v_trace : Int32) (h : f_X10_traced K x1 v_trace = some o_v_trace) : gMv l D cy t sz yX10_traced wsX10_traced 0 0 [.ref z, .int x1] [(z, .inr (9, [.int v_fault, .int v_size, .int v_upper, .int v_base, .ref z_isGood, .ref z_frozen, .ref z_sheetSize, .ref z_sheetLane, .ref z_sheet, .ref z_hands, .int v_wide, .long v_mask, .int v_paths, .ref z_seen, .ref z_work, .ref z_known, .ref z_next, .int v_come, .int v_isCounted, .ref z_counts, .ref z_acrosses, .ref z_failings, .int v_basis, .ref z_given, .int v_trace]))] [(z, .inr (9, [.int v_fault, .int v_size, .int v_upper, .int v_base, .ref z_isGood, .ref z_frozen, .ref z_sheetSize, .ref z_sheetLane, .ref z_sheet, .ref z_hands, .int v_wide, .long v_mask, .int v_paths, .ref z_seen, .ref z_work, .ref z_known, .ref z_next, .int v_come, .int v_isCounted, .ref z_counts, .ref z_acrosses, .ref z_failings, .int v_basis, .ref z_given, .int o_v_trace]))] := by
  refine gBv (cc := cX10_traced) (maxL := 2) (ret := none) (by decide) rfl (Nat.le_of_ble_eq_true rfl) ?_
  intro p e s m below meth c A ls hAt hl
  obtain ⟨hx, hb, hml, hr, hts, hown, hlocks, hin, hK, hG, hA, hP, hD⟩ := hAt
  have hS : va_S A s.heap s.heap [] := va_S.rf
  have hl : lv_has ls 2 [(0, .ref z), (1, .int x1)] := hl
  have f206 := hts (.fieldLink RX10 206 "PlainLinesModel" "trace" "I") (by decide +kernel)
  have iX10 := (by decide +kernel : ∀ w ∈ u_ws RX10 TX10 25, w ∈ wsX10_traced)
  rw [f_X10_traced] at h
  refine lv_aload_n hx hb dX10_traced_0 rfl (lv_at hl 0 rfl) ?_
  refine lv_bipush (v := 31) hx hb dX10_traced_1 (by decide) ?_
  refine lv_aload_n hx hb dX10_traced_3 rfl (lv_at hl 0 rfl) ?_
  refine va_get (D := D) (ci := 9) (v := .int v_trace) (C := RX10) (T := TX10) (N := 25) hx hb hts iX10 hown hK hP 0 rfl rfl 24 (by decide) f206 (fun _ h9 => h9) rfl dX10_traced_4 ?_
  refine lv_imul hx hb dX10_traced_7 ?_
  refine lv_iload_n hx hb dX10_traced_8 rfl (lv_at hl 1 rfl) ?_
  refine lv_iadd hx hb dX10_traced_9 ?_
  refine lv_topi (fun y_1 e_y_1 => ?_)
  have h := gx_let e_y_1 h
  refine va_put (D := D) (ci := 9) (v := .int y_1) (ty := .int) (C := RX10) (T := TX10) (N := 25) hx hb hts iX10 tyX10 tyX10_ok nmX10 hown hK hP hD hS 0 rfl rfl 24 (by decide) f206 (fun _ h9 => h9) rfl (by decide +kernel) rfl rfl (Nat.le_of_ble_eq_true rfl) dX10_traced_10 (fun H locs hP hD hS => ?_)
  have hP : va_P D vwCl [(z, .inr (9, [.int v_fault, .int v_size, .int v_upper, .int v_base, .ref z_isGood, .ref z_frozen, .ref z_sheetSize, .ref z_sheetLane, .ref z_sheet, .ref z_hands, .int v_wide, .long v_mask, .int v_paths, .ref z_seen, .ref z_work, .ref z_known, .ref z_next, .int v_come, .int v_isCounted, .ref z_counts, .ref z_acrosses, .ref z_failings, .int v_basis, .ref z_given, .int y_1]))] H := hP
  have hD : va_D A [(z, .inr (9, [.int v_fault, .int v_size, .int v_upper, .int v_base, .ref z_isGood, .ref z_frozen, .ref z_sheetSize, .ref z_sheetLane, .ref z_sheet, .ref z_hands, .int v_wide, .long v_mask, .int v_paths, .ref z_seen, .ref z_work, .ref z_known, .ref z_next, .int v_come, .int v_isCounted, .ref z_counts, .ref z_acrosses, .ref z_failings, .int v_basis, .ref z_given, .int y_1]))] := hD
  cases h
  exact gRv hx hb hr hlocks hP hD hS dX10_traced_13

def f_X10_isBest (K : Nat) (x1 : Int32) (v_size : Int32) (v_upper : Int32) (v_base : Int32) (v_isGoodc : Nat → Int32) : Option (Int32) :=
  gIx x1 32 <|
  if (v_isGoodc (Int32.toNatClampNeg x1)) = 0 then
    some 0
  else
    Option.bind (f_X10_lowest K v_size v_base) fun r_2 =>
    if (lg_cmp r_2 0) < 0 then
      some 0
    else
      Option.bind (f_X10_shareOf K x1 v_size v_upper v_base) fun r_4 =>
      if (lg_cmp r_4 0) = 0 then
        some 1
      else
        some 0
set_option maxHeartbeats 4000000 in
set_option maxRecDepth 100000 in
theorem c_X10_isBest (l : Launch) (D : va_G) (cy : Nat → ClassId) (t sz K : Nat) (z : Nat) (z_isGood : Nat) (z_frozen : Nat) (z_sheetSize : Nat) (z_sheetLane : Nat) (z_sheet : Nat) (z_hands : Nat) (z_seen : Nat) (z_work : Nat) (z_known : Nat) (z_next : Nat) (z_counts : Nat) (z_acrosses : Nat) (z_failings : Nat) (z_given : Nat) (v_fault : Int32) (v_size : Int32) (v_upper : Int32) (v_base : Int32) (v_wide : Int32) (v_mask : Int64) (v_paths : Int32) (v_come : Int32) (v_isCounted : Int32) (v_basis : Int32) (v_trace : Int32) (v_isGoodc : Nat → Int32) (x1 : Int32) (r_ : Int32) (h : f_X10_isBest K x1 v_size v_upper v_base v_isGoodc = some r_) : gMi l D cy t sz yX10_isBest wsX10_isBest 1 26 [.ref z, .int x1] [(z, .inr (9, [.int v_fault, .int v_size, .int v_upper, .int v_base, .ref z_isGood, .ref z_frozen, .ref z_sheetSize, .ref z_sheetLane, .ref z_sheet, .ref z_hands, .int v_wide, .long v_mask, .int v_paths, .ref z_seen, .ref z_work, .ref z_known, .ref z_next, .int v_come, .int v_isCounted, .ref z_counts, .ref z_acrosses, .ref z_failings, .int v_basis, .ref z_given, .int v_trace])), (z_isGood, .inl (cy 2, 32, .inl v_isGoodc))] r_ [(z, .inr (9, [.int v_fault, .int v_size, .int v_upper, .int v_base, .ref z_isGood, .ref z_frozen, .ref z_sheetSize, .ref z_sheetLane, .ref z_sheet, .ref z_hands, .int v_wide, .long v_mask, .int v_paths, .ref z_seen, .ref z_work, .ref z_known, .ref z_next, .int v_come, .int v_isCounted, .ref z_counts, .ref z_acrosses, .ref z_failings, .int v_basis, .ref z_given, .int v_trace])), (z_isGood, .inl (cy 2, 32, .inl v_isGoodc))] := by
  refine gBi (cc := cX10_isBest) (maxL := 2) (ret := (some .boolean)) (by decide) rfl (Nat.le_of_ble_eq_true rfl) ?_
  intro p e s m below meth c A ls hAt hl
  obtain ⟨hx, hb, hml, hr, hts, hown, hlocks, hin, hK, hG, hA, hP, hD⟩ := hAt
  have hS : va_S A s.heap s.heap [] := va_S.rf
  have hl : lv_has ls 2 [(0, .ref z), (1, .int x1)] := hl
  have f7 := hts (.fieldLink RX10 7 "PlainLinesModel" "isGood" "[Z") (by decide +kernel)
  have iX10 := (by decide +kernel : ∀ w ∈ u_ws RX10 TX10 25, w ∈ wsX10_isBest)
  rw [f_X10_isBest] at h
  refine lv_aload_n hx hb dX10_isBest_0 rfl (lv_at hl 0 rfl) ?_
  refine va_get (D := D) (ci := 9) (v := .ref z_isGood) (C := RX10) (T := TX10) (N := 25) hx hb hts iX10 hown hK hP 0 rfl rfl 4 (by decide) f7 (fun _ h9 => h9) rfl dX10_isBest_1 ?_
  refine lv_iload_n hx hb dX10_isBest_4 rfl (lv_at hl 1 rfl) ?_
  obtain ⟨hi_, h⟩ := gx_ix h
  refine va_zald hx hb hK hP 1 2 rfl rfl hi_ dX10_isBest_5 ?_
  refine lv_if_eq (tgt := 32) hx hb dX10_isBest_6 (by decide) (fun c_1 => ?_) (fun c_1 => ?_)
  · have h := gx_t c_1 h
    refine lv_iconst (v := 0) hx hb dX10_isBest_32 (by decide) ?_
    cases h
    exact gRz hx hb hr hlocks rfl hP hD hS dX10_isBest_33
  · have h := gx_f c_1 h
    refine lv_aload_n hx hb dX10_isBest_9 rfl (lv_at hl 0 rfl) ?_
    obtain ⟨r_2, hc_3, h⟩ := gx_b h
    refine gCalll (wr := [(z_isGood, .inl (cy 2, 32, .inl v_isGoodc))]) (va_runV (As := []) (rest := []) ⟨hx, hb, hml, hown, hts⟩ (c_X10_lowest l D cy t s.heap.size K z z_isGood z_frozen z_sheetSize z_sheetLane z_sheet z_hands z_seen z_work z_known z_next z_counts z_acrosses z_failings z_given v_fault v_size v_upper v_base v_wide v_mask v_paths v_come v_isCounted v_basis v_trace r_2 hc_3) (cwV 0 hts gX10_isBest_X10_lowest rfl rfl rfl (by decide +kernel) ⟨Nat.le_of_ble_eq_true rfl, Nat.le_of_ble_eq_true rfl⟩) ⟨gBlind, va_recv hK hP (ci := 9) (q0 := 0) rfl rfl, fun U hU hW => ⟨rfl, gPre.call hK hG hA hP hD hS [0] (by decide) rfl U hU hW⟩⟩ rfl rfl hl.1 rfl (lv_room (Nat.le_of_ble_eq_true rfl)) dX10_isBest_10 ⟨Nat.le_of_ble_eq_true rfl, Nat.le_of_ble_eq_true rfl⟩) hA hP hD hS [0] [1] rfl rfl (by decide) (by decide) (fun H locs hP hD hS => ?_)
    have hP := hP.sub (ws' := [(z, .inr (9, [.int v_fault, .int v_size, .int v_upper, .int v_base, .ref z_isGood, .ref z_frozen, .ref z_sheetSize, .ref z_sheetLane, .ref z_sheet, .ref z_hands, .int v_wide, .long v_mask, .int v_paths, .ref z_seen, .ref z_work, .ref z_known, .ref z_next, .int v_come, .int v_isCounted, .ref z_counts, .ref z_acrosses, .ref z_failings, .int v_basis, .ref z_given, .int v_trace])), (z_isGood, .inl (cy 2, 32, .inl v_isGoodc))]) [1, 0] rfl
    have hD := hD.sub (ws' := [(z, .inr (9, [.int v_fault, .int v_size, .int v_upper, .int v_base, .ref z_isGood, .ref z_frozen, .ref z_sheetSize, .ref z_sheetLane, .ref z_sheet, .ref z_hands, .int v_wide, .long v_mask, .int v_paths, .ref z_seen, .ref z_work, .ref z_known, .ref z_next, .int v_come, .int v_isCounted, .ref z_counts, .ref z_acrosses, .ref z_failings, .int v_basis, .ref z_given, .int v_trace])), (z_isGood, .inl (cy 2, 32, .inl v_isGoodc))]) [1, 0] (by decide) rfl
    refine lv_lconst (v := 0) hx hb dX10_isBest_13 (by decide) ?_
    refine W.lcmp hx hb dX10_isBest_14 ?_
    refine lv_if_lt (tgt := 32) hx hb dX10_isBest_15 (by decide) (fun c_4 => ?_) (fun c_4 => ?_)
    · have h := gx_t c_4 h
      refine lv_iconst (v := 0) hx hb dX10_isBest_32 (by decide) ?_
      cases h
      exact gRz hx hb hr hlocks rfl hP hD hS dX10_isBest_33
    · have h := gx_f c_4 h
      refine lv_aload_n hx hb dX10_isBest_18 rfl (lv_at hl 0 rfl) ?_
      refine lv_iload_n hx hb dX10_isBest_19 rfl (lv_at hl 1 rfl) ?_
      obtain ⟨r_5, hc_6, h⟩ := gx_b h
      refine gCalll (wr := [(z_isGood, .inl (cy 2, 32, .inl v_isGoodc))]) (va_runV (As := [.int x1]) (rest := []) ⟨hx, hb, hml, hown, hts⟩ (c_X10_shareOf l D cy t H.size K z z_isGood z_frozen z_sheetSize z_sheetLane z_sheet z_hands z_seen z_work z_known z_next z_counts z_acrosses z_failings z_given v_fault v_size v_upper v_base v_wide v_mask v_paths v_come v_isCounted v_basis v_trace x1 r_5 hc_6) (cwV 1 hts gX10_isBest_X10_shareOf rfl rfl rfl (by decide +kernel) ⟨Nat.le_of_ble_eq_true rfl, Nat.le_of_ble_eq_true rfl⟩) ⟨gBlind, va_recv hK hP (ci := 9) (q0 := 0) rfl rfl, fun U hU hW => ⟨rfl, gPre.call hK hG hA hP hD hS [0] (by decide) rfl U hU hW⟩⟩ rfl rfl hl.1 rfl (lv_room (Nat.le_of_ble_eq_true rfl)) dX10_isBest_20 ⟨Nat.le_of_ble_eq_true rfl, Nat.le_of_ble_eq_true rfl⟩) hA hP hD hS [0] [1] rfl rfl (by decide) (by decide) (fun H locs hP hD hS => ?_)
      have hP := hP.sub (ws' := [(z, .inr (9, [.int v_fault, .int v_size, .int v_upper, .int v_base, .ref z_isGood, .ref z_frozen, .ref z_sheetSize, .ref z_sheetLane, .ref z_sheet, .ref z_hands, .int v_wide, .long v_mask, .int v_paths, .ref z_seen, .ref z_work, .ref z_known, .ref z_next, .int v_come, .int v_isCounted, .ref z_counts, .ref z_acrosses, .ref z_failings, .int v_basis, .ref z_given, .int v_trace])), (z_isGood, .inl (cy 2, 32, .inl v_isGoodc))]) [1, 0] rfl
      have hD := hD.sub (ws' := [(z, .inr (9, [.int v_fault, .int v_size, .int v_upper, .int v_base, .ref z_isGood, .ref z_frozen, .ref z_sheetSize, .ref z_sheetLane, .ref z_sheet, .ref z_hands, .int v_wide, .long v_mask, .int v_paths, .ref z_seen, .ref z_work, .ref z_known, .ref z_next, .int v_come, .int v_isCounted, .ref z_counts, .ref z_acrosses, .ref z_failings, .int v_basis, .ref z_given, .int v_trace])), (z_isGood, .inl (cy 2, 32, .inl v_isGoodc))]) [1, 0] (by decide) rfl
      refine lv_lconst (v := 0) hx hb dX10_isBest_23 (by decide) ?_
      refine W.lcmp hx hb dX10_isBest_24 ?_
      refine lv_if_ne (tgt := 32) hx hb dX10_isBest_25 (by decide) (fun c_7 => ?_) (fun c_7 => ?_)
      · have h := gx_f c_7 h
        refine lv_iconst (v := 0) hx hb dX10_isBest_32 (by decide) ?_
        cases h
        exact gRz hx hb hr hlocks rfl hP hD hS dX10_isBest_33
      · have h := gx_t c_7 h
        refine lv_iconst (v := 1) hx hb dX10_isBest_28 (by decide) ?_
        refine lv_goto (tgt := 33) hx hb dX10_isBest_29 (by decide) ?_
        cases h
        exact gRz hx hb hr hlocks rfl hP hD hS dX10_isBest_33

def f_X10_tell (K : Nat) (x1 : Int32) (v_size : Int32) (v_upper : Int32) (v_base : Int32) (v_trace : Int32) (v_isGoodc : Nat → Int32) (v_frozenc : Nat → Int32) : Option (Int32 × Int32) :=
  Option.bind (f_X10_noPlace K x1 v_size) fun r_1 =>
  if r_1 = 0 then
    gIx x1 32 <|
    if (v_isGoodc (Int32.toNatClampNeg x1)) = 0 then
      Option.bind (f_X10_traced K 1 v_trace) fun o_11 =>
      gIx x1 32 <|
      some ((v_frozenc (Int32.toNatClampNeg x1)), o_11)
    else
      Option.bind (f_X10_isBest K x1 v_size v_upper v_base v_isGoodc) fun r_4 =>
      Option.bind (α := Int32) (
        if r_4 = 0 then
          some v_trace
        else
          Option.bind (f_X10_traced K 3 v_trace) fun o_7 =>
          some o_7) fun mf_5 =>
      Option.bind (f_X10_traced K 2 mf_5) fun o_8 =>
      Option.bind (f_X10_isBest K x1 v_size v_upper v_base v_isGoodc) fun r_9 =>
      if r_9 = 0 then
        some ((x1 + 10), o_8)
      else
        some ((2 * (x1 + 10)), o_8)
  else
    some ((-1), v_trace)
set_option maxHeartbeats 4000000 in
set_option maxRecDepth 100000 in
theorem c_X10_tell (l : Launch) (D : va_G) (cy : Nat → ClassId) (t sz K : Nat) (z : Nat) (z_isGood : Nat) (z_frozen : Nat) (z_sheetSize : Nat) (z_sheetLane : Nat) (z_sheet : Nat) (z_hands : Nat) (z_seen : Nat) (z_work : Nat) (z_known : Nat) (z_next : Nat) (z_counts : Nat) (z_acrosses : Nat) (z_failings : Nat) (z_given : Nat) (v_fault : Int32) (v_size : Int32) (v_upper : Int32) (v_base : Int32) (v_wide : Int32) (v_mask : Int64) (v_paths : Int32) (v_come : Int32) (v_isCounted : Int32) (v_basis : Int32) (v_trace : Int32) (v_isGoodc : Nat → Int32) (v_frozenc : Nat → Int32) (x1 : Int32) (r_ : Int32) (o_v_trace : Int32) (h : f_X10_tell K x1 v_size v_upper v_base v_trace v_isGoodc v_frozenc = some (r_, o_v_trace)) : gMi l D cy t sz yX10_tell wsX10_tell 2 47 [.ref z, .int x1] [(z, .inr (9, [.int v_fault, .int v_size, .int v_upper, .int v_base, .ref z_isGood, .ref z_frozen, .ref z_sheetSize, .ref z_sheetLane, .ref z_sheet, .ref z_hands, .int v_wide, .long v_mask, .int v_paths, .ref z_seen, .ref z_work, .ref z_known, .ref z_next, .int v_come, .int v_isCounted, .ref z_counts, .ref z_acrosses, .ref z_failings, .int v_basis, .ref z_given, .int v_trace])), (z_isGood, .inl (cy 2, 32, .inl v_isGoodc)), (z_frozen, .inl (cy 0, 32, .inl v_frozenc))] r_ [(z, .inr (9, [.int v_fault, .int v_size, .int v_upper, .int v_base, .ref z_isGood, .ref z_frozen, .ref z_sheetSize, .ref z_sheetLane, .ref z_sheet, .ref z_hands, .int v_wide, .long v_mask, .int v_paths, .ref z_seen, .ref z_work, .ref z_known, .ref z_next, .int v_come, .int v_isCounted, .ref z_counts, .ref z_acrosses, .ref z_failings, .int v_basis, .ref z_given, .int o_v_trace])), (z_isGood, .inl (cy 2, 32, .inl v_isGoodc)), (z_frozen, .inl (cy 0, 32, .inl v_frozenc))] := by
  refine gBi (cc := cX10_tell) (maxL := 2) (ret := (some .int)) (by decide) rfl (Nat.le_of_ble_eq_true rfl) ?_
  intro p e s m below meth c A ls hAt hl
  obtain ⟨hx, hb, hml, hr, hts, hown, hlocks, hin, hK, hG, hA, hP, hD⟩ := hAt
  have hS : va_S A s.heap s.heap [] := va_S.rf
  have hl : lv_has ls 2 [(0, .ref z), (1, .int x1)] := hl
  have f7 := hts (.fieldLink RX10 7 "PlainLinesModel" "isGood" "[Z") (by decide +kernel)
  have iX10 := (by decide +kernel : ∀ w ∈ u_ws RX10 TX10 25, w ∈ wsX10_tell)
  have f13 := hts (.fieldLink RX10 13 "PlainLinesModel" "frozen" "[I") (by decide +kernel)
  rw [f_X10_tell] at h
  refine lv_aload_n hx hb dX10_tell_0 rfl (lv_at hl 0 rfl) ?_
  refine lv_iload_n hx hb dX10_tell_1 rfl (lv_at hl 1 rfl) ?_
  obtain ⟨r_1, hc_2, h⟩ := gx_b h
  refine gCalli (wr := [(z_isGood, .inl (cy 2, 32, .inl v_isGoodc)), (z_frozen, .inl (cy 0, 32, .inl v_frozenc))]) (va_runV (As := [.int x1]) (rest := []) ⟨hx, hb, hml, hown, hts⟩ (c_X10_noPlace l D cy t s.heap.size K z z_isGood z_frozen z_sheetSize z_sheetLane z_sheet z_hands z_seen z_work z_known z_next z_counts z_acrosses z_failings z_given v_fault v_size v_upper v_base v_wide v_mask v_paths v_come v_isCounted v_basis v_trace x1 r_1 hc_2) (cwV 1 hts gX10_tell_X10_noPlace rfl rfl rfl (by decide +kernel) ⟨Nat.le_of_ble_eq_true rfl, Nat.le_of_ble_eq_true rfl⟩) ⟨gBlind, va_recv hK hP (ci := 9) (q0 := 0) rfl rfl, fun U hU hW => ⟨rfl, gPre.call hK hG hA hP hD hS [0] (by decide) rfl U hU hW⟩⟩ rfl rfl hl.1 rfl (lv_room (Nat.le_of_ble_eq_true rfl)) dX10_tell_2 ⟨Nat.le_of_ble_eq_true rfl, Nat.le_of_ble_eq_true rfl⟩) hA hP hD hS [0] [1, 2] rfl rfl (by decide) (by decide) (fun H locs hP hD hS => ?_)
  have hP := hP.sub (ws' := [(z, .inr (9, [.int v_fault, .int v_size, .int v_upper, .int v_base, .ref z_isGood, .ref z_frozen, .ref z_sheetSize, .ref z_sheetLane, .ref z_sheet, .ref z_hands, .int v_wide, .long v_mask, .int v_paths, .ref z_seen, .ref z_work, .ref z_known, .ref z_next, .int v_come, .int v_isCounted, .ref z_counts, .ref z_acrosses, .ref z_failings, .int v_basis, .ref z_given, .int v_trace])), (z_isGood, .inl (cy 2, 32, .inl v_isGoodc)), (z_frozen, .inl (cy 0, 32, .inl v_frozenc))]) [2, 0, 1] rfl
  have hD := hD.sub (ws' := [(z, .inr (9, [.int v_fault, .int v_size, .int v_upper, .int v_base, .ref z_isGood, .ref z_frozen, .ref z_sheetSize, .ref z_sheetLane, .ref z_sheet, .ref z_hands, .int v_wide, .long v_mask, .int v_paths, .ref z_seen, .ref z_work, .ref z_known, .ref z_next, .int v_come, .int v_isCounted, .ref z_counts, .ref z_acrosses, .ref z_failings, .int v_basis, .ref z_given, .int v_trace])), (z_isGood, .inl (cy 2, 32, .inl v_isGoodc)), (z_frozen, .inl (cy 0, 32, .inl v_frozenc))]) [2, 0, 1] (by decide) rfl
  refine lv_if_eq (tgt := 10) hx hb dX10_tell_5 (by decide) (fun c_3 => ?_) (fun c_3 => ?_)
  · have h := gx_t c_3 h
    refine lv_aload_n hx hb dX10_tell_10 rfl (lv_at hl 0 rfl) ?_
    refine va_get (D := D) (ci := 9) (v := .ref z_isGood) (C := RX10) (T := TX10) (N := 25) hx hb hts iX10 hown hK hP 0 rfl rfl 4 (by decide) f7 (fun _ h9 => h9) rfl dX10_tell_11 ?_
    refine lv_iload_n hx hb dX10_tell_14 rfl (lv_at hl 1 rfl) ?_
    obtain ⟨hi_, h⟩ := gx_ix h
    refine va_zald hx hb hK hP 1 2 rfl rfl hi_ dX10_tell_15 ?_
    refine lv_if_ne (tgt := 31) hx hb dX10_tell_16 (by decide) (fun c_4 => ?_) (fun c_4 => ?_)
    · have h := gx_f c_4 h
      refine lv_aload_n hx hb dX10_tell_31 rfl (lv_at hl 0 rfl) ?_
      refine lv_iload_n hx hb dX10_tell_32 rfl (lv_at hl 1 rfl) ?_
      obtain ⟨r_5, hc_6, h⟩ := gx_b h
      refine gCalli (wr := [(z_frozen, .inl (cy 0, 32, .inl v_frozenc))]) (va_runV (As := [.int x1]) (rest := []) ⟨hx, hb, hml, hown, hts⟩ (c_X10_isBest l D cy t H.size K z z_isGood z_frozen z_sheetSize z_sheetLane z_sheet z_hands z_seen z_work z_known z_next z_counts z_acrosses z_failings z_given v_fault v_size v_upper v_base v_wide v_mask v_paths v_come v_isCounted v_basis v_trace v_isGoodc x1 r_5 hc_6) (cwV 1 hts gX10_tell_X10_isBest rfl rfl rfl (by decide +kernel) ⟨Nat.le_of_ble_eq_true rfl, Nat.le_of_ble_eq_true rfl⟩) ⟨gBlind, va_recv hK hP (ci := 9) (q0 := 0) rfl rfl, fun U hU hW => ⟨rfl, gPre.call hK hG hA hP hD hS [0, 1] (by decide) rfl U hU hW⟩⟩ rfl rfl hl.1 rfl (lv_room (Nat.le_of_ble_eq_true rfl)) dX10_tell_33 ⟨Nat.le_of_ble_eq_true rfl, Nat.le_of_ble_eq_true rfl⟩) hA hP hD hS [0, 1] [2] rfl rfl (by decide) (by decide) (fun H locs hP hD hS => ?_)
      have hP := hP.sub (ws' := [(z, .inr (9, [.int v_fault, .int v_size, .int v_upper, .int v_base, .ref z_isGood, .ref z_frozen, .ref z_sheetSize, .ref z_sheetLane, .ref z_sheet, .ref z_hands, .int v_wide, .long v_mask, .int v_paths, .ref z_seen, .ref z_work, .ref z_known, .ref z_next, .int v_come, .int v_isCounted, .ref z_counts, .ref z_acrosses, .ref z_failings, .int v_basis, .ref z_given, .int v_trace])), (z_isGood, .inl (cy 2, 32, .inl v_isGoodc)), (z_frozen, .inl (cy 0, 32, .inl v_frozenc))]) [1, 2, 0] rfl
      have hD := hD.sub (ws' := [(z, .inr (9, [.int v_fault, .int v_size, .int v_upper, .int v_base, .ref z_isGood, .ref z_frozen, .ref z_sheetSize, .ref z_sheetLane, .ref z_sheet, .ref z_hands, .int v_wide, .long v_mask, .int v_paths, .ref z_seen, .ref z_work, .ref z_known, .ref z_next, .int v_come, .int v_isCounted, .ref z_counts, .ref z_acrosses, .ref z_failings, .int v_basis, .ref z_given, .int v_trace])), (z_isGood, .inl (cy 2, 32, .inl v_isGoodc)), (z_frozen, .inl (cy 0, 32, .inl v_frozenc))]) [1, 2, 0] (by decide) rfl
      obtain ⟨mf_7, hR_8, h⟩ := gx_b h
      refine gJoin (Pj := fun H locs ls => va_P D vwCl [(z, .inr (9, [.int v_fault, .int v_size, .int v_upper, .int v_base, .ref z_isGood, .ref z_frozen, .ref z_sheetSize, .ref z_sheetLane, .ref z_sheet, .ref z_hands, .int v_wide, .long v_mask, .int v_paths, .ref z_seen, .ref z_work, .ref z_known, .ref z_next, .int v_come, .int v_isCounted, .ref z_counts, .ref z_acrosses, .ref z_failings, .int v_basis, .ref z_given, .int mf_7])), (z_isGood, .inl (cy 2, 32, .inl v_isGoodc)), (z_frozen, .inl (cy 0, 32, .inl v_frozenc))] H ∧ va_D A [(z, .inr (9, [.int v_fault, .int v_size, .int v_upper, .int v_base, .ref z_isGood, .ref z_frozen, .ref z_sheetSize, .ref z_sheetLane, .ref z_sheet, .ref z_hands, .int v_wide, .long v_mask, .int v_paths, .ref z_seen, .ref z_work, .ref z_known, .ref z_next, .int v_come, .int v_isCounted, .ref z_counts, .ref z_acrosses, .ref z_failings, .int v_basis, .ref z_given, .int mf_7])), (z_isGood, .inl (cy 2, 32, .inl v_isGoodc)), (z_frozen, .inl (cy 0, 32, .inl v_frozenc))] ∧ va_S A s.heap H locs ∧ lv_has ls 2 [(0, .ref z), (1, .int x1)]) (pcM := 44) (st := []) ?_ (fun hJ44 => ?_)
      · intro H locs ls hp_
        obtain ⟨hP, hD, hS, hl⟩ := hp_
        clear hR_8
        refine lv_aload_n hx hb dX10_tell_44 rfl (lv_at hl 0 rfl) ?_
        refine lv_iconst (v := 2) hx hb dX10_tell_45 (by decide) ?_
        obtain ⟨o_9, hc_10, h⟩ := gx_b h
        refine gCallv (wr := [(z_isGood, .inl (cy 2, 32, .inl v_isGoodc)), (z_frozen, .inl (cy 0, 32, .inl v_frozenc))]) (va_runV (As := [.int 2]) (rest := []) ⟨hx, hb, hml, hown, hts⟩ (c_X10_traced l D cy t H.size K z z_isGood z_frozen z_sheetSize z_sheetLane z_sheet z_hands z_seen z_work z_known z_next z_counts z_acrosses z_failings z_given v_fault v_size v_upper v_base v_wide v_mask v_paths v_come v_isCounted v_basis mf_7 2 o_9 hc_10) (cwV 1 hts gX10_tell_X10_traced rfl rfl rfl (by decide +kernel) ⟨Nat.le_of_ble_eq_true rfl, Nat.le_of_ble_eq_true rfl⟩) ⟨gBlind, va_recv hK hP (ci := 9) (q0 := 0) rfl rfl, fun U hU hW => ⟨rfl, gPre.call hK hG hA hP hD hS [0] (by decide) rfl U hU hW⟩⟩ rfl rfl hl.1 rfl (lv_room (Nat.le_of_ble_eq_true rfl)) dX10_tell_46 ⟨Nat.le_of_ble_eq_true rfl, Nat.le_of_ble_eq_true rfl⟩) hA hP hD hS [0] [1, 2] rfl rfl (by decide) (by decide) (fun H locs hP hD hS => ?_)
        have hP := hP.sub (ws' := [(z, .inr (9, [.int v_fault, .int v_size, .int v_upper, .int v_base, .ref z_isGood, .ref z_frozen, .ref z_sheetSize, .ref z_sheetLane, .ref z_sheet, .ref z_hands, .int v_wide, .long v_mask, .int v_paths, .ref z_seen, .ref z_work, .ref z_known, .ref z_next, .int v_come, .int v_isCounted, .ref z_counts, .ref z_acrosses, .ref z_failings, .int v_basis, .ref z_given, .int o_9])), (z_isGood, .inl (cy 2, 32, .inl v_isGoodc)), (z_frozen, .inl (cy 0, 32, .inl v_frozenc))]) [2, 0, 1] rfl
        have hD := hD.sub (ws' := [(z, .inr (9, [.int v_fault, .int v_size, .int v_upper, .int v_base, .ref z_isGood, .ref z_frozen, .ref z_sheetSize, .ref z_sheetLane, .ref z_sheet, .ref z_hands, .int v_wide, .long v_mask, .int v_paths, .ref z_seen, .ref z_work, .ref z_known, .ref z_next, .int v_come, .int v_isCounted, .ref z_counts, .ref z_acrosses, .ref z_failings, .int v_basis, .ref z_given, .int o_9])), (z_isGood, .inl (cy 2, 32, .inl v_isGoodc)), (z_frozen, .inl (cy 0, 32, .inl v_frozenc))]) [2, 0, 1] (by decide) rfl
        refine lv_aload_n hx hb dX10_tell_49 rfl (lv_at hl 0 rfl) ?_
        refine lv_iload_n hx hb dX10_tell_50 rfl (lv_at hl 1 rfl) ?_
        obtain ⟨r_11, hc_12, h⟩ := gx_b h
        refine gCalli (wr := [(z_frozen, .inl (cy 0, 32, .inl v_frozenc))]) (va_runV (As := [.int x1]) (rest := []) ⟨hx, hb, hml, hown, hts⟩ (c_X10_isBest l D cy t H.size K z z_isGood z_frozen z_sheetSize z_sheetLane z_sheet z_hands z_seen z_work z_known z_next z_counts z_acrosses z_failings z_given v_fault v_size v_upper v_base v_wide v_mask v_paths v_come v_isCounted v_basis o_9 v_isGoodc x1 r_11 hc_12) (cwV 1 hts gX10_tell_X10_isBest rfl rfl rfl (by decide +kernel) ⟨Nat.le_of_ble_eq_true rfl, Nat.le_of_ble_eq_true rfl⟩) ⟨gBlind, va_recv hK hP (ci := 9) (q0 := 0) rfl rfl, fun U hU hW => ⟨rfl, gPre.call hK hG hA hP hD hS [0, 1] (by decide) rfl U hU hW⟩⟩ rfl rfl hl.1 rfl (lv_room (Nat.le_of_ble_eq_true rfl)) dX10_tell_51 ⟨Nat.le_of_ble_eq_true rfl, Nat.le_of_ble_eq_true rfl⟩) hA hP hD hS [0, 1] [2] rfl rfl (by decide) (by decide) (fun H locs hP hD hS => ?_)
        have hP := hP.sub (ws' := [(z, .inr (9, [.int v_fault, .int v_size, .int v_upper, .int v_base, .ref z_isGood, .ref z_frozen, .ref z_sheetSize, .ref z_sheetLane, .ref z_sheet, .ref z_hands, .int v_wide, .long v_mask, .int v_paths, .ref z_seen, .ref z_work, .ref z_known, .ref z_next, .int v_come, .int v_isCounted, .ref z_counts, .ref z_acrosses, .ref z_failings, .int v_basis, .ref z_given, .int o_9])), (z_isGood, .inl (cy 2, 32, .inl v_isGoodc)), (z_frozen, .inl (cy 0, 32, .inl v_frozenc))]) [1, 2, 0] rfl
        have hD := hD.sub (ws' := [(z, .inr (9, [.int v_fault, .int v_size, .int v_upper, .int v_base, .ref z_isGood, .ref z_frozen, .ref z_sheetSize, .ref z_sheetLane, .ref z_sheet, .ref z_hands, .int v_wide, .long v_mask, .int v_paths, .ref z_seen, .ref z_work, .ref z_known, .ref z_next, .int v_come, .int v_isCounted, .ref z_counts, .ref z_acrosses, .ref z_failings, .int v_basis, .ref z_given, .int o_9])), (z_isGood, .inl (cy 2, 32, .inl v_isGoodc)), (z_frozen, .inl (cy 0, 32, .inl v_frozenc))]) [1, 2, 0] (by decide) rfl
        refine lv_if_eq (tgt := 66) hx hb dX10_tell_54 (by decide) (fun c_13 => ?_) (fun c_13 => ?_)
        · have h := gx_t c_13 h
          refine lv_iload_n hx hb dX10_tell_66 rfl (lv_at hl 1 rfl) ?_
          refine lv_bipush (v := 10) hx hb dX10_tell_67 (by decide) ?_
          refine lv_iadd hx hb dX10_tell_69 ?_
          cases h
          exact gRi hx hb hr hlocks hP hD hS dX10_tell_70
        · have h := gx_f c_13 h
          refine lv_iconst (v := 2) hx hb dX10_tell_57 (by decide) ?_
          refine lv_iload_n hx hb dX10_tell_58 rfl (lv_at hl 1 rfl) ?_
          refine lv_bipush (v := 10) hx hb dX10_tell_59 (by decide) ?_
          refine lv_iadd hx hb dX10_tell_61 ?_
          refine lv_imul hx hb dX10_tell_62 ?_
          refine lv_goto (tgt := 70) hx hb dX10_tell_63 (by decide) ?_
          cases h
          exact gRi hx hb hr hlocks hP hD hS dX10_tell_70
      · have h := hR_8
        refine lv_if_eq (tgt := 44) hx hb dX10_tell_36 (by decide) (fun c_14 => ?_) (fun c_14 => ?_)
        · have h := gx_t c_14 h
          have hl := lv_sub (l' := [(0, .ref z), (1, .int x1)]) hl [0, 1] rfl
          cases h
          exact hJ44 _ _ _ ⟨hP, hD, hS, hl⟩
        · have h := gx_f c_14 h
          refine lv_aload_n hx hb dX10_tell_39 rfl (lv_at hl 0 rfl) ?_
          refine lv_iconst (v := 3) hx hb dX10_tell_40 (by decide) ?_
          obtain ⟨o_15, hc_16, h⟩ := gx_b h
          refine gCallv (wr := [(z_isGood, .inl (cy 2, 32, .inl v_isGoodc)), (z_frozen, .inl (cy 0, 32, .inl v_frozenc))]) (va_runV (As := [.int 3]) (rest := []) ⟨hx, hb, hml, hown, hts⟩ (c_X10_traced l D cy t H.size K z z_isGood z_frozen z_sheetSize z_sheetLane z_sheet z_hands z_seen z_work z_known z_next z_counts z_acrosses z_failings z_given v_fault v_size v_upper v_base v_wide v_mask v_paths v_come v_isCounted v_basis v_trace 3 o_15 hc_16) (cwV 1 hts gX10_tell_X10_traced rfl rfl rfl (by decide +kernel) ⟨Nat.le_of_ble_eq_true rfl, Nat.le_of_ble_eq_true rfl⟩) ⟨gBlind, va_recv hK hP (ci := 9) (q0 := 0) rfl rfl, fun U hU hW => ⟨rfl, gPre.call hK hG hA hP hD hS [0] (by decide) rfl U hU hW⟩⟩ rfl rfl hl.1 rfl (lv_room (Nat.le_of_ble_eq_true rfl)) dX10_tell_41 ⟨Nat.le_of_ble_eq_true rfl, Nat.le_of_ble_eq_true rfl⟩) hA hP hD hS [0] [1, 2] rfl rfl (by decide) (by decide) (fun H locs hP hD hS => ?_)
          have hP := hP.sub (ws' := [(z, .inr (9, [.int v_fault, .int v_size, .int v_upper, .int v_base, .ref z_isGood, .ref z_frozen, .ref z_sheetSize, .ref z_sheetLane, .ref z_sheet, .ref z_hands, .int v_wide, .long v_mask, .int v_paths, .ref z_seen, .ref z_work, .ref z_known, .ref z_next, .int v_come, .int v_isCounted, .ref z_counts, .ref z_acrosses, .ref z_failings, .int v_basis, .ref z_given, .int o_15])), (z_isGood, .inl (cy 2, 32, .inl v_isGoodc)), (z_frozen, .inl (cy 0, 32, .inl v_frozenc))]) [2, 0, 1] rfl
          have hD := hD.sub (ws' := [(z, .inr (9, [.int v_fault, .int v_size, .int v_upper, .int v_base, .ref z_isGood, .ref z_frozen, .ref z_sheetSize, .ref z_sheetLane, .ref z_sheet, .ref z_hands, .int v_wide, .long v_mask, .int v_paths, .ref z_seen, .ref z_work, .ref z_known, .ref z_next, .int v_come, .int v_isCounted, .ref z_counts, .ref z_acrosses, .ref z_failings, .int v_basis, .ref z_given, .int o_15])), (z_isGood, .inl (cy 2, 32, .inl v_isGoodc)), (z_frozen, .inl (cy 0, 32, .inl v_frozenc))]) [2, 0, 1] (by decide) rfl
          have hl := lv_sub (l' := [(0, .ref z), (1, .int x1)]) hl [0, 1] rfl
          cases h
          exact hJ44 _ _ _ ⟨hP, hD, hS, hl⟩
    · have h := gx_t c_4 h
      refine lv_aload_n hx hb dX10_tell_19 rfl (lv_at hl 0 rfl) ?_
      refine lv_iconst (v := 1) hx hb dX10_tell_20 (by decide) ?_
      obtain ⟨o_17, hc_18, h⟩ := gx_b h
      refine gCallv (wr := [(z_isGood, .inl (cy 2, 32, .inl v_isGoodc)), (z_frozen, .inl (cy 0, 32, .inl v_frozenc))]) (va_runV (As := [.int 1]) (rest := []) ⟨hx, hb, hml, hown, hts⟩ (c_X10_traced l D cy t H.size K z z_isGood z_frozen z_sheetSize z_sheetLane z_sheet z_hands z_seen z_work z_known z_next z_counts z_acrosses z_failings z_given v_fault v_size v_upper v_base v_wide v_mask v_paths v_come v_isCounted v_basis v_trace 1 o_17 hc_18) (cwV 1 hts gX10_tell_X10_traced rfl rfl rfl (by decide +kernel) ⟨Nat.le_of_ble_eq_true rfl, Nat.le_of_ble_eq_true rfl⟩) ⟨gBlind, va_recv hK hP (ci := 9) (q0 := 0) rfl rfl, fun U hU hW => ⟨rfl, gPre.call hK hG hA hP hD hS [0] (by decide) rfl U hU hW⟩⟩ rfl rfl hl.1 rfl (lv_room (Nat.le_of_ble_eq_true rfl)) dX10_tell_21 ⟨Nat.le_of_ble_eq_true rfl, Nat.le_of_ble_eq_true rfl⟩) hA hP hD hS [0] [1, 2] rfl rfl (by decide) (by decide) (fun H locs hP hD hS => ?_)
      have hP := hP.sub (ws' := [(z, .inr (9, [.int v_fault, .int v_size, .int v_upper, .int v_base, .ref z_isGood, .ref z_frozen, .ref z_sheetSize, .ref z_sheetLane, .ref z_sheet, .ref z_hands, .int v_wide, .long v_mask, .int v_paths, .ref z_seen, .ref z_work, .ref z_known, .ref z_next, .int v_come, .int v_isCounted, .ref z_counts, .ref z_acrosses, .ref z_failings, .int v_basis, .ref z_given, .int o_17])), (z_isGood, .inl (cy 2, 32, .inl v_isGoodc)), (z_frozen, .inl (cy 0, 32, .inl v_frozenc))]) [2, 0, 1] rfl
      have hD := hD.sub (ws' := [(z, .inr (9, [.int v_fault, .int v_size, .int v_upper, .int v_base, .ref z_isGood, .ref z_frozen, .ref z_sheetSize, .ref z_sheetLane, .ref z_sheet, .ref z_hands, .int v_wide, .long v_mask, .int v_paths, .ref z_seen, .ref z_work, .ref z_known, .ref z_next, .int v_come, .int v_isCounted, .ref z_counts, .ref z_acrosses, .ref z_failings, .int v_basis, .ref z_given, .int o_17])), (z_isGood, .inl (cy 2, 32, .inl v_isGoodc)), (z_frozen, .inl (cy 0, 32, .inl v_frozenc))]) [2, 0, 1] (by decide) rfl
      refine lv_aload_n hx hb dX10_tell_24 rfl (lv_at hl 0 rfl) ?_
      refine va_get (D := D) (ci := 9) (v := .ref z_frozen) (C := RX10) (T := TX10) (N := 25) hx hb hts iX10 hown hK hP 0 rfl rfl 5 (by decide) f13 (fun _ h9 => h9) rfl dX10_tell_25 ?_
      refine lv_iload_n hx hb dX10_tell_28 rfl (lv_at hl 1 rfl) ?_
      obtain ⟨hi_, h⟩ := gx_ix h
      refine va_iald hx hb hK hP 2 0 rfl rfl hi_ dX10_tell_29 ?_
      cases h
      exact gRi hx hb hr hlocks hP hD hS dX10_tell_30
  · have h := gx_f c_3 h
    refine lv_iconst (v := (-1)) hx hb dX10_tell_8 (by decide) ?_
    cases h
    exact gRi hx hb hr hlocks hP hD hS dX10_tell_9

def f_X10_weigh (K : Nat) (x1 : Int32) (v_size : Int32) (v_trace : Int32) (v_isGoodc : Nat → Int32) : Option (Int32 × Int32) :=
  Option.bind (f_X10_noPlace K x1 v_size) fun r_1 =>
  if r_1 = 0 then
    gIx x1 32 <|
    Option.bind (α := Int32) (
      if (v_isGoodc (Int32.toNatClampNeg x1)) = 0 then
        some 4
      else
        some 5) fun ms_3 =>
    Option.bind (f_X10_traced K ms_3 v_trace) fun o_5 =>
    gIx x1 32 <|
    if (v_isGoodc (Int32.toNatClampNeg x1)) = 0 then
      some (x1, o_5)
    else
      some ((v_size - x1), o_5)
  else
    some ((-1), v_trace)
set_option maxHeartbeats 4000000 in
set_option maxRecDepth 100000 in
theorem c_X10_weigh (l : Launch) (D : va_G) (cy : Nat → ClassId) (t sz K : Nat) (z : Nat) (z_isGood : Nat) (z_frozen : Nat) (z_sheetSize : Nat) (z_sheetLane : Nat) (z_sheet : Nat) (z_hands : Nat) (z_seen : Nat) (z_work : Nat) (z_known : Nat) (z_next : Nat) (z_counts : Nat) (z_acrosses : Nat) (z_failings : Nat) (z_given : Nat) (v_fault : Int32) (v_size : Int32) (v_upper : Int32) (v_base : Int32) (v_wide : Int32) (v_mask : Int64) (v_paths : Int32) (v_come : Int32) (v_isCounted : Int32) (v_basis : Int32) (v_trace : Int32) (v_isGoodc : Nat → Int32) (x1 : Int32) (r_ : Int32) (o_v_trace : Int32) (h : f_X10_weigh K x1 v_size v_trace v_isGoodc = some (r_, o_v_trace)) : gMi l D cy t sz yX10_weigh wsX10_weigh 2 46 [.ref z, .int x1] [(z, .inr (9, [.int v_fault, .int v_size, .int v_upper, .int v_base, .ref z_isGood, .ref z_frozen, .ref z_sheetSize, .ref z_sheetLane, .ref z_sheet, .ref z_hands, .int v_wide, .long v_mask, .int v_paths, .ref z_seen, .ref z_work, .ref z_known, .ref z_next, .int v_come, .int v_isCounted, .ref z_counts, .ref z_acrosses, .ref z_failings, .int v_basis, .ref z_given, .int v_trace])), (z_isGood, .inl (cy 2, 32, .inl v_isGoodc))] r_ [(z, .inr (9, [.int v_fault, .int v_size, .int v_upper, .int v_base, .ref z_isGood, .ref z_frozen, .ref z_sheetSize, .ref z_sheetLane, .ref z_sheet, .ref z_hands, .int v_wide, .long v_mask, .int v_paths, .ref z_seen, .ref z_work, .ref z_known, .ref z_next, .int v_come, .int v_isCounted, .ref z_counts, .ref z_acrosses, .ref z_failings, .int v_basis, .ref z_given, .int o_v_trace])), (z_isGood, .inl (cy 2, 32, .inl v_isGoodc))] := by
  refine gBi (cc := cX10_weigh) (maxL := 2) (ret := (some .int)) (by decide) rfl (Nat.le_of_ble_eq_true rfl) ?_
  intro p e s m below meth c A ls hAt hl
  obtain ⟨hx, hb, hml, hr, hts, hown, hlocks, hin, hK, hG, hA, hP, hD⟩ := hAt
  have hS : va_S A s.heap s.heap [] := va_S.rf
  have hl : lv_has ls 2 [(0, .ref z), (1, .int x1)] := hl
  have f7 := hts (.fieldLink RX10 7 "PlainLinesModel" "isGood" "[Z") (by decide +kernel)
  have iX10 := (by decide +kernel : ∀ w ∈ u_ws RX10 TX10 25, w ∈ wsX10_weigh)
  have f54 := hts (.fieldLink RX10 54 "PlainLinesModel" "size" "I") (by decide +kernel)
  rw [f_X10_weigh] at h
  refine lv_aload_n hx hb dX10_weigh_0 rfl (lv_at hl 0 rfl) ?_
  refine lv_iload_n hx hb dX10_weigh_1 rfl (lv_at hl 1 rfl) ?_
  obtain ⟨r_1, hc_2, h⟩ := gx_b h
  refine gCalli (wr := [(z_isGood, .inl (cy 2, 32, .inl v_isGoodc))]) (va_runV (As := [.int x1]) (rest := []) ⟨hx, hb, hml, hown, hts⟩ (c_X10_noPlace l D cy t s.heap.size K z z_isGood z_frozen z_sheetSize z_sheetLane z_sheet z_hands z_seen z_work z_known z_next z_counts z_acrosses z_failings z_given v_fault v_size v_upper v_base v_wide v_mask v_paths v_come v_isCounted v_basis v_trace x1 r_1 hc_2) (cwV 1 hts gX10_weigh_X10_noPlace rfl rfl rfl (by decide +kernel) ⟨Nat.le_of_ble_eq_true rfl, Nat.le_of_ble_eq_true rfl⟩) ⟨gBlind, va_recv hK hP (ci := 9) (q0 := 0) rfl rfl, fun U hU hW => ⟨rfl, gPre.call hK hG hA hP hD hS [0] (by decide) rfl U hU hW⟩⟩ rfl rfl hl.1 rfl (lv_room (Nat.le_of_ble_eq_true rfl)) dX10_weigh_2 ⟨Nat.le_of_ble_eq_true rfl, Nat.le_of_ble_eq_true rfl⟩) hA hP hD hS [0] [1] rfl rfl (by decide) (by decide) (fun H locs hP hD hS => ?_)
  have hP := hP.sub (ws' := [(z, .inr (9, [.int v_fault, .int v_size, .int v_upper, .int v_base, .ref z_isGood, .ref z_frozen, .ref z_sheetSize, .ref z_sheetLane, .ref z_sheet, .ref z_hands, .int v_wide, .long v_mask, .int v_paths, .ref z_seen, .ref z_work, .ref z_known, .ref z_next, .int v_come, .int v_isCounted, .ref z_counts, .ref z_acrosses, .ref z_failings, .int v_basis, .ref z_given, .int v_trace])), (z_isGood, .inl (cy 2, 32, .inl v_isGoodc))]) [1, 0] rfl
  have hD := hD.sub (ws' := [(z, .inr (9, [.int v_fault, .int v_size, .int v_upper, .int v_base, .ref z_isGood, .ref z_frozen, .ref z_sheetSize, .ref z_sheetLane, .ref z_sheet, .ref z_hands, .int v_wide, .long v_mask, .int v_paths, .ref z_seen, .ref z_work, .ref z_known, .ref z_next, .int v_come, .int v_isCounted, .ref z_counts, .ref z_acrosses, .ref z_failings, .int v_basis, .ref z_given, .int v_trace])), (z_isGood, .inl (cy 2, 32, .inl v_isGoodc))]) [1, 0] (by decide) rfl
  refine lv_if_eq (tgt := 10) hx hb dX10_weigh_5 (by decide) (fun c_3 => ?_) (fun c_3 => ?_)
  · have h := gx_t c_3 h
    refine lv_aload_n hx hb dX10_weigh_10 rfl (lv_at hl 0 rfl) ?_
    refine lv_aload_n hx hb dX10_weigh_11 rfl (lv_at hl 0 rfl) ?_
    refine va_get (D := D) (ci := 9) (v := .ref z_isGood) (C := RX10) (T := TX10) (N := 25) hx hb hts iX10 hown hK hP 0 rfl rfl 4 (by decide) f7 (fun _ h9 => h9) rfl dX10_weigh_12 ?_
    refine lv_iload_n hx hb dX10_weigh_15 rfl (lv_at hl 1 rfl) ?_
    obtain ⟨hi_, h⟩ := gx_ix h
    refine va_zald hx hb hK hP 1 2 rfl rfl hi_ dX10_weigh_16 ?_
    obtain ⟨ms_4, hR_5, h⟩ := gx_b h
    refine gJoin (Pj := fun H locs ls => va_P D vwCl [(z, .inr (9, [.int v_fault, .int v_size, .int v_upper, .int v_base, .ref z_isGood, .ref z_frozen, .ref z_sheetSize, .ref z_sheetLane, .ref z_sheet, .ref z_hands, .int v_wide, .long v_mask, .int v_paths, .ref z_seen, .ref z_work, .ref z_known, .ref z_next, .int v_come, .int v_isCounted, .ref z_counts, .ref z_acrosses, .ref z_failings, .int v_basis, .ref z_given, .int v_trace])), (z_isGood, .inl (cy 2, 32, .inl v_isGoodc))] H ∧ va_D A [(z, .inr (9, [.int v_fault, .int v_size, .int v_upper, .int v_base, .ref z_isGood, .ref z_frozen, .ref z_sheetSize, .ref z_sheetLane, .ref z_sheet, .ref z_hands, .int v_wide, .long v_mask, .int v_paths, .ref z_seen, .ref z_work, .ref z_known, .ref z_next, .int v_come, .int v_isCounted, .ref z_counts, .ref z_acrosses, .ref z_failings, .int v_basis, .ref z_given, .int v_trace])), (z_isGood, .inl (cy 2, 32, .inl v_isGoodc))] ∧ va_S A s.heap H locs ∧ lv_has ls 2 [(0, .ref z), (1, .int x1)]) (pcM := 25) (st := [.int ms_4, .ref z]) ?_ (fun hJ25 => ?_)
    · intro H locs ls hp_
      obtain ⟨hP, hD, hS, hl⟩ := hp_
      clear hR_5
      obtain ⟨o_6, hc_7, h⟩ := gx_b h
      refine gCallv (wr := [(z_isGood, .inl (cy 2, 32, .inl v_isGoodc))]) (va_runV (As := [.int ms_4]) (rest := []) ⟨hx, hb, hml, hown, hts⟩ (c_X10_traced l D cy t H.size K z z_isGood z_frozen z_sheetSize z_sheetLane z_sheet z_hands z_seen z_work z_known z_next z_counts z_acrosses z_failings z_given v_fault v_size v_upper v_base v_wide v_mask v_paths v_come v_isCounted v_basis v_trace ms_4 o_6 hc_7) (cwV 1 hts gX10_weigh_X10_traced rfl rfl rfl (by decide +kernel) ⟨Nat.le_of_ble_eq_true rfl, Nat.le_of_ble_eq_true rfl⟩) ⟨gBlind, va_recv hK hP (ci := 9) (q0 := 0) rfl rfl, fun U hU hW => ⟨rfl, gPre.call hK hG hA hP hD hS [0] (by decide) rfl U hU hW⟩⟩ rfl rfl hl.1 rfl (lv_room (Nat.le_of_ble_eq_true rfl)) dX10_weigh_25 ⟨Nat.le_of_ble_eq_true rfl, Nat.le_of_ble_eq_true rfl⟩) hA hP hD hS [0] [1] rfl rfl (by decide) (by decide) (fun H locs hP hD hS => ?_)
      have hP := hP.sub (ws' := [(z, .inr (9, [.int v_fault, .int v_size, .int v_upper, .int v_base, .ref z_isGood, .ref z_frozen, .ref z_sheetSize, .ref z_sheetLane, .ref z_sheet, .ref z_hands, .int v_wide, .long v_mask, .int v_paths, .ref z_seen, .ref z_work, .ref z_known, .ref z_next, .int v_come, .int v_isCounted, .ref z_counts, .ref z_acrosses, .ref z_failings, .int v_basis, .ref z_given, .int o_6])), (z_isGood, .inl (cy 2, 32, .inl v_isGoodc))]) [1, 0] rfl
      have hD := hD.sub (ws' := [(z, .inr (9, [.int v_fault, .int v_size, .int v_upper, .int v_base, .ref z_isGood, .ref z_frozen, .ref z_sheetSize, .ref z_sheetLane, .ref z_sheet, .ref z_hands, .int v_wide, .long v_mask, .int v_paths, .ref z_seen, .ref z_work, .ref z_known, .ref z_next, .int v_come, .int v_isCounted, .ref z_counts, .ref z_acrosses, .ref z_failings, .int v_basis, .ref z_given, .int o_6])), (z_isGood, .inl (cy 2, 32, .inl v_isGoodc))]) [1, 0] (by decide) rfl
      refine lv_aload_n hx hb dX10_weigh_28 rfl (lv_at hl 0 rfl) ?_
      refine va_get (D := D) (ci := 9) (v := .ref z_isGood) (C := RX10) (T := TX10) (N := 25) hx hb hts iX10 hown hK hP 0 rfl rfl 4 (by decide) f7 (fun _ h9 => h9) rfl dX10_weigh_29 ?_
      refine lv_iload_n hx hb dX10_weigh_32 rfl (lv_at hl 1 rfl) ?_
      obtain ⟨hi_, h⟩ := gx_ix h
      refine va_zald hx hb hK hP 1 2 rfl rfl hi_ dX10_weigh_33 ?_
      refine lv_if_eq (tgt := 46) hx hb dX10_weigh_34 (by decide) (fun c_8 => ?_) (fun c_8 => ?_)
      · have h := gx_t c_8 h
        refine lv_iload_n hx hb dX10_weigh_46 rfl (lv_at hl 1 rfl) ?_
        cases h
        exact gRi hx hb hr hlocks hP hD hS dX10_weigh_47
      · have h := gx_f c_8 h
        refine lv_aload_n hx hb dX10_weigh_37 rfl (lv_at hl 0 rfl) ?_
        refine va_get (D := D) (ci := 9) (v := .int v_size) (C := RX10) (T := TX10) (N := 25) hx hb hts iX10 hown hK hP 0 rfl rfl 1 (by decide) f54 (fun _ h9 => h9) rfl dX10_weigh_38 ?_
        refine lv_iload_n hx hb dX10_weigh_41 rfl (lv_at hl 1 rfl) ?_
        refine lv_isub hx hb dX10_weigh_42 ?_
        refine lv_goto (tgt := 47) hx hb dX10_weigh_43 (by decide) ?_
        cases h
        exact gRi hx hb hr hlocks hP hD hS dX10_weigh_47
    · have h := hR_5
      refine lv_if_eq (tgt := 24) hx hb dX10_weigh_17 (by decide) (fun c_9 => ?_) (fun c_9 => ?_)
      · have h := gx_t c_9 h
        refine lv_iconst (v := 4) hx hb dX10_weigh_24 (by decide) ?_
        have hl := lv_sub (l' := [(0, .ref z), (1, .int x1)]) hl [0, 1] rfl
        cases h
        exact hJ25 _ _ _ ⟨hP, hD, hS, hl⟩
      · have h := gx_f c_9 h
        refine lv_iconst (v := 5) hx hb dX10_weigh_20 (by decide) ?_
        refine lv_goto (tgt := 25) hx hb dX10_weigh_21 (by decide) ?_
        have hl := lv_sub (l' := [(0, .ref z), (1, .int x1)]) hl [0, 1] rfl
        cases h
        exact hJ25 _ _ _ ⟨hP, hD, hS, hl⟩
  · have h := gx_f c_3 h
    refine lv_iconst (v := (-1)) hx hb dX10_weigh_8 (by decide) ?_
    cases h
    exact gRi hx hb hr hlocks hP hD hS dX10_weigh_9

def f_X10_as (K : Nat) (x1 : Int32) (x2 : Int32) (v_size : Int32) (v_upper : Int32) (v_base : Int32) (v_isGoodc : Nat → Int32) : Option (Int32 × Int32) :=
  Option.bind (f_X10_noPlace K x1 v_size) fun r_1 =>
  if r_1 = 0 then
    Option.bind (f_X10_in K (Int32.toInt64 x2) 0 2) fun r_3 =>
    if r_3 = 0 then
      Option.bind (f_X10_refused K (-2)) fun (r_15, o_16) =>
      some (r_15, o_16)
    else
      Option.bind (α := Int32) (
        if x2 = 0 then
          gIx x1 32 <|
          if (v_isGoodc (Int32.toNatClampNeg x1)) = 0 then
            some 1
          else
            some 0
        else
          if x2 = 1 then
            gIx x1 32 <|
            some (v_isGoodc (Int32.toNatClampNeg x1))
          else
            Option.bind (f_X10_isBest K x1 v_size v_upper v_base v_isGoodc) fun r_8 =>
            some r_8) fun ms_5 =>
      if ms_5 = 0 then
        Option.bind (f_X10_failed K 2) fun (r_11, o_12) =>
        some (r_11, o_12)
      else
        Option.bind (f_X10_refused K 1) fun (r_13, o_14) =>
        some (r_13, o_14)
  else
    Option.bind (f_X10_refused K (-1)) fun (r_17, o_18) =>
    some (r_17, o_18)
set_option maxHeartbeats 4000000 in
set_option maxRecDepth 100000 in
theorem c_X10_as (l : Launch) (D : va_G) (cy : Nat → ClassId) (t sz K : Nat) (z : Nat) (z_isGood : Nat) (z_frozen : Nat) (z_sheetSize : Nat) (z_sheetLane : Nat) (z_sheet : Nat) (z_hands : Nat) (z_seen : Nat) (z_work : Nat) (z_known : Nat) (z_next : Nat) (z_counts : Nat) (z_acrosses : Nat) (z_failings : Nat) (z_given : Nat) (v_fault : Int32) (v_size : Int32) (v_upper : Int32) (v_base : Int32) (v_wide : Int32) (v_mask : Int64) (v_paths : Int32) (v_come : Int32) (v_isCounted : Int32) (v_basis : Int32) (v_trace : Int32) (v_isGoodc : Nat → Int32) (x1 : Int32) (x2 : Int32) (r_ : Int32) (o_v_fault : Int32) (h : f_X10_as K x1 x2 v_size v_upper v_base v_isGoodc = some (r_, o_v_fault)) : gMi l D cy t sz yX10_as wsX10_as 2 47 [.ref z, .int x1, .int x2] [(z, .inr (9, [.int v_fault, .int v_size, .int v_upper, .int v_base, .ref z_isGood, .ref z_frozen, .ref z_sheetSize, .ref z_sheetLane, .ref z_sheet, .ref z_hands, .int v_wide, .long v_mask, .int v_paths, .ref z_seen, .ref z_work, .ref z_known, .ref z_next, .int v_come, .int v_isCounted, .ref z_counts, .ref z_acrosses, .ref z_failings, .int v_basis, .ref z_given, .int v_trace])), (z_isGood, .inl (cy 2, 32, .inl v_isGoodc))] r_ [(z, .inr (9, [.int o_v_fault, .int v_size, .int v_upper, .int v_base, .ref z_isGood, .ref z_frozen, .ref z_sheetSize, .ref z_sheetLane, .ref z_sheet, .ref z_hands, .int v_wide, .long v_mask, .int v_paths, .ref z_seen, .ref z_work, .ref z_known, .ref z_next, .int v_come, .int v_isCounted, .ref z_counts, .ref z_acrosses, .ref z_failings, .int v_basis, .ref z_given, .int v_trace])), (z_isGood, .inl (cy 2, 32, .inl v_isGoodc))] := by
  refine gBi (cc := cX10_as) (maxL := 4) (ret := (some .int)) (by decide) rfl (Nat.le_of_ble_eq_true rfl) ?_
  intro p e s m below meth c A ls hAt hl
  obtain ⟨hx, hb, hml, hr, hts, hown, hlocks, hin, hK, hG, hA, hP, hD⟩ := hAt
  have hS : va_S A s.heap s.heap [] := va_S.rf
  have hl : lv_has ls 4 [(0, .ref z), (1, .int x1), (2, .int x2)] := hl
  have k93 := hts (.constantLong RX10 93 (2)) (by decide +kernel)
  have f7 := hts (.fieldLink RX10 7 "PlainLinesModel" "isGood" "[Z") (by decide +kernel)
  have iX10 := (by decide +kernel : ∀ w ∈ u_ws RX10 TX10 25, w ∈ wsX10_as)
  rw [f_X10_as] at h
  refine lv_aload_n hx hb dX10_as_0 rfl (lv_at hl 0 rfl) ?_
  refine lv_iload_n hx hb dX10_as_1 rfl (lv_at hl 1 rfl) ?_
  obtain ⟨r_1, hc_2, h⟩ := gx_b h
  refine gCalli (wr := [(z_isGood, .inl (cy 2, 32, .inl v_isGoodc))]) (va_runV (As := [.int x1]) (rest := []) ⟨hx, hb, hml, hown, hts⟩ (c_X10_noPlace l D cy t s.heap.size K z z_isGood z_frozen z_sheetSize z_sheetLane z_sheet z_hands z_seen z_work z_known z_next z_counts z_acrosses z_failings z_given v_fault v_size v_upper v_base v_wide v_mask v_paths v_come v_isCounted v_basis v_trace x1 r_1 hc_2) (cwV 1 hts gX10_as_X10_noPlace rfl rfl rfl (by decide +kernel) ⟨Nat.le_of_ble_eq_true rfl, Nat.le_of_ble_eq_true rfl⟩) ⟨gBlind, va_recv hK hP (ci := 9) (q0 := 0) rfl rfl, fun U hU hW => ⟨rfl, gPre.call hK hG hA hP hD hS [0] (by decide) rfl U hU hW⟩⟩ rfl rfl hl.1 rfl (lv_room (Nat.le_of_ble_eq_true rfl)) dX10_as_2 ⟨Nat.le_of_ble_eq_true rfl, Nat.le_of_ble_eq_true rfl⟩) hA hP hD hS [0] [1] rfl rfl (by decide) (by decide) (fun H locs hP hD hS => ?_)
  have hP := hP.sub (ws' := [(z, .inr (9, [.int v_fault, .int v_size, .int v_upper, .int v_base, .ref z_isGood, .ref z_frozen, .ref z_sheetSize, .ref z_sheetLane, .ref z_sheet, .ref z_hands, .int v_wide, .long v_mask, .int v_paths, .ref z_seen, .ref z_work, .ref z_known, .ref z_next, .int v_come, .int v_isCounted, .ref z_counts, .ref z_acrosses, .ref z_failings, .int v_basis, .ref z_given, .int v_trace])), (z_isGood, .inl (cy 2, 32, .inl v_isGoodc))]) [1, 0] rfl
  have hD := hD.sub (ws' := [(z, .inr (9, [.int v_fault, .int v_size, .int v_upper, .int v_base, .ref z_isGood, .ref z_frozen, .ref z_sheetSize, .ref z_sheetLane, .ref z_sheet, .ref z_hands, .int v_wide, .long v_mask, .int v_paths, .ref z_seen, .ref z_work, .ref z_known, .ref z_next, .int v_come, .int v_isCounted, .ref z_counts, .ref z_acrosses, .ref z_failings, .int v_basis, .ref z_given, .int v_trace])), (z_isGood, .inl (cy 2, 32, .inl v_isGoodc))]) [1, 0] (by decide) rfl
  refine lv_if_eq (tgt := 14) hx hb dX10_as_5 (by decide) (fun c_3 => ?_) (fun c_3 => ?_)
  · have h := gx_t c_3 h
    refine lv_iload_n hx hb dX10_as_14 rfl (lv_at hl 2 rfl) ?_
    refine lv_i2l (v := (Int32.toInt64 x2)) hx hb dX10_as_15 rfl ?_
    refine lv_lconst (v := 0) hx hb dX10_as_16 (by decide) ?_
    refine lv_ldc2 hx hb hown k93 dX10_as_17 ?_
    obtain ⟨r_4, hc_5, h⟩ := gx_b h
    refine gCalli (wr := [(z, .inr (9, [.int v_fault, .int v_size, .int v_upper, .int v_base, .ref z_isGood, .ref z_frozen, .ref z_sheetSize, .ref z_sheetLane, .ref z_sheet, .ref z_hands, .int v_wide, .long v_mask, .int v_paths, .ref z_seen, .ref z_work, .ref z_known, .ref z_next, .int v_come, .int v_isCounted, .ref z_counts, .ref z_acrosses, .ref z_failings, .int v_basis, .ref z_given, .int v_trace])), (z_isGood, .inl (cy 2, 32, .inl v_isGoodc))]) (va_runS (As := [.long (Int32.toInt64 x2), .long 0, .long 2]) (rest := []) ⟨hx, hb, hml, hown, hts⟩ (c_X10_in l D cy t H.size K (Int32.toInt64 x2) 0 2 r_4 hc_5) (va_cwS 3 hts gX10_as_X10_in rfl rfl rfl (by decide +kernel) ⟨Nat.le_of_ble_eq_true rfl, Nat.le_of_ble_eq_true rfl⟩) ⟨gBlind, fun U hU hW => ⟨rfl, gPre.call hK hG hA hP hD hS [] (by decide) rfl U hU hW⟩⟩ rfl rfl hl.1 rfl (lv_room (Nat.le_of_ble_eq_true rfl)) dX10_as_20 ⟨Nat.le_of_ble_eq_true rfl, Nat.le_of_ble_eq_true rfl⟩) hA hP hD hS [] [0, 1] rfl rfl (by decide) (by decide) (fun H locs hP hD hS => ?_)
    have hP : va_P D vwCl [(z, .inr (9, [.int v_fault, .int v_size, .int v_upper, .int v_base, .ref z_isGood, .ref z_frozen, .ref z_sheetSize, .ref z_sheetLane, .ref z_sheet, .ref z_hands, .int v_wide, .long v_mask, .int v_paths, .ref z_seen, .ref z_work, .ref z_known, .ref z_next, .int v_come, .int v_isCounted, .ref z_counts, .ref z_acrosses, .ref z_failings, .int v_basis, .ref z_given, .int v_trace])), (z_isGood, .inl (cy 2, 32, .inl v_isGoodc))] H := hP
    have hD : va_D A [(z, .inr (9, [.int v_fault, .int v_size, .int v_upper, .int v_base, .ref z_isGood, .ref z_frozen, .ref z_sheetSize, .ref z_sheetLane, .ref z_sheet, .ref z_hands, .int v_wide, .long v_mask, .int v_paths, .ref z_seen, .ref z_work, .ref z_known, .ref z_next, .int v_come, .int v_isCounted, .ref z_counts, .ref z_acrosses, .ref z_failings, .int v_basis, .ref z_given, .int v_trace])), (z_isGood, .inl (cy 2, 32, .inl v_isGoodc))] := hD
    refine lv_if_ne (tgt := 33) hx hb dX10_as_23 (by decide) (fun c_6 => ?_) (fun c_6 => ?_)
    · have h := gx_f c_6 h
      refine lv_iload_n hx hb dX10_as_33 rfl (lv_at hl 2 rfl) ?_
      obtain ⟨ms_7, hR_8, h⟩ := gx_b h
      refine gJoin (Pj := fun H locs ls => va_P D vwCl [(z, .inr (9, [.int v_fault, .int v_size, .int v_upper, .int v_base, .ref z_isGood, .ref z_frozen, .ref z_sheetSize, .ref z_sheetLane, .ref z_sheet, .ref z_hands, .int v_wide, .long v_mask, .int v_paths, .ref z_seen, .ref z_work, .ref z_known, .ref z_next, .int v_come, .int v_isCounted, .ref z_counts, .ref z_acrosses, .ref z_failings, .int v_basis, .ref z_given, .int v_trace])), (z_isGood, .inl (cy 2, 32, .inl v_isGoodc))] H ∧ va_D A [(z, .inr (9, [.int v_fault, .int v_size, .int v_upper, .int v_base, .ref z_isGood, .ref z_frozen, .ref z_sheetSize, .ref z_sheetLane, .ref z_sheet, .ref z_hands, .int v_wide, .long v_mask, .int v_paths, .ref z_seen, .ref z_work, .ref z_known, .ref z_next, .int v_come, .int v_isCounted, .ref z_counts, .ref z_acrosses, .ref z_failings, .int v_basis, .ref z_given, .int v_trace])), (z_isGood, .inl (cy 2, 32, .inl v_isGoodc))] ∧ va_S A s.heap H locs ∧ lv_has ls 4 [(0, .ref z), (1, .int x1), (2, .int x2)]) (pcM := 73) (st := [.int ms_7]) ?_ (fun hJ73 => ?_)
      · intro H locs ls hp_
        obtain ⟨hP, hD, hS, hl⟩ := hp_
        clear hR_8
        refine lv_istore_n (lv' := [(3, .int ms_7), (0, .ref z), (1, .int x1), (2, .int x2)]) hx hb dX10_as_73 rfl hl (by decide) rfl (fun ls hl => ?_)
        refine lv_iload_n hx hb dX10_as_74 rfl (lv_at hl 0 rfl) ?_
        refine lv_if_eq (tgt := 86) hx hb dX10_as_75 (by decide) (fun c_9 => ?_) (fun c_9 => ?_)
        · have h := gx_t c_9 h
          refine lv_aload_n hx hb dX10_as_86 rfl (lv_at hl 1 rfl) ?_
          refine lv_iconst (v := 2) hx hb dX10_as_87 (by decide) ?_
          obtain ⟨⟨r_10, o_11⟩, hc_12, h⟩ := gx_b h
          refine gCalli (wr := [(z_isGood, .inl (cy 2, 32, .inl v_isGoodc))]) (va_runV (As := [.int 2]) (rest := []) ⟨hx, hb, hml, hown, hts⟩ (c_X10_failed l D cy t H.size K z z_isGood z_frozen z_sheetSize z_sheetLane z_sheet z_hands z_seen z_work z_known z_next z_counts z_acrosses z_failings z_given v_fault v_size v_upper v_base v_wide v_mask v_paths v_come v_isCounted v_basis v_trace 2 r_10 o_11 hc_12) (cwV 1 hts gX10_as_X10_failed rfl rfl rfl (by decide +kernel) ⟨Nat.le_of_ble_eq_true rfl, Nat.le_of_ble_eq_true rfl⟩) ⟨gBlind, va_recv hK hP (ci := 9) (q0 := 0) rfl rfl, fun U hU hW => ⟨rfl, gPre.call hK hG hA hP hD hS [0] (by decide) rfl U hU hW⟩⟩ rfl rfl hl.1 rfl (lv_room (Nat.le_of_ble_eq_true rfl)) dX10_as_88 ⟨Nat.le_of_ble_eq_true rfl, Nat.le_of_ble_eq_true rfl⟩) hA hP hD hS [0] [1] rfl rfl (by decide) (by decide) (fun H locs hP hD hS => ?_)
          have hP := hP.sub (ws' := [(z, .inr (9, [.int o_11, .int v_size, .int v_upper, .int v_base, .ref z_isGood, .ref z_frozen, .ref z_sheetSize, .ref z_sheetLane, .ref z_sheet, .ref z_hands, .int v_wide, .long v_mask, .int v_paths, .ref z_seen, .ref z_work, .ref z_known, .ref z_next, .int v_come, .int v_isCounted, .ref z_counts, .ref z_acrosses, .ref z_failings, .int v_basis, .ref z_given, .int v_trace])), (z_isGood, .inl (cy 2, 32, .inl v_isGoodc))]) [1, 0] rfl
          have hD := hD.sub (ws' := [(z, .inr (9, [.int o_11, .int v_size, .int v_upper, .int v_base, .ref z_isGood, .ref z_frozen, .ref z_sheetSize, .ref z_sheetLane, .ref z_sheet, .ref z_hands, .int v_wide, .long v_mask, .int v_paths, .ref z_seen, .ref z_work, .ref z_known, .ref z_next, .int v_come, .int v_isCounted, .ref z_counts, .ref z_acrosses, .ref z_failings, .int v_basis, .ref z_given, .int v_trace])), (z_isGood, .inl (cy 2, 32, .inl v_isGoodc))]) [1, 0] (by decide) rfl
          cases h
          exact gRi hx hb hr hlocks hP hD hS dX10_as_91
        · have h := gx_f c_9 h
          refine lv_aload_n hx hb dX10_as_78 rfl (lv_at hl 1 rfl) ?_
          refine lv_iconst (v := 1) hx hb dX10_as_79 (by decide) ?_
          obtain ⟨⟨r_13, o_14⟩, hc_15, h⟩ := gx_b h
          refine gCalli (wr := [(z_isGood, .inl (cy 2, 32, .inl v_isGoodc))]) (va_runV (As := [.int 1]) (rest := []) ⟨hx, hb, hml, hown, hts⟩ (c_X10_refused l D cy t H.size K z z_isGood z_frozen z_sheetSize z_sheetLane z_sheet z_hands z_seen z_work z_known z_next z_counts z_acrosses z_failings z_given v_fault v_size v_upper v_base v_wide v_mask v_paths v_come v_isCounted v_basis v_trace 1 r_13 o_14 hc_15) (cwV 1 hts gX10_as_X10_refused rfl rfl rfl (by decide +kernel) ⟨Nat.le_of_ble_eq_true rfl, Nat.le_of_ble_eq_true rfl⟩) ⟨gBlind, va_recv hK hP (ci := 9) (q0 := 0) rfl rfl, fun U hU hW => ⟨rfl, gPre.call hK hG hA hP hD hS [0] (by decide) rfl U hU hW⟩⟩ rfl rfl hl.1 rfl (lv_room (Nat.le_of_ble_eq_true rfl)) dX10_as_80 ⟨Nat.le_of_ble_eq_true rfl, Nat.le_of_ble_eq_true rfl⟩) hA hP hD hS [0] [1] rfl rfl (by decide) (by decide) (fun H locs hP hD hS => ?_)
          have hP := hP.sub (ws' := [(z, .inr (9, [.int o_14, .int v_size, .int v_upper, .int v_base, .ref z_isGood, .ref z_frozen, .ref z_sheetSize, .ref z_sheetLane, .ref z_sheet, .ref z_hands, .int v_wide, .long v_mask, .int v_paths, .ref z_seen, .ref z_work, .ref z_known, .ref z_next, .int v_come, .int v_isCounted, .ref z_counts, .ref z_acrosses, .ref z_failings, .int v_basis, .ref z_given, .int v_trace])), (z_isGood, .inl (cy 2, 32, .inl v_isGoodc))]) [1, 0] rfl
          have hD := hD.sub (ws' := [(z, .inr (9, [.int o_14, .int v_size, .int v_upper, .int v_base, .ref z_isGood, .ref z_frozen, .ref z_sheetSize, .ref z_sheetLane, .ref z_sheet, .ref z_hands, .int v_wide, .long v_mask, .int v_paths, .ref z_seen, .ref z_work, .ref z_known, .ref z_next, .int v_come, .int v_isCounted, .ref z_counts, .ref z_acrosses, .ref z_failings, .int v_basis, .ref z_given, .int v_trace])), (z_isGood, .inl (cy 2, 32, .inl v_isGoodc))]) [1, 0] (by decide) rfl
          refine lv_goto (tgt := 91) hx hb dX10_as_83 (by decide) ?_
          cases h
          exact gRi hx hb hr hlocks hP hD hS dX10_as_91
      · have h := hR_8
        refine lv_if_ne (tgt := 54) hx hb dX10_as_34 (by decide) (fun c_16 => ?_) (fun c_16 => ?_)
        · have h := gx_f c_16 h
          refine lv_iload_n hx hb dX10_as_54 rfl (lv_at hl 2 rfl) ?_
          refine lv_iconst (v := 1) hx hb dX10_as_55 (by decide) ?_
          refine lv_icmp_ne (tgt := 68) hx hb dX10_as_56 (by decide) (fun c_17 => ?_) (fun c_17 => ?_)
          · have h := gx_f c_17 h
            refine lv_aload_n hx hb dX10_as_68 rfl (lv_at hl 0 rfl) ?_
            refine lv_iload_n hx hb dX10_as_69 rfl (lv_at hl 1 rfl) ?_
            obtain ⟨r_18, hc_19, h⟩ := gx_b h
            refine gCalli (wr := []) (va_runV (As := [.int x1]) (rest := []) ⟨hx, hb, hml, hown, hts⟩ (c_X10_isBest l D cy t H.size K z z_isGood z_frozen z_sheetSize z_sheetLane z_sheet z_hands z_seen z_work z_known z_next z_counts z_acrosses z_failings z_given v_fault v_size v_upper v_base v_wide v_mask v_paths v_come v_isCounted v_basis v_trace v_isGoodc x1 r_18 hc_19) (cwV 1 hts gX10_as_X10_isBest rfl rfl rfl (by decide +kernel) ⟨Nat.le_of_ble_eq_true rfl, Nat.le_of_ble_eq_true rfl⟩) ⟨gBlind, va_recv hK hP (ci := 9) (q0 := 0) rfl rfl, fun U hU hW => ⟨rfl, gPre.call hK hG hA hP hD hS [0, 1] (by decide) rfl U hU hW⟩⟩ rfl rfl hl.1 rfl (lv_room (Nat.le_of_ble_eq_true rfl)) dX10_as_70 ⟨Nat.le_of_ble_eq_true rfl, Nat.le_of_ble_eq_true rfl⟩) hA hP hD hS [0, 1] [] rfl rfl (by decide) (by decide) (fun H locs hP hD hS => ?_)
            have hP : va_P D vwCl [(z, .inr (9, [.int v_fault, .int v_size, .int v_upper, .int v_base, .ref z_isGood, .ref z_frozen, .ref z_sheetSize, .ref z_sheetLane, .ref z_sheet, .ref z_hands, .int v_wide, .long v_mask, .int v_paths, .ref z_seen, .ref z_work, .ref z_known, .ref z_next, .int v_come, .int v_isCounted, .ref z_counts, .ref z_acrosses, .ref z_failings, .int v_basis, .ref z_given, .int v_trace])), (z_isGood, .inl (cy 2, 32, .inl v_isGoodc))] H := hP
            have hD : va_D A [(z, .inr (9, [.int v_fault, .int v_size, .int v_upper, .int v_base, .ref z_isGood, .ref z_frozen, .ref z_sheetSize, .ref z_sheetLane, .ref z_sheet, .ref z_hands, .int v_wide, .long v_mask, .int v_paths, .ref z_seen, .ref z_work, .ref z_known, .ref z_next, .int v_come, .int v_isCounted, .ref z_counts, .ref z_acrosses, .ref z_failings, .int v_basis, .ref z_given, .int v_trace])), (z_isGood, .inl (cy 2, 32, .inl v_isGoodc))] := hD
            have hl := lv_sub (l' := [(0, .ref z), (1, .int x1), (2, .int x2)]) hl [0, 1, 2] rfl
            cases h
            exact hJ73 _ _ _ ⟨hP, hD, hS, hl⟩
          · have h := gx_t c_17 h
            refine lv_aload_n hx hb dX10_as_59 rfl (lv_at hl 0 rfl) ?_
            refine va_get (D := D) (ci := 9) (v := .ref z_isGood) (C := RX10) (T := TX10) (N := 25) hx hb hts iX10 hown hK hP 0 rfl rfl 4 (by decide) f7 (fun _ h9 => h9) rfl dX10_as_60 ?_
            refine lv_iload_n hx hb dX10_as_63 rfl (lv_at hl 1 rfl) ?_
            obtain ⟨hi_, h⟩ := gx_ix h
            refine va_zald hx hb hK hP 1 2 rfl rfl hi_ dX10_as_64 ?_
            refine lv_goto (tgt := 73) hx hb dX10_as_65 (by decide) ?_
            have hl := lv_sub (l' := [(0, .ref z), (1, .int x1), (2, .int x2)]) hl [0, 1, 2] rfl
            cases h
            exact hJ73 _ _ _ ⟨hP, hD, hS, hl⟩
        · have h := gx_t c_16 h
          refine lv_aload_n hx hb dX10_as_37 rfl (lv_at hl 0 rfl) ?_
          refine va_get (D := D) (ci := 9) (v := .ref z_isGood) (C := RX10) (T := TX10) (N := 25) hx hb hts iX10 hown hK hP 0 rfl rfl 4 (by decide) f7 (fun _ h9 => h9) rfl dX10_as_38 ?_
          refine lv_iload_n hx hb dX10_as_41 rfl (lv_at hl 1 rfl) ?_
          obtain ⟨hi_, h⟩ := gx_ix h
          refine va_zald hx hb hK hP 1 2 rfl rfl hi_ dX10_as_42 ?_
          refine lv_if_ne (tgt := 50) hx hb dX10_as_43 (by decide) (fun c_20 => ?_) (fun c_20 => ?_)
          · have h := gx_f c_20 h
            refine lv_iconst (v := 0) hx hb dX10_as_50 (by decide) ?_
            refine lv_goto (tgt := 73) hx hb dX10_as_51 (by decide) ?_
            have hl := lv_sub (l' := [(0, .ref z), (1, .int x1), (2, .int x2)]) hl [0, 1, 2] rfl
            cases h
            exact hJ73 _ _ _ ⟨hP, hD, hS, hl⟩
          · have h := gx_t c_20 h
            refine lv_iconst (v := 1) hx hb dX10_as_46 (by decide) ?_
            refine lv_goto (tgt := 73) hx hb dX10_as_47 (by decide) ?_
            have hl := lv_sub (l' := [(0, .ref z), (1, .int x1), (2, .int x2)]) hl [0, 1, 2] rfl
            cases h
            exact hJ73 _ _ _ ⟨hP, hD, hS, hl⟩
    · have h := gx_t c_6 h
      refine lv_aload_n hx hb dX10_as_26 rfl (lv_at hl 0 rfl) ?_
      refine lv_bipush (v := (-2)) hx hb dX10_as_27 (by decide) ?_
      obtain ⟨⟨r_21, o_22⟩, hc_23, h⟩ := gx_b h
      refine gCalli (wr := [(z_isGood, .inl (cy 2, 32, .inl v_isGoodc))]) (va_runV (As := [.int (-2)]) (rest := []) ⟨hx, hb, hml, hown, hts⟩ (c_X10_refused l D cy t H.size K z z_isGood z_frozen z_sheetSize z_sheetLane z_sheet z_hands z_seen z_work z_known z_next z_counts z_acrosses z_failings z_given v_fault v_size v_upper v_base v_wide v_mask v_paths v_come v_isCounted v_basis v_trace (-2) r_21 o_22 hc_23) (cwV 1 hts gX10_as_X10_refused rfl rfl rfl (by decide +kernel) ⟨Nat.le_of_ble_eq_true rfl, Nat.le_of_ble_eq_true rfl⟩) ⟨gBlind, va_recv hK hP (ci := 9) (q0 := 0) rfl rfl, fun U hU hW => ⟨rfl, gPre.call hK hG hA hP hD hS [0] (by decide) rfl U hU hW⟩⟩ rfl rfl hl.1 rfl (lv_room (Nat.le_of_ble_eq_true rfl)) dX10_as_29 ⟨Nat.le_of_ble_eq_true rfl, Nat.le_of_ble_eq_true rfl⟩) hA hP hD hS [0] [1] rfl rfl (by decide) (by decide) (fun H locs hP hD hS => ?_)
      have hP := hP.sub (ws' := [(z, .inr (9, [.int o_22, .int v_size, .int v_upper, .int v_base, .ref z_isGood, .ref z_frozen, .ref z_sheetSize, .ref z_sheetLane, .ref z_sheet, .ref z_hands, .int v_wide, .long v_mask, .int v_paths, .ref z_seen, .ref z_work, .ref z_known, .ref z_next, .int v_come, .int v_isCounted, .ref z_counts, .ref z_acrosses, .ref z_failings, .int v_basis, .ref z_given, .int v_trace])), (z_isGood, .inl (cy 2, 32, .inl v_isGoodc))]) [1, 0] rfl
      have hD := hD.sub (ws' := [(z, .inr (9, [.int o_22, .int v_size, .int v_upper, .int v_base, .ref z_isGood, .ref z_frozen, .ref z_sheetSize, .ref z_sheetLane, .ref z_sheet, .ref z_hands, .int v_wide, .long v_mask, .int v_paths, .ref z_seen, .ref z_work, .ref z_known, .ref z_next, .int v_come, .int v_isCounted, .ref z_counts, .ref z_acrosses, .ref z_failings, .int v_basis, .ref z_given, .int v_trace])), (z_isGood, .inl (cy 2, 32, .inl v_isGoodc))]) [1, 0] (by decide) rfl
      cases h
      exact gRi hx hb hr hlocks hP hD hS dX10_as_32
  · have h := gx_f c_3 h
    refine lv_aload_n hx hb dX10_as_8 rfl (lv_at hl 0 rfl) ?_
    refine lv_iconst (v := (-1)) hx hb dX10_as_9 (by decide) ?_
    obtain ⟨⟨r_24, o_25⟩, hc_26, h⟩ := gx_b h
    refine gCalli (wr := [(z_isGood, .inl (cy 2, 32, .inl v_isGoodc))]) (va_runV (As := [.int (-1)]) (rest := []) ⟨hx, hb, hml, hown, hts⟩ (c_X10_refused l D cy t H.size K z z_isGood z_frozen z_sheetSize z_sheetLane z_sheet z_hands z_seen z_work z_known z_next z_counts z_acrosses z_failings z_given v_fault v_size v_upper v_base v_wide v_mask v_paths v_come v_isCounted v_basis v_trace (-1) r_24 o_25 hc_26) (cwV 1 hts gX10_as_X10_refused rfl rfl rfl (by decide +kernel) ⟨Nat.le_of_ble_eq_true rfl, Nat.le_of_ble_eq_true rfl⟩) ⟨gBlind, va_recv hK hP (ci := 9) (q0 := 0) rfl rfl, fun U hU hW => ⟨rfl, gPre.call hK hG hA hP hD hS [0] (by decide) rfl U hU hW⟩⟩ rfl rfl hl.1 rfl (lv_room (Nat.le_of_ble_eq_true rfl)) dX10_as_10 ⟨Nat.le_of_ble_eq_true rfl, Nat.le_of_ble_eq_true rfl⟩) hA hP hD hS [0] [1] rfl rfl (by decide) (by decide) (fun H locs hP hD hS => ?_)
    have hP := hP.sub (ws' := [(z, .inr (9, [.int o_25, .int v_size, .int v_upper, .int v_base, .ref z_isGood, .ref z_frozen, .ref z_sheetSize, .ref z_sheetLane, .ref z_sheet, .ref z_hands, .int v_wide, .long v_mask, .int v_paths, .ref z_seen, .ref z_work, .ref z_known, .ref z_next, .int v_come, .int v_isCounted, .ref z_counts, .ref z_acrosses, .ref z_failings, .int v_basis, .ref z_given, .int v_trace])), (z_isGood, .inl (cy 2, 32, .inl v_isGoodc))]) [1, 0] rfl
    have hD := hD.sub (ws' := [(z, .inr (9, [.int o_25, .int v_size, .int v_upper, .int v_base, .ref z_isGood, .ref z_frozen, .ref z_sheetSize, .ref z_sheetLane, .ref z_sheet, .ref z_hands, .int v_wide, .long v_mask, .int v_paths, .ref z_seen, .ref z_work, .ref z_known, .ref z_next, .int v_come, .int v_isCounted, .ref z_counts, .ref z_acrosses, .ref z_failings, .int v_basis, .ref z_given, .int v_trace])), (z_isGood, .inl (cy 2, 32, .inl v_isGoodc))]) [1, 0] (by decide) rfl
    cases h
    exact gRi hx hb hr hlocks hP hD hS dX10_as_13

def f_X10_trace (K : Nat) (v_trace : Int32) : Option (Int32) :=
  some v_trace
set_option maxHeartbeats 4000000 in
set_option maxRecDepth 100000 in
theorem c_X10_trace (l : Launch) (D : va_G) (cy : Nat → ClassId) (t sz K : Nat) (z : Nat) (z_isGood : Nat) (z_frozen : Nat) (z_sheetSize : Nat) (z_sheetLane : Nat) (z_sheet : Nat) (z_hands : Nat) (z_seen : Nat) (z_work : Nat) (z_known : Nat) (z_next : Nat) (z_counts : Nat) (z_acrosses : Nat) (z_failings : Nat) (z_given : Nat) (v_fault : Int32) (v_size : Int32) (v_upper : Int32) (v_base : Int32) (v_wide : Int32) (v_mask : Int64) (v_paths : Int32) (v_come : Int32) (v_isCounted : Int32) (v_basis : Int32) (v_trace : Int32) (r_ : Int32) (h : f_X10_trace K v_trace = some r_) : gMi l D cy t sz yX10_trace wsX10_trace 0 0 [.ref z] [(z, .inr (9, [.int v_fault, .int v_size, .int v_upper, .int v_base, .ref z_isGood, .ref z_frozen, .ref z_sheetSize, .ref z_sheetLane, .ref z_sheet, .ref z_hands, .int v_wide, .long v_mask, .int v_paths, .ref z_seen, .ref z_work, .ref z_known, .ref z_next, .int v_come, .int v_isCounted, .ref z_counts, .ref z_acrosses, .ref z_failings, .int v_basis, .ref z_given, .int v_trace]))] r_ [(z, .inr (9, [.int v_fault, .int v_size, .int v_upper, .int v_base, .ref z_isGood, .ref z_frozen, .ref z_sheetSize, .ref z_sheetLane, .ref z_sheet, .ref z_hands, .int v_wide, .long v_mask, .int v_paths, .ref z_seen, .ref z_work, .ref z_known, .ref z_next, .int v_come, .int v_isCounted, .ref z_counts, .ref z_acrosses, .ref z_failings, .int v_basis, .ref z_given, .int v_trace]))] := by
  refine gBi (cc := cX10_trace) (maxL := 1) (ret := (some .int)) (by decide) rfl (Nat.le_of_ble_eq_true rfl) ?_
  intro p e s m below meth c A ls hAt hl
  obtain ⟨hx, hb, hml, hr, hts, hown, hlocks, hin, hK, hG, hA, hP, hD⟩ := hAt
  have hS : va_S A s.heap s.heap [] := va_S.rf
  have hl : lv_has ls 1 [(0, .ref z)] := hl
  have f206 := hts (.fieldLink RX10 206 "PlainLinesModel" "trace" "I") (by decide +kernel)
  have iX10 := (by decide +kernel : ∀ w ∈ u_ws RX10 TX10 25, w ∈ wsX10_trace)
  rw [f_X10_trace] at h
  refine lv_aload_n hx hb dX10_trace_0 rfl (lv_at hl 0 rfl) ?_
  refine va_get (D := D) (ci := 9) (v := .int v_trace) (C := RX10) (T := TX10) (N := 25) hx hb hts iX10 hown hK hP 0 rfl rfl 24 (by decide) f206 (fun _ h9 => h9) rfl dX10_trace_1 ?_
  cases h
  exact gRi hx hb hr hlocks hP hD hS dX10_trace_4

def f_X10_fault (K : Nat) (v_fault : Int32) : Option (Int32) :=
  some v_fault
set_option maxHeartbeats 4000000 in
set_option maxRecDepth 100000 in
theorem c_X10_fault (l : Launch) (D : va_G) (cy : Nat → ClassId) (t sz K : Nat) (z : Nat) (z_isGood : Nat) (z_frozen : Nat) (z_sheetSize : Nat) (z_sheetLane : Nat) (z_sheet : Nat) (z_hands : Nat) (z_seen : Nat) (z_work : Nat) (z_known : Nat) (z_next : Nat) (z_counts : Nat) (z_acrosses : Nat) (z_failings : Nat) (z_given : Nat) (v_fault : Int32) (v_size : Int32) (v_upper : Int32) (v_base : Int32) (v_wide : Int32) (v_mask : Int64) (v_paths : Int32) (v_come : Int32) (v_isCounted : Int32) (v_basis : Int32) (v_trace : Int32) (r_ : Int32) (h : f_X10_fault K v_fault = some r_) : gMi l D cy t sz yX10_fault wsX10_fault 0 0 [.ref z] [(z, .inr (9, [.int v_fault, .int v_size, .int v_upper, .int v_base, .ref z_isGood, .ref z_frozen, .ref z_sheetSize, .ref z_sheetLane, .ref z_sheet, .ref z_hands, .int v_wide, .long v_mask, .int v_paths, .ref z_seen, .ref z_work, .ref z_known, .ref z_next, .int v_come, .int v_isCounted, .ref z_counts, .ref z_acrosses, .ref z_failings, .int v_basis, .ref z_given, .int v_trace]))] r_ [(z, .inr (9, [.int v_fault, .int v_size, .int v_upper, .int v_base, .ref z_isGood, .ref z_frozen, .ref z_sheetSize, .ref z_sheetLane, .ref z_sheet, .ref z_hands, .int v_wide, .long v_mask, .int v_paths, .ref z_seen, .ref z_work, .ref z_known, .ref z_next, .int v_come, .int v_isCounted, .ref z_counts, .ref z_acrosses, .ref z_failings, .int v_basis, .ref z_given, .int v_trace]))] := by
  refine gBi (cc := cX10_fault) (maxL := 1) (ret := (some .int)) (by decide) rfl (Nat.le_of_ble_eq_true rfl) ?_
  intro p e s m below meth c A ls hAt hl
  obtain ⟨hx, hb, hml, hr, hts, hown, hlocks, hin, hK, hG, hA, hP, hD⟩ := hAt
  have hS : va_S A s.heap s.heap [] := va_S.rf
  have hl : lv_has ls 1 [(0, .ref z)] := hl
  have f72 := hts (.fieldLink RX10 72 "PlainLinesModel" "fault" "I") (by decide +kernel)
  have iX10 := (by decide +kernel : ∀ w ∈ u_ws RX10 TX10 25, w ∈ wsX10_fault)
  rw [f_X10_fault] at h
  refine lv_aload_n hx hb dX10_fault_0 rfl (lv_at hl 0 rfl) ?_
  refine va_get (D := D) (ci := 9) (v := .int v_fault) (C := RX10) (T := TX10) (N := 25) hx hb hts iX10 hown hK hP 0 rfl rfl 0 (by decide) f72 (fun _ h9 => h9) rfl dX10_fault_1 ?_
  cases h
  exact gRi hx hb hr hlocks hP hD hS dX10_fault_4

def f_X10_told (K : Nat) (x1 : Int32) (v_size : Int32) (v_upper : Int32) (v_base : Int32) (v_wide : Int32) (v_paths : Int32) (v_isGoodc : Nat → Int32) : Option (Int32) :=
  if x1 = 0 then
    some v_size
  else
    if x1 = 1 then
      Option.bind (f_X10_goods K v_size v_isGoodc) fun r_3 =>
      some r_3
    else
      if x1 = 2 then
        some v_upper
      else
        if x1 = 3 then
          some v_base
        else
          if x1 = 4 then
            some v_wide
          else
            if x1 = 5 then
              some v_paths
            else
              some (-2)
set_option maxHeartbeats 4000000 in
set_option maxRecDepth 100000 in
theorem c_X10_told (l : Launch) (D : va_G) (cy : Nat → ClassId) (t sz K : Nat) (z : Nat) (z_isGood : Nat) (z_frozen : Nat) (z_sheetSize : Nat) (z_sheetLane : Nat) (z_sheet : Nat) (z_hands : Nat) (z_seen : Nat) (z_work : Nat) (z_known : Nat) (z_next : Nat) (z_counts : Nat) (z_acrosses : Nat) (z_failings : Nat) (z_given : Nat) (v_fault : Int32) (v_size : Int32) (v_upper : Int32) (v_base : Int32) (v_wide : Int32) (v_mask : Int64) (v_paths : Int32) (v_come : Int32) (v_isCounted : Int32) (v_basis : Int32) (v_trace : Int32) (v_isGoodc : Nat → Int32) (x1 : Int32) (r_ : Int32) (h : f_X10_told K x1 v_size v_upper v_base v_wide v_paths v_isGoodc = some r_) : gMi l D cy t sz yX10_told wsX10_told 1 22 [.ref z, .int x1] [(z, .inr (9, [.int v_fault, .int v_size, .int v_upper, .int v_base, .ref z_isGood, .ref z_frozen, .ref z_sheetSize, .ref z_sheetLane, .ref z_sheet, .ref z_hands, .int v_wide, .long v_mask, .int v_paths, .ref z_seen, .ref z_work, .ref z_known, .ref z_next, .int v_come, .int v_isCounted, .ref z_counts, .ref z_acrosses, .ref z_failings, .int v_basis, .ref z_given, .int v_trace])), (z_isGood, .inl (cy 2, 32, .inl v_isGoodc))] r_ [(z, .inr (9, [.int v_fault, .int v_size, .int v_upper, .int v_base, .ref z_isGood, .ref z_frozen, .ref z_sheetSize, .ref z_sheetLane, .ref z_sheet, .ref z_hands, .int v_wide, .long v_mask, .int v_paths, .ref z_seen, .ref z_work, .ref z_known, .ref z_next, .int v_come, .int v_isCounted, .ref z_counts, .ref z_acrosses, .ref z_failings, .int v_basis, .ref z_given, .int v_trace])), (z_isGood, .inl (cy 2, 32, .inl v_isGoodc))] := by
  refine gBi (cc := cX10_told) (maxL := 2) (ret := (some .int)) (by decide) rfl (Nat.le_of_ble_eq_true rfl) ?_
  intro p e s m below meth c A ls hAt hl
  obtain ⟨hx, hb, hml, hr, hts, hown, hlocks, hin, hK, hG, hA, hP, hD⟩ := hAt
  have hS : va_S A s.heap s.heap [] := va_S.rf
  have hl : lv_has ls 2 [(0, .ref z), (1, .int x1)] := hl
  have f54 := hts (.fieldLink RX10 54 "PlainLinesModel" "size" "I") (by decide +kernel)
  have iX10 := (by decide +kernel : ∀ w ∈ u_ws RX10 TX10 25, w ∈ wsX10_told)
  have f58 := hts (.fieldLink RX10 58 "PlainLinesModel" "upper" "I") (by decide +kernel)
  have f61 := hts (.fieldLink RX10 61 "PlainLinesModel" "base" "I") (by decide +kernel)
  have f64 := hts (.fieldLink RX10 64 "PlainLinesModel" "wide" "I") (by decide +kernel)
  have f67 := hts (.fieldLink RX10 67 "PlainLinesModel" "paths" "I") (by decide +kernel)
  rw [f_X10_told] at h
  refine lv_iload_n hx hb dX10_told_0 rfl (lv_at hl 1 rfl) ?_
  by_cases c_1 : x1 = 0
  · have h := gx_t c_1 h
    refine lv_tableIn (off := 39) (tgt := 40) hx hb dX10_told_1 (by rw [c_1]; decide) (by rw [c_1]; decide) (by rw [c_1]; rfl) (by decide) ?_
    refine lv_aload_n hx hb dX10_told_40 rfl (lv_at hl 0 rfl) ?_
    refine va_get (D := D) (ci := 9) (v := .int v_size) (C := RX10) (T := TX10) (N := 25) hx hb hts iX10 hown hK hP 0 rfl rfl 1 (by decide) f54 (fun _ h9 => h9) rfl dX10_told_41 ?_
    cases h
    exact gRi hx hb hr hlocks hP hD hS dX10_told_44
  have h := gx_f c_1 h
  by_cases c_2 : x1 = 1
  · have h := gx_t c_2 h
    refine lv_tableIn (off := 44) (tgt := 45) hx hb dX10_told_1 (by rw [c_2]; decide) (by rw [c_2]; decide) (by rw [c_2]; rfl) (by decide) ?_
    refine lv_aload_n hx hb dX10_told_45 rfl (lv_at hl 0 rfl) ?_
    obtain ⟨r_3, hc_4, h⟩ := gx_b h
    refine gCalli (wr := []) (va_runV (As := []) (rest := []) ⟨hx, hb, hml, hown, hts⟩ (c_X10_goods l D cy t s.heap.size K z z_isGood z_frozen z_sheetSize z_sheetLane z_sheet z_hands z_seen z_work z_known z_next z_counts z_acrosses z_failings z_given v_fault v_size v_upper v_base v_wide v_mask v_paths v_come v_isCounted v_basis v_trace v_isGoodc r_3 hc_4) (cwV 0 hts gX10_told_X10_goods rfl rfl rfl (by decide +kernel) ⟨Nat.le_of_ble_eq_true rfl, Nat.le_of_ble_eq_true rfl⟩) ⟨gBlind, va_recv hK hP (ci := 9) (q0 := 0) rfl rfl, fun U hU hW => ⟨rfl, gPre.call hK hG hA hP hD hS [0, 1] (by decide) rfl U hU hW⟩⟩ rfl rfl hl.1 rfl (lv_room (Nat.le_of_ble_eq_true rfl)) dX10_told_46 ⟨Nat.le_of_ble_eq_true rfl, Nat.le_of_ble_eq_true rfl⟩) hA hP hD hS [0, 1] [] rfl rfl (by decide) (by decide) (fun H locs hP hD hS => ?_)
    have hP : va_P D vwCl [(z, .inr (9, [.int v_fault, .int v_size, .int v_upper, .int v_base, .ref z_isGood, .ref z_frozen, .ref z_sheetSize, .ref z_sheetLane, .ref z_sheet, .ref z_hands, .int v_wide, .long v_mask, .int v_paths, .ref z_seen, .ref z_work, .ref z_known, .ref z_next, .int v_come, .int v_isCounted, .ref z_counts, .ref z_acrosses, .ref z_failings, .int v_basis, .ref z_given, .int v_trace])), (z_isGood, .inl (cy 2, 32, .inl v_isGoodc))] H := hP
    have hD : va_D A [(z, .inr (9, [.int v_fault, .int v_size, .int v_upper, .int v_base, .ref z_isGood, .ref z_frozen, .ref z_sheetSize, .ref z_sheetLane, .ref z_sheet, .ref z_hands, .int v_wide, .long v_mask, .int v_paths, .ref z_seen, .ref z_work, .ref z_known, .ref z_next, .int v_come, .int v_isCounted, .ref z_counts, .ref z_acrosses, .ref z_failings, .int v_basis, .ref z_given, .int v_trace])), (z_isGood, .inl (cy 2, 32, .inl v_isGoodc))] := hD
    cases h
    exact gRi hx hb hr hlocks hP hD hS dX10_told_49
  have h := gx_f c_2 h
  by_cases c_5 : x1 = 2
  · have h := gx_t c_5 h
    refine lv_tableIn (off := 49) (tgt := 50) hx hb dX10_told_1 (by rw [c_5]; decide) (by rw [c_5]; decide) (by rw [c_5]; rfl) (by decide) ?_
    refine lv_aload_n hx hb dX10_told_50 rfl (lv_at hl 0 rfl) ?_
    refine va_get (D := D) (ci := 9) (v := .int v_upper) (C := RX10) (T := TX10) (N := 25) hx hb hts iX10 hown hK hP 0 rfl rfl 2 (by decide) f58 (fun _ h9 => h9) rfl dX10_told_51 ?_
    cases h
    exact gRi hx hb hr hlocks hP hD hS dX10_told_54
  have h := gx_f c_5 h
  by_cases c_6 : x1 = 3
  · have h := gx_t c_6 h
    refine lv_tableIn (off := 54) (tgt := 55) hx hb dX10_told_1 (by rw [c_6]; decide) (by rw [c_6]; decide) (by rw [c_6]; rfl) (by decide) ?_
    refine lv_aload_n hx hb dX10_told_55 rfl (lv_at hl 0 rfl) ?_
    refine va_get (D := D) (ci := 9) (v := .int v_base) (C := RX10) (T := TX10) (N := 25) hx hb hts iX10 hown hK hP 0 rfl rfl 3 (by decide) f61 (fun _ h9 => h9) rfl dX10_told_56 ?_
    cases h
    exact gRi hx hb hr hlocks hP hD hS dX10_told_59
  have h := gx_f c_6 h
  by_cases c_7 : x1 = 4
  · have h := gx_t c_7 h
    refine lv_tableIn (off := 59) (tgt := 60) hx hb dX10_told_1 (by rw [c_7]; decide) (by rw [c_7]; decide) (by rw [c_7]; rfl) (by decide) ?_
    refine lv_aload_n hx hb dX10_told_60 rfl (lv_at hl 0 rfl) ?_
    refine va_get (D := D) (ci := 9) (v := .int v_wide) (C := RX10) (T := TX10) (N := 25) hx hb hts iX10 hown hK hP 0 rfl rfl 10 (by decide) f64 (fun _ h9 => h9) rfl dX10_told_61 ?_
    cases h
    exact gRi hx hb hr hlocks hP hD hS dX10_told_64
  have h := gx_f c_7 h
  by_cases c_8 : x1 = 5
  · have h := gx_t c_8 h
    refine lv_tableIn (off := 64) (tgt := 65) hx hb dX10_told_1 (by rw [c_8]; decide) (by rw [c_8]; decide) (by rw [c_8]; rfl) (by decide) ?_
    refine lv_aload_n hx hb dX10_told_65 rfl (lv_at hl 0 rfl) ?_
    refine va_get (D := D) (ci := 9) (v := .int v_paths) (C := RX10) (T := TX10) (N := 25) hx hb hts iX10 hown hK hP 0 rfl rfl 12 (by decide) f67 (fun _ h9 => h9) rfl dX10_told_66 ?_
    cases h
    exact gRi hx hb hr hlocks hP hD hS dX10_told_69
  have h := gx_f c_8 h
  refine lv_tableOut (tgt := 70) hx hb dX10_told_1 (gTab5 c_1 c_2 c_5 c_6 c_7 c_8) (by decide) ?_
  refine lv_bipush (v := (-2)) hx hb dX10_told_70 (by decide) ?_
  cases h
  exact gRi hx hb hr hlocks hP hD hS dX10_told_72
