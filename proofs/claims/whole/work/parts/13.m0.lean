def f_X10_in (K : Nat) (x1 : Int64) (x2 : Int64) (x3 : Int64) : Option (Int32) :=
  if (lg_cmp x1 x2) < 0 then
    some 0
  else
    if 0 < (lg_cmp x1 x3) then
      some 0
    else
      some 1
set_option maxHeartbeats 4000000 in
set_option maxRecDepth 100000 in
theorem c_X10_in (l : Launch) (D : va_G) (cy : Nat → ClassId) (t sz K : Nat) (x1 : Int64) (x2 : Int64) (x3 : Int64) (r_ : Int32) (h : f_X10_in K x1 x2 x3 = some r_) : gMi l D cy t sz yX10_in wsX10_in 0 0 [.long x1, .long x2, .long x3] [] r_ [] := by
  refine gBi (cc := cX10_in) (maxL := 6) (ret := (some .boolean)) (by decide) rfl (Nat.le_of_ble_eq_true rfl) ?_
  intro p e s m below meth c A ls hAt hl
  obtain ⟨hx, hb, hml, hr, hts, hown, hlocks, hin, hK, hG, hA, hP, hD⟩ := hAt
  have hS : va_S A s.heap s.heap [] := va_S.rf
  have hl : lv_has ls 6 [(0, .long x1), (2, .long x2), (4, .long x3)] := hl
  rw [f_X10_in] at h
  refine lv_lload_n hx hb dX10_in_0 rfl (lv_at hl 0 rfl) ?_
  refine lv_lload_n hx hb dX10_in_1 rfl (lv_at hl 1 rfl) ?_
  refine W.lcmp hx hb dX10_in_2 ?_
  refine lv_if_lt (tgt := 17) hx hb dX10_in_3 (by decide) (fun c_1 => ?_) (fun c_1 => ?_)
  · have h := gx_t c_1 h
    refine lv_iconst (v := 0) hx hb dX10_in_17 (by decide) ?_
    cases h
    exact gRz hx hb hr hlocks rfl hP hD hS dX10_in_18
  · have h := gx_f c_1 h
    refine lv_lload_n hx hb dX10_in_6 rfl (lv_at hl 0 rfl) ?_
    refine lv_lload hx hb dX10_in_7 (lv_at hl 2 rfl) ?_
    refine W.lcmp hx hb dX10_in_9 ?_
    refine lv_if_gt (tgt := 17) hx hb dX10_in_10 (by decide) (fun c_2 => ?_) (fun c_2 => ?_)
    · have h := gx_t c_2 h
      refine lv_iconst (v := 0) hx hb dX10_in_17 (by decide) ?_
      cases h
      exact gRz hx hb hr hlocks rfl hP hD hS dX10_in_18
    · have h := gx_f c_2 h
      refine lv_iconst (v := 1) hx hb dX10_in_13 (by decide) ?_
      refine lv_goto (tgt := 18) hx hb dX10_in_14 (by decide) ?_
      cases h
      exact gRz hx hb hr hlocks rfl hP hD hS dX10_in_18

def f_X10_lost (K : Nat) : Option (Int64) :=
  some (-9223372036854775808)
set_option maxHeartbeats 4000000 in
set_option maxRecDepth 100000 in
theorem c_X10_lost (l : Launch) (D : va_G) (cy : Nat → ClassId) (t sz K : Nat) (r_ : Int64) (h : f_X10_lost K = some r_) : gMl l D cy t sz yX10_lost wsX10_lost 0 0 [] [] r_ [] := by
  refine gBl (cc := cX10_lost) (maxL := 0) (ret := (some .long)) (by decide) rfl (Nat.le_of_ble_eq_true rfl) ?_
  intro p e s m below meth c A ls hAt hl
  obtain ⟨hx, hb, hml, hr, hts, hown, hlocks, hin, hK, hG, hA, hP, hD⟩ := hAt
  have hS : va_S A s.heap s.heap [] := va_S.rf
  have hl : lv_has ls 0 [] := hl
  have k70 := hts (.constantLong RX10 70 (-9223372036854775808)) (by decide +kernel)
  rw [f_X10_lost] at h
  refine lv_ldc2 hx hb hown k70 dX10_lost_0 ?_
  cases h
  exact gRl hx hb hr hlocks hP hD hS dX10_lost_3

def f_X10_refused (K : Nat) (x1 : Int32) : Option (Int32 × Int32) :=
  some (x1, 0)
set_option maxHeartbeats 4000000 in
set_option maxRecDepth 100000 in
theorem c_X10_refused (l : Launch) (D : va_G) (cy : Nat → ClassId) (t sz K : Nat) (z : Nat) (z_isGood : Nat) (z_frozen : Nat) (z_sheetSize : Nat) (z_sheetLane : Nat) (z_sheet : Nat) (z_hands : Nat) (z_seen : Nat) (z_work : Nat) (z_known : Nat) (z_next : Nat) (z_counts : Nat) (z_acrosses : Nat) (z_failings : Nat) (z_given : Nat) (v_fault : Int32) (v_size : Int32) (v_upper : Int32) (v_base : Int32) (v_wide : Int32) (v_mask : Int64) (v_paths : Int32) (v_come : Int32) (v_isCounted : Int32) (v_basis : Int32) (v_trace : Int32) (x1 : Int32) (r_ : Int32) (o_v_fault : Int32) (h : f_X10_refused K x1 = some (r_, o_v_fault)) : gMi l D cy t sz yX10_refused wsX10_refused 0 0 [.ref z, .int x1] [(z, .inr (9, [.int v_fault, .int v_size, .int v_upper, .int v_base, .ref z_isGood, .ref z_frozen, .ref z_sheetSize, .ref z_sheetLane, .ref z_sheet, .ref z_hands, .int v_wide, .long v_mask, .int v_paths, .ref z_seen, .ref z_work, .ref z_known, .ref z_next, .int v_come, .int v_isCounted, .ref z_counts, .ref z_acrosses, .ref z_failings, .int v_basis, .ref z_given, .int v_trace]))] r_ [(z, .inr (9, [.int o_v_fault, .int v_size, .int v_upper, .int v_base, .ref z_isGood, .ref z_frozen, .ref z_sheetSize, .ref z_sheetLane, .ref z_sheet, .ref z_hands, .int v_wide, .long v_mask, .int v_paths, .ref z_seen, .ref z_work, .ref z_known, .ref z_next, .int v_come, .int v_isCounted, .ref z_counts, .ref z_acrosses, .ref z_failings, .int v_basis, .ref z_given, .int v_trace]))] := by
  refine gBi (cc := cX10_refused) (maxL := 2) (ret := (some .int)) (by decide) rfl (Nat.le_of_ble_eq_true rfl) ?_
  intro p e s m below meth c A ls hAt hl
  obtain ⟨hx, hb, hml, hr, hts, hown, hlocks, hin, hK, hG, hA, hP, hD⟩ := hAt
  have hS : va_S A s.heap s.heap [] := va_S.rf
  have hl : lv_has ls 2 [(0, .ref z), (1, .int x1)] := hl
  have f72 := hts (.fieldLink RX10 72 "PlainLinesModel" "fault" "I") (by decide +kernel)
  have iX10 := (by decide +kernel : ∀ w ∈ u_ws RX10 TX10 25, w ∈ wsX10_refused)
  rw [f_X10_refused] at h
  refine lv_aload_n hx hb dX10_refused_0 rfl (lv_at hl 0 rfl) ?_
  refine lv_iconst (v := 0) hx hb dX10_refused_1 (by decide) ?_
  refine va_put (D := D) (ci := 9) (v := .int 0) (ty := .int) (C := RX10) (T := TX10) (N := 25) hx hb hts iX10 tyX10 tyX10_ok nmX10 hown hK hP hD hS 0 rfl rfl 0 (by decide) f72 (fun _ h9 => h9) rfl (by decide +kernel) rfl rfl (Nat.le_of_ble_eq_true rfl) dX10_refused_2 (fun H locs hP hD hS => ?_)
  have hP : va_P D vwCl [(z, .inr (9, [.int 0, .int v_size, .int v_upper, .int v_base, .ref z_isGood, .ref z_frozen, .ref z_sheetSize, .ref z_sheetLane, .ref z_sheet, .ref z_hands, .int v_wide, .long v_mask, .int v_paths, .ref z_seen, .ref z_work, .ref z_known, .ref z_next, .int v_come, .int v_isCounted, .ref z_counts, .ref z_acrosses, .ref z_failings, .int v_basis, .ref z_given, .int v_trace]))] H := hP
  have hD : va_D A [(z, .inr (9, [.int 0, .int v_size, .int v_upper, .int v_base, .ref z_isGood, .ref z_frozen, .ref z_sheetSize, .ref z_sheetLane, .ref z_sheet, .ref z_hands, .int v_wide, .long v_mask, .int v_paths, .ref z_seen, .ref z_work, .ref z_known, .ref z_next, .int v_come, .int v_isCounted, .ref z_counts, .ref z_acrosses, .ref z_failings, .int v_basis, .ref z_given, .int v_trace]))] := hD
  refine lv_iload_n hx hb dX10_refused_5 rfl (lv_at hl 1 rfl) ?_
  cases h
  exact gRi hx hb hr hlocks hP hD hS dX10_refused_6

def f_X10_failed (K : Nat) (x1 : Int32) : Option (Int32 × Int32) :=
  some (((-10) - x1), x1)
set_option maxHeartbeats 4000000 in
set_option maxRecDepth 100000 in
theorem c_X10_failed (l : Launch) (D : va_G) (cy : Nat → ClassId) (t sz K : Nat) (z : Nat) (z_isGood : Nat) (z_frozen : Nat) (z_sheetSize : Nat) (z_sheetLane : Nat) (z_sheet : Nat) (z_hands : Nat) (z_seen : Nat) (z_work : Nat) (z_known : Nat) (z_next : Nat) (z_counts : Nat) (z_acrosses : Nat) (z_failings : Nat) (z_given : Nat) (v_fault : Int32) (v_size : Int32) (v_upper : Int32) (v_base : Int32) (v_wide : Int32) (v_mask : Int64) (v_paths : Int32) (v_come : Int32) (v_isCounted : Int32) (v_basis : Int32) (v_trace : Int32) (x1 : Int32) (r_ : Int32) (o_v_fault : Int32) (h : f_X10_failed K x1 = some (r_, o_v_fault)) : gMi l D cy t sz yX10_failed wsX10_failed 0 0 [.ref z, .int x1] [(z, .inr (9, [.int v_fault, .int v_size, .int v_upper, .int v_base, .ref z_isGood, .ref z_frozen, .ref z_sheetSize, .ref z_sheetLane, .ref z_sheet, .ref z_hands, .int v_wide, .long v_mask, .int v_paths, .ref z_seen, .ref z_work, .ref z_known, .ref z_next, .int v_come, .int v_isCounted, .ref z_counts, .ref z_acrosses, .ref z_failings, .int v_basis, .ref z_given, .int v_trace]))] r_ [(z, .inr (9, [.int o_v_fault, .int v_size, .int v_upper, .int v_base, .ref z_isGood, .ref z_frozen, .ref z_sheetSize, .ref z_sheetLane, .ref z_sheet, .ref z_hands, .int v_wide, .long v_mask, .int v_paths, .ref z_seen, .ref z_work, .ref z_known, .ref z_next, .int v_come, .int v_isCounted, .ref z_counts, .ref z_acrosses, .ref z_failings, .int v_basis, .ref z_given, .int v_trace]))] := by
  refine gBi (cc := cX10_failed) (maxL := 2) (ret := (some .int)) (by decide) rfl (Nat.le_of_ble_eq_true rfl) ?_
  intro p e s m below meth c A ls hAt hl
  obtain ⟨hx, hb, hml, hr, hts, hown, hlocks, hin, hK, hG, hA, hP, hD⟩ := hAt
  have hS : va_S A s.heap s.heap [] := va_S.rf
  have hl : lv_has ls 2 [(0, .ref z), (1, .int x1)] := hl
  have f72 := hts (.fieldLink RX10 72 "PlainLinesModel" "fault" "I") (by decide +kernel)
  have iX10 := (by decide +kernel : ∀ w ∈ u_ws RX10 TX10 25, w ∈ wsX10_failed)
  rw [f_X10_failed] at h
  refine lv_aload_n hx hb dX10_failed_0 rfl (lv_at hl 0 rfl) ?_
  refine lv_iload_n hx hb dX10_failed_1 rfl (lv_at hl 1 rfl) ?_
  refine va_put (D := D) (ci := 9) (v := .int x1) (ty := .int) (C := RX10) (T := TX10) (N := 25) hx hb hts iX10 tyX10 tyX10_ok nmX10 hown hK hP hD hS 0 rfl rfl 0 (by decide) f72 (fun _ h9 => h9) rfl (by decide +kernel) rfl rfl (Nat.le_of_ble_eq_true rfl) dX10_failed_2 (fun H locs hP hD hS => ?_)
  have hP : va_P D vwCl [(z, .inr (9, [.int x1, .int v_size, .int v_upper, .int v_base, .ref z_isGood, .ref z_frozen, .ref z_sheetSize, .ref z_sheetLane, .ref z_sheet, .ref z_hands, .int v_wide, .long v_mask, .int v_paths, .ref z_seen, .ref z_work, .ref z_known, .ref z_next, .int v_come, .int v_isCounted, .ref z_counts, .ref z_acrosses, .ref z_failings, .int v_basis, .ref z_given, .int v_trace]))] H := hP
  have hD : va_D A [(z, .inr (9, [.int x1, .int v_size, .int v_upper, .int v_base, .ref z_isGood, .ref z_frozen, .ref z_sheetSize, .ref z_sheetLane, .ref z_sheet, .ref z_hands, .int v_wide, .long v_mask, .int v_paths, .ref z_seen, .ref z_work, .ref z_known, .ref z_next, .int v_come, .int v_isCounted, .ref z_counts, .ref z_acrosses, .ref z_failings, .int v_basis, .ref z_given, .int v_trace]))] := hD
  refine lv_bipush (v := (-10)) hx hb dX10_failed_5 (by decide) ?_
  refine lv_iload_n hx hb dX10_failed_7 rfl (lv_at hl 1 rfl) ?_
  refine lv_isub hx hb dX10_failed_8 ?_
  have hs0 := Option.some.inj h
  obtain ⟨hq1, hs1⟩ := gx_p hs0
  subst hq1
  subst hs1
  exact gRi hx hb hr hlocks hP hD hS dX10_failed_9

def f_X10_failedLong (K : Nat) (x1 : Int32) : Option (Int64 × Int32) :=
  Option.bind (f_X10_lost K) fun r_1 =>
  some (r_1, x1)
set_option maxHeartbeats 4000000 in
set_option maxRecDepth 100000 in
theorem c_X10_failedLong (l : Launch) (D : va_G) (cy : Nat → ClassId) (t sz K : Nat) (z : Nat) (z_isGood : Nat) (z_frozen : Nat) (z_sheetSize : Nat) (z_sheetLane : Nat) (z_sheet : Nat) (z_hands : Nat) (z_seen : Nat) (z_work : Nat) (z_known : Nat) (z_next : Nat) (z_counts : Nat) (z_acrosses : Nat) (z_failings : Nat) (z_given : Nat) (v_fault : Int32) (v_size : Int32) (v_upper : Int32) (v_base : Int32) (v_wide : Int32) (v_mask : Int64) (v_paths : Int32) (v_come : Int32) (v_isCounted : Int32) (v_basis : Int32) (v_trace : Int32) (x1 : Int32) (r_ : Int64) (o_v_fault : Int32) (h : f_X10_failedLong K x1 = some (r_, o_v_fault)) : gMl l D cy t sz yX10_failedLong wsX10_failedLong 1 19 [.ref z, .int x1] [(z, .inr (9, [.int v_fault, .int v_size, .int v_upper, .int v_base, .ref z_isGood, .ref z_frozen, .ref z_sheetSize, .ref z_sheetLane, .ref z_sheet, .ref z_hands, .int v_wide, .long v_mask, .int v_paths, .ref z_seen, .ref z_work, .ref z_known, .ref z_next, .int v_come, .int v_isCounted, .ref z_counts, .ref z_acrosses, .ref z_failings, .int v_basis, .ref z_given, .int v_trace]))] r_ [(z, .inr (9, [.int o_v_fault, .int v_size, .int v_upper, .int v_base, .ref z_isGood, .ref z_frozen, .ref z_sheetSize, .ref z_sheetLane, .ref z_sheet, .ref z_hands, .int v_wide, .long v_mask, .int v_paths, .ref z_seen, .ref z_work, .ref z_known, .ref z_next, .int v_come, .int v_isCounted, .ref z_counts, .ref z_acrosses, .ref z_failings, .int v_basis, .ref z_given, .int v_trace]))] := by
  refine gBl (cc := cX10_failedLong) (maxL := 2) (ret := (some .long)) (by decide) rfl (Nat.le_of_ble_eq_true rfl) ?_
  intro p e s m below meth c A ls hAt hl
  obtain ⟨hx, hb, hml, hr, hts, hown, hlocks, hin, hK, hG, hA, hP, hD⟩ := hAt
  have hS : va_S A s.heap s.heap [] := va_S.rf
  have hl : lv_has ls 2 [(0, .ref z), (1, .int x1)] := hl
  have f72 := hts (.fieldLink RX10 72 "PlainLinesModel" "fault" "I") (by decide +kernel)
  have iX10 := (by decide +kernel : ∀ w ∈ u_ws RX10 TX10 25, w ∈ wsX10_failedLong)
  rw [f_X10_failedLong] at h
  refine lv_aload_n hx hb dX10_failedLong_0 rfl (lv_at hl 0 rfl) ?_
  refine lv_iload_n hx hb dX10_failedLong_1 rfl (lv_at hl 1 rfl) ?_
  refine va_put (D := D) (ci := 9) (v := .int x1) (ty := .int) (C := RX10) (T := TX10) (N := 25) hx hb hts iX10 tyX10 tyX10_ok nmX10 hown hK hP hD hS 0 rfl rfl 0 (by decide) f72 (fun _ h9 => h9) rfl (by decide +kernel) rfl rfl (Nat.le_of_ble_eq_true rfl) dX10_failedLong_2 (fun H locs hP hD hS => ?_)
  have hP : va_P D vwCl [(z, .inr (9, [.int x1, .int v_size, .int v_upper, .int v_base, .ref z_isGood, .ref z_frozen, .ref z_sheetSize, .ref z_sheetLane, .ref z_sheet, .ref z_hands, .int v_wide, .long v_mask, .int v_paths, .ref z_seen, .ref z_work, .ref z_known, .ref z_next, .int v_come, .int v_isCounted, .ref z_counts, .ref z_acrosses, .ref z_failings, .int v_basis, .ref z_given, .int v_trace]))] H := hP
  have hD : va_D A [(z, .inr (9, [.int x1, .int v_size, .int v_upper, .int v_base, .ref z_isGood, .ref z_frozen, .ref z_sheetSize, .ref z_sheetLane, .ref z_sheet, .ref z_hands, .int v_wide, .long v_mask, .int v_paths, .ref z_seen, .ref z_work, .ref z_known, .ref z_next, .int v_come, .int v_isCounted, .ref z_counts, .ref z_acrosses, .ref z_failings, .int v_basis, .ref z_given, .int v_trace]))] := hD
  obtain ⟨r_1, hc_2, h⟩ := gx_b h
  refine gCalll (wr := [(z, .inr (9, [.int x1, .int v_size, .int v_upper, .int v_base, .ref z_isGood, .ref z_frozen, .ref z_sheetSize, .ref z_sheetLane, .ref z_sheet, .ref z_hands, .int v_wide, .long v_mask, .int v_paths, .ref z_seen, .ref z_work, .ref z_known, .ref z_next, .int v_come, .int v_isCounted, .ref z_counts, .ref z_acrosses, .ref z_failings, .int v_basis, .ref z_given, .int v_trace]))]) (va_runS (As := []) (rest := []) ⟨hx, hb, hml, hown, hts⟩ (c_X10_lost l D cy t H.size K r_1 hc_2) (va_cwS 0 hts gX10_failedLong_X10_lost rfl rfl rfl (by decide +kernel) ⟨Nat.le_of_ble_eq_true rfl, Nat.le_of_ble_eq_true rfl⟩) ⟨gBlind, fun U hU hW => ⟨rfl, gPre.call hK hG hA hP hD hS [] (by decide) rfl U hU hW⟩⟩ rfl rfl hl.1 rfl (lv_room (Nat.le_of_ble_eq_true rfl)) dX10_failedLong_5 ⟨Nat.le_of_ble_eq_true rfl, Nat.le_of_ble_eq_true rfl⟩) hA hP hD hS [] [0] rfl rfl (by decide) (by decide) (fun H locs hP hD hS => ?_)
  have hP : va_P D vwCl [(z, .inr (9, [.int x1, .int v_size, .int v_upper, .int v_base, .ref z_isGood, .ref z_frozen, .ref z_sheetSize, .ref z_sheetLane, .ref z_sheet, .ref z_hands, .int v_wide, .long v_mask, .int v_paths, .ref z_seen, .ref z_work, .ref z_known, .ref z_next, .int v_come, .int v_isCounted, .ref z_counts, .ref z_acrosses, .ref z_failings, .int v_basis, .ref z_given, .int v_trace]))] H := hP
  have hD : va_D A [(z, .inr (9, [.int x1, .int v_size, .int v_upper, .int v_base, .ref z_isGood, .ref z_frozen, .ref z_sheetSize, .ref z_sheetLane, .ref z_sheet, .ref z_hands, .int v_wide, .long v_mask, .int v_paths, .ref z_seen, .ref z_work, .ref z_known, .ref z_next, .int v_come, .int v_isCounted, .ref z_counts, .ref z_acrosses, .ref z_failings, .int v_basis, .ref z_given, .int v_trace]))] := hD
  cases h
  exact gRl hx hb hr hlocks hP hD hS dX10_failedLong_8

def f_X10_noPlace (K : Nat) (x1 : Int32) (v_size : Int32) : Option (Int32) :=
  Option.bind (f_X10_in K (Int32.toInt64 x1) 0 ((Int32.toInt64 v_size) - 1)) fun r_1 =>
  if r_1 = 0 then
    some 1
  else
    some 0
set_option maxHeartbeats 4000000 in
set_option maxRecDepth 100000 in
theorem c_X10_noPlace (l : Launch) (D : va_G) (cy : Nat → ClassId) (t sz K : Nat) (z : Nat) (z_isGood : Nat) (z_frozen : Nat) (z_sheetSize : Nat) (z_sheetLane : Nat) (z_sheet : Nat) (z_hands : Nat) (z_seen : Nat) (z_work : Nat) (z_known : Nat) (z_next : Nat) (z_counts : Nat) (z_acrosses : Nat) (z_failings : Nat) (z_given : Nat) (v_fault : Int32) (v_size : Int32) (v_upper : Int32) (v_base : Int32) (v_wide : Int32) (v_mask : Int64) (v_paths : Int32) (v_come : Int32) (v_isCounted : Int32) (v_basis : Int32) (v_trace : Int32) (x1 : Int32) (r_ : Int32) (h : f_X10_noPlace K x1 v_size = some r_) : gMi l D cy t sz yX10_noPlace wsX10_noPlace 1 25 [.ref z, .int x1] [(z, .inr (9, [.int v_fault, .int v_size, .int v_upper, .int v_base, .ref z_isGood, .ref z_frozen, .ref z_sheetSize, .ref z_sheetLane, .ref z_sheet, .ref z_hands, .int v_wide, .long v_mask, .int v_paths, .ref z_seen, .ref z_work, .ref z_known, .ref z_next, .int v_come, .int v_isCounted, .ref z_counts, .ref z_acrosses, .ref z_failings, .int v_basis, .ref z_given, .int v_trace]))] r_ [(z, .inr (9, [.int v_fault, .int v_size, .int v_upper, .int v_base, .ref z_isGood, .ref z_frozen, .ref z_sheetSize, .ref z_sheetLane, .ref z_sheet, .ref z_hands, .int v_wide, .long v_mask, .int v_paths, .ref z_seen, .ref z_work, .ref z_known, .ref z_next, .int v_come, .int v_isCounted, .ref z_counts, .ref z_acrosses, .ref z_failings, .int v_basis, .ref z_given, .int v_trace]))] := by
  refine gBi (cc := cX10_noPlace) (maxL := 2) (ret := (some .boolean)) (by decide) rfl (Nat.le_of_ble_eq_true rfl) ?_
  intro p e s m below meth c A ls hAt hl
  obtain ⟨hx, hb, hml, hr, hts, hown, hlocks, hin, hK, hG, hA, hP, hD⟩ := hAt
  have hS : va_S A s.heap s.heap [] := va_S.rf
  have hl : lv_has ls 2 [(0, .ref z), (1, .int x1)] := hl
  have f54 := hts (.fieldLink RX10 54 "PlainLinesModel" "size" "I") (by decide +kernel)
  have iX10 := (by decide +kernel : ∀ w ∈ u_ws RX10 TX10 25, w ∈ wsX10_noPlace)
  rw [f_X10_noPlace] at h
  refine lv_iload_n hx hb dX10_noPlace_0 rfl (lv_at hl 1 rfl) ?_
  refine lv_i2l (v := (Int32.toInt64 x1)) hx hb dX10_noPlace_1 rfl ?_
  refine lv_lconst (v := 0) hx hb dX10_noPlace_2 (by decide) ?_
  refine lv_aload_n hx hb dX10_noPlace_3 rfl (lv_at hl 0 rfl) ?_
  refine va_get (D := D) (ci := 9) (v := .int v_size) (C := RX10) (T := TX10) (N := 25) hx hb hts iX10 hown hK hP 0 rfl rfl 1 (by decide) f54 (fun _ h9 => h9) rfl dX10_noPlace_4 ?_
  refine lv_i2l (v := (Int32.toInt64 v_size)) hx hb dX10_noPlace_7 rfl ?_
  refine lv_lconst (v := 1) hx hb dX10_noPlace_8 (by decide) ?_
  refine lv_lsub hx hb dX10_noPlace_9 ?_
  obtain ⟨r_1, hc_2, h⟩ := gx_b h
  refine gCalli (wr := [(z, .inr (9, [.int v_fault, .int v_size, .int v_upper, .int v_base, .ref z_isGood, .ref z_frozen, .ref z_sheetSize, .ref z_sheetLane, .ref z_sheet, .ref z_hands, .int v_wide, .long v_mask, .int v_paths, .ref z_seen, .ref z_work, .ref z_known, .ref z_next, .int v_come, .int v_isCounted, .ref z_counts, .ref z_acrosses, .ref z_failings, .int v_basis, .ref z_given, .int v_trace]))]) (va_runS (As := [.long (Int32.toInt64 x1), .long 0, .long ((Int32.toInt64 v_size) - 1)]) (rest := []) ⟨hx, hb, hml, hown, hts⟩ (c_X10_in l D cy t s.heap.size K (Int32.toInt64 x1) 0 ((Int32.toInt64 v_size) - 1) r_1 hc_2) (va_cwS 3 hts gX10_noPlace_X10_in rfl rfl rfl (by decide +kernel) ⟨Nat.le_of_ble_eq_true rfl, Nat.le_of_ble_eq_true rfl⟩) ⟨gBlind, fun U hU hW => ⟨rfl, gPre.call hK hG hA hP hD hS [] (by decide) rfl U hU hW⟩⟩ rfl rfl hl.1 rfl (lv_room (Nat.le_of_ble_eq_true rfl)) dX10_noPlace_10 ⟨Nat.le_of_ble_eq_true rfl, Nat.le_of_ble_eq_true rfl⟩) hA hP hD hS [] [0] rfl rfl (by decide) (by decide) (fun H locs hP hD hS => ?_)
  have hP : va_P D vwCl [(z, .inr (9, [.int v_fault, .int v_size, .int v_upper, .int v_base, .ref z_isGood, .ref z_frozen, .ref z_sheetSize, .ref z_sheetLane, .ref z_sheet, .ref z_hands, .int v_wide, .long v_mask, .int v_paths, .ref z_seen, .ref z_work, .ref z_known, .ref z_next, .int v_come, .int v_isCounted, .ref z_counts, .ref z_acrosses, .ref z_failings, .int v_basis, .ref z_given, .int v_trace]))] H := hP
  have hD : va_D A [(z, .inr (9, [.int v_fault, .int v_size, .int v_upper, .int v_base, .ref z_isGood, .ref z_frozen, .ref z_sheetSize, .ref z_sheetLane, .ref z_sheet, .ref z_hands, .int v_wide, .long v_mask, .int v_paths, .ref z_seen, .ref z_work, .ref z_known, .ref z_next, .int v_come, .int v_isCounted, .ref z_counts, .ref z_acrosses, .ref z_failings, .int v_basis, .ref z_given, .int v_trace]))] := hD
  refine lv_if_ne (tgt := 20) hx hb dX10_noPlace_13 (by decide) (fun c_3 => ?_) (fun c_3 => ?_)
  · have h := gx_f c_3 h
    refine lv_iconst (v := 0) hx hb dX10_noPlace_20 (by decide) ?_
    cases h
    exact gRz hx hb hr hlocks rfl hP hD hS dX10_noPlace_21
  · have h := gx_t c_3 h
    refine lv_iconst (v := 1) hx hb dX10_noPlace_16 (by decide) ?_
    refine lv_goto (tgt := 21) hx hb dX10_noPlace_17 (by decide) ?_
    cases h
    exact gRz hx hb hr hlocks rfl hP hD hS dX10_noPlace_21

def f_X10_all (K : Nat) (v_size : Int32) : Option (Int64) :=
  some ((gLshl 1 v_size) - 1)
set_option maxHeartbeats 4000000 in
set_option maxRecDepth 100000 in
theorem c_X10_all (l : Launch) (D : va_G) (cy : Nat → ClassId) (t sz K : Nat) (z : Nat) (z_isGood : Nat) (z_frozen : Nat) (z_sheetSize : Nat) (z_sheetLane : Nat) (z_sheet : Nat) (z_hands : Nat) (z_seen : Nat) (z_work : Nat) (z_known : Nat) (z_next : Nat) (z_counts : Nat) (z_acrosses : Nat) (z_failings : Nat) (z_given : Nat) (v_fault : Int32) (v_size : Int32) (v_upper : Int32) (v_base : Int32) (v_wide : Int32) (v_mask : Int64) (v_paths : Int32) (v_come : Int32) (v_isCounted : Int32) (v_basis : Int32) (v_trace : Int32) (r_ : Int64) (h : f_X10_all K v_size = some r_) : gMl l D cy t sz yX10_all wsX10_all 0 0 [.ref z] [(z, .inr (9, [.int v_fault, .int v_size, .int v_upper, .int v_base, .ref z_isGood, .ref z_frozen, .ref z_sheetSize, .ref z_sheetLane, .ref z_sheet, .ref z_hands, .int v_wide, .long v_mask, .int v_paths, .ref z_seen, .ref z_work, .ref z_known, .ref z_next, .int v_come, .int v_isCounted, .ref z_counts, .ref z_acrosses, .ref z_failings, .int v_basis, .ref z_given, .int v_trace]))] r_ [(z, .inr (9, [.int v_fault, .int v_size, .int v_upper, .int v_base, .ref z_isGood, .ref z_frozen, .ref z_sheetSize, .ref z_sheetLane, .ref z_sheet, .ref z_hands, .int v_wide, .long v_mask, .int v_paths, .ref z_seen, .ref z_work, .ref z_known, .ref z_next, .int v_come, .int v_isCounted, .ref z_counts, .ref z_acrosses, .ref z_failings, .int v_basis, .ref z_given, .int v_trace]))] := by
  refine gBl (cc := cX10_all) (maxL := 1) (ret := (some .long)) (by decide) rfl (Nat.le_of_ble_eq_true rfl) ?_
  intro p e s m below meth c A ls hAt hl
  obtain ⟨hx, hb, hml, hr, hts, hown, hlocks, hin, hK, hG, hA, hP, hD⟩ := hAt
  have hS : va_S A s.heap s.heap [] := va_S.rf
  have hl : lv_has ls 1 [(0, .ref z)] := hl
  have f54 := hts (.fieldLink RX10 54 "PlainLinesModel" "size" "I") (by decide +kernel)
  have iX10 := (by decide +kernel : ∀ w ∈ u_ws RX10 TX10 25, w ∈ wsX10_all)
  rw [f_X10_all] at h
  refine lv_lconst (v := 1) hx hb dX10_all_0 (by decide) ?_
  refine lv_aload_n hx hb dX10_all_1 rfl (lv_at hl 0 rfl) ?_
  refine va_get (D := D) (ci := 9) (v := .int v_size) (C := RX10) (T := TX10) (N := 25) hx hb hts iX10 hown hK hP 0 rfl rfl 1 (by decide) f54 (fun _ h9 => h9) rfl dX10_all_2 ?_
  refine lv_lshl (v := (gLshl 1 v_size)) hx hb dX10_all_5 rfl ?_
  refine lv_lconst (v := 1) hx hb dX10_all_6 (by decide) ?_
  refine lv_lsub hx hb dX10_all_7 ?_
  cases h
  exact gRl hx hb hr hlocks hP hD hS dX10_all_8

def fL_X10_size_43 (K : Nat) : Nat → Int32 × (Nat → Int32) × (Nat → Int32) → Option (Int32 × (Nat → Int32) × (Nat → Int32))
  | 0, _ => none
  | k + 1, (l3, u1, u2) =>
    if 32 ≤ l3 then
      some (l3, u1, u2)
    else
      gIx l3 32 <|
      gLet (upd u1 (Int32.toNatClampNeg l3) (vp_nar .boolean 0)) fun w_7 =>
      gIx l3 32 <|
      gLet (upd u2 (Int32.toNatClampNeg l3) 0) fun w_8 =>
      gLet (l3 + 1) fun y3_9 =>
      fL_X10_size_43 K k (y3_9, w_7, w_8)
def f_X10_size (K : Nat) (x1 : Int32) (v_size : Int32) (v_paths : Int32) (v_isCounted : Int32) (v_isGoodc : Nat → Int32) (v_frozenc : Nat → Int32) : Option (Int32 × Int32 × Int32 × Int32 × (Nat → Int32) × (Nat → Int32)) :=
  if x1 = 2 then
    Option.bind (fL_X10_size_43 K K (0, v_isGoodc, v_frozenc)) fun (o_10, o_11, o_12) =>
    some (v_size, x1, (-9), 0, o_11, o_12)
  else
    if x1 = 4 then
      Option.bind (fL_X10_size_43 K K (0, v_isGoodc, v_frozenc)) fun (o_14, o_15, o_16) =>
      some (v_size, x1, (-9), 0, o_15, o_16)
    else
      if x1 = 8 then
        Option.bind (fL_X10_size_43 K K (0, v_isGoodc, v_frozenc)) fun (o_18, o_19, o_20) =>
        some (v_size, x1, (-9), 0, o_19, o_20)
      else
        if x1 = 16 then
          Option.bind (fL_X10_size_43 K K (0, v_isGoodc, v_frozenc)) fun (o_22, o_23, o_24) =>
          some (v_size, x1, (-9), 0, o_23, o_24)
        else
          if x1 = 32 then
            Option.bind (fL_X10_size_43 K K (0, v_isGoodc, v_frozenc)) fun (o_26, o_27, o_28) =>
            some (v_size, x1, (-9), 0, o_27, o_28)
          else
            some ((-2), v_size, v_paths, v_isCounted, v_isGoodc, v_frozenc)
set_option maxHeartbeats 4000000 in
set_option maxRecDepth 100000 in
theorem c_X10_size (l : Launch) (D : va_G) (cy : Nat → ClassId) (t sz K : Nat) (z : Nat) (z_isGood : Nat) (z_frozen : Nat) (z_sheetSize : Nat) (z_sheetLane : Nat) (z_sheet : Nat) (z_hands : Nat) (z_seen : Nat) (z_work : Nat) (z_known : Nat) (z_next : Nat) (z_counts : Nat) (z_acrosses : Nat) (z_failings : Nat) (z_given : Nat) (v_fault : Int32) (v_size : Int32) (v_upper : Int32) (v_base : Int32) (v_wide : Int32) (v_mask : Int64) (v_paths : Int32) (v_come : Int32) (v_isCounted : Int32) (v_basis : Int32) (v_trace : Int32) (v_isGoodc : Nat → Int32) (v_frozenc : Nat → Int32) (x1 : Int32) (r_ : Int32) (o_v_size : Int32) (o_v_paths : Int32) (o_v_isCounted : Int32) (o_v_isGoodc : Nat → Int32) (o_v_frozenc : Nat → Int32) (h : f_X10_size K x1 v_size v_paths v_isCounted v_isGoodc v_frozenc = some (r_, o_v_size, o_v_paths, o_v_isCounted, o_v_isGoodc, o_v_frozenc)) : gMi l D cy t sz yX10_size wsX10_size 0 0 [.ref z, .int x1] [(z, .inr (9, [.int v_fault, .int v_size, .int v_upper, .int v_base, .ref z_isGood, .ref z_frozen, .ref z_sheetSize, .ref z_sheetLane, .ref z_sheet, .ref z_hands, .int v_wide, .long v_mask, .int v_paths, .ref z_seen, .ref z_work, .ref z_known, .ref z_next, .int v_come, .int v_isCounted, .ref z_counts, .ref z_acrosses, .ref z_failings, .int v_basis, .ref z_given, .int v_trace])), (z_isGood, .inl (cy 2, 32, .inl v_isGoodc)), (z_frozen, .inl (cy 0, 32, .inl v_frozenc))] r_ [(z, .inr (9, [.int v_fault, .int o_v_size, .int v_upper, .int v_base, .ref z_isGood, .ref z_frozen, .ref z_sheetSize, .ref z_sheetLane, .ref z_sheet, .ref z_hands, .int v_wide, .long v_mask, .int o_v_paths, .ref z_seen, .ref z_work, .ref z_known, .ref z_next, .int v_come, .int o_v_isCounted, .ref z_counts, .ref z_acrosses, .ref z_failings, .int v_basis, .ref z_given, .int v_trace])), (z_isGood, .inl (cy 2, 32, .inl o_v_isGoodc)), (z_frozen, .inl (cy 0, 32, .inl o_v_frozenc))] := by
  refine gBi (cc := cX10_size) (maxL := 4) (ret := (some .int)) (by decide) rfl (Nat.le_of_ble_eq_true rfl) ?_
  intro p e s m below meth c A ls hAt hl
  obtain ⟨hx, hb, hml, hr, hts, hown, hlocks, hin, hK, hG, hA, hP, hD⟩ := hAt
  have hS : va_S A s.heap s.heap [] := va_S.rf
  have hl : lv_has ls 4 [(0, .ref z), (1, .int x1)] := hl
  have f54 := hts (.fieldLink RX10 54 "PlainLinesModel" "size" "I") (by decide +kernel)
  have iX10 := (by decide +kernel : ∀ w ∈ u_ws RX10 TX10 25, w ∈ wsX10_size)
  have f67 := hts (.fieldLink RX10 67 "PlainLinesModel" "paths" "I") (by decide +kernel)
  have f83 := hts (.fieldLink RX10 83 "PlainLinesModel" "isCounted" "Z") (by decide +kernel)
  have f7 := hts (.fieldLink RX10 7 "PlainLinesModel" "isGood" "[Z") (by decide +kernel)
  have f13 := hts (.fieldLink RX10 13 "PlainLinesModel" "frozen" "[I") (by decide +kernel)
  rw [f_X10_size] at h
  refine lv_iload_n hx hb dX10_size_0 rfl (lv_at hl 1 rfl) ?_
  refine lv_iconst (v := 2) hx hb dX10_size_1 (by decide) ?_
  refine lv_icmp_eq (tgt := 31) hx hb dX10_size_2 (by decide) (fun c_1 => ?_) (fun c_1 => ?_)
  · have h := gx_t c_1 h
    refine lv_aload_n hx hb dX10_size_31 rfl (lv_at hl 0 rfl) ?_
    refine va_get (D := D) (ci := 9) (v := .int v_size) (C := RX10) (T := TX10) (N := 25) hx hb hts iX10 hown hK hP 0 rfl rfl 1 (by decide) f54 (fun _ h9 => h9) rfl dX10_size_32 ?_
    refine lv_istore_n (lv' := [(2, .int v_size), (0, .ref z), (1, .int x1)]) hx hb dX10_size_35 rfl hl (by decide) rfl (fun ls hl => ?_)
    refine lv_aload_n hx hb dX10_size_36 rfl (lv_at hl 1 rfl) ?_
    refine lv_iload_n hx hb dX10_size_37 rfl (lv_at hl 2 rfl) ?_
    refine va_put (D := D) (ci := 9) (v := .int x1) (ty := .int) (C := RX10) (T := TX10) (N := 25) hx hb hts iX10 tyX10 tyX10_ok nmX10 hown hK hP hD hS 0 rfl rfl 1 (by decide) f54 (fun _ h9 => h9) rfl (by decide +kernel) rfl rfl (Nat.le_of_ble_eq_true rfl) dX10_size_38 (fun H locs hP hD hS => ?_)
    have hP : va_P D vwCl [(z, .inr (9, [.int v_fault, .int x1, .int v_upper, .int v_base, .ref z_isGood, .ref z_frozen, .ref z_sheetSize, .ref z_sheetLane, .ref z_sheet, .ref z_hands, .int v_wide, .long v_mask, .int v_paths, .ref z_seen, .ref z_work, .ref z_known, .ref z_next, .int v_come, .int v_isCounted, .ref z_counts, .ref z_acrosses, .ref z_failings, .int v_basis, .ref z_given, .int v_trace])), (z_isGood, .inl (cy 2, 32, .inl v_isGoodc)), (z_frozen, .inl (cy 0, 32, .inl v_frozenc))] H := hP
    have hD : va_D A [(z, .inr (9, [.int v_fault, .int x1, .int v_upper, .int v_base, .ref z_isGood, .ref z_frozen, .ref z_sheetSize, .ref z_sheetLane, .ref z_sheet, .ref z_hands, .int v_wide, .long v_mask, .int v_paths, .ref z_seen, .ref z_work, .ref z_known, .ref z_next, .int v_come, .int v_isCounted, .ref z_counts, .ref z_acrosses, .ref z_failings, .int v_basis, .ref z_given, .int v_trace])), (z_isGood, .inl (cy 2, 32, .inl v_isGoodc)), (z_frozen, .inl (cy 0, 32, .inl v_frozenc))] := hD
    refine lv_iconst (v := 0) hx hb dX10_size_41 (by decide) ?_
    refine lv_istore_n (lv' := [(3, .int 0), (2, .int v_size), (0, .ref z), (1, .int x1)]) hx hb dX10_size_42 rfl hl (by decide) rfl (fun ls hl => ?_)
    obtain ⟨⟨o_2, o_3, o_4⟩, hL_5, h⟩ := gx_b h
    refine gJoin (Pj := fun H locs ls => va_P D vwCl [(z, .inr (9, [.int v_fault, .int x1, .int v_upper, .int v_base, .ref z_isGood, .ref z_frozen, .ref z_sheetSize, .ref z_sheetLane, .ref z_sheet, .ref z_hands, .int v_wide, .long v_mask, .int v_paths, .ref z_seen, .ref z_work, .ref z_known, .ref z_next, .int v_come, .int v_isCounted, .ref z_counts, .ref z_acrosses, .ref z_failings, .int v_basis, .ref z_given, .int v_trace])), (z_isGood, .inl (cy 2, 32, .inl o_3)), (z_frozen, .inl (cy 0, 32, .inl o_4))] H ∧ va_D A [(z, .inr (9, [.int v_fault, .int x1, .int v_upper, .int v_base, .ref z_isGood, .ref z_frozen, .ref z_sheetSize, .ref z_sheetLane, .ref z_sheet, .ref z_hands, .int v_wide, .long v_mask, .int v_paths, .ref z_seen, .ref z_work, .ref z_known, .ref z_next, .int v_come, .int v_isCounted, .ref z_counts, .ref z_acrosses, .ref z_failings, .int v_basis, .ref z_given, .int v_trace])), (z_isGood, .inl (cy 2, 32, .inl o_3)), (z_frozen, .inl (cy 0, 32, .inl o_4))] ∧ va_S A s.heap H locs ∧ lv_has ls 4 [(3, .int o_2), (2, .int v_size), (0, .ref z), (1, .int x1)]) (pcM := 69) (st := []) ?_ (fun hJ69 => ?_)
    · intro H locs ls hp_
      obtain ⟨hP, hD, hS, hl⟩ := hp_
      clear hL_5
      refine lv_aload_n hx hb dX10_size_69 rfl (lv_at hl 2 rfl) ?_
      refine lv_bipush (v := (-9)) hx hb dX10_size_70 (by decide) ?_
      refine va_put (D := D) (ci := 9) (v := .int (-9)) (ty := .int) (C := RX10) (T := TX10) (N := 25) hx hb hts iX10 tyX10 tyX10_ok nmX10 hown hK hP hD hS 0 rfl rfl 12 (by decide) f67 (fun _ h9 => h9) rfl (by decide +kernel) rfl rfl (Nat.le_of_ble_eq_true rfl) dX10_size_72 (fun H locs hP hD hS => ?_)
      have hP : va_P D vwCl [(z, .inr (9, [.int v_fault, .int x1, .int v_upper, .int v_base, .ref z_isGood, .ref z_frozen, .ref z_sheetSize, .ref z_sheetLane, .ref z_sheet, .ref z_hands, .int v_wide, .long v_mask, .int (-9), .ref z_seen, .ref z_work, .ref z_known, .ref z_next, .int v_come, .int v_isCounted, .ref z_counts, .ref z_acrosses, .ref z_failings, .int v_basis, .ref z_given, .int v_trace])), (z_isGood, .inl (cy 2, 32, .inl o_3)), (z_frozen, .inl (cy 0, 32, .inl o_4))] H := hP
      have hD : va_D A [(z, .inr (9, [.int v_fault, .int x1, .int v_upper, .int v_base, .ref z_isGood, .ref z_frozen, .ref z_sheetSize, .ref z_sheetLane, .ref z_sheet, .ref z_hands, .int v_wide, .long v_mask, .int (-9), .ref z_seen, .ref z_work, .ref z_known, .ref z_next, .int v_come, .int v_isCounted, .ref z_counts, .ref z_acrosses, .ref z_failings, .int v_basis, .ref z_given, .int v_trace])), (z_isGood, .inl (cy 2, 32, .inl o_3)), (z_frozen, .inl (cy 0, 32, .inl o_4))] := hD
      refine lv_aload_n hx hb dX10_size_75 rfl (lv_at hl 2 rfl) ?_
      refine lv_iconst (v := 0) hx hb dX10_size_76 (by decide) ?_
      refine va_put (D := D) (ci := 9) (v := .int 0) (ty := .boolean) (C := RX10) (T := TX10) (N := 25) hx hb hts iX10 tyX10 tyX10_ok nmX10 hown hK hP hD hS 0 rfl rfl 18 (by decide) f83 (fun _ h9 => h9) rfl (by decide +kernel) rfl rfl (Nat.le_of_ble_eq_true rfl) dX10_size_77 (fun H locs hP hD hS => ?_)
      have hP : va_P D vwCl [(z, .inr (9, [.int v_fault, .int x1, .int v_upper, .int v_base, .ref z_isGood, .ref z_frozen, .ref z_sheetSize, .ref z_sheetLane, .ref z_sheet, .ref z_hands, .int v_wide, .long v_mask, .int (-9), .ref z_seen, .ref z_work, .ref z_known, .ref z_next, .int v_come, .int 0, .ref z_counts, .ref z_acrosses, .ref z_failings, .int v_basis, .ref z_given, .int v_trace])), (z_isGood, .inl (cy 2, 32, .inl o_3)), (z_frozen, .inl (cy 0, 32, .inl o_4))] H := hP
      have hD : va_D A [(z, .inr (9, [.int v_fault, .int x1, .int v_upper, .int v_base, .ref z_isGood, .ref z_frozen, .ref z_sheetSize, .ref z_sheetLane, .ref z_sheet, .ref z_hands, .int v_wide, .long v_mask, .int (-9), .ref z_seen, .ref z_work, .ref z_known, .ref z_next, .int v_come, .int 0, .ref z_counts, .ref z_acrosses, .ref z_failings, .int v_basis, .ref z_given, .int v_trace])), (z_isGood, .inl (cy 2, 32, .inl o_3)), (z_frozen, .inl (cy 0, 32, .inl o_4))] := hD
      refine lv_iload_n hx hb dX10_size_80 rfl (lv_at hl 1 rfl) ?_
      cases h
      exact gRi hx hb hr hlocks hP hD hS dX10_size_81
    · refine gLoop (Hy := fun k_ v_ => fL_X10_size_43 K k_ v_ = some (o_2, o_3, o_4)) (Pl := fun (v_ : Int32 × (Nat → Int32) × (Nat → Int32)) H locs ls => match v_ with | (a_6, a_7, a_8) => va_P D vwCl [(z, .inr (9, [.int v_fault, .int x1, .int v_upper, .int v_base, .ref z_isGood, .ref z_frozen, .ref z_sheetSize, .ref z_sheetLane, .ref z_sheet, .ref z_hands, .int v_wide, .long v_mask, .int v_paths, .ref z_seen, .ref z_work, .ref z_known, .ref z_next, .int v_come, .int v_isCounted, .ref z_counts, .ref z_acrosses, .ref z_failings, .int v_basis, .ref z_given, .int v_trace])), (z_isGood, .inl (cy 2, 32, .inl a_7)), (z_frozen, .inl (cy 0, 32, .inl a_8))] H ∧ va_D A [(z, .inr (9, [.int v_fault, .int x1, .int v_upper, .int v_base, .ref z_isGood, .ref z_frozen, .ref z_sheetSize, .ref z_sheetLane, .ref z_sheet, .ref z_hands, .int v_wide, .long v_mask, .int v_paths, .ref z_seen, .ref z_work, .ref z_known, .ref z_next, .int v_come, .int v_isCounted, .ref z_counts, .ref z_acrosses, .ref z_failings, .int v_basis, .ref z_given, .int v_trace])), (z_isGood, .inl (cy 2, 32, .inl a_7)), (z_frozen, .inl (cy 0, 32, .inl a_8))] ∧ va_S A s.heap H locs ∧ lv_has ls 4 [(3, .int a_6), (2, .int v_size), (0, .ref z), (1, .int x1)]) (pcH := 43) (fun _ q_ => by cases q_) ?_ K (0, v_isGoodc, v_frozenc) hL_5 ⟨hP, hD, hS, hl⟩
      clear hL_5 h hP hD hS hl
      intro k_ ih ⟨a_6, a_7, a_8⟩ H locs ls h hp_
      obtain ⟨hP, hD, hS, hl⟩ := hp_
      have hP : va_P D vwCl [(z, .inr (9, [.int v_fault, .int x1, .int v_upper, .int v_base, .ref z_isGood, .ref z_frozen, .ref z_sheetSize, .ref z_sheetLane, .ref z_sheet, .ref z_hands, .int v_wide, .long v_mask, .int v_paths, .ref z_seen, .ref z_work, .ref z_known, .ref z_next, .int v_come, .int v_isCounted, .ref z_counts, .ref z_acrosses, .ref z_failings, .int v_basis, .ref z_given, .int v_trace])), (z_isGood, .inl (cy 2, 32, .inl a_7)), (z_frozen, .inl (cy 0, 32, .inl a_8))] H := hP
      have hD : va_D A [(z, .inr (9, [.int v_fault, .int x1, .int v_upper, .int v_base, .ref z_isGood, .ref z_frozen, .ref z_sheetSize, .ref z_sheetLane, .ref z_sheet, .ref z_hands, .int v_wide, .long v_mask, .int v_paths, .ref z_seen, .ref z_work, .ref z_known, .ref z_next, .int v_come, .int v_isCounted, .ref z_counts, .ref z_acrosses, .ref z_failings, .int v_basis, .ref z_given, .int v_trace])), (z_isGood, .inl (cy 2, 32, .inl a_7)), (z_frozen, .inl (cy 0, 32, .inl a_8))] := hD
      have hl : lv_has ls 4 [(3, .int a_6), (2, .int v_size), (0, .ref z), (1, .int x1)] := hl
      change fL_X10_size_43 K (k_ + 1) (a_6, a_7, a_8) = _ at h
      rw [fL_X10_size_43] at h
      refine lv_iload_n hx hb dX10_size_43 rfl (lv_at hl 0 rfl) ?_
      refine lv_bipush (v := 32) hx hb dX10_size_44 (by decide) ?_
      refine lv_icmp_ge (tgt := 69) hx hb dX10_size_46 (by decide) (fun c_9 => ?_) (fun c_9 => ?_)
      · have h := gx_t c_9 h
        have hl := lv_sub (l' := [(3, .int a_6), (2, .int v_size), (0, .ref z), (1, .int x1)]) hl [0, 1, 2, 3] rfl
        cases h
        exact hJ69 _ _ _ ⟨hP, hD, hS, hl⟩
      · have h := gx_f c_9 h
        refine lv_aload_n hx hb dX10_size_49 rfl (lv_at hl 2 rfl) ?_
        refine va_get (D := D) (ci := 9) (v := .ref z_isGood) (C := RX10) (T := TX10) (N := 25) hx hb hts iX10 hown hK hP 0 rfl rfl 4 (by decide) f7 (fun _ h9 => h9) rfl dX10_size_50 ?_
        refine lv_iload_n hx hb dX10_size_53 rfl (lv_at hl 0 rfl) ?_
        refine lv_iconst (v := 0) hx hb dX10_size_54 (by decide) ?_
        obtain ⟨hi_, h⟩ := gx_ix h
        refine va_zast hx hb hK hP hD hS 1 2 rfl rfl hi_ dX10_size_55 (fun H locs hP hD hS => ?_)
        obtain ⟨w_10, e_w_10⟩ : ∃ y : Nat → Int32, y = (upd a_7 (Int32.toNatClampNeg a_6) (vp_nar .boolean 0)) := ⟨_, rfl⟩
        have h := gx_let e_w_10 h
        have hP : va_P D vwCl [(z, .inr (9, [.int v_fault, .int x1, .int v_upper, .int v_base, .ref z_isGood, .ref z_frozen, .ref z_sheetSize, .ref z_sheetLane, .ref z_sheet, .ref z_hands, .int v_wide, .long v_mask, .int v_paths, .ref z_seen, .ref z_work, .ref z_known, .ref z_next, .int v_come, .int v_isCounted, .ref z_counts, .ref z_acrosses, .ref z_failings, .int v_basis, .ref z_given, .int v_trace])), (z_isGood, .inl (cy 2, 32, .inl (upd a_7 (Int32.toNatClampNeg a_6) (vp_nar .boolean 0)))), (z_frozen, .inl (cy 0, 32, .inl a_8))] H := hP
        have hD : va_D A [(z, .inr (9, [.int v_fault, .int x1, .int v_upper, .int v_base, .ref z_isGood, .ref z_frozen, .ref z_sheetSize, .ref z_sheetLane, .ref z_sheet, .ref z_hands, .int v_wide, .long v_mask, .int v_paths, .ref z_seen, .ref z_work, .ref z_known, .ref z_next, .int v_come, .int v_isCounted, .ref z_counts, .ref z_acrosses, .ref z_failings, .int v_basis, .ref z_given, .int v_trace])), (z_isGood, .inl (cy 2, 32, .inl (upd a_7 (Int32.toNatClampNeg a_6) (vp_nar .boolean 0)))), (z_frozen, .inl (cy 0, 32, .inl a_8))] := hD
        rw [← e_w_10] at hP hD
        refine lv_aload_n hx hb dX10_size_56 rfl (lv_at hl 2 rfl) ?_
        refine va_get (D := D) (ci := 9) (v := .ref z_frozen) (C := RX10) (T := TX10) (N := 25) hx hb hts iX10 hown hK hP 0 rfl rfl 5 (by decide) f13 (fun _ h9 => h9) rfl dX10_size_57 ?_
        refine lv_iload_n hx hb dX10_size_60 rfl (lv_at hl 0 rfl) ?_
        refine lv_iconst (v := 0) hx hb dX10_size_61 (by decide) ?_
        obtain ⟨hi_, h⟩ := gx_ix h
        refine va_iast hx hb hK hP hD hS 2 0 rfl rfl hi_ dX10_size_62 (fun H locs hP hD hS => ?_)
        obtain ⟨w_11, e_w_11⟩ : ∃ y : Nat → Int32, y = (upd a_8 (Int32.toNatClampNeg a_6) 0) := ⟨_, rfl⟩
        have h := gx_let e_w_11 h
        have hP : va_P D vwCl [(z, .inr (9, [.int v_fault, .int x1, .int v_upper, .int v_base, .ref z_isGood, .ref z_frozen, .ref z_sheetSize, .ref z_sheetLane, .ref z_sheet, .ref z_hands, .int v_wide, .long v_mask, .int v_paths, .ref z_seen, .ref z_work, .ref z_known, .ref z_next, .int v_come, .int v_isCounted, .ref z_counts, .ref z_acrosses, .ref z_failings, .int v_basis, .ref z_given, .int v_trace])), (z_isGood, .inl (cy 2, 32, .inl w_10)), (z_frozen, .inl (cy 0, 32, .inl (upd a_8 (Int32.toNatClampNeg a_6) 0)))] H := hP
        have hD : va_D A [(z, .inr (9, [.int v_fault, .int x1, .int v_upper, .int v_base, .ref z_isGood, .ref z_frozen, .ref z_sheetSize, .ref z_sheetLane, .ref z_sheet, .ref z_hands, .int v_wide, .long v_mask, .int v_paths, .ref z_seen, .ref z_work, .ref z_known, .ref z_next, .int v_come, .int v_isCounted, .ref z_counts, .ref z_acrosses, .ref z_failings, .int v_basis, .ref z_given, .int v_trace])), (z_isGood, .inl (cy 2, 32, .inl w_10)), (z_frozen, .inl (cy 0, 32, .inl (upd a_8 (Int32.toNatClampNeg a_6) 0)))] := hD
        rw [← e_w_11] at hP hD
        obtain ⟨y3_12, e_y3_12⟩ : ∃ y : Int32, y = (a_6 + 1) := ⟨_, rfl⟩
        have h := gx_let e_y3_12 h
        refine lv_iinc (v := y3_12) (lv' := [(3, .int y3_12), (2, .int v_size), (0, .ref z), (1, .int x1)]) hx hb dX10_size_63 hl (k := 0) rfl (by rw [e_y3_12]; rfl) (by decide) rfl (fun ls hl => ?_)
        refine lv_goto (tgt := 43) hx hb dX10_size_66 (by decide) ?_
        exact ih (y3_12, w_10, w_11) _ _ _ h ⟨hP, hD, hS, lv_sub (l' := [(3, .int y3_12), (2, .int v_size), (0, .ref z), (1, .int x1)]) hl [0, 1, 2, 3] rfl⟩
  · have h := gx_f c_1 h
    refine lv_iload_n hx hb dX10_size_5 rfl (lv_at hl 1 rfl) ?_
    refine lv_iconst (v := 4) hx hb dX10_size_6 (by decide) ?_
    refine lv_icmp_eq (tgt := 31) hx hb dX10_size_7 (by decide) (fun c_13 => ?_) (fun c_13 => ?_)
    · have h := gx_t c_13 h
      refine lv_aload_n hx hb dX10_size_31 rfl (lv_at hl 0 rfl) ?_
      refine va_get (D := D) (ci := 9) (v := .int v_size) (C := RX10) (T := TX10) (N := 25) hx hb hts iX10 hown hK hP 0 rfl rfl 1 (by decide) f54 (fun _ h9 => h9) rfl dX10_size_32 ?_
      refine lv_istore_n (lv' := [(2, .int v_size), (0, .ref z), (1, .int x1)]) hx hb dX10_size_35 rfl hl (by decide) rfl (fun ls hl => ?_)
      refine lv_aload_n hx hb dX10_size_36 rfl (lv_at hl 1 rfl) ?_
      refine lv_iload_n hx hb dX10_size_37 rfl (lv_at hl 2 rfl) ?_
      refine va_put (D := D) (ci := 9) (v := .int x1) (ty := .int) (C := RX10) (T := TX10) (N := 25) hx hb hts iX10 tyX10 tyX10_ok nmX10 hown hK hP hD hS 0 rfl rfl 1 (by decide) f54 (fun _ h9 => h9) rfl (by decide +kernel) rfl rfl (Nat.le_of_ble_eq_true rfl) dX10_size_38 (fun H locs hP hD hS => ?_)
      have hP : va_P D vwCl [(z, .inr (9, [.int v_fault, .int x1, .int v_upper, .int v_base, .ref z_isGood, .ref z_frozen, .ref z_sheetSize, .ref z_sheetLane, .ref z_sheet, .ref z_hands, .int v_wide, .long v_mask, .int v_paths, .ref z_seen, .ref z_work, .ref z_known, .ref z_next, .int v_come, .int v_isCounted, .ref z_counts, .ref z_acrosses, .ref z_failings, .int v_basis, .ref z_given, .int v_trace])), (z_isGood, .inl (cy 2, 32, .inl v_isGoodc)), (z_frozen, .inl (cy 0, 32, .inl v_frozenc))] H := hP
      have hD : va_D A [(z, .inr (9, [.int v_fault, .int x1, .int v_upper, .int v_base, .ref z_isGood, .ref z_frozen, .ref z_sheetSize, .ref z_sheetLane, .ref z_sheet, .ref z_hands, .int v_wide, .long v_mask, .int v_paths, .ref z_seen, .ref z_work, .ref z_known, .ref z_next, .int v_come, .int v_isCounted, .ref z_counts, .ref z_acrosses, .ref z_failings, .int v_basis, .ref z_given, .int v_trace])), (z_isGood, .inl (cy 2, 32, .inl v_isGoodc)), (z_frozen, .inl (cy 0, 32, .inl v_frozenc))] := hD
      refine lv_iconst (v := 0) hx hb dX10_size_41 (by decide) ?_
      refine lv_istore_n (lv' := [(3, .int 0), (2, .int v_size), (0, .ref z), (1, .int x1)]) hx hb dX10_size_42 rfl hl (by decide) rfl (fun ls hl => ?_)
      obtain ⟨⟨o_14, o_15, o_16⟩, hL_17, h⟩ := gx_b h
      refine gJoin (Pj := fun H locs ls => va_P D vwCl [(z, .inr (9, [.int v_fault, .int x1, .int v_upper, .int v_base, .ref z_isGood, .ref z_frozen, .ref z_sheetSize, .ref z_sheetLane, .ref z_sheet, .ref z_hands, .int v_wide, .long v_mask, .int v_paths, .ref z_seen, .ref z_work, .ref z_known, .ref z_next, .int v_come, .int v_isCounted, .ref z_counts, .ref z_acrosses, .ref z_failings, .int v_basis, .ref z_given, .int v_trace])), (z_isGood, .inl (cy 2, 32, .inl o_15)), (z_frozen, .inl (cy 0, 32, .inl o_16))] H ∧ va_D A [(z, .inr (9, [.int v_fault, .int x1, .int v_upper, .int v_base, .ref z_isGood, .ref z_frozen, .ref z_sheetSize, .ref z_sheetLane, .ref z_sheet, .ref z_hands, .int v_wide, .long v_mask, .int v_paths, .ref z_seen, .ref z_work, .ref z_known, .ref z_next, .int v_come, .int v_isCounted, .ref z_counts, .ref z_acrosses, .ref z_failings, .int v_basis, .ref z_given, .int v_trace])), (z_isGood, .inl (cy 2, 32, .inl o_15)), (z_frozen, .inl (cy 0, 32, .inl o_16))] ∧ va_S A s.heap H locs ∧ lv_has ls 4 [(3, .int o_14), (2, .int v_size), (0, .ref z), (1, .int x1)]) (pcM := 69) (st := []) ?_ (fun hJ69 => ?_)
      · intro H locs ls hp_
        obtain ⟨hP, hD, hS, hl⟩ := hp_
        clear hL_17
        refine lv_aload_n hx hb dX10_size_69 rfl (lv_at hl 2 rfl) ?_
        refine lv_bipush (v := (-9)) hx hb dX10_size_70 (by decide) ?_
        refine va_put (D := D) (ci := 9) (v := .int (-9)) (ty := .int) (C := RX10) (T := TX10) (N := 25) hx hb hts iX10 tyX10 tyX10_ok nmX10 hown hK hP hD hS 0 rfl rfl 12 (by decide) f67 (fun _ h9 => h9) rfl (by decide +kernel) rfl rfl (Nat.le_of_ble_eq_true rfl) dX10_size_72 (fun H locs hP hD hS => ?_)
        have hP : va_P D vwCl [(z, .inr (9, [.int v_fault, .int x1, .int v_upper, .int v_base, .ref z_isGood, .ref z_frozen, .ref z_sheetSize, .ref z_sheetLane, .ref z_sheet, .ref z_hands, .int v_wide, .long v_mask, .int (-9), .ref z_seen, .ref z_work, .ref z_known, .ref z_next, .int v_come, .int v_isCounted, .ref z_counts, .ref z_acrosses, .ref z_failings, .int v_basis, .ref z_given, .int v_trace])), (z_isGood, .inl (cy 2, 32, .inl o_15)), (z_frozen, .inl (cy 0, 32, .inl o_16))] H := hP
        have hD : va_D A [(z, .inr (9, [.int v_fault, .int x1, .int v_upper, .int v_base, .ref z_isGood, .ref z_frozen, .ref z_sheetSize, .ref z_sheetLane, .ref z_sheet, .ref z_hands, .int v_wide, .long v_mask, .int (-9), .ref z_seen, .ref z_work, .ref z_known, .ref z_next, .int v_come, .int v_isCounted, .ref z_counts, .ref z_acrosses, .ref z_failings, .int v_basis, .ref z_given, .int v_trace])), (z_isGood, .inl (cy 2, 32, .inl o_15)), (z_frozen, .inl (cy 0, 32, .inl o_16))] := hD
        refine lv_aload_n hx hb dX10_size_75 rfl (lv_at hl 2 rfl) ?_
        refine lv_iconst (v := 0) hx hb dX10_size_76 (by decide) ?_
        refine va_put (D := D) (ci := 9) (v := .int 0) (ty := .boolean) (C := RX10) (T := TX10) (N := 25) hx hb hts iX10 tyX10 tyX10_ok nmX10 hown hK hP hD hS 0 rfl rfl 18 (by decide) f83 (fun _ h9 => h9) rfl (by decide +kernel) rfl rfl (Nat.le_of_ble_eq_true rfl) dX10_size_77 (fun H locs hP hD hS => ?_)
        have hP : va_P D vwCl [(z, .inr (9, [.int v_fault, .int x1, .int v_upper, .int v_base, .ref z_isGood, .ref z_frozen, .ref z_sheetSize, .ref z_sheetLane, .ref z_sheet, .ref z_hands, .int v_wide, .long v_mask, .int (-9), .ref z_seen, .ref z_work, .ref z_known, .ref z_next, .int v_come, .int 0, .ref z_counts, .ref z_acrosses, .ref z_failings, .int v_basis, .ref z_given, .int v_trace])), (z_isGood, .inl (cy 2, 32, .inl o_15)), (z_frozen, .inl (cy 0, 32, .inl o_16))] H := hP
        have hD : va_D A [(z, .inr (9, [.int v_fault, .int x1, .int v_upper, .int v_base, .ref z_isGood, .ref z_frozen, .ref z_sheetSize, .ref z_sheetLane, .ref z_sheet, .ref z_hands, .int v_wide, .long v_mask, .int (-9), .ref z_seen, .ref z_work, .ref z_known, .ref z_next, .int v_come, .int 0, .ref z_counts, .ref z_acrosses, .ref z_failings, .int v_basis, .ref z_given, .int v_trace])), (z_isGood, .inl (cy 2, 32, .inl o_15)), (z_frozen, .inl (cy 0, 32, .inl o_16))] := hD
        refine lv_iload_n hx hb dX10_size_80 rfl (lv_at hl 1 rfl) ?_
        cases h
        exact gRi hx hb hr hlocks hP hD hS dX10_size_81
      · refine gLoop (Hy := fun k_ v_ => fL_X10_size_43 K k_ v_ = some (o_14, o_15, o_16)) (Pl := fun (v_ : Int32 × (Nat → Int32) × (Nat → Int32)) H locs ls => match v_ with | (a_18, a_19, a_20) => va_P D vwCl [(z, .inr (9, [.int v_fault, .int x1, .int v_upper, .int v_base, .ref z_isGood, .ref z_frozen, .ref z_sheetSize, .ref z_sheetLane, .ref z_sheet, .ref z_hands, .int v_wide, .long v_mask, .int v_paths, .ref z_seen, .ref z_work, .ref z_known, .ref z_next, .int v_come, .int v_isCounted, .ref z_counts, .ref z_acrosses, .ref z_failings, .int v_basis, .ref z_given, .int v_trace])), (z_isGood, .inl (cy 2, 32, .inl a_19)), (z_frozen, .inl (cy 0, 32, .inl a_20))] H ∧ va_D A [(z, .inr (9, [.int v_fault, .int x1, .int v_upper, .int v_base, .ref z_isGood, .ref z_frozen, .ref z_sheetSize, .ref z_sheetLane, .ref z_sheet, .ref z_hands, .int v_wide, .long v_mask, .int v_paths, .ref z_seen, .ref z_work, .ref z_known, .ref z_next, .int v_come, .int v_isCounted, .ref z_counts, .ref z_acrosses, .ref z_failings, .int v_basis, .ref z_given, .int v_trace])), (z_isGood, .inl (cy 2, 32, .inl a_19)), (z_frozen, .inl (cy 0, 32, .inl a_20))] ∧ va_S A s.heap H locs ∧ lv_has ls 4 [(3, .int a_18), (2, .int v_size), (0, .ref z), (1, .int x1)]) (pcH := 43) (fun _ q_ => by cases q_) ?_ K (0, v_isGoodc, v_frozenc) hL_17 ⟨hP, hD, hS, hl⟩
        clear hL_17 h hP hD hS hl
        intro k_ ih ⟨a_18, a_19, a_20⟩ H locs ls h hp_
        obtain ⟨hP, hD, hS, hl⟩ := hp_
        have hP : va_P D vwCl [(z, .inr (9, [.int v_fault, .int x1, .int v_upper, .int v_base, .ref z_isGood, .ref z_frozen, .ref z_sheetSize, .ref z_sheetLane, .ref z_sheet, .ref z_hands, .int v_wide, .long v_mask, .int v_paths, .ref z_seen, .ref z_work, .ref z_known, .ref z_next, .int v_come, .int v_isCounted, .ref z_counts, .ref z_acrosses, .ref z_failings, .int v_basis, .ref z_given, .int v_trace])), (z_isGood, .inl (cy 2, 32, .inl a_19)), (z_frozen, .inl (cy 0, 32, .inl a_20))] H := hP
        have hD : va_D A [(z, .inr (9, [.int v_fault, .int x1, .int v_upper, .int v_base, .ref z_isGood, .ref z_frozen, .ref z_sheetSize, .ref z_sheetLane, .ref z_sheet, .ref z_hands, .int v_wide, .long v_mask, .int v_paths, .ref z_seen, .ref z_work, .ref z_known, .ref z_next, .int v_come, .int v_isCounted, .ref z_counts, .ref z_acrosses, .ref z_failings, .int v_basis, .ref z_given, .int v_trace])), (z_isGood, .inl (cy 2, 32, .inl a_19)), (z_frozen, .inl (cy 0, 32, .inl a_20))] := hD
        have hl : lv_has ls 4 [(3, .int a_18), (2, .int v_size), (0, .ref z), (1, .int x1)] := hl
        change fL_X10_size_43 K (k_ + 1) (a_18, a_19, a_20) = _ at h
        rw [fL_X10_size_43] at h
        refine lv_iload_n hx hb dX10_size_43 rfl (lv_at hl 0 rfl) ?_
        refine lv_bipush (v := 32) hx hb dX10_size_44 (by decide) ?_
        refine lv_icmp_ge (tgt := 69) hx hb dX10_size_46 (by decide) (fun c_21 => ?_) (fun c_21 => ?_)
        · have h := gx_t c_21 h
          have hl := lv_sub (l' := [(3, .int a_18), (2, .int v_size), (0, .ref z), (1, .int x1)]) hl [0, 1, 2, 3] rfl
          cases h
          exact hJ69 _ _ _ ⟨hP, hD, hS, hl⟩
        · have h := gx_f c_21 h
          refine lv_aload_n hx hb dX10_size_49 rfl (lv_at hl 2 rfl) ?_
          refine va_get (D := D) (ci := 9) (v := .ref z_isGood) (C := RX10) (T := TX10) (N := 25) hx hb hts iX10 hown hK hP 0 rfl rfl 4 (by decide) f7 (fun _ h9 => h9) rfl dX10_size_50 ?_
          refine lv_iload_n hx hb dX10_size_53 rfl (lv_at hl 0 rfl) ?_
          refine lv_iconst (v := 0) hx hb dX10_size_54 (by decide) ?_
          obtain ⟨hi_, h⟩ := gx_ix h
          refine va_zast hx hb hK hP hD hS 1 2 rfl rfl hi_ dX10_size_55 (fun H locs hP hD hS => ?_)
          obtain ⟨w_22, e_w_22⟩ : ∃ y : Nat → Int32, y = (upd a_19 (Int32.toNatClampNeg a_18) (vp_nar .boolean 0)) := ⟨_, rfl⟩
          have h := gx_let e_w_22 h
          have hP : va_P D vwCl [(z, .inr (9, [.int v_fault, .int x1, .int v_upper, .int v_base, .ref z_isGood, .ref z_frozen, .ref z_sheetSize, .ref z_sheetLane, .ref z_sheet, .ref z_hands, .int v_wide, .long v_mask, .int v_paths, .ref z_seen, .ref z_work, .ref z_known, .ref z_next, .int v_come, .int v_isCounted, .ref z_counts, .ref z_acrosses, .ref z_failings, .int v_basis, .ref z_given, .int v_trace])), (z_isGood, .inl (cy 2, 32, .inl (upd a_19 (Int32.toNatClampNeg a_18) (vp_nar .boolean 0)))), (z_frozen, .inl (cy 0, 32, .inl a_20))] H := hP
          have hD : va_D A [(z, .inr (9, [.int v_fault, .int x1, .int v_upper, .int v_base, .ref z_isGood, .ref z_frozen, .ref z_sheetSize, .ref z_sheetLane, .ref z_sheet, .ref z_hands, .int v_wide, .long v_mask, .int v_paths, .ref z_seen, .ref z_work, .ref z_known, .ref z_next, .int v_come, .int v_isCounted, .ref z_counts, .ref z_acrosses, .ref z_failings, .int v_basis, .ref z_given, .int v_trace])), (z_isGood, .inl (cy 2, 32, .inl (upd a_19 (Int32.toNatClampNeg a_18) (vp_nar .boolean 0)))), (z_frozen, .inl (cy 0, 32, .inl a_20))] := hD
          rw [← e_w_22] at hP hD
          refine lv_aload_n hx hb dX10_size_56 rfl (lv_at hl 2 rfl) ?_
          refine va_get (D := D) (ci := 9) (v := .ref z_frozen) (C := RX10) (T := TX10) (N := 25) hx hb hts iX10 hown hK hP 0 rfl rfl 5 (by decide) f13 (fun _ h9 => h9) rfl dX10_size_57 ?_
          refine lv_iload_n hx hb dX10_size_60 rfl (lv_at hl 0 rfl) ?_
          refine lv_iconst (v := 0) hx hb dX10_size_61 (by decide) ?_
          obtain ⟨hi_, h⟩ := gx_ix h
          refine va_iast hx hb hK hP hD hS 2 0 rfl rfl hi_ dX10_size_62 (fun H locs hP hD hS => ?_)
          obtain ⟨w_23, e_w_23⟩ : ∃ y : Nat → Int32, y = (upd a_20 (Int32.toNatClampNeg a_18) 0) := ⟨_, rfl⟩
          have h := gx_let e_w_23 h
          have hP : va_P D vwCl [(z, .inr (9, [.int v_fault, .int x1, .int v_upper, .int v_base, .ref z_isGood, .ref z_frozen, .ref z_sheetSize, .ref z_sheetLane, .ref z_sheet, .ref z_hands, .int v_wide, .long v_mask, .int v_paths, .ref z_seen, .ref z_work, .ref z_known, .ref z_next, .int v_come, .int v_isCounted, .ref z_counts, .ref z_acrosses, .ref z_failings, .int v_basis, .ref z_given, .int v_trace])), (z_isGood, .inl (cy 2, 32, .inl w_22)), (z_frozen, .inl (cy 0, 32, .inl (upd a_20 (Int32.toNatClampNeg a_18) 0)))] H := hP
          have hD : va_D A [(z, .inr (9, [.int v_fault, .int x1, .int v_upper, .int v_base, .ref z_isGood, .ref z_frozen, .ref z_sheetSize, .ref z_sheetLane, .ref z_sheet, .ref z_hands, .int v_wide, .long v_mask, .int v_paths, .ref z_seen, .ref z_work, .ref z_known, .ref z_next, .int v_come, .int v_isCounted, .ref z_counts, .ref z_acrosses, .ref z_failings, .int v_basis, .ref z_given, .int v_trace])), (z_isGood, .inl (cy 2, 32, .inl w_22)), (z_frozen, .inl (cy 0, 32, .inl (upd a_20 (Int32.toNatClampNeg a_18) 0)))] := hD
          rw [← e_w_23] at hP hD
          obtain ⟨y3_24, e_y3_24⟩ : ∃ y : Int32, y = (a_18 + 1) := ⟨_, rfl⟩
          have h := gx_let e_y3_24 h
          refine lv_iinc (v := y3_24) (lv' := [(3, .int y3_24), (2, .int v_size), (0, .ref z), (1, .int x1)]) hx hb dX10_size_63 hl (k := 0) rfl (by rw [e_y3_24]; rfl) (by decide) rfl (fun ls hl => ?_)
          refine lv_goto (tgt := 43) hx hb dX10_size_66 (by decide) ?_
          exact ih (y3_24, w_22, w_23) _ _ _ h ⟨hP, hD, hS, lv_sub (l' := [(3, .int y3_24), (2, .int v_size), (0, .ref z), (1, .int x1)]) hl [0, 1, 2, 3] rfl⟩
    · have h := gx_f c_13 h
      refine lv_iload_n hx hb dX10_size_10 rfl (lv_at hl 1 rfl) ?_
      refine lv_bipush (v := 8) hx hb dX10_size_11 (by decide) ?_
      refine lv_icmp_eq (tgt := 31) hx hb dX10_size_13 (by decide) (fun c_25 => ?_) (fun c_25 => ?_)
      · have h := gx_t c_25 h
        refine lv_aload_n hx hb dX10_size_31 rfl (lv_at hl 0 rfl) ?_
        refine va_get (D := D) (ci := 9) (v := .int v_size) (C := RX10) (T := TX10) (N := 25) hx hb hts iX10 hown hK hP 0 rfl rfl 1 (by decide) f54 (fun _ h9 => h9) rfl dX10_size_32 ?_
        refine lv_istore_n (lv' := [(2, .int v_size), (0, .ref z), (1, .int x1)]) hx hb dX10_size_35 rfl hl (by decide) rfl (fun ls hl => ?_)
        refine lv_aload_n hx hb dX10_size_36 rfl (lv_at hl 1 rfl) ?_
        refine lv_iload_n hx hb dX10_size_37 rfl (lv_at hl 2 rfl) ?_
        refine va_put (D := D) (ci := 9) (v := .int x1) (ty := .int) (C := RX10) (T := TX10) (N := 25) hx hb hts iX10 tyX10 tyX10_ok nmX10 hown hK hP hD hS 0 rfl rfl 1 (by decide) f54 (fun _ h9 => h9) rfl (by decide +kernel) rfl rfl (Nat.le_of_ble_eq_true rfl) dX10_size_38 (fun H locs hP hD hS => ?_)
        have hP : va_P D vwCl [(z, .inr (9, [.int v_fault, .int x1, .int v_upper, .int v_base, .ref z_isGood, .ref z_frozen, .ref z_sheetSize, .ref z_sheetLane, .ref z_sheet, .ref z_hands, .int v_wide, .long v_mask, .int v_paths, .ref z_seen, .ref z_work, .ref z_known, .ref z_next, .int v_come, .int v_isCounted, .ref z_counts, .ref z_acrosses, .ref z_failings, .int v_basis, .ref z_given, .int v_trace])), (z_isGood, .inl (cy 2, 32, .inl v_isGoodc)), (z_frozen, .inl (cy 0, 32, .inl v_frozenc))] H := hP
        have hD : va_D A [(z, .inr (9, [.int v_fault, .int x1, .int v_upper, .int v_base, .ref z_isGood, .ref z_frozen, .ref z_sheetSize, .ref z_sheetLane, .ref z_sheet, .ref z_hands, .int v_wide, .long v_mask, .int v_paths, .ref z_seen, .ref z_work, .ref z_known, .ref z_next, .int v_come, .int v_isCounted, .ref z_counts, .ref z_acrosses, .ref z_failings, .int v_basis, .ref z_given, .int v_trace])), (z_isGood, .inl (cy 2, 32, .inl v_isGoodc)), (z_frozen, .inl (cy 0, 32, .inl v_frozenc))] := hD
        refine lv_iconst (v := 0) hx hb dX10_size_41 (by decide) ?_
        refine lv_istore_n (lv' := [(3, .int 0), (2, .int v_size), (0, .ref z), (1, .int x1)]) hx hb dX10_size_42 rfl hl (by decide) rfl (fun ls hl => ?_)
        obtain ⟨⟨o_26, o_27, o_28⟩, hL_29, h⟩ := gx_b h
        refine gJoin (Pj := fun H locs ls => va_P D vwCl [(z, .inr (9, [.int v_fault, .int x1, .int v_upper, .int v_base, .ref z_isGood, .ref z_frozen, .ref z_sheetSize, .ref z_sheetLane, .ref z_sheet, .ref z_hands, .int v_wide, .long v_mask, .int v_paths, .ref z_seen, .ref z_work, .ref z_known, .ref z_next, .int v_come, .int v_isCounted, .ref z_counts, .ref z_acrosses, .ref z_failings, .int v_basis, .ref z_given, .int v_trace])), (z_isGood, .inl (cy 2, 32, .inl o_27)), (z_frozen, .inl (cy 0, 32, .inl o_28))] H ∧ va_D A [(z, .inr (9, [.int v_fault, .int x1, .int v_upper, .int v_base, .ref z_isGood, .ref z_frozen, .ref z_sheetSize, .ref z_sheetLane, .ref z_sheet, .ref z_hands, .int v_wide, .long v_mask, .int v_paths, .ref z_seen, .ref z_work, .ref z_known, .ref z_next, .int v_come, .int v_isCounted, .ref z_counts, .ref z_acrosses, .ref z_failings, .int v_basis, .ref z_given, .int v_trace])), (z_isGood, .inl (cy 2, 32, .inl o_27)), (z_frozen, .inl (cy 0, 32, .inl o_28))] ∧ va_S A s.heap H locs ∧ lv_has ls 4 [(3, .int o_26), (2, .int v_size), (0, .ref z), (1, .int x1)]) (pcM := 69) (st := []) ?_ (fun hJ69 => ?_)
        · intro H locs ls hp_
          obtain ⟨hP, hD, hS, hl⟩ := hp_
          clear hL_29
          refine lv_aload_n hx hb dX10_size_69 rfl (lv_at hl 2 rfl) ?_
          refine lv_bipush (v := (-9)) hx hb dX10_size_70 (by decide) ?_
          refine va_put (D := D) (ci := 9) (v := .int (-9)) (ty := .int) (C := RX10) (T := TX10) (N := 25) hx hb hts iX10 tyX10 tyX10_ok nmX10 hown hK hP hD hS 0 rfl rfl 12 (by decide) f67 (fun _ h9 => h9) rfl (by decide +kernel) rfl rfl (Nat.le_of_ble_eq_true rfl) dX10_size_72 (fun H locs hP hD hS => ?_)
          have hP : va_P D vwCl [(z, .inr (9, [.int v_fault, .int x1, .int v_upper, .int v_base, .ref z_isGood, .ref z_frozen, .ref z_sheetSize, .ref z_sheetLane, .ref z_sheet, .ref z_hands, .int v_wide, .long v_mask, .int (-9), .ref z_seen, .ref z_work, .ref z_known, .ref z_next, .int v_come, .int v_isCounted, .ref z_counts, .ref z_acrosses, .ref z_failings, .int v_basis, .ref z_given, .int v_trace])), (z_isGood, .inl (cy 2, 32, .inl o_27)), (z_frozen, .inl (cy 0, 32, .inl o_28))] H := hP
          have hD : va_D A [(z, .inr (9, [.int v_fault, .int x1, .int v_upper, .int v_base, .ref z_isGood, .ref z_frozen, .ref z_sheetSize, .ref z_sheetLane, .ref z_sheet, .ref z_hands, .int v_wide, .long v_mask, .int (-9), .ref z_seen, .ref z_work, .ref z_known, .ref z_next, .int v_come, .int v_isCounted, .ref z_counts, .ref z_acrosses, .ref z_failings, .int v_basis, .ref z_given, .int v_trace])), (z_isGood, .inl (cy 2, 32, .inl o_27)), (z_frozen, .inl (cy 0, 32, .inl o_28))] := hD
          refine lv_aload_n hx hb dX10_size_75 rfl (lv_at hl 2 rfl) ?_
          refine lv_iconst (v := 0) hx hb dX10_size_76 (by decide) ?_
          refine va_put (D := D) (ci := 9) (v := .int 0) (ty := .boolean) (C := RX10) (T := TX10) (N := 25) hx hb hts iX10 tyX10 tyX10_ok nmX10 hown hK hP hD hS 0 rfl rfl 18 (by decide) f83 (fun _ h9 => h9) rfl (by decide +kernel) rfl rfl (Nat.le_of_ble_eq_true rfl) dX10_size_77 (fun H locs hP hD hS => ?_)
          have hP : va_P D vwCl [(z, .inr (9, [.int v_fault, .int x1, .int v_upper, .int v_base, .ref z_isGood, .ref z_frozen, .ref z_sheetSize, .ref z_sheetLane, .ref z_sheet, .ref z_hands, .int v_wide, .long v_mask, .int (-9), .ref z_seen, .ref z_work, .ref z_known, .ref z_next, .int v_come, .int 0, .ref z_counts, .ref z_acrosses, .ref z_failings, .int v_basis, .ref z_given, .int v_trace])), (z_isGood, .inl (cy 2, 32, .inl o_27)), (z_frozen, .inl (cy 0, 32, .inl o_28))] H := hP
          have hD : va_D A [(z, .inr (9, [.int v_fault, .int x1, .int v_upper, .int v_base, .ref z_isGood, .ref z_frozen, .ref z_sheetSize, .ref z_sheetLane, .ref z_sheet, .ref z_hands, .int v_wide, .long v_mask, .int (-9), .ref z_seen, .ref z_work, .ref z_known, .ref z_next, .int v_come, .int 0, .ref z_counts, .ref z_acrosses, .ref z_failings, .int v_basis, .ref z_given, .int v_trace])), (z_isGood, .inl (cy 2, 32, .inl o_27)), (z_frozen, .inl (cy 0, 32, .inl o_28))] := hD
          refine lv_iload_n hx hb dX10_size_80 rfl (lv_at hl 1 rfl) ?_
          cases h
          exact gRi hx hb hr hlocks hP hD hS dX10_size_81
        · refine gLoop (Hy := fun k_ v_ => fL_X10_size_43 K k_ v_ = some (o_26, o_27, o_28)) (Pl := fun (v_ : Int32 × (Nat → Int32) × (Nat → Int32)) H locs ls => match v_ with | (a_30, a_31, a_32) => va_P D vwCl [(z, .inr (9, [.int v_fault, .int x1, .int v_upper, .int v_base, .ref z_isGood, .ref z_frozen, .ref z_sheetSize, .ref z_sheetLane, .ref z_sheet, .ref z_hands, .int v_wide, .long v_mask, .int v_paths, .ref z_seen, .ref z_work, .ref z_known, .ref z_next, .int v_come, .int v_isCounted, .ref z_counts, .ref z_acrosses, .ref z_failings, .int v_basis, .ref z_given, .int v_trace])), (z_isGood, .inl (cy 2, 32, .inl a_31)), (z_frozen, .inl (cy 0, 32, .inl a_32))] H ∧ va_D A [(z, .inr (9, [.int v_fault, .int x1, .int v_upper, .int v_base, .ref z_isGood, .ref z_frozen, .ref z_sheetSize, .ref z_sheetLane, .ref z_sheet, .ref z_hands, .int v_wide, .long v_mask, .int v_paths, .ref z_seen, .ref z_work, .ref z_known, .ref z_next, .int v_come, .int v_isCounted, .ref z_counts, .ref z_acrosses, .ref z_failings, .int v_basis, .ref z_given, .int v_trace])), (z_isGood, .inl (cy 2, 32, .inl a_31)), (z_frozen, .inl (cy 0, 32, .inl a_32))] ∧ va_S A s.heap H locs ∧ lv_has ls 4 [(3, .int a_30), (2, .int v_size), (0, .ref z), (1, .int x1)]) (pcH := 43) (fun _ q_ => by cases q_) ?_ K (0, v_isGoodc, v_frozenc) hL_29 ⟨hP, hD, hS, hl⟩
          clear hL_29 h hP hD hS hl
          intro k_ ih ⟨a_30, a_31, a_32⟩ H locs ls h hp_
          obtain ⟨hP, hD, hS, hl⟩ := hp_
          have hP : va_P D vwCl [(z, .inr (9, [.int v_fault, .int x1, .int v_upper, .int v_base, .ref z_isGood, .ref z_frozen, .ref z_sheetSize, .ref z_sheetLane, .ref z_sheet, .ref z_hands, .int v_wide, .long v_mask, .int v_paths, .ref z_seen, .ref z_work, .ref z_known, .ref z_next, .int v_come, .int v_isCounted, .ref z_counts, .ref z_acrosses, .ref z_failings, .int v_basis, .ref z_given, .int v_trace])), (z_isGood, .inl (cy 2, 32, .inl a_31)), (z_frozen, .inl (cy 0, 32, .inl a_32))] H := hP
          have hD : va_D A [(z, .inr (9, [.int v_fault, .int x1, .int v_upper, .int v_base, .ref z_isGood, .ref z_frozen, .ref z_sheetSize, .ref z_sheetLane, .ref z_sheet, .ref z_hands, .int v_wide, .long v_mask, .int v_paths, .ref z_seen, .ref z_work, .ref z_known, .ref z_next, .int v_come, .int v_isCounted, .ref z_counts, .ref z_acrosses, .ref z_failings, .int v_basis, .ref z_given, .int v_trace])), (z_isGood, .inl (cy 2, 32, .inl a_31)), (z_frozen, .inl (cy 0, 32, .inl a_32))] := hD
          have hl : lv_has ls 4 [(3, .int a_30), (2, .int v_size), (0, .ref z), (1, .int x1)] := hl
          change fL_X10_size_43 K (k_ + 1) (a_30, a_31, a_32) = _ at h
          rw [fL_X10_size_43] at h
          refine lv_iload_n hx hb dX10_size_43 rfl (lv_at hl 0 rfl) ?_
          refine lv_bipush (v := 32) hx hb dX10_size_44 (by decide) ?_
          refine lv_icmp_ge (tgt := 69) hx hb dX10_size_46 (by decide) (fun c_33 => ?_) (fun c_33 => ?_)
          · have h := gx_t c_33 h
            have hl := lv_sub (l' := [(3, .int a_30), (2, .int v_size), (0, .ref z), (1, .int x1)]) hl [0, 1, 2, 3] rfl
            cases h
            exact hJ69 _ _ _ ⟨hP, hD, hS, hl⟩
          · have h := gx_f c_33 h
            refine lv_aload_n hx hb dX10_size_49 rfl (lv_at hl 2 rfl) ?_
            refine va_get (D := D) (ci := 9) (v := .ref z_isGood) (C := RX10) (T := TX10) (N := 25) hx hb hts iX10 hown hK hP 0 rfl rfl 4 (by decide) f7 (fun _ h9 => h9) rfl dX10_size_50 ?_
            refine lv_iload_n hx hb dX10_size_53 rfl (lv_at hl 0 rfl) ?_
            refine lv_iconst (v := 0) hx hb dX10_size_54 (by decide) ?_
            obtain ⟨hi_, h⟩ := gx_ix h
            refine va_zast hx hb hK hP hD hS 1 2 rfl rfl hi_ dX10_size_55 (fun H locs hP hD hS => ?_)
            obtain ⟨w_34, e_w_34⟩ : ∃ y : Nat → Int32, y = (upd a_31 (Int32.toNatClampNeg a_30) (vp_nar .boolean 0)) := ⟨_, rfl⟩
            have h := gx_let e_w_34 h
            have hP : va_P D vwCl [(z, .inr (9, [.int v_fault, .int x1, .int v_upper, .int v_base, .ref z_isGood, .ref z_frozen, .ref z_sheetSize, .ref z_sheetLane, .ref z_sheet, .ref z_hands, .int v_wide, .long v_mask, .int v_paths, .ref z_seen, .ref z_work, .ref z_known, .ref z_next, .int v_come, .int v_isCounted, .ref z_counts, .ref z_acrosses, .ref z_failings, .int v_basis, .ref z_given, .int v_trace])), (z_isGood, .inl (cy 2, 32, .inl (upd a_31 (Int32.toNatClampNeg a_30) (vp_nar .boolean 0)))), (z_frozen, .inl (cy 0, 32, .inl a_32))] H := hP
            have hD : va_D A [(z, .inr (9, [.int v_fault, .int x1, .int v_upper, .int v_base, .ref z_isGood, .ref z_frozen, .ref z_sheetSize, .ref z_sheetLane, .ref z_sheet, .ref z_hands, .int v_wide, .long v_mask, .int v_paths, .ref z_seen, .ref z_work, .ref z_known, .ref z_next, .int v_come, .int v_isCounted, .ref z_counts, .ref z_acrosses, .ref z_failings, .int v_basis, .ref z_given, .int v_trace])), (z_isGood, .inl (cy 2, 32, .inl (upd a_31 (Int32.toNatClampNeg a_30) (vp_nar .boolean 0)))), (z_frozen, .inl (cy 0, 32, .inl a_32))] := hD
            rw [← e_w_34] at hP hD
            refine lv_aload_n hx hb dX10_size_56 rfl (lv_at hl 2 rfl) ?_
            refine va_get (D := D) (ci := 9) (v := .ref z_frozen) (C := RX10) (T := TX10) (N := 25) hx hb hts iX10 hown hK hP 0 rfl rfl 5 (by decide) f13 (fun _ h9 => h9) rfl dX10_size_57 ?_
            refine lv_iload_n hx hb dX10_size_60 rfl (lv_at hl 0 rfl) ?_
            refine lv_iconst (v := 0) hx hb dX10_size_61 (by decide) ?_
            obtain ⟨hi_, h⟩ := gx_ix h
            refine va_iast hx hb hK hP hD hS 2 0 rfl rfl hi_ dX10_size_62 (fun H locs hP hD hS => ?_)
            obtain ⟨w_35, e_w_35⟩ : ∃ y : Nat → Int32, y = (upd a_32 (Int32.toNatClampNeg a_30) 0) := ⟨_, rfl⟩
            have h := gx_let e_w_35 h
            have hP : va_P D vwCl [(z, .inr (9, [.int v_fault, .int x1, .int v_upper, .int v_base, .ref z_isGood, .ref z_frozen, .ref z_sheetSize, .ref z_sheetLane, .ref z_sheet, .ref z_hands, .int v_wide, .long v_mask, .int v_paths, .ref z_seen, .ref z_work, .ref z_known, .ref z_next, .int v_come, .int v_isCounted, .ref z_counts, .ref z_acrosses, .ref z_failings, .int v_basis, .ref z_given, .int v_trace])), (z_isGood, .inl (cy 2, 32, .inl w_34)), (z_frozen, .inl (cy 0, 32, .inl (upd a_32 (Int32.toNatClampNeg a_30) 0)))] H := hP
            have hD : va_D A [(z, .inr (9, [.int v_fault, .int x1, .int v_upper, .int v_base, .ref z_isGood, .ref z_frozen, .ref z_sheetSize, .ref z_sheetLane, .ref z_sheet, .ref z_hands, .int v_wide, .long v_mask, .int v_paths, .ref z_seen, .ref z_work, .ref z_known, .ref z_next, .int v_come, .int v_isCounted, .ref z_counts, .ref z_acrosses, .ref z_failings, .int v_basis, .ref z_given, .int v_trace])), (z_isGood, .inl (cy 2, 32, .inl w_34)), (z_frozen, .inl (cy 0, 32, .inl (upd a_32 (Int32.toNatClampNeg a_30) 0)))] := hD
            rw [← e_w_35] at hP hD
            obtain ⟨y3_36, e_y3_36⟩ : ∃ y : Int32, y = (a_30 + 1) := ⟨_, rfl⟩
            have h := gx_let e_y3_36 h
            refine lv_iinc (v := y3_36) (lv' := [(3, .int y3_36), (2, .int v_size), (0, .ref z), (1, .int x1)]) hx hb dX10_size_63 hl (k := 0) rfl (by rw [e_y3_36]; rfl) (by decide) rfl (fun ls hl => ?_)
            refine lv_goto (tgt := 43) hx hb dX10_size_66 (by decide) ?_
            exact ih (y3_36, w_34, w_35) _ _ _ h ⟨hP, hD, hS, lv_sub (l' := [(3, .int y3_36), (2, .int v_size), (0, .ref z), (1, .int x1)]) hl [0, 1, 2, 3] rfl⟩
      · have h := gx_f c_25 h
        refine lv_iload_n hx hb dX10_size_16 rfl (lv_at hl 1 rfl) ?_
        refine lv_bipush (v := 16) hx hb dX10_size_17 (by decide) ?_
        refine lv_icmp_eq (tgt := 31) hx hb dX10_size_19 (by decide) (fun c_37 => ?_) (fun c_37 => ?_)
        · have h := gx_t c_37 h
          refine lv_aload_n hx hb dX10_size_31 rfl (lv_at hl 0 rfl) ?_
          refine va_get (D := D) (ci := 9) (v := .int v_size) (C := RX10) (T := TX10) (N := 25) hx hb hts iX10 hown hK hP 0 rfl rfl 1 (by decide) f54 (fun _ h9 => h9) rfl dX10_size_32 ?_
          refine lv_istore_n (lv' := [(2, .int v_size), (0, .ref z), (1, .int x1)]) hx hb dX10_size_35 rfl hl (by decide) rfl (fun ls hl => ?_)
          refine lv_aload_n hx hb dX10_size_36 rfl (lv_at hl 1 rfl) ?_
          refine lv_iload_n hx hb dX10_size_37 rfl (lv_at hl 2 rfl) ?_
          refine va_put (D := D) (ci := 9) (v := .int x1) (ty := .int) (C := RX10) (T := TX10) (N := 25) hx hb hts iX10 tyX10 tyX10_ok nmX10 hown hK hP hD hS 0 rfl rfl 1 (by decide) f54 (fun _ h9 => h9) rfl (by decide +kernel) rfl rfl (Nat.le_of_ble_eq_true rfl) dX10_size_38 (fun H locs hP hD hS => ?_)
          have hP : va_P D vwCl [(z, .inr (9, [.int v_fault, .int x1, .int v_upper, .int v_base, .ref z_isGood, .ref z_frozen, .ref z_sheetSize, .ref z_sheetLane, .ref z_sheet, .ref z_hands, .int v_wide, .long v_mask, .int v_paths, .ref z_seen, .ref z_work, .ref z_known, .ref z_next, .int v_come, .int v_isCounted, .ref z_counts, .ref z_acrosses, .ref z_failings, .int v_basis, .ref z_given, .int v_trace])), (z_isGood, .inl (cy 2, 32, .inl v_isGoodc)), (z_frozen, .inl (cy 0, 32, .inl v_frozenc))] H := hP
          have hD : va_D A [(z, .inr (9, [.int v_fault, .int x1, .int v_upper, .int v_base, .ref z_isGood, .ref z_frozen, .ref z_sheetSize, .ref z_sheetLane, .ref z_sheet, .ref z_hands, .int v_wide, .long v_mask, .int v_paths, .ref z_seen, .ref z_work, .ref z_known, .ref z_next, .int v_come, .int v_isCounted, .ref z_counts, .ref z_acrosses, .ref z_failings, .int v_basis, .ref z_given, .int v_trace])), (z_isGood, .inl (cy 2, 32, .inl v_isGoodc)), (z_frozen, .inl (cy 0, 32, .inl v_frozenc))] := hD
          refine lv_iconst (v := 0) hx hb dX10_size_41 (by decide) ?_
          refine lv_istore_n (lv' := [(3, .int 0), (2, .int v_size), (0, .ref z), (1, .int x1)]) hx hb dX10_size_42 rfl hl (by decide) rfl (fun ls hl => ?_)
          obtain ⟨⟨o_38, o_39, o_40⟩, hL_41, h⟩ := gx_b h
          refine gJoin (Pj := fun H locs ls => va_P D vwCl [(z, .inr (9, [.int v_fault, .int x1, .int v_upper, .int v_base, .ref z_isGood, .ref z_frozen, .ref z_sheetSize, .ref z_sheetLane, .ref z_sheet, .ref z_hands, .int v_wide, .long v_mask, .int v_paths, .ref z_seen, .ref z_work, .ref z_known, .ref z_next, .int v_come, .int v_isCounted, .ref z_counts, .ref z_acrosses, .ref z_failings, .int v_basis, .ref z_given, .int v_trace])), (z_isGood, .inl (cy 2, 32, .inl o_39)), (z_frozen, .inl (cy 0, 32, .inl o_40))] H ∧ va_D A [(z, .inr (9, [.int v_fault, .int x1, .int v_upper, .int v_base, .ref z_isGood, .ref z_frozen, .ref z_sheetSize, .ref z_sheetLane, .ref z_sheet, .ref z_hands, .int v_wide, .long v_mask, .int v_paths, .ref z_seen, .ref z_work, .ref z_known, .ref z_next, .int v_come, .int v_isCounted, .ref z_counts, .ref z_acrosses, .ref z_failings, .int v_basis, .ref z_given, .int v_trace])), (z_isGood, .inl (cy 2, 32, .inl o_39)), (z_frozen, .inl (cy 0, 32, .inl o_40))] ∧ va_S A s.heap H locs ∧ lv_has ls 4 [(3, .int o_38), (2, .int v_size), (0, .ref z), (1, .int x1)]) (pcM := 69) (st := []) ?_ (fun hJ69 => ?_)
          · intro H locs ls hp_
            obtain ⟨hP, hD, hS, hl⟩ := hp_
            clear hL_41
            refine lv_aload_n hx hb dX10_size_69 rfl (lv_at hl 2 rfl) ?_
            refine lv_bipush (v := (-9)) hx hb dX10_size_70 (by decide) ?_
            refine va_put (D := D) (ci := 9) (v := .int (-9)) (ty := .int) (C := RX10) (T := TX10) (N := 25) hx hb hts iX10 tyX10 tyX10_ok nmX10 hown hK hP hD hS 0 rfl rfl 12 (by decide) f67 (fun _ h9 => h9) rfl (by decide +kernel) rfl rfl (Nat.le_of_ble_eq_true rfl) dX10_size_72 (fun H locs hP hD hS => ?_)
            have hP : va_P D vwCl [(z, .inr (9, [.int v_fault, .int x1, .int v_upper, .int v_base, .ref z_isGood, .ref z_frozen, .ref z_sheetSize, .ref z_sheetLane, .ref z_sheet, .ref z_hands, .int v_wide, .long v_mask, .int (-9), .ref z_seen, .ref z_work, .ref z_known, .ref z_next, .int v_come, .int v_isCounted, .ref z_counts, .ref z_acrosses, .ref z_failings, .int v_basis, .ref z_given, .int v_trace])), (z_isGood, .inl (cy 2, 32, .inl o_39)), (z_frozen, .inl (cy 0, 32, .inl o_40))] H := hP
            have hD : va_D A [(z, .inr (9, [.int v_fault, .int x1, .int v_upper, .int v_base, .ref z_isGood, .ref z_frozen, .ref z_sheetSize, .ref z_sheetLane, .ref z_sheet, .ref z_hands, .int v_wide, .long v_mask, .int (-9), .ref z_seen, .ref z_work, .ref z_known, .ref z_next, .int v_come, .int v_isCounted, .ref z_counts, .ref z_acrosses, .ref z_failings, .int v_basis, .ref z_given, .int v_trace])), (z_isGood, .inl (cy 2, 32, .inl o_39)), (z_frozen, .inl (cy 0, 32, .inl o_40))] := hD
            refine lv_aload_n hx hb dX10_size_75 rfl (lv_at hl 2 rfl) ?_
            refine lv_iconst (v := 0) hx hb dX10_size_76 (by decide) ?_
            refine va_put (D := D) (ci := 9) (v := .int 0) (ty := .boolean) (C := RX10) (T := TX10) (N := 25) hx hb hts iX10 tyX10 tyX10_ok nmX10 hown hK hP hD hS 0 rfl rfl 18 (by decide) f83 (fun _ h9 => h9) rfl (by decide +kernel) rfl rfl (Nat.le_of_ble_eq_true rfl) dX10_size_77 (fun H locs hP hD hS => ?_)
            have hP : va_P D vwCl [(z, .inr (9, [.int v_fault, .int x1, .int v_upper, .int v_base, .ref z_isGood, .ref z_frozen, .ref z_sheetSize, .ref z_sheetLane, .ref z_sheet, .ref z_hands, .int v_wide, .long v_mask, .int (-9), .ref z_seen, .ref z_work, .ref z_known, .ref z_next, .int v_come, .int 0, .ref z_counts, .ref z_acrosses, .ref z_failings, .int v_basis, .ref z_given, .int v_trace])), (z_isGood, .inl (cy 2, 32, .inl o_39)), (z_frozen, .inl (cy 0, 32, .inl o_40))] H := hP
            have hD : va_D A [(z, .inr (9, [.int v_fault, .int x1, .int v_upper, .int v_base, .ref z_isGood, .ref z_frozen, .ref z_sheetSize, .ref z_sheetLane, .ref z_sheet, .ref z_hands, .int v_wide, .long v_mask, .int (-9), .ref z_seen, .ref z_work, .ref z_known, .ref z_next, .int v_come, .int 0, .ref z_counts, .ref z_acrosses, .ref z_failings, .int v_basis, .ref z_given, .int v_trace])), (z_isGood, .inl (cy 2, 32, .inl o_39)), (z_frozen, .inl (cy 0, 32, .inl o_40))] := hD
            refine lv_iload_n hx hb dX10_size_80 rfl (lv_at hl 1 rfl) ?_
            cases h
            exact gRi hx hb hr hlocks hP hD hS dX10_size_81
          · refine gLoop (Hy := fun k_ v_ => fL_X10_size_43 K k_ v_ = some (o_38, o_39, o_40)) (Pl := fun (v_ : Int32 × (Nat → Int32) × (Nat → Int32)) H locs ls => match v_ with | (a_42, a_43, a_44) => va_P D vwCl [(z, .inr (9, [.int v_fault, .int x1, .int v_upper, .int v_base, .ref z_isGood, .ref z_frozen, .ref z_sheetSize, .ref z_sheetLane, .ref z_sheet, .ref z_hands, .int v_wide, .long v_mask, .int v_paths, .ref z_seen, .ref z_work, .ref z_known, .ref z_next, .int v_come, .int v_isCounted, .ref z_counts, .ref z_acrosses, .ref z_failings, .int v_basis, .ref z_given, .int v_trace])), (z_isGood, .inl (cy 2, 32, .inl a_43)), (z_frozen, .inl (cy 0, 32, .inl a_44))] H ∧ va_D A [(z, .inr (9, [.int v_fault, .int x1, .int v_upper, .int v_base, .ref z_isGood, .ref z_frozen, .ref z_sheetSize, .ref z_sheetLane, .ref z_sheet, .ref z_hands, .int v_wide, .long v_mask, .int v_paths, .ref z_seen, .ref z_work, .ref z_known, .ref z_next, .int v_come, .int v_isCounted, .ref z_counts, .ref z_acrosses, .ref z_failings, .int v_basis, .ref z_given, .int v_trace])), (z_isGood, .inl (cy 2, 32, .inl a_43)), (z_frozen, .inl (cy 0, 32, .inl a_44))] ∧ va_S A s.heap H locs ∧ lv_has ls 4 [(3, .int a_42), (2, .int v_size), (0, .ref z), (1, .int x1)]) (pcH := 43) (fun _ q_ => by cases q_) ?_ K (0, v_isGoodc, v_frozenc) hL_41 ⟨hP, hD, hS, hl⟩
            clear hL_41 h hP hD hS hl
            intro k_ ih ⟨a_42, a_43, a_44⟩ H locs ls h hp_
            obtain ⟨hP, hD, hS, hl⟩ := hp_
            have hP : va_P D vwCl [(z, .inr (9, [.int v_fault, .int x1, .int v_upper, .int v_base, .ref z_isGood, .ref z_frozen, .ref z_sheetSize, .ref z_sheetLane, .ref z_sheet, .ref z_hands, .int v_wide, .long v_mask, .int v_paths, .ref z_seen, .ref z_work, .ref z_known, .ref z_next, .int v_come, .int v_isCounted, .ref z_counts, .ref z_acrosses, .ref z_failings, .int v_basis, .ref z_given, .int v_trace])), (z_isGood, .inl (cy 2, 32, .inl a_43)), (z_frozen, .inl (cy 0, 32, .inl a_44))] H := hP
            have hD : va_D A [(z, .inr (9, [.int v_fault, .int x1, .int v_upper, .int v_base, .ref z_isGood, .ref z_frozen, .ref z_sheetSize, .ref z_sheetLane, .ref z_sheet, .ref z_hands, .int v_wide, .long v_mask, .int v_paths, .ref z_seen, .ref z_work, .ref z_known, .ref z_next, .int v_come, .int v_isCounted, .ref z_counts, .ref z_acrosses, .ref z_failings, .int v_basis, .ref z_given, .int v_trace])), (z_isGood, .inl (cy 2, 32, .inl a_43)), (z_frozen, .inl (cy 0, 32, .inl a_44))] := hD
            have hl : lv_has ls 4 [(3, .int a_42), (2, .int v_size), (0, .ref z), (1, .int x1)] := hl
            change fL_X10_size_43 K (k_ + 1) (a_42, a_43, a_44) = _ at h
            rw [fL_X10_size_43] at h
            refine lv_iload_n hx hb dX10_size_43 rfl (lv_at hl 0 rfl) ?_
            refine lv_bipush (v := 32) hx hb dX10_size_44 (by decide) ?_
            refine lv_icmp_ge (tgt := 69) hx hb dX10_size_46 (by decide) (fun c_45 => ?_) (fun c_45 => ?_)
            · have h := gx_t c_45 h
              have hl := lv_sub (l' := [(3, .int a_42), (2, .int v_size), (0, .ref z), (1, .int x1)]) hl [0, 1, 2, 3] rfl
              cases h
              exact hJ69 _ _ _ ⟨hP, hD, hS, hl⟩
            · have h := gx_f c_45 h
              refine lv_aload_n hx hb dX10_size_49 rfl (lv_at hl 2 rfl) ?_
              refine va_get (D := D) (ci := 9) (v := .ref z_isGood) (C := RX10) (T := TX10) (N := 25) hx hb hts iX10 hown hK hP 0 rfl rfl 4 (by decide) f7 (fun _ h9 => h9) rfl dX10_size_50 ?_
              refine lv_iload_n hx hb dX10_size_53 rfl (lv_at hl 0 rfl) ?_
              refine lv_iconst (v := 0) hx hb dX10_size_54 (by decide) ?_
              obtain ⟨hi_, h⟩ := gx_ix h
              refine va_zast hx hb hK hP hD hS 1 2 rfl rfl hi_ dX10_size_55 (fun H locs hP hD hS => ?_)
              obtain ⟨w_46, e_w_46⟩ : ∃ y : Nat → Int32, y = (upd a_43 (Int32.toNatClampNeg a_42) (vp_nar .boolean 0)) := ⟨_, rfl⟩
              have h := gx_let e_w_46 h
              have hP : va_P D vwCl [(z, .inr (9, [.int v_fault, .int x1, .int v_upper, .int v_base, .ref z_isGood, .ref z_frozen, .ref z_sheetSize, .ref z_sheetLane, .ref z_sheet, .ref z_hands, .int v_wide, .long v_mask, .int v_paths, .ref z_seen, .ref z_work, .ref z_known, .ref z_next, .int v_come, .int v_isCounted, .ref z_counts, .ref z_acrosses, .ref z_failings, .int v_basis, .ref z_given, .int v_trace])), (z_isGood, .inl (cy 2, 32, .inl (upd a_43 (Int32.toNatClampNeg a_42) (vp_nar .boolean 0)))), (z_frozen, .inl (cy 0, 32, .inl a_44))] H := hP
              have hD : va_D A [(z, .inr (9, [.int v_fault, .int x1, .int v_upper, .int v_base, .ref z_isGood, .ref z_frozen, .ref z_sheetSize, .ref z_sheetLane, .ref z_sheet, .ref z_hands, .int v_wide, .long v_mask, .int v_paths, .ref z_seen, .ref z_work, .ref z_known, .ref z_next, .int v_come, .int v_isCounted, .ref z_counts, .ref z_acrosses, .ref z_failings, .int v_basis, .ref z_given, .int v_trace])), (z_isGood, .inl (cy 2, 32, .inl (upd a_43 (Int32.toNatClampNeg a_42) (vp_nar .boolean 0)))), (z_frozen, .inl (cy 0, 32, .inl a_44))] := hD
              rw [← e_w_46] at hP hD
              refine lv_aload_n hx hb dX10_size_56 rfl (lv_at hl 2 rfl) ?_
              refine va_get (D := D) (ci := 9) (v := .ref z_frozen) (C := RX10) (T := TX10) (N := 25) hx hb hts iX10 hown hK hP 0 rfl rfl 5 (by decide) f13 (fun _ h9 => h9) rfl dX10_size_57 ?_
              refine lv_iload_n hx hb dX10_size_60 rfl (lv_at hl 0 rfl) ?_
              refine lv_iconst (v := 0) hx hb dX10_size_61 (by decide) ?_
              obtain ⟨hi_, h⟩ := gx_ix h
              refine va_iast hx hb hK hP hD hS 2 0 rfl rfl hi_ dX10_size_62 (fun H locs hP hD hS => ?_)
              obtain ⟨w_47, e_w_47⟩ : ∃ y : Nat → Int32, y = (upd a_44 (Int32.toNatClampNeg a_42) 0) := ⟨_, rfl⟩
              have h := gx_let e_w_47 h
              have hP : va_P D vwCl [(z, .inr (9, [.int v_fault, .int x1, .int v_upper, .int v_base, .ref z_isGood, .ref z_frozen, .ref z_sheetSize, .ref z_sheetLane, .ref z_sheet, .ref z_hands, .int v_wide, .long v_mask, .int v_paths, .ref z_seen, .ref z_work, .ref z_known, .ref z_next, .int v_come, .int v_isCounted, .ref z_counts, .ref z_acrosses, .ref z_failings, .int v_basis, .ref z_given, .int v_trace])), (z_isGood, .inl (cy 2, 32, .inl w_46)), (z_frozen, .inl (cy 0, 32, .inl (upd a_44 (Int32.toNatClampNeg a_42) 0)))] H := hP
              have hD : va_D A [(z, .inr (9, [.int v_fault, .int x1, .int v_upper, .int v_base, .ref z_isGood, .ref z_frozen, .ref z_sheetSize, .ref z_sheetLane, .ref z_sheet, .ref z_hands, .int v_wide, .long v_mask, .int v_paths, .ref z_seen, .ref z_work, .ref z_known, .ref z_next, .int v_come, .int v_isCounted, .ref z_counts, .ref z_acrosses, .ref z_failings, .int v_basis, .ref z_given, .int v_trace])), (z_isGood, .inl (cy 2, 32, .inl w_46)), (z_frozen, .inl (cy 0, 32, .inl (upd a_44 (Int32.toNatClampNeg a_42) 0)))] := hD
              rw [← e_w_47] at hP hD
              obtain ⟨y3_48, e_y3_48⟩ : ∃ y : Int32, y = (a_42 + 1) := ⟨_, rfl⟩
              have h := gx_let e_y3_48 h
              refine lv_iinc (v := y3_48) (lv' := [(3, .int y3_48), (2, .int v_size), (0, .ref z), (1, .int x1)]) hx hb dX10_size_63 hl (k := 0) rfl (by rw [e_y3_48]; rfl) (by decide) rfl (fun ls hl => ?_)
              refine lv_goto (tgt := 43) hx hb dX10_size_66 (by decide) ?_
              exact ih (y3_48, w_46, w_47) _ _ _ h ⟨hP, hD, hS, lv_sub (l' := [(3, .int y3_48), (2, .int v_size), (0, .ref z), (1, .int x1)]) hl [0, 1, 2, 3] rfl⟩
        · have h := gx_f c_37 h
          refine lv_iload_n hx hb dX10_size_22 rfl (lv_at hl 1 rfl) ?_
          refine lv_bipush (v := 32) hx hb dX10_size_23 (by decide) ?_
          refine lv_icmp_eq (tgt := 31) hx hb dX10_size_25 (by decide) (fun c_49 => ?_) (fun c_49 => ?_)
          · have h := gx_t c_49 h
            refine lv_aload_n hx hb dX10_size_31 rfl (lv_at hl 0 rfl) ?_
            refine va_get (D := D) (ci := 9) (v := .int v_size) (C := RX10) (T := TX10) (N := 25) hx hb hts iX10 hown hK hP 0 rfl rfl 1 (by decide) f54 (fun _ h9 => h9) rfl dX10_size_32 ?_
            refine lv_istore_n (lv' := [(2, .int v_size), (0, .ref z), (1, .int x1)]) hx hb dX10_size_35 rfl hl (by decide) rfl (fun ls hl => ?_)
            refine lv_aload_n hx hb dX10_size_36 rfl (lv_at hl 1 rfl) ?_
            refine lv_iload_n hx hb dX10_size_37 rfl (lv_at hl 2 rfl) ?_
            refine va_put (D := D) (ci := 9) (v := .int x1) (ty := .int) (C := RX10) (T := TX10) (N := 25) hx hb hts iX10 tyX10 tyX10_ok nmX10 hown hK hP hD hS 0 rfl rfl 1 (by decide) f54 (fun _ h9 => h9) rfl (by decide +kernel) rfl rfl (Nat.le_of_ble_eq_true rfl) dX10_size_38 (fun H locs hP hD hS => ?_)
            have hP : va_P D vwCl [(z, .inr (9, [.int v_fault, .int x1, .int v_upper, .int v_base, .ref z_isGood, .ref z_frozen, .ref z_sheetSize, .ref z_sheetLane, .ref z_sheet, .ref z_hands, .int v_wide, .long v_mask, .int v_paths, .ref z_seen, .ref z_work, .ref z_known, .ref z_next, .int v_come, .int v_isCounted, .ref z_counts, .ref z_acrosses, .ref z_failings, .int v_basis, .ref z_given, .int v_trace])), (z_isGood, .inl (cy 2, 32, .inl v_isGoodc)), (z_frozen, .inl (cy 0, 32, .inl v_frozenc))] H := hP
            have hD : va_D A [(z, .inr (9, [.int v_fault, .int x1, .int v_upper, .int v_base, .ref z_isGood, .ref z_frozen, .ref z_sheetSize, .ref z_sheetLane, .ref z_sheet, .ref z_hands, .int v_wide, .long v_mask, .int v_paths, .ref z_seen, .ref z_work, .ref z_known, .ref z_next, .int v_come, .int v_isCounted, .ref z_counts, .ref z_acrosses, .ref z_failings, .int v_basis, .ref z_given, .int v_trace])), (z_isGood, .inl (cy 2, 32, .inl v_isGoodc)), (z_frozen, .inl (cy 0, 32, .inl v_frozenc))] := hD
            refine lv_iconst (v := 0) hx hb dX10_size_41 (by decide) ?_
            refine lv_istore_n (lv' := [(3, .int 0), (2, .int v_size), (0, .ref z), (1, .int x1)]) hx hb dX10_size_42 rfl hl (by decide) rfl (fun ls hl => ?_)
            obtain ⟨⟨o_50, o_51, o_52⟩, hL_53, h⟩ := gx_b h
            refine gJoin (Pj := fun H locs ls => va_P D vwCl [(z, .inr (9, [.int v_fault, .int x1, .int v_upper, .int v_base, .ref z_isGood, .ref z_frozen, .ref z_sheetSize, .ref z_sheetLane, .ref z_sheet, .ref z_hands, .int v_wide, .long v_mask, .int v_paths, .ref z_seen, .ref z_work, .ref z_known, .ref z_next, .int v_come, .int v_isCounted, .ref z_counts, .ref z_acrosses, .ref z_failings, .int v_basis, .ref z_given, .int v_trace])), (z_isGood, .inl (cy 2, 32, .inl o_51)), (z_frozen, .inl (cy 0, 32, .inl o_52))] H ∧ va_D A [(z, .inr (9, [.int v_fault, .int x1, .int v_upper, .int v_base, .ref z_isGood, .ref z_frozen, .ref z_sheetSize, .ref z_sheetLane, .ref z_sheet, .ref z_hands, .int v_wide, .long v_mask, .int v_paths, .ref z_seen, .ref z_work, .ref z_known, .ref z_next, .int v_come, .int v_isCounted, .ref z_counts, .ref z_acrosses, .ref z_failings, .int v_basis, .ref z_given, .int v_trace])), (z_isGood, .inl (cy 2, 32, .inl o_51)), (z_frozen, .inl (cy 0, 32, .inl o_52))] ∧ va_S A s.heap H locs ∧ lv_has ls 4 [(3, .int o_50), (2, .int v_size), (0, .ref z), (1, .int x1)]) (pcM := 69) (st := []) ?_ (fun hJ69 => ?_)
            · intro H locs ls hp_
              obtain ⟨hP, hD, hS, hl⟩ := hp_
              clear hL_53
              refine lv_aload_n hx hb dX10_size_69 rfl (lv_at hl 2 rfl) ?_
              refine lv_bipush (v := (-9)) hx hb dX10_size_70 (by decide) ?_
              refine va_put (D := D) (ci := 9) (v := .int (-9)) (ty := .int) (C := RX10) (T := TX10) (N := 25) hx hb hts iX10 tyX10 tyX10_ok nmX10 hown hK hP hD hS 0 rfl rfl 12 (by decide) f67 (fun _ h9 => h9) rfl (by decide +kernel) rfl rfl (Nat.le_of_ble_eq_true rfl) dX10_size_72 (fun H locs hP hD hS => ?_)
              have hP : va_P D vwCl [(z, .inr (9, [.int v_fault, .int x1, .int v_upper, .int v_base, .ref z_isGood, .ref z_frozen, .ref z_sheetSize, .ref z_sheetLane, .ref z_sheet, .ref z_hands, .int v_wide, .long v_mask, .int (-9), .ref z_seen, .ref z_work, .ref z_known, .ref z_next, .int v_come, .int v_isCounted, .ref z_counts, .ref z_acrosses, .ref z_failings, .int v_basis, .ref z_given, .int v_trace])), (z_isGood, .inl (cy 2, 32, .inl o_51)), (z_frozen, .inl (cy 0, 32, .inl o_52))] H := hP
              have hD : va_D A [(z, .inr (9, [.int v_fault, .int x1, .int v_upper, .int v_base, .ref z_isGood, .ref z_frozen, .ref z_sheetSize, .ref z_sheetLane, .ref z_sheet, .ref z_hands, .int v_wide, .long v_mask, .int (-9), .ref z_seen, .ref z_work, .ref z_known, .ref z_next, .int v_come, .int v_isCounted, .ref z_counts, .ref z_acrosses, .ref z_failings, .int v_basis, .ref z_given, .int v_trace])), (z_isGood, .inl (cy 2, 32, .inl o_51)), (z_frozen, .inl (cy 0, 32, .inl o_52))] := hD
              refine lv_aload_n hx hb dX10_size_75 rfl (lv_at hl 2 rfl) ?_
              refine lv_iconst (v := 0) hx hb dX10_size_76 (by decide) ?_
              refine va_put (D := D) (ci := 9) (v := .int 0) (ty := .boolean) (C := RX10) (T := TX10) (N := 25) hx hb hts iX10 tyX10 tyX10_ok nmX10 hown hK hP hD hS 0 rfl rfl 18 (by decide) f83 (fun _ h9 => h9) rfl (by decide +kernel) rfl rfl (Nat.le_of_ble_eq_true rfl) dX10_size_77 (fun H locs hP hD hS => ?_)
              have hP : va_P D vwCl [(z, .inr (9, [.int v_fault, .int x1, .int v_upper, .int v_base, .ref z_isGood, .ref z_frozen, .ref z_sheetSize, .ref z_sheetLane, .ref z_sheet, .ref z_hands, .int v_wide, .long v_mask, .int (-9), .ref z_seen, .ref z_work, .ref z_known, .ref z_next, .int v_come, .int 0, .ref z_counts, .ref z_acrosses, .ref z_failings, .int v_basis, .ref z_given, .int v_trace])), (z_isGood, .inl (cy 2, 32, .inl o_51)), (z_frozen, .inl (cy 0, 32, .inl o_52))] H := hP
              have hD : va_D A [(z, .inr (9, [.int v_fault, .int x1, .int v_upper, .int v_base, .ref z_isGood, .ref z_frozen, .ref z_sheetSize, .ref z_sheetLane, .ref z_sheet, .ref z_hands, .int v_wide, .long v_mask, .int (-9), .ref z_seen, .ref z_work, .ref z_known, .ref z_next, .int v_come, .int 0, .ref z_counts, .ref z_acrosses, .ref z_failings, .int v_basis, .ref z_given, .int v_trace])), (z_isGood, .inl (cy 2, 32, .inl o_51)), (z_frozen, .inl (cy 0, 32, .inl o_52))] := hD
              refine lv_iload_n hx hb dX10_size_80 rfl (lv_at hl 1 rfl) ?_
              cases h
              exact gRi hx hb hr hlocks hP hD hS dX10_size_81
            · refine gLoop (Hy := fun k_ v_ => fL_X10_size_43 K k_ v_ = some (o_50, o_51, o_52)) (Pl := fun (v_ : Int32 × (Nat → Int32) × (Nat → Int32)) H locs ls => match v_ with | (a_54, a_55, a_56) => va_P D vwCl [(z, .inr (9, [.int v_fault, .int x1, .int v_upper, .int v_base, .ref z_isGood, .ref z_frozen, .ref z_sheetSize, .ref z_sheetLane, .ref z_sheet, .ref z_hands, .int v_wide, .long v_mask, .int v_paths, .ref z_seen, .ref z_work, .ref z_known, .ref z_next, .int v_come, .int v_isCounted, .ref z_counts, .ref z_acrosses, .ref z_failings, .int v_basis, .ref z_given, .int v_trace])), (z_isGood, .inl (cy 2, 32, .inl a_55)), (z_frozen, .inl (cy 0, 32, .inl a_56))] H ∧ va_D A [(z, .inr (9, [.int v_fault, .int x1, .int v_upper, .int v_base, .ref z_isGood, .ref z_frozen, .ref z_sheetSize, .ref z_sheetLane, .ref z_sheet, .ref z_hands, .int v_wide, .long v_mask, .int v_paths, .ref z_seen, .ref z_work, .ref z_known, .ref z_next, .int v_come, .int v_isCounted, .ref z_counts, .ref z_acrosses, .ref z_failings, .int v_basis, .ref z_given, .int v_trace])), (z_isGood, .inl (cy 2, 32, .inl a_55)), (z_frozen, .inl (cy 0, 32, .inl a_56))] ∧ va_S A s.heap H locs ∧ lv_has ls 4 [(3, .int a_54), (2, .int v_size), (0, .ref z), (1, .int x1)]) (pcH := 43) (fun _ q_ => by cases q_) ?_ K (0, v_isGoodc, v_frozenc) hL_53 ⟨hP, hD, hS, hl⟩
              clear hL_53 h hP hD hS hl
              intro k_ ih ⟨a_54, a_55, a_56⟩ H locs ls h hp_
              obtain ⟨hP, hD, hS, hl⟩ := hp_
              have hP : va_P D vwCl [(z, .inr (9, [.int v_fault, .int x1, .int v_upper, .int v_base, .ref z_isGood, .ref z_frozen, .ref z_sheetSize, .ref z_sheetLane, .ref z_sheet, .ref z_hands, .int v_wide, .long v_mask, .int v_paths, .ref z_seen, .ref z_work, .ref z_known, .ref z_next, .int v_come, .int v_isCounted, .ref z_counts, .ref z_acrosses, .ref z_failings, .int v_basis, .ref z_given, .int v_trace])), (z_isGood, .inl (cy 2, 32, .inl a_55)), (z_frozen, .inl (cy 0, 32, .inl a_56))] H := hP
              have hD : va_D A [(z, .inr (9, [.int v_fault, .int x1, .int v_upper, .int v_base, .ref z_isGood, .ref z_frozen, .ref z_sheetSize, .ref z_sheetLane, .ref z_sheet, .ref z_hands, .int v_wide, .long v_mask, .int v_paths, .ref z_seen, .ref z_work, .ref z_known, .ref z_next, .int v_come, .int v_isCounted, .ref z_counts, .ref z_acrosses, .ref z_failings, .int v_basis, .ref z_given, .int v_trace])), (z_isGood, .inl (cy 2, 32, .inl a_55)), (z_frozen, .inl (cy 0, 32, .inl a_56))] := hD
              have hl : lv_has ls 4 [(3, .int a_54), (2, .int v_size), (0, .ref z), (1, .int x1)] := hl
              change fL_X10_size_43 K (k_ + 1) (a_54, a_55, a_56) = _ at h
              rw [fL_X10_size_43] at h
              refine lv_iload_n hx hb dX10_size_43 rfl (lv_at hl 0 rfl) ?_
              refine lv_bipush (v := 32) hx hb dX10_size_44 (by decide) ?_
              refine lv_icmp_ge (tgt := 69) hx hb dX10_size_46 (by decide) (fun c_57 => ?_) (fun c_57 => ?_)
              · have h := gx_t c_57 h
                have hl := lv_sub (l' := [(3, .int a_54), (2, .int v_size), (0, .ref z), (1, .int x1)]) hl [0, 1, 2, 3] rfl
                cases h
                exact hJ69 _ _ _ ⟨hP, hD, hS, hl⟩
              · have h := gx_f c_57 h
                refine lv_aload_n hx hb dX10_size_49 rfl (lv_at hl 2 rfl) ?_
                refine va_get (D := D) (ci := 9) (v := .ref z_isGood) (C := RX10) (T := TX10) (N := 25) hx hb hts iX10 hown hK hP 0 rfl rfl 4 (by decide) f7 (fun _ h9 => h9) rfl dX10_size_50 ?_
                refine lv_iload_n hx hb dX10_size_53 rfl (lv_at hl 0 rfl) ?_
                refine lv_iconst (v := 0) hx hb dX10_size_54 (by decide) ?_
                obtain ⟨hi_, h⟩ := gx_ix h
                refine va_zast hx hb hK hP hD hS 1 2 rfl rfl hi_ dX10_size_55 (fun H locs hP hD hS => ?_)
                obtain ⟨w_58, e_w_58⟩ : ∃ y : Nat → Int32, y = (upd a_55 (Int32.toNatClampNeg a_54) (vp_nar .boolean 0)) := ⟨_, rfl⟩
                have h := gx_let e_w_58 h
                have hP : va_P D vwCl [(z, .inr (9, [.int v_fault, .int x1, .int v_upper, .int v_base, .ref z_isGood, .ref z_frozen, .ref z_sheetSize, .ref z_sheetLane, .ref z_sheet, .ref z_hands, .int v_wide, .long v_mask, .int v_paths, .ref z_seen, .ref z_work, .ref z_known, .ref z_next, .int v_come, .int v_isCounted, .ref z_counts, .ref z_acrosses, .ref z_failings, .int v_basis, .ref z_given, .int v_trace])), (z_isGood, .inl (cy 2, 32, .inl (upd a_55 (Int32.toNatClampNeg a_54) (vp_nar .boolean 0)))), (z_frozen, .inl (cy 0, 32, .inl a_56))] H := hP
                have hD : va_D A [(z, .inr (9, [.int v_fault, .int x1, .int v_upper, .int v_base, .ref z_isGood, .ref z_frozen, .ref z_sheetSize, .ref z_sheetLane, .ref z_sheet, .ref z_hands, .int v_wide, .long v_mask, .int v_paths, .ref z_seen, .ref z_work, .ref z_known, .ref z_next, .int v_come, .int v_isCounted, .ref z_counts, .ref z_acrosses, .ref z_failings, .int v_basis, .ref z_given, .int v_trace])), (z_isGood, .inl (cy 2, 32, .inl (upd a_55 (Int32.toNatClampNeg a_54) (vp_nar .boolean 0)))), (z_frozen, .inl (cy 0, 32, .inl a_56))] := hD
                rw [← e_w_58] at hP hD
                refine lv_aload_n hx hb dX10_size_56 rfl (lv_at hl 2 rfl) ?_
                refine va_get (D := D) (ci := 9) (v := .ref z_frozen) (C := RX10) (T := TX10) (N := 25) hx hb hts iX10 hown hK hP 0 rfl rfl 5 (by decide) f13 (fun _ h9 => h9) rfl dX10_size_57 ?_
                refine lv_iload_n hx hb dX10_size_60 rfl (lv_at hl 0 rfl) ?_
                refine lv_iconst (v := 0) hx hb dX10_size_61 (by decide) ?_
                obtain ⟨hi_, h⟩ := gx_ix h
                refine va_iast hx hb hK hP hD hS 2 0 rfl rfl hi_ dX10_size_62 (fun H locs hP hD hS => ?_)
                obtain ⟨w_59, e_w_59⟩ : ∃ y : Nat → Int32, y = (upd a_56 (Int32.toNatClampNeg a_54) 0) := ⟨_, rfl⟩
                have h := gx_let e_w_59 h
                have hP : va_P D vwCl [(z, .inr (9, [.int v_fault, .int x1, .int v_upper, .int v_base, .ref z_isGood, .ref z_frozen, .ref z_sheetSize, .ref z_sheetLane, .ref z_sheet, .ref z_hands, .int v_wide, .long v_mask, .int v_paths, .ref z_seen, .ref z_work, .ref z_known, .ref z_next, .int v_come, .int v_isCounted, .ref z_counts, .ref z_acrosses, .ref z_failings, .int v_basis, .ref z_given, .int v_trace])), (z_isGood, .inl (cy 2, 32, .inl w_58)), (z_frozen, .inl (cy 0, 32, .inl (upd a_56 (Int32.toNatClampNeg a_54) 0)))] H := hP
                have hD : va_D A [(z, .inr (9, [.int v_fault, .int x1, .int v_upper, .int v_base, .ref z_isGood, .ref z_frozen, .ref z_sheetSize, .ref z_sheetLane, .ref z_sheet, .ref z_hands, .int v_wide, .long v_mask, .int v_paths, .ref z_seen, .ref z_work, .ref z_known, .ref z_next, .int v_come, .int v_isCounted, .ref z_counts, .ref z_acrosses, .ref z_failings, .int v_basis, .ref z_given, .int v_trace])), (z_isGood, .inl (cy 2, 32, .inl w_58)), (z_frozen, .inl (cy 0, 32, .inl (upd a_56 (Int32.toNatClampNeg a_54) 0)))] := hD
                rw [← e_w_59] at hP hD
                obtain ⟨y3_60, e_y3_60⟩ : ∃ y : Int32, y = (a_54 + 1) := ⟨_, rfl⟩
                have h := gx_let e_y3_60 h
                refine lv_iinc (v := y3_60) (lv' := [(3, .int y3_60), (2, .int v_size), (0, .ref z), (1, .int x1)]) hx hb dX10_size_63 hl (k := 0) rfl (by rw [e_y3_60]; rfl) (by decide) rfl (fun ls hl => ?_)
                refine lv_goto (tgt := 43) hx hb dX10_size_66 (by decide) ?_
                exact ih (y3_60, w_58, w_59) _ _ _ h ⟨hP, hD, hS, lv_sub (l' := [(3, .int y3_60), (2, .int v_size), (0, .ref z), (1, .int x1)]) hl [0, 1, 2, 3] rfl⟩
          · have h := gx_f c_49 h
            refine lv_bipush (v := (-2)) hx hb dX10_size_28 (by decide) ?_
            cases h
            exact gRi hx hb hr hlocks hP hD hS dX10_size_30

def f_X10_line (K : Nat) (x1 : Int32) (x2 : Int32) (v_upper : Int32) (v_base : Int32) : Option (Int32 × Int32 × Int32) :=
  Option.bind (f_X10_in K (Int32.toInt64 x2) 1 8) fun r_1 =>
  if r_1 = 0 then
    some ((-2), v_upper, v_base)
  else
    Option.bind (f_X10_in K (Int32.toInt64 x1) 0 (Int32.toInt64 x2)) fun r_3 =>
    if r_3 = 0 then
      some ((-2), v_upper, v_base)
    else
      some (1, x1, x2)
set_option maxHeartbeats 4000000 in
set_option maxRecDepth 100000 in
theorem c_X10_line (l : Launch) (D : va_G) (cy : Nat → ClassId) (t sz K : Nat) (z : Nat) (z_isGood : Nat) (z_frozen : Nat) (z_sheetSize : Nat) (z_sheetLane : Nat) (z_sheet : Nat) (z_hands : Nat) (z_seen : Nat) (z_work : Nat) (z_known : Nat) (z_next : Nat) (z_counts : Nat) (z_acrosses : Nat) (z_failings : Nat) (z_given : Nat) (v_fault : Int32) (v_size : Int32) (v_upper : Int32) (v_base : Int32) (v_wide : Int32) (v_mask : Int64) (v_paths : Int32) (v_come : Int32) (v_isCounted : Int32) (v_basis : Int32) (v_trace : Int32) (x1 : Int32) (x2 : Int32) (r_ : Int32) (o_v_upper : Int32) (o_v_base : Int32) (h : f_X10_line K x1 x2 v_upper v_base = some (r_, o_v_upper, o_v_base)) : gMi l D cy t sz yX10_line wsX10_line 1 25 [.ref z, .int x1, .int x2] [(z, .inr (9, [.int v_fault, .int v_size, .int v_upper, .int v_base, .ref z_isGood, .ref z_frozen, .ref z_sheetSize, .ref z_sheetLane, .ref z_sheet, .ref z_hands, .int v_wide, .long v_mask, .int v_paths, .ref z_seen, .ref z_work, .ref z_known, .ref z_next, .int v_come, .int v_isCounted, .ref z_counts, .ref z_acrosses, .ref z_failings, .int v_basis, .ref z_given, .int v_trace]))] r_ [(z, .inr (9, [.int v_fault, .int v_size, .int o_v_upper, .int o_v_base, .ref z_isGood, .ref z_frozen, .ref z_sheetSize, .ref z_sheetLane, .ref z_sheet, .ref z_hands, .int v_wide, .long v_mask, .int v_paths, .ref z_seen, .ref z_work, .ref z_known, .ref z_next, .int v_come, .int v_isCounted, .ref z_counts, .ref z_acrosses, .ref z_failings, .int v_basis, .ref z_given, .int v_trace]))] := by
  refine gBi (cc := cX10_line) (maxL := 3) (ret := (some .int)) (by decide) rfl (Nat.le_of_ble_eq_true rfl) ?_
  intro p e s m below meth c A ls hAt hl
  obtain ⟨hx, hb, hml, hr, hts, hown, hlocks, hin, hK, hG, hA, hP, hD⟩ := hAt
  have hS : va_S A s.heap s.heap [] := va_S.rf
  have hl : lv_has ls 3 [(0, .ref z), (1, .int x1), (2, .int x2)] := hl
  have k87 := hts (.constantLong RX10 87 (8)) (by decide +kernel)
  have f58 := hts (.fieldLink RX10 58 "PlainLinesModel" "upper" "I") (by decide +kernel)
  have iX10 := (by decide +kernel : ∀ w ∈ u_ws RX10 TX10 25, w ∈ wsX10_line)
  have f61 := hts (.fieldLink RX10 61 "PlainLinesModel" "base" "I") (by decide +kernel)
  rw [f_X10_line] at h
  refine lv_iload_n hx hb dX10_line_0 rfl (lv_at hl 2 rfl) ?_
  refine lv_i2l (v := (Int32.toInt64 x2)) hx hb dX10_line_1 rfl ?_
  refine lv_lconst (v := 1) hx hb dX10_line_2 (by decide) ?_
  refine lv_ldc2 hx hb hown k87 dX10_line_3 ?_
  obtain ⟨r_1, hc_2, h⟩ := gx_b h
  refine gCalli (wr := [(z, .inr (9, [.int v_fault, .int v_size, .int v_upper, .int v_base, .ref z_isGood, .ref z_frozen, .ref z_sheetSize, .ref z_sheetLane, .ref z_sheet, .ref z_hands, .int v_wide, .long v_mask, .int v_paths, .ref z_seen, .ref z_work, .ref z_known, .ref z_next, .int v_come, .int v_isCounted, .ref z_counts, .ref z_acrosses, .ref z_failings, .int v_basis, .ref z_given, .int v_trace]))]) (va_runS (As := [.long (Int32.toInt64 x2), .long 1, .long 8]) (rest := []) ⟨hx, hb, hml, hown, hts⟩ (c_X10_in l D cy t s.heap.size K (Int32.toInt64 x2) 1 8 r_1 hc_2) (va_cwS 3 hts gX10_line_X10_in rfl rfl rfl (by decide +kernel) ⟨Nat.le_of_ble_eq_true rfl, Nat.le_of_ble_eq_true rfl⟩) ⟨gBlind, fun U hU hW => ⟨rfl, gPre.call hK hG hA hP hD hS [] (by decide) rfl U hU hW⟩⟩ rfl rfl hl.1 rfl (lv_room (Nat.le_of_ble_eq_true rfl)) dX10_line_6 ⟨Nat.le_of_ble_eq_true rfl, Nat.le_of_ble_eq_true rfl⟩) hA hP hD hS [] [0] rfl rfl (by decide) (by decide) (fun H locs hP hD hS => ?_)
  have hP : va_P D vwCl [(z, .inr (9, [.int v_fault, .int v_size, .int v_upper, .int v_base, .ref z_isGood, .ref z_frozen, .ref z_sheetSize, .ref z_sheetLane, .ref z_sheet, .ref z_hands, .int v_wide, .long v_mask, .int v_paths, .ref z_seen, .ref z_work, .ref z_known, .ref z_next, .int v_come, .int v_isCounted, .ref z_counts, .ref z_acrosses, .ref z_failings, .int v_basis, .ref z_given, .int v_trace]))] H := hP
  have hD : va_D A [(z, .inr (9, [.int v_fault, .int v_size, .int v_upper, .int v_base, .ref z_isGood, .ref z_frozen, .ref z_sheetSize, .ref z_sheetLane, .ref z_sheet, .ref z_hands, .int v_wide, .long v_mask, .int v_paths, .ref z_seen, .ref z_work, .ref z_known, .ref z_next, .int v_come, .int v_isCounted, .ref z_counts, .ref z_acrosses, .ref z_failings, .int v_basis, .ref z_given, .int v_trace]))] := hD
  refine lv_if_eq (tgt := 23) hx hb dX10_line_9 (by decide) (fun c_3 => ?_) (fun c_3 => ?_)
  · have h := gx_t c_3 h
    refine lv_bipush (v := (-2)) hx hb dX10_line_23 (by decide) ?_
    cases h
    exact gRi hx hb hr hlocks hP hD hS dX10_line_25
  · have h := gx_f c_3 h
    refine lv_iload_n hx hb dX10_line_12 rfl (lv_at hl 1 rfl) ?_
    refine lv_i2l (v := (Int32.toInt64 x1)) hx hb dX10_line_13 rfl ?_
    refine lv_lconst (v := 0) hx hb dX10_line_14 (by decide) ?_
    refine lv_iload_n hx hb dX10_line_15 rfl (lv_at hl 2 rfl) ?_
    refine lv_i2l (v := (Int32.toInt64 x2)) hx hb dX10_line_16 rfl ?_
    obtain ⟨r_4, hc_5, h⟩ := gx_b h
    refine gCalli (wr := [(z, .inr (9, [.int v_fault, .int v_size, .int v_upper, .int v_base, .ref z_isGood, .ref z_frozen, .ref z_sheetSize, .ref z_sheetLane, .ref z_sheet, .ref z_hands, .int v_wide, .long v_mask, .int v_paths, .ref z_seen, .ref z_work, .ref z_known, .ref z_next, .int v_come, .int v_isCounted, .ref z_counts, .ref z_acrosses, .ref z_failings, .int v_basis, .ref z_given, .int v_trace]))]) (va_runS (As := [.long (Int32.toInt64 x1), .long 0, .long (Int32.toInt64 x2)]) (rest := []) ⟨hx, hb, hml, hown, hts⟩ (c_X10_in l D cy t H.size K (Int32.toInt64 x1) 0 (Int32.toInt64 x2) r_4 hc_5) (va_cwS 3 hts gX10_line_X10_in rfl rfl rfl (by decide +kernel) ⟨Nat.le_of_ble_eq_true rfl, Nat.le_of_ble_eq_true rfl⟩) ⟨gBlind, fun U hU hW => ⟨rfl, gPre.call hK hG hA hP hD hS [] (by decide) rfl U hU hW⟩⟩ rfl rfl hl.1 rfl (lv_room (Nat.le_of_ble_eq_true rfl)) dX10_line_17 ⟨Nat.le_of_ble_eq_true rfl, Nat.le_of_ble_eq_true rfl⟩) hA hP hD hS [] [0] rfl rfl (by decide) (by decide) (fun H locs hP hD hS => ?_)
    have hP : va_P D vwCl [(z, .inr (9, [.int v_fault, .int v_size, .int v_upper, .int v_base, .ref z_isGood, .ref z_frozen, .ref z_sheetSize, .ref z_sheetLane, .ref z_sheet, .ref z_hands, .int v_wide, .long v_mask, .int v_paths, .ref z_seen, .ref z_work, .ref z_known, .ref z_next, .int v_come, .int v_isCounted, .ref z_counts, .ref z_acrosses, .ref z_failings, .int v_basis, .ref z_given, .int v_trace]))] H := hP
    have hD : va_D A [(z, .inr (9, [.int v_fault, .int v_size, .int v_upper, .int v_base, .ref z_isGood, .ref z_frozen, .ref z_sheetSize, .ref z_sheetLane, .ref z_sheet, .ref z_hands, .int v_wide, .long v_mask, .int v_paths, .ref z_seen, .ref z_work, .ref z_known, .ref z_next, .int v_come, .int v_isCounted, .ref z_counts, .ref z_acrosses, .ref z_failings, .int v_basis, .ref z_given, .int v_trace]))] := hD
    refine lv_if_ne (tgt := 26) hx hb dX10_line_20 (by decide) (fun c_6 => ?_) (fun c_6 => ?_)
    · have h := gx_f c_6 h
      refine lv_aload_n hx hb dX10_line_26 rfl (lv_at hl 0 rfl) ?_
      refine lv_iload_n hx hb dX10_line_27 rfl (lv_at hl 1 rfl) ?_
      refine va_put (D := D) (ci := 9) (v := .int x1) (ty := .int) (C := RX10) (T := TX10) (N := 25) hx hb hts iX10 tyX10 tyX10_ok nmX10 hown hK hP hD hS 0 rfl rfl 2 (by decide) f58 (fun _ h9 => h9) rfl (by decide +kernel) rfl rfl (Nat.le_of_ble_eq_true rfl) dX10_line_28 (fun H locs hP hD hS => ?_)
      have hP : va_P D vwCl [(z, .inr (9, [.int v_fault, .int v_size, .int x1, .int v_base, .ref z_isGood, .ref z_frozen, .ref z_sheetSize, .ref z_sheetLane, .ref z_sheet, .ref z_hands, .int v_wide, .long v_mask, .int v_paths, .ref z_seen, .ref z_work, .ref z_known, .ref z_next, .int v_come, .int v_isCounted, .ref z_counts, .ref z_acrosses, .ref z_failings, .int v_basis, .ref z_given, .int v_trace]))] H := hP
      have hD : va_D A [(z, .inr (9, [.int v_fault, .int v_size, .int x1, .int v_base, .ref z_isGood, .ref z_frozen, .ref z_sheetSize, .ref z_sheetLane, .ref z_sheet, .ref z_hands, .int v_wide, .long v_mask, .int v_paths, .ref z_seen, .ref z_work, .ref z_known, .ref z_next, .int v_come, .int v_isCounted, .ref z_counts, .ref z_acrosses, .ref z_failings, .int v_basis, .ref z_given, .int v_trace]))] := hD
      refine lv_aload_n hx hb dX10_line_31 rfl (lv_at hl 0 rfl) ?_
      refine lv_iload_n hx hb dX10_line_32 rfl (lv_at hl 2 rfl) ?_
      refine va_put (D := D) (ci := 9) (v := .int x2) (ty := .int) (C := RX10) (T := TX10) (N := 25) hx hb hts iX10 tyX10 tyX10_ok nmX10 hown hK hP hD hS 0 rfl rfl 3 (by decide) f61 (fun _ h9 => h9) rfl (by decide +kernel) rfl rfl (Nat.le_of_ble_eq_true rfl) dX10_line_33 (fun H locs hP hD hS => ?_)
      have hP : va_P D vwCl [(z, .inr (9, [.int v_fault, .int v_size, .int x1, .int x2, .ref z_isGood, .ref z_frozen, .ref z_sheetSize, .ref z_sheetLane, .ref z_sheet, .ref z_hands, .int v_wide, .long v_mask, .int v_paths, .ref z_seen, .ref z_work, .ref z_known, .ref z_next, .int v_come, .int v_isCounted, .ref z_counts, .ref z_acrosses, .ref z_failings, .int v_basis, .ref z_given, .int v_trace]))] H := hP
      have hD : va_D A [(z, .inr (9, [.int v_fault, .int v_size, .int x1, .int x2, .ref z_isGood, .ref z_frozen, .ref z_sheetSize, .ref z_sheetLane, .ref z_sheet, .ref z_hands, .int v_wide, .long v_mask, .int v_paths, .ref z_seen, .ref z_work, .ref z_known, .ref z_next, .int v_come, .int v_isCounted, .ref z_counts, .ref z_acrosses, .ref z_failings, .int v_basis, .ref z_given, .int v_trace]))] := hD
      refine lv_iconst (v := 1) hx hb dX10_line_36 (by decide) ?_
      cases h
      exact gRi hx hb hr hlocks hP hD hS dX10_line_37
    · have h := gx_t c_6 h
      refine lv_bipush (v := (-2)) hx hb dX10_line_23 (by decide) ?_
      cases h
      exact gRi hx hb hr hlocks hP hD hS dX10_line_25

def fL_X10_lowest_4 (K : Nat) (u0_1 : Int32) (u0_3 : Int32) : Nat → Int32 × Int64 → Option (Int64)
  | 0, _ => none
  | k + 1, (l3, l1) =>
    if u0_1 ≤ l3 then
      some l1
    else
      gLet (l1 * (Int32.toInt64 u0_3)) fun y1_2 =>
      if (lg_cmp y1_2 1000000000000000) ≤ 0 then
        gLet (l3 + 1) fun y3_4 =>
        fL_X10_lowest_4 K u0_1 u0_3 k (y3_4, y1_2)
      else
        some (-1)
def f_X10_lowest (K : Nat) (v_size : Int32) (v_base : Int32) : Option (Int64) :=
  fL_X10_lowest_4 K v_size v_base K (0, 1)
set_option maxHeartbeats 4000000 in
set_option maxRecDepth 100000 in
theorem c_X10_lowest (l : Launch) (D : va_G) (cy : Nat → ClassId) (t sz K : Nat) (z : Nat) (z_isGood : Nat) (z_frozen : Nat) (z_sheetSize : Nat) (z_sheetLane : Nat) (z_sheet : Nat) (z_hands : Nat) (z_seen : Nat) (z_work : Nat) (z_known : Nat) (z_next : Nat) (z_counts : Nat) (z_acrosses : Nat) (z_failings : Nat) (z_given : Nat) (v_fault : Int32) (v_size : Int32) (v_upper : Int32) (v_base : Int32) (v_wide : Int32) (v_mask : Int64) (v_paths : Int32) (v_come : Int32) (v_isCounted : Int32) (v_basis : Int32) (v_trace : Int32) (r_ : Int64) (h : f_X10_lowest K v_size v_base = some r_) : gMl l D cy t sz yX10_lowest wsX10_lowest 0 0 [.ref z] [(z, .inr (9, [.int v_fault, .int v_size, .int v_upper, .int v_base, .ref z_isGood, .ref z_frozen, .ref z_sheetSize, .ref z_sheetLane, .ref z_sheet, .ref z_hands, .int v_wide, .long v_mask, .int v_paths, .ref z_seen, .ref z_work, .ref z_known, .ref z_next, .int v_come, .int v_isCounted, .ref z_counts, .ref z_acrosses, .ref z_failings, .int v_basis, .ref z_given, .int v_trace]))] r_ [(z, .inr (9, [.int v_fault, .int v_size, .int v_upper, .int v_base, .ref z_isGood, .ref z_frozen, .ref z_sheetSize, .ref z_sheetLane, .ref z_sheet, .ref z_hands, .int v_wide, .long v_mask, .int v_paths, .ref z_seen, .ref z_work, .ref z_known, .ref z_next, .int v_come, .int v_isCounted, .ref z_counts, .ref z_acrosses, .ref z_failings, .int v_basis, .ref z_given, .int v_trace]))] := by
  refine gBl (cc := cX10_lowest) (maxL := 4) (ret := (some .long)) (by decide) rfl (Nat.le_of_ble_eq_true rfl) ?_
  intro p e s m below meth c A ls hAt hl
  obtain ⟨hx, hb, hml, hr, hts, hown, hlocks, hin, hK, hG, hA, hP, hD⟩ := hAt
  have hS : va_S A s.heap s.heap [] := va_S.rf
  have hl : lv_has ls 4 [(0, .ref z)] := hl
  have f54 := hts (.fieldLink RX10 54 "PlainLinesModel" "size" "I") (by decide +kernel)
  have iX10 := (by decide +kernel : ∀ w ∈ u_ws RX10 TX10 25, w ∈ wsX10_lowest)
  have f61 := hts (.fieldLink RX10 61 "PlainLinesModel" "base" "I") (by decide +kernel)
  have k89 := hts (.constantLong RX10 89 (1000000000000000)) (by decide +kernel)
  have k91 := hts (.constantLong RX10 91 (-1)) (by decide +kernel)
  rw [f_X10_lowest] at h
  refine lv_lconst (v := 1) hx hb dX10_lowest_0 (by decide) ?_
  refine lv_lstore_n (lv' := [(1, .long 1), (0, .ref z)]) hx hb dX10_lowest_1 rfl hl (by decide) rfl (fun ls hl => ?_)
  refine lv_iconst (v := 0) hx hb dX10_lowest_2 (by decide) ?_
  refine lv_istore_n (lv' := [(3, .int 0), (1, .long 1), (0, .ref z)]) hx hb dX10_lowest_3 rfl hl (by decide) rfl (fun ls hl => ?_)
  have hL_1 := h
  refine gLoop (Hy := fun k_ v_ => fL_X10_lowest_4 K v_size v_base k_ v_ = some r_) (Pl := fun (v_ : Int32 × Int64) H locs ls => match v_ with | (a_2, a_3) => va_P D vwCl [(z, .inr (9, [.int v_fault, .int v_size, .int v_upper, .int v_base, .ref z_isGood, .ref z_frozen, .ref z_sheetSize, .ref z_sheetLane, .ref z_sheet, .ref z_hands, .int v_wide, .long v_mask, .int v_paths, .ref z_seen, .ref z_work, .ref z_known, .ref z_next, .int v_come, .int v_isCounted, .ref z_counts, .ref z_acrosses, .ref z_failings, .int v_basis, .ref z_given, .int v_trace]))] H ∧ va_D A [(z, .inr (9, [.int v_fault, .int v_size, .int v_upper, .int v_base, .ref z_isGood, .ref z_frozen, .ref z_sheetSize, .ref z_sheetLane, .ref z_sheet, .ref z_hands, .int v_wide, .long v_mask, .int v_paths, .ref z_seen, .ref z_work, .ref z_known, .ref z_next, .int v_come, .int v_isCounted, .ref z_counts, .ref z_acrosses, .ref z_failings, .int v_basis, .ref z_given, .int v_trace]))] ∧ va_S A s.heap H locs ∧ lv_has ls 4 [(3, .int a_2), (1, .long a_3), (0, .ref z)]) (pcH := 4) (fun _ q_ => by cases q_) ?_ K (0, 1) hL_1 ⟨hP, hD, hS, hl⟩
  clear hL_1 h hP hD hS hl
  intro k_ ih ⟨a_2, a_3⟩ H locs ls h hp_
  obtain ⟨hP, hD, hS, hl⟩ := hp_
  have hP : va_P D vwCl [(z, .inr (9, [.int v_fault, .int v_size, .int v_upper, .int v_base, .ref z_isGood, .ref z_frozen, .ref z_sheetSize, .ref z_sheetLane, .ref z_sheet, .ref z_hands, .int v_wide, .long v_mask, .int v_paths, .ref z_seen, .ref z_work, .ref z_known, .ref z_next, .int v_come, .int v_isCounted, .ref z_counts, .ref z_acrosses, .ref z_failings, .int v_basis, .ref z_given, .int v_trace]))] H := hP
  have hD : va_D A [(z, .inr (9, [.int v_fault, .int v_size, .int v_upper, .int v_base, .ref z_isGood, .ref z_frozen, .ref z_sheetSize, .ref z_sheetLane, .ref z_sheet, .ref z_hands, .int v_wide, .long v_mask, .int v_paths, .ref z_seen, .ref z_work, .ref z_known, .ref z_next, .int v_come, .int v_isCounted, .ref z_counts, .ref z_acrosses, .ref z_failings, .int v_basis, .ref z_given, .int v_trace]))] := hD
  have hl : lv_has ls 4 [(3, .int a_2), (1, .long a_3), (0, .ref z)] := hl
  change fL_X10_lowest_4 K v_size v_base (k_ + 1) (a_2, a_3) = _ at h
  rw [fL_X10_lowest_4] at h
  refine lv_iload_n hx hb dX10_lowest_4 rfl (lv_at hl 0 rfl) ?_
  refine lv_aload_n hx hb dX10_lowest_5 rfl (lv_at hl 2 rfl) ?_
  refine va_get (D := D) (ci := 9) (v := .int v_size) (C := RX10) (T := TX10) (N := 25) hx hb hts iX10 hown hK hP 0 rfl rfl 1 (by decide) f54 (fun _ h9 => h9) rfl dX10_lowest_6 ?_
  refine lv_icmp_ge (tgt := 38) hx hb dX10_lowest_9 (by decide) (fun c_4 => ?_) (fun c_4 => ?_)
  · have h := gx_t c_4 h
    refine lv_lload_n hx hb dX10_lowest_38 rfl (lv_at hl 1 rfl) ?_
    cases h
    exact gRl hx hb hr hlocks hP hD hS dX10_lowest_39
  · have h := gx_f c_4 h
    refine lv_lload_n hx hb dX10_lowest_12 rfl (lv_at hl 1 rfl) ?_
    refine lv_aload_n hx hb dX10_lowest_13 rfl (lv_at hl 2 rfl) ?_
    refine va_get (D := D) (ci := 9) (v := .int v_base) (C := RX10) (T := TX10) (N := 25) hx hb hts iX10 hown hK hP 0 rfl rfl 3 (by decide) f61 (fun _ h9 => h9) rfl dX10_lowest_14 ?_
    refine lv_i2l (v := (Int32.toInt64 v_base)) hx hb dX10_lowest_17 rfl ?_
    refine lv_lmul hx hb dX10_lowest_18 ?_
    refine lv_topl (fun y1_5 e_y1_5 => ?_)
    have h := gx_let e_y1_5 h
    refine lv_lstore_n (lv' := [(1, .long y1_5), (3, .int a_2), (0, .ref z)]) hx hb dX10_lowest_19 rfl hl (by decide) rfl (fun ls hl => ?_)
    refine lv_lload_n hx hb dX10_lowest_20 rfl (lv_at hl 0 rfl) ?_
    refine lv_ldc2 hx hb hown k89 dX10_lowest_21 ?_
    refine W.lcmp hx hb dX10_lowest_24 ?_
    refine lv_if_le (tgt := 32) hx hb dX10_lowest_25 (by decide) (fun c_6 => ?_) (fun c_6 => ?_)
    · have h := gx_t c_6 h
      obtain ⟨y3_7, e_y3_7⟩ : ∃ y : Int32, y = (a_2 + 1) := ⟨_, rfl⟩
      have h := gx_let e_y3_7 h
      refine lv_iinc (v := y3_7) (lv' := [(3, .int y3_7), (1, .long y1_5), (0, .ref z)]) hx hb dX10_lowest_32 hl (k := 1) rfl (by rw [e_y3_7]; rfl) (by decide) rfl (fun ls hl => ?_)
      refine lv_goto (tgt := 4) hx hb dX10_lowest_35 (by decide) ?_
      exact ih (y3_7, y1_5) _ _ _ h ⟨hP, hD, hS, lv_sub (l' := [(3, .int y3_7), (1, .long y1_5), (0, .ref z)]) hl [0, 1, 2] rfl⟩
    · have h := gx_f c_6 h
      refine lv_ldc2 hx hb hown k91 dX10_lowest_28 ?_
      cases h
      exact gRl hx hb hr hlocks hP hD hS dX10_lowest_31

def fL_X10_shareOf_21 (K : Nat) (l1 : Int32) : Nat → Int32 × Int64 × Int64 → Option (Int32 × Int64 × Int64)
  | 0, _ => none
  | k + 1, (l6, l4, l2) =>
    if l6 ≤ 0 then
      some (l6, l4, l2)
    else
      Option.bind (α := Int64) (
        if (l1 &&& l6) = 0 then
          some (((2 * l2) * l4) - (l2 * l2))
        else
          some (l2 * l2)) fun ms_5 =>
      gLet (l4 * l4) fun y4_7 =>
      gLet (l6 / 2) fun y6_8 =>
      fL_X10_shareOf_21 K l1 k (y6_8, y4_7, ms_5)
def f_X10_shareOf (K : Nat) (x1 : Int32) (v_size : Int32) (v_upper : Int32) (v_base : Int32) : Option (Int64) :=
  gLet (Int32.toInt64 v_upper) fun y2_1 =>
  gLet (Int32.toInt64 v_base) fun y4_2 =>
  gLet (v_size / 2) fun y6_3 =>
  Option.bind (fL_X10_shareOf_21 K x1 K (y6_3, y4_2, y2_1)) fun (o_9, o_10, o_11) =>
  some o_11
set_option maxHeartbeats 4000000 in
set_option maxRecDepth 100000 in
theorem c_X10_shareOf (l : Launch) (D : va_G) (cy : Nat → ClassId) (t sz K : Nat) (z : Nat) (z_isGood : Nat) (z_frozen : Nat) (z_sheetSize : Nat) (z_sheetLane : Nat) (z_sheet : Nat) (z_hands : Nat) (z_seen : Nat) (z_work : Nat) (z_known : Nat) (z_next : Nat) (z_counts : Nat) (z_acrosses : Nat) (z_failings : Nat) (z_given : Nat) (v_fault : Int32) (v_size : Int32) (v_upper : Int32) (v_base : Int32) (v_wide : Int32) (v_mask : Int64) (v_paths : Int32) (v_come : Int32) (v_isCounted : Int32) (v_basis : Int32) (v_trace : Int32) (x1 : Int32) (r_ : Int64) (h : f_X10_shareOf K x1 v_size v_upper v_base = some r_) : gMl l D cy t sz yX10_shareOf wsX10_shareOf 0 0 [.ref z, .int x1] [(z, .inr (9, [.int v_fault, .int v_size, .int v_upper, .int v_base, .ref z_isGood, .ref z_frozen, .ref z_sheetSize, .ref z_sheetLane, .ref z_sheet, .ref z_hands, .int v_wide, .long v_mask, .int v_paths, .ref z_seen, .ref z_work, .ref z_known, .ref z_next, .int v_come, .int v_isCounted, .ref z_counts, .ref z_acrosses, .ref z_failings, .int v_basis, .ref z_given, .int v_trace]))] r_ [(z, .inr (9, [.int v_fault, .int v_size, .int v_upper, .int v_base, .ref z_isGood, .ref z_frozen, .ref z_sheetSize, .ref z_sheetLane, .ref z_sheet, .ref z_hands, .int v_wide, .long v_mask, .int v_paths, .ref z_seen, .ref z_work, .ref z_known, .ref z_next, .int v_come, .int v_isCounted, .ref z_counts, .ref z_acrosses, .ref z_failings, .int v_basis, .ref z_given, .int v_trace]))] := by
  refine gBl (cc := cX10_shareOf) (maxL := 7) (ret := (some .long)) (by decide) rfl (Nat.le_of_ble_eq_true rfl) ?_
  intro p e s m below meth c A ls hAt hl
  obtain ⟨hx, hb, hml, hr, hts, hown, hlocks, hin, hK, hG, hA, hP, hD⟩ := hAt
  have hS : va_S A s.heap s.heap [] := va_S.rf
  have hl : lv_has ls 7 [(0, .ref z), (1, .int x1)] := hl
  have f58 := hts (.fieldLink RX10 58 "PlainLinesModel" "upper" "I") (by decide +kernel)
  have iX10 := (by decide +kernel : ∀ w ∈ u_ws RX10 TX10 25, w ∈ wsX10_shareOf)
  have f61 := hts (.fieldLink RX10 61 "PlainLinesModel" "base" "I") (by decide +kernel)
  have f54 := hts (.fieldLink RX10 54 "PlainLinesModel" "size" "I") (by decide +kernel)
  have k93 := hts (.constantLong RX10 93 (2)) (by decide +kernel)
  rw [f_X10_shareOf] at h
  refine lv_aload_n hx hb dX10_shareOf_0 rfl (lv_at hl 0 rfl) ?_
  refine va_get (D := D) (ci := 9) (v := .int v_upper) (C := RX10) (T := TX10) (N := 25) hx hb hts iX10 hown hK hP 0 rfl rfl 2 (by decide) f58 (fun _ h9 => h9) rfl dX10_shareOf_1 ?_
  refine lv_i2l (v := (Int32.toInt64 v_upper)) hx hb dX10_shareOf_4 rfl ?_
  refine lv_topl (fun y2_1 e_y2_1 => ?_)
  have h := gx_let e_y2_1 h
  refine lv_lstore_n (lv' := [(2, .long y2_1), (0, .ref z), (1, .int x1)]) hx hb dX10_shareOf_5 rfl hl (by decide) rfl (fun ls hl => ?_)
  refine lv_aload_n hx hb dX10_shareOf_6 rfl (lv_at hl 1 rfl) ?_
  refine va_get (D := D) (ci := 9) (v := .int v_base) (C := RX10) (T := TX10) (N := 25) hx hb hts iX10 hown hK hP 0 rfl rfl 3 (by decide) f61 (fun _ h9 => h9) rfl dX10_shareOf_7 ?_
  refine lv_i2l (v := (Int32.toInt64 v_base)) hx hb dX10_shareOf_10 rfl ?_
  refine lv_topl (fun y4_2 e_y4_2 => ?_)
  have h := gx_let e_y4_2 h
  refine lv_lstore (lv' := [(4, .long y4_2), (2, .long y2_1), (0, .ref z), (1, .int x1)]) hx hb dX10_shareOf_11 hl (by decide) rfl (fun ls hl => ?_)
  refine lv_aload_n hx hb dX10_shareOf_13 rfl (lv_at hl 2 rfl) ?_
  refine va_get (D := D) (ci := 9) (v := .int v_size) (C := RX10) (T := TX10) (N := 25) hx hb hts iX10 hown hK hP 0 rfl rfl 1 (by decide) f54 (fun _ h9 => h9) rfl dX10_shareOf_14 ?_
  refine lv_iconst (v := 2) hx hb dX10_shareOf_17 (by decide) ?_
  refine lv_idiv hx hb dX10_shareOf_18 (by decide) ?_
  refine lv_topi (fun y6_3 e_y6_3 => ?_)
  have h := gx_let e_y6_3 h
  refine lv_istore (lv' := [(6, .int y6_3), (4, .long y4_2), (2, .long y2_1), (0, .ref z), (1, .int x1)]) hx hb dX10_shareOf_19 hl (by decide) rfl (fun ls hl => ?_)
  obtain ⟨⟨o_4, o_5, o_6⟩, hL_7, h⟩ := gx_b h
  refine gJoin (Pj := fun H locs ls => va_P D vwCl [(z, .inr (9, [.int v_fault, .int v_size, .int v_upper, .int v_base, .ref z_isGood, .ref z_frozen, .ref z_sheetSize, .ref z_sheetLane, .ref z_sheet, .ref z_hands, .int v_wide, .long v_mask, .int v_paths, .ref z_seen, .ref z_work, .ref z_known, .ref z_next, .int v_come, .int v_isCounted, .ref z_counts, .ref z_acrosses, .ref z_failings, .int v_basis, .ref z_given, .int v_trace]))] H ∧ va_D A [(z, .inr (9, [.int v_fault, .int v_size, .int v_upper, .int v_base, .ref z_isGood, .ref z_frozen, .ref z_sheetSize, .ref z_sheetLane, .ref z_sheet, .ref z_hands, .int v_wide, .long v_mask, .int v_paths, .ref z_seen, .ref z_work, .ref z_known, .ref z_next, .int v_come, .int v_isCounted, .ref z_counts, .ref z_acrosses, .ref z_failings, .int v_basis, .ref z_given, .int v_trace]))] ∧ va_S A s.heap H locs ∧ lv_has ls 7 [(6, .int o_4), (4, .long o_5), (2, .long o_6), (0, .ref z), (1, .int x1)]) (pcM := 68) (st := []) ?_ (fun hJ68 => ?_)
  · intro H locs ls hp_
    obtain ⟨hP, hD, hS, hl⟩ := hp_
    clear hL_7
    refine lv_lload_n hx hb dX10_shareOf_68 rfl (lv_at hl 2 rfl) ?_
    cases h
    exact gRl hx hb hr hlocks hP hD hS dX10_shareOf_69
  · refine gLoop (Hy := fun k_ v_ => fL_X10_shareOf_21 K x1 k_ v_ = some (o_4, o_5, o_6)) (Pl := fun (v_ : Int32 × Int64 × Int64) H locs ls => match v_ with | (a_8, a_9, a_10) => va_P D vwCl [(z, .inr (9, [.int v_fault, .int v_size, .int v_upper, .int v_base, .ref z_isGood, .ref z_frozen, .ref z_sheetSize, .ref z_sheetLane, .ref z_sheet, .ref z_hands, .int v_wide, .long v_mask, .int v_paths, .ref z_seen, .ref z_work, .ref z_known, .ref z_next, .int v_come, .int v_isCounted, .ref z_counts, .ref z_acrosses, .ref z_failings, .int v_basis, .ref z_given, .int v_trace]))] H ∧ va_D A [(z, .inr (9, [.int v_fault, .int v_size, .int v_upper, .int v_base, .ref z_isGood, .ref z_frozen, .ref z_sheetSize, .ref z_sheetLane, .ref z_sheet, .ref z_hands, .int v_wide, .long v_mask, .int v_paths, .ref z_seen, .ref z_work, .ref z_known, .ref z_next, .int v_come, .int v_isCounted, .ref z_counts, .ref z_acrosses, .ref z_failings, .int v_basis, .ref z_given, .int v_trace]))] ∧ va_S A s.heap H locs ∧ lv_has ls 7 [(6, .int a_8), (4, .long a_9), (2, .long a_10), (0, .ref z), (1, .int x1)]) (pcH := 21) (fun _ q_ => by cases q_) ?_ K (y6_3, y4_2, y2_1) hL_7 ⟨hP, hD, hS, hl⟩
    clear hL_7 h hP hD hS hl
    intro k_ ih ⟨a_8, a_9, a_10⟩ H locs ls h hp_
    obtain ⟨hP, hD, hS, hl⟩ := hp_
    have hP : va_P D vwCl [(z, .inr (9, [.int v_fault, .int v_size, .int v_upper, .int v_base, .ref z_isGood, .ref z_frozen, .ref z_sheetSize, .ref z_sheetLane, .ref z_sheet, .ref z_hands, .int v_wide, .long v_mask, .int v_paths, .ref z_seen, .ref z_work, .ref z_known, .ref z_next, .int v_come, .int v_isCounted, .ref z_counts, .ref z_acrosses, .ref z_failings, .int v_basis, .ref z_given, .int v_trace]))] H := hP
    have hD : va_D A [(z, .inr (9, [.int v_fault, .int v_size, .int v_upper, .int v_base, .ref z_isGood, .ref z_frozen, .ref z_sheetSize, .ref z_sheetLane, .ref z_sheet, .ref z_hands, .int v_wide, .long v_mask, .int v_paths, .ref z_seen, .ref z_work, .ref z_known, .ref z_next, .int v_come, .int v_isCounted, .ref z_counts, .ref z_acrosses, .ref z_failings, .int v_basis, .ref z_given, .int v_trace]))] := hD
    have hl : lv_has ls 7 [(6, .int a_8), (4, .long a_9), (2, .long a_10), (0, .ref z), (1, .int x1)] := hl
    change fL_X10_shareOf_21 K x1 (k_ + 1) (a_8, a_9, a_10) = _ at h
    rw [fL_X10_shareOf_21] at h
    refine lv_iload hx hb dX10_shareOf_21 (lv_at hl 0 rfl) ?_
    refine lv_if_le (tgt := 68) hx hb dX10_shareOf_23 (by decide) (fun c_11 => ?_) (fun c_11 => ?_)
    · have h := gx_t c_11 h
      have hl := lv_sub (l' := [(6, .int a_8), (4, .long a_9), (2, .long a_10), (0, .ref z), (1, .int x1)]) hl [0, 1, 2, 3, 4] rfl
      cases h
      exact hJ68 _ _ _ ⟨hP, hD, hS, hl⟩
    · have h := gx_f c_11 h
      refine lv_iload_n hx hb dX10_shareOf_26 rfl (lv_at hl 4 rfl) ?_
      refine lv_iload hx hb dX10_shareOf_27 (lv_at hl 0 rfl) ?_
      refine lv_iand hx hb dX10_shareOf_29 ?_
      obtain ⟨ms_12, hR_13, h⟩ := gx_b h
      refine gJoin (Pj := fun H locs ls => va_P D vwCl [(z, .inr (9, [.int v_fault, .int v_size, .int v_upper, .int v_base, .ref z_isGood, .ref z_frozen, .ref z_sheetSize, .ref z_sheetLane, .ref z_sheet, .ref z_hands, .int v_wide, .long v_mask, .int v_paths, .ref z_seen, .ref z_work, .ref z_known, .ref z_next, .int v_come, .int v_isCounted, .ref z_counts, .ref z_acrosses, .ref z_failings, .int v_basis, .ref z_given, .int v_trace]))] H ∧ va_D A [(z, .inr (9, [.int v_fault, .int v_size, .int v_upper, .int v_base, .ref z_isGood, .ref z_frozen, .ref z_sheetSize, .ref z_sheetLane, .ref z_sheet, .ref z_hands, .int v_wide, .long v_mask, .int v_paths, .ref z_seen, .ref z_work, .ref z_known, .ref z_next, .int v_come, .int v_isCounted, .ref z_counts, .ref z_acrosses, .ref z_failings, .int v_basis, .ref z_given, .int v_trace]))] ∧ va_S A s.heap H locs ∧ lv_has ls 7 [(6, .int a_8), (4, .long a_9), (2, .long a_10), (0, .ref z), (1, .int x1)]) (pcM := 51) (st := [.long ms_12]) ?_ (fun hJ51 => ?_)
      · intro H locs ls hp_
        obtain ⟨hP, hD, hS, hl⟩ := hp_
        clear hR_13
        refine lv_lstore_n (lv' := [(2, .long ms_12), (6, .int a_8), (4, .long a_9), (0, .ref z), (1, .int x1)]) hx hb dX10_shareOf_51 rfl hl (by decide) rfl (fun ls hl => ?_)
        refine lv_lload hx hb dX10_shareOf_52 (lv_at hl 2 rfl) ?_
        refine lv_lload hx hb dX10_shareOf_54 (lv_at hl 2 rfl) ?_
        refine lv_lmul hx hb dX10_shareOf_56 ?_
        refine lv_topl (fun y4_14 e_y4_14 => ?_)
        have h := gx_let e_y4_14 h
        refine lv_lstore (lv' := [(4, .long y4_14), (2, .long ms_12), (6, .int a_8), (0, .ref z), (1, .int x1)]) hx hb dX10_shareOf_57 hl (by decide) rfl (fun ls hl => ?_)
        refine lv_iload hx hb dX10_shareOf_59 (lv_at hl 2 rfl) ?_
        refine lv_iconst (v := 2) hx hb dX10_shareOf_61 (by decide) ?_
        refine lv_idiv hx hb dX10_shareOf_62 (by decide) ?_
        refine lv_topi (fun y6_15 e_y6_15 => ?_)
        have h := gx_let e_y6_15 h
        refine lv_istore (lv' := [(6, .int y6_15), (4, .long y4_14), (2, .long ms_12), (0, .ref z), (1, .int x1)]) hx hb dX10_shareOf_63 hl (by decide) rfl (fun ls hl => ?_)
        refine lv_goto (tgt := 21) hx hb dX10_shareOf_65 (by decide) ?_
        exact ih (y6_15, y4_14, ms_12) _ _ _ h ⟨hP, hD, hS, lv_sub (l' := [(6, .int y6_15), (4, .long y4_14), (2, .long ms_12), (0, .ref z), (1, .int x1)]) hl [0, 1, 2, 3, 4] rfl⟩
      · have h := hR_13
        refine lv_if_ne (tgt := 48) hx hb dX10_shareOf_30 (by decide) (fun c_16 => ?_) (fun c_16 => ?_)
        · have h := gx_f c_16 h
          refine lv_lload_n hx hb dX10_shareOf_48 rfl (lv_at hl 2 rfl) ?_
          refine lv_lload_n hx hb dX10_shareOf_49 rfl (lv_at hl 2 rfl) ?_
          refine lv_lmul hx hb dX10_shareOf_50 ?_
          have hl := lv_sub (l' := [(6, .int a_8), (4, .long a_9), (2, .long a_10), (0, .ref z), (1, .int x1)]) hl [0, 1, 2, 3, 4] rfl
          cases h
          exact hJ51 _ _ _ ⟨hP, hD, hS, hl⟩
        · have h := gx_t c_16 h
          refine lv_ldc2 hx hb hown k93 dX10_shareOf_33 ?_
          refine lv_lload_n hx hb dX10_shareOf_36 rfl (lv_at hl 2 rfl) ?_
          refine lv_lmul hx hb dX10_shareOf_37 ?_
          refine lv_lload hx hb dX10_shareOf_38 (lv_at hl 1 rfl) ?_
          refine lv_lmul hx hb dX10_shareOf_40 ?_
          refine lv_lload_n hx hb dX10_shareOf_41 rfl (lv_at hl 2 rfl) ?_
          refine lv_lload_n hx hb dX10_shareOf_42 rfl (lv_at hl 2 rfl) ?_
          refine lv_lmul hx hb dX10_shareOf_43 ?_
          refine lv_lsub hx hb dX10_shareOf_44 ?_
          refine lv_goto (tgt := 51) hx hb dX10_shareOf_45 (by decide) ?_
          have hl := lv_sub (l' := [(6, .int a_8), (4, .long a_9), (2, .long a_10), (0, .ref z), (1, .int x1)]) hl [0, 1, 2, 3, 4] rfl
          cases h
          exact hJ51 _ _ _ ⟨hP, hD, hS, hl⟩

def f_X10_share (K : Nat) (x1 : Int32) (v_size : Int32) (v_upper : Int32) (v_base : Int32) : Option (Int64) :=
  Option.bind (f_X10_noPlace K x1 v_size) fun r_1 =>
  if r_1 = 0 then
    Option.bind (f_X10_lowest K v_size v_base) fun r_4 =>
    if 0 ≤ (lg_cmp r_4 0) then
      Option.bind (f_X10_shareOf K x1 v_size v_upper v_base) fun r_6 =>
      some r_6
    else
      Option.bind (f_X10_lost K) fun r_7 =>
      some r_7
  else
    Option.bind (f_X10_lost K) fun r_3 =>
    some r_3
set_option maxHeartbeats 4000000 in
set_option maxRecDepth 100000 in
theorem c_X10_share (l : Launch) (D : va_G) (cy : Nat → ClassId) (t sz K : Nat) (z : Nat) (z_isGood : Nat) (z_frozen : Nat) (z_sheetSize : Nat) (z_sheetLane : Nat) (z_sheet : Nat) (z_hands : Nat) (z_seen : Nat) (z_work : Nat) (z_known : Nat) (z_next : Nat) (z_counts : Nat) (z_acrosses : Nat) (z_failings : Nat) (z_given : Nat) (v_fault : Int32) (v_size : Int32) (v_upper : Int32) (v_base : Int32) (v_wide : Int32) (v_mask : Int64) (v_paths : Int32) (v_come : Int32) (v_isCounted : Int32) (v_basis : Int32) (v_trace : Int32) (x1 : Int32) (r_ : Int64) (h : f_X10_share K x1 v_size v_upper v_base = some r_) : gMl l D cy t sz yX10_share wsX10_share 2 46 [.ref z, .int x1] [(z, .inr (9, [.int v_fault, .int v_size, .int v_upper, .int v_base, .ref z_isGood, .ref z_frozen, .ref z_sheetSize, .ref z_sheetLane, .ref z_sheet, .ref z_hands, .int v_wide, .long v_mask, .int v_paths, .ref z_seen, .ref z_work, .ref z_known, .ref z_next, .int v_come, .int v_isCounted, .ref z_counts, .ref z_acrosses, .ref z_failings, .int v_basis, .ref z_given, .int v_trace]))] r_ [(z, .inr (9, [.int v_fault, .int v_size, .int v_upper, .int v_base, .ref z_isGood, .ref z_frozen, .ref z_sheetSize, .ref z_sheetLane, .ref z_sheet, .ref z_hands, .int v_wide, .long v_mask, .int v_paths, .ref z_seen, .ref z_work, .ref z_known, .ref z_next, .int v_come, .int v_isCounted, .ref z_counts, .ref z_acrosses, .ref z_failings, .int v_basis, .ref z_given, .int v_trace]))] := by
  refine gBl (cc := cX10_share) (maxL := 2) (ret := (some .long)) (by decide) rfl (Nat.le_of_ble_eq_true rfl) ?_
  intro p e s m below meth c A ls hAt hl
  obtain ⟨hx, hb, hml, hr, hts, hown, hlocks, hin, hK, hG, hA, hP, hD⟩ := hAt
  have hS : va_S A s.heap s.heap [] := va_S.rf
  have hl : lv_has ls 2 [(0, .ref z), (1, .int x1)] := hl
  rw [f_X10_share] at h
  refine lv_aload_n hx hb dX10_share_0 rfl (lv_at hl 0 rfl) ?_
  refine lv_iload_n hx hb dX10_share_1 rfl (lv_at hl 1 rfl) ?_
  obtain ⟨r_1, hc_2, h⟩ := gx_b h
  refine gCalli (wr := []) (va_runV (As := [.int x1]) (rest := []) ⟨hx, hb, hml, hown, hts⟩ (c_X10_noPlace l D cy t s.heap.size K z z_isGood z_frozen z_sheetSize z_sheetLane z_sheet z_hands z_seen z_work z_known z_next z_counts z_acrosses z_failings z_given v_fault v_size v_upper v_base v_wide v_mask v_paths v_come v_isCounted v_basis v_trace x1 r_1 hc_2) (cwV 1 hts gX10_share_X10_noPlace rfl rfl rfl (by decide +kernel) ⟨Nat.le_of_ble_eq_true rfl, Nat.le_of_ble_eq_true rfl⟩) ⟨gBlind, va_recv hK hP (ci := 9) (q0 := 0) rfl rfl, fun U hU hW => ⟨rfl, gPre.call hK hG hA hP hD hS [0] (by decide) rfl U hU hW⟩⟩ rfl rfl hl.1 rfl (lv_room (Nat.le_of_ble_eq_true rfl)) dX10_share_2 ⟨Nat.le_of_ble_eq_true rfl, Nat.le_of_ble_eq_true rfl⟩) hA hP hD hS [0] [] rfl rfl (by decide) (by decide) (fun H locs hP hD hS => ?_)
  have hP : va_P D vwCl [(z, .inr (9, [.int v_fault, .int v_size, .int v_upper, .int v_base, .ref z_isGood, .ref z_frozen, .ref z_sheetSize, .ref z_sheetLane, .ref z_sheet, .ref z_hands, .int v_wide, .long v_mask, .int v_paths, .ref z_seen, .ref z_work, .ref z_known, .ref z_next, .int v_come, .int v_isCounted, .ref z_counts, .ref z_acrosses, .ref z_failings, .int v_basis, .ref z_given, .int v_trace]))] H := hP
  have hD : va_D A [(z, .inr (9, [.int v_fault, .int v_size, .int v_upper, .int v_base, .ref z_isGood, .ref z_frozen, .ref z_sheetSize, .ref z_sheetLane, .ref z_sheet, .ref z_hands, .int v_wide, .long v_mask, .int v_paths, .ref z_seen, .ref z_work, .ref z_known, .ref z_next, .int v_come, .int v_isCounted, .ref z_counts, .ref z_acrosses, .ref z_failings, .int v_basis, .ref z_given, .int v_trace]))] := hD
  refine lv_if_ne (tgt := 17) hx hb dX10_share_5 (by decide) (fun c_3 => ?_) (fun c_3 => ?_)
  · have h := gx_f c_3 h
    obtain ⟨r_4, hc_5, h⟩ := gx_b h
    refine gCalll (wr := [(z, .inr (9, [.int v_fault, .int v_size, .int v_upper, .int v_base, .ref z_isGood, .ref z_frozen, .ref z_sheetSize, .ref z_sheetLane, .ref z_sheet, .ref z_hands, .int v_wide, .long v_mask, .int v_paths, .ref z_seen, .ref z_work, .ref z_known, .ref z_next, .int v_come, .int v_isCounted, .ref z_counts, .ref z_acrosses, .ref z_failings, .int v_basis, .ref z_given, .int v_trace]))]) (va_runS (As := []) (rest := []) ⟨hx, hb, hml, hown, hts⟩ (c_X10_lost l D cy t H.size K r_4 hc_5) (va_cwS 0 hts gX10_share_X10_lost rfl rfl rfl (by decide +kernel) ⟨Nat.le_of_ble_eq_true rfl, Nat.le_of_ble_eq_true rfl⟩) ⟨gBlind, fun U hU hW => ⟨rfl, gPre.call hK hG hA hP hD hS [] (by decide) rfl U hU hW⟩⟩ rfl rfl hl.1 rfl (lv_room (Nat.le_of_ble_eq_true rfl)) dX10_share_17 ⟨Nat.le_of_ble_eq_true rfl, Nat.le_of_ble_eq_true rfl⟩) hA hP hD hS [] [0] rfl rfl (by decide) (by decide) (fun H locs hP hD hS => ?_)
    have hP : va_P D vwCl [(z, .inr (9, [.int v_fault, .int v_size, .int v_upper, .int v_base, .ref z_isGood, .ref z_frozen, .ref z_sheetSize, .ref z_sheetLane, .ref z_sheet, .ref z_hands, .int v_wide, .long v_mask, .int v_paths, .ref z_seen, .ref z_work, .ref z_known, .ref z_next, .int v_come, .int v_isCounted, .ref z_counts, .ref z_acrosses, .ref z_failings, .int v_basis, .ref z_given, .int v_trace]))] H := hP
    have hD : va_D A [(z, .inr (9, [.int v_fault, .int v_size, .int v_upper, .int v_base, .ref z_isGood, .ref z_frozen, .ref z_sheetSize, .ref z_sheetLane, .ref z_sheet, .ref z_hands, .int v_wide, .long v_mask, .int v_paths, .ref z_seen, .ref z_work, .ref z_known, .ref z_next, .int v_come, .int v_isCounted, .ref z_counts, .ref z_acrosses, .ref z_failings, .int v_basis, .ref z_given, .int v_trace]))] := hD
    refine lv_goto (tgt := 28) hx hb dX10_share_20 (by decide) ?_
    cases h
    exact gRl hx hb hr hlocks hP hD hS dX10_share_28
  · have h := gx_t c_3 h
    refine lv_aload_n hx hb dX10_share_8 rfl (lv_at hl 0 rfl) ?_
    obtain ⟨r_6, hc_7, h⟩ := gx_b h
    refine gCalll (wr := []) (va_runV (As := []) (rest := []) ⟨hx, hb, hml, hown, hts⟩ (c_X10_lowest l D cy t H.size K z z_isGood z_frozen z_sheetSize z_sheetLane z_sheet z_hands z_seen z_work z_known z_next z_counts z_acrosses z_failings z_given v_fault v_size v_upper v_base v_wide v_mask v_paths v_come v_isCounted v_basis v_trace r_6 hc_7) (cwV 0 hts gX10_share_X10_lowest rfl rfl rfl (by decide +kernel) ⟨Nat.le_of_ble_eq_true rfl, Nat.le_of_ble_eq_true rfl⟩) ⟨gBlind, va_recv hK hP (ci := 9) (q0 := 0) rfl rfl, fun U hU hW => ⟨rfl, gPre.call hK hG hA hP hD hS [0] (by decide) rfl U hU hW⟩⟩ rfl rfl hl.1 rfl (lv_room (Nat.le_of_ble_eq_true rfl)) dX10_share_9 ⟨Nat.le_of_ble_eq_true rfl, Nat.le_of_ble_eq_true rfl⟩) hA hP hD hS [0] [] rfl rfl (by decide) (by decide) (fun H locs hP hD hS => ?_)
    have hP : va_P D vwCl [(z, .inr (9, [.int v_fault, .int v_size, .int v_upper, .int v_base, .ref z_isGood, .ref z_frozen, .ref z_sheetSize, .ref z_sheetLane, .ref z_sheet, .ref z_hands, .int v_wide, .long v_mask, .int v_paths, .ref z_seen, .ref z_work, .ref z_known, .ref z_next, .int v_come, .int v_isCounted, .ref z_counts, .ref z_acrosses, .ref z_failings, .int v_basis, .ref z_given, .int v_trace]))] H := hP
    have hD : va_D A [(z, .inr (9, [.int v_fault, .int v_size, .int v_upper, .int v_base, .ref z_isGood, .ref z_frozen, .ref z_sheetSize, .ref z_sheetLane, .ref z_sheet, .ref z_hands, .int v_wide, .long v_mask, .int v_paths, .ref z_seen, .ref z_work, .ref z_known, .ref z_next, .int v_come, .int v_isCounted, .ref z_counts, .ref z_acrosses, .ref z_failings, .int v_basis, .ref z_given, .int v_trace]))] := hD
    refine lv_lconst (v := 0) hx hb dX10_share_12 (by decide) ?_
    refine W.lcmp hx hb dX10_share_13 ?_
    refine lv_if_ge (tgt := 23) hx hb dX10_share_14 (by decide) (fun c_8 => ?_) (fun c_8 => ?_)
    · have h := gx_t c_8 h
      refine lv_aload_n hx hb dX10_share_23 rfl (lv_at hl 0 rfl) ?_
      refine lv_iload_n hx hb dX10_share_24 rfl (lv_at hl 1 rfl) ?_
      obtain ⟨r_9, hc_10, h⟩ := gx_b h
      refine gCalll (wr := []) (va_runV (As := [.int x1]) (rest := []) ⟨hx, hb, hml, hown, hts⟩ (c_X10_shareOf l D cy t H.size K z z_isGood z_frozen z_sheetSize z_sheetLane z_sheet z_hands z_seen z_work z_known z_next z_counts z_acrosses z_failings z_given v_fault v_size v_upper v_base v_wide v_mask v_paths v_come v_isCounted v_basis v_trace x1 r_9 hc_10) (cwV 1 hts gX10_share_X10_shareOf rfl rfl rfl (by decide +kernel) ⟨Nat.le_of_ble_eq_true rfl, Nat.le_of_ble_eq_true rfl⟩) ⟨gBlind, va_recv hK hP (ci := 9) (q0 := 0) rfl rfl, fun U hU hW => ⟨rfl, gPre.call hK hG hA hP hD hS [0] (by decide) rfl U hU hW⟩⟩ rfl rfl hl.1 rfl (lv_room (Nat.le_of_ble_eq_true rfl)) dX10_share_25 ⟨Nat.le_of_ble_eq_true rfl, Nat.le_of_ble_eq_true rfl⟩) hA hP hD hS [0] [] rfl rfl (by decide) (by decide) (fun H locs hP hD hS => ?_)
      have hP : va_P D vwCl [(z, .inr (9, [.int v_fault, .int v_size, .int v_upper, .int v_base, .ref z_isGood, .ref z_frozen, .ref z_sheetSize, .ref z_sheetLane, .ref z_sheet, .ref z_hands, .int v_wide, .long v_mask, .int v_paths, .ref z_seen, .ref z_work, .ref z_known, .ref z_next, .int v_come, .int v_isCounted, .ref z_counts, .ref z_acrosses, .ref z_failings, .int v_basis, .ref z_given, .int v_trace]))] H := hP
      have hD : va_D A [(z, .inr (9, [.int v_fault, .int v_size, .int v_upper, .int v_base, .ref z_isGood, .ref z_frozen, .ref z_sheetSize, .ref z_sheetLane, .ref z_sheet, .ref z_hands, .int v_wide, .long v_mask, .int v_paths, .ref z_seen, .ref z_work, .ref z_known, .ref z_next, .int v_come, .int v_isCounted, .ref z_counts, .ref z_acrosses, .ref z_failings, .int v_basis, .ref z_given, .int v_trace]))] := hD
      cases h
      exact gRl hx hb hr hlocks hP hD hS dX10_share_28
    · have h := gx_f c_8 h
      obtain ⟨r_11, hc_12, h⟩ := gx_b h
      refine gCalll (wr := [(z, .inr (9, [.int v_fault, .int v_size, .int v_upper, .int v_base, .ref z_isGood, .ref z_frozen, .ref z_sheetSize, .ref z_sheetLane, .ref z_sheet, .ref z_hands, .int v_wide, .long v_mask, .int v_paths, .ref z_seen, .ref z_work, .ref z_known, .ref z_next, .int v_come, .int v_isCounted, .ref z_counts, .ref z_acrosses, .ref z_failings, .int v_basis, .ref z_given, .int v_trace]))]) (va_runS (As := []) (rest := []) ⟨hx, hb, hml, hown, hts⟩ (c_X10_lost l D cy t H.size K r_11 hc_12) (va_cwS 0 hts gX10_share_X10_lost rfl rfl rfl (by decide +kernel) ⟨Nat.le_of_ble_eq_true rfl, Nat.le_of_ble_eq_true rfl⟩) ⟨gBlind, fun U hU hW => ⟨rfl, gPre.call hK hG hA hP hD hS [] (by decide) rfl U hU hW⟩⟩ rfl rfl hl.1 rfl (lv_room (Nat.le_of_ble_eq_true rfl)) dX10_share_17 ⟨Nat.le_of_ble_eq_true rfl, Nat.le_of_ble_eq_true rfl⟩) hA hP hD hS [] [0] rfl rfl (by decide) (by decide) (fun H locs hP hD hS => ?_)
      have hP : va_P D vwCl [(z, .inr (9, [.int v_fault, .int v_size, .int v_upper, .int v_base, .ref z_isGood, .ref z_frozen, .ref z_sheetSize, .ref z_sheetLane, .ref z_sheet, .ref z_hands, .int v_wide, .long v_mask, .int v_paths, .ref z_seen, .ref z_work, .ref z_known, .ref z_next, .int v_come, .int v_isCounted, .ref z_counts, .ref z_acrosses, .ref z_failings, .int v_basis, .ref z_given, .int v_trace]))] H := hP
      have hD : va_D A [(z, .inr (9, [.int v_fault, .int v_size, .int v_upper, .int v_base, .ref z_isGood, .ref z_frozen, .ref z_sheetSize, .ref z_sheetLane, .ref z_sheet, .ref z_hands, .int v_wide, .long v_mask, .int v_paths, .ref z_seen, .ref z_work, .ref z_known, .ref z_next, .int v_come, .int v_isCounted, .ref z_counts, .ref z_acrosses, .ref z_failings, .int v_basis, .ref z_given, .int v_trace]))] := hD
      refine lv_goto (tgt := 28) hx hb dX10_share_20 (by decide) ?_
      cases h
      exact gRl hx hb hr hlocks hP hD hS dX10_share_28

def f_X10_lower (K : Nat) (v_size : Int32) (v_base : Int32) : Option (Int64) :=
  Option.bind (f_X10_lowest K v_size v_base) fun r_1 =>
  if 0 ≤ (lg_cmp r_1 0) then
    some r_1
  else
    Option.bind (f_X10_lost K) fun r_3 =>
    some r_3
set_option maxHeartbeats 4000000 in
set_option maxRecDepth 100000 in
theorem c_X10_lower (l : Launch) (D : va_G) (cy : Nat → ClassId) (t sz K : Nat) (z : Nat) (z_isGood : Nat) (z_frozen : Nat) (z_sheetSize : Nat) (z_sheetLane : Nat) (z_sheet : Nat) (z_hands : Nat) (z_seen : Nat) (z_work : Nat) (z_known : Nat) (z_next : Nat) (z_counts : Nat) (z_acrosses : Nat) (z_failings : Nat) (z_given : Nat) (v_fault : Int32) (v_size : Int32) (v_upper : Int32) (v_base : Int32) (v_wide : Int32) (v_mask : Int64) (v_paths : Int32) (v_come : Int32) (v_isCounted : Int32) (v_basis : Int32) (v_trace : Int32) (r_ : Int64) (h : f_X10_lower K v_size v_base = some r_) : gMl l D cy t sz yX10_lower wsX10_lower 1 23 [.ref z] [(z, .inr (9, [.int v_fault, .int v_size, .int v_upper, .int v_base, .ref z_isGood, .ref z_frozen, .ref z_sheetSize, .ref z_sheetLane, .ref z_sheet, .ref z_hands, .int v_wide, .long v_mask, .int v_paths, .ref z_seen, .ref z_work, .ref z_known, .ref z_next, .int v_come, .int v_isCounted, .ref z_counts, .ref z_acrosses, .ref z_failings, .int v_basis, .ref z_given, .int v_trace]))] r_ [(z, .inr (9, [.int v_fault, .int v_size, .int v_upper, .int v_base, .ref z_isGood, .ref z_frozen, .ref z_sheetSize, .ref z_sheetLane, .ref z_sheet, .ref z_hands, .int v_wide, .long v_mask, .int v_paths, .ref z_seen, .ref z_work, .ref z_known, .ref z_next, .int v_come, .int v_isCounted, .ref z_counts, .ref z_acrosses, .ref z_failings, .int v_basis, .ref z_given, .int v_trace]))] := by
  refine gBl (cc := cX10_lower) (maxL := 3) (ret := (some .long)) (by decide) rfl (Nat.le_of_ble_eq_true rfl) ?_
  intro p e s m below meth c A ls hAt hl
  obtain ⟨hx, hb, hml, hr, hts, hown, hlocks, hin, hK, hG, hA, hP, hD⟩ := hAt
  have hS : va_S A s.heap s.heap [] := va_S.rf
  have hl : lv_has ls 3 [(0, .ref z)] := hl
  rw [f_X10_lower] at h
  refine lv_aload_n hx hb dX10_lower_0 rfl (lv_at hl 0 rfl) ?_
  obtain ⟨r_1, hc_2, h⟩ := gx_b h
  refine gCalll (wr := []) (va_runV (As := []) (rest := []) ⟨hx, hb, hml, hown, hts⟩ (c_X10_lowest l D cy t s.heap.size K z z_isGood z_frozen z_sheetSize z_sheetLane z_sheet z_hands z_seen z_work z_known z_next z_counts z_acrosses z_failings z_given v_fault v_size v_upper v_base v_wide v_mask v_paths v_come v_isCounted v_basis v_trace r_1 hc_2) (cwV 0 hts gX10_lower_X10_lowest rfl rfl rfl (by decide +kernel) ⟨Nat.le_of_ble_eq_true rfl, Nat.le_of_ble_eq_true rfl⟩) ⟨gBlind, va_recv hK hP (ci := 9) (q0 := 0) rfl rfl, fun U hU hW => ⟨rfl, gPre.call hK hG hA hP hD hS [0] (by decide) rfl U hU hW⟩⟩ rfl rfl hl.1 rfl (lv_room (Nat.le_of_ble_eq_true rfl)) dX10_lower_1 ⟨Nat.le_of_ble_eq_true rfl, Nat.le_of_ble_eq_true rfl⟩) hA hP hD hS [0] [] rfl rfl (by decide) (by decide) (fun H locs hP hD hS => ?_)
  have hP : va_P D vwCl [(z, .inr (9, [.int v_fault, .int v_size, .int v_upper, .int v_base, .ref z_isGood, .ref z_frozen, .ref z_sheetSize, .ref z_sheetLane, .ref z_sheet, .ref z_hands, .int v_wide, .long v_mask, .int v_paths, .ref z_seen, .ref z_work, .ref z_known, .ref z_next, .int v_come, .int v_isCounted, .ref z_counts, .ref z_acrosses, .ref z_failings, .int v_basis, .ref z_given, .int v_trace]))] H := hP
  have hD : va_D A [(z, .inr (9, [.int v_fault, .int v_size, .int v_upper, .int v_base, .ref z_isGood, .ref z_frozen, .ref z_sheetSize, .ref z_sheetLane, .ref z_sheet, .ref z_hands, .int v_wide, .long v_mask, .int v_paths, .ref z_seen, .ref z_work, .ref z_known, .ref z_next, .int v_come, .int v_isCounted, .ref z_counts, .ref z_acrosses, .ref z_failings, .int v_basis, .ref z_given, .int v_trace]))] := hD
  refine lv_lstore_n (lv' := [(1, .long r_1), (0, .ref z)]) hx hb dX10_lower_4 rfl hl (by decide) rfl (fun ls hl => ?_)
  refine lv_lload_n hx hb dX10_lower_5 rfl (lv_at hl 0 rfl) ?_
  refine lv_lconst (v := 0) hx hb dX10_lower_6 (by decide) ?_
  refine W.lcmp hx hb dX10_lower_7 ?_
  refine lv_if_ge (tgt := 17) hx hb dX10_lower_8 (by decide) (fun c_3 => ?_) (fun c_3 => ?_)
  · have h := gx_t c_3 h
    refine lv_lload_n hx hb dX10_lower_17 rfl (lv_at hl 0 rfl) ?_
    cases h
    exact gRl hx hb hr hlocks hP hD hS dX10_lower_18
  · have h := gx_f c_3 h
    obtain ⟨r_4, hc_5, h⟩ := gx_b h
    refine gCalll (wr := [(z, .inr (9, [.int v_fault, .int v_size, .int v_upper, .int v_base, .ref z_isGood, .ref z_frozen, .ref z_sheetSize, .ref z_sheetLane, .ref z_sheet, .ref z_hands, .int v_wide, .long v_mask, .int v_paths, .ref z_seen, .ref z_work, .ref z_known, .ref z_next, .int v_come, .int v_isCounted, .ref z_counts, .ref z_acrosses, .ref z_failings, .int v_basis, .ref z_given, .int v_trace]))]) (va_runS (As := []) (rest := []) ⟨hx, hb, hml, hown, hts⟩ (c_X10_lost l D cy t H.size K r_4 hc_5) (va_cwS 0 hts gX10_lower_X10_lost rfl rfl rfl (by decide +kernel) ⟨Nat.le_of_ble_eq_true rfl, Nat.le_of_ble_eq_true rfl⟩) ⟨gBlind, fun U hU hW => ⟨rfl, gPre.call hK hG hA hP hD hS [] (by decide) rfl U hU hW⟩⟩ rfl rfl hl.1 rfl (lv_room (Nat.le_of_ble_eq_true rfl)) dX10_lower_11 ⟨Nat.le_of_ble_eq_true rfl, Nat.le_of_ble_eq_true rfl⟩) hA hP hD hS [] [0] rfl rfl (by decide) (by decide) (fun H locs hP hD hS => ?_)
    have hP : va_P D vwCl [(z, .inr (9, [.int v_fault, .int v_size, .int v_upper, .int v_base, .ref z_isGood, .ref z_frozen, .ref z_sheetSize, .ref z_sheetLane, .ref z_sheet, .ref z_hands, .int v_wide, .long v_mask, .int v_paths, .ref z_seen, .ref z_work, .ref z_known, .ref z_next, .int v_come, .int v_isCounted, .ref z_counts, .ref z_acrosses, .ref z_failings, .int v_basis, .ref z_given, .int v_trace]))] H := hP
    have hD : va_D A [(z, .inr (9, [.int v_fault, .int v_size, .int v_upper, .int v_base, .ref z_isGood, .ref z_frozen, .ref z_sheetSize, .ref z_sheetLane, .ref z_sheet, .ref z_hands, .int v_wide, .long v_mask, .int v_paths, .ref z_seen, .ref z_work, .ref z_known, .ref z_next, .int v_come, .int v_isCounted, .ref z_counts, .ref z_acrosses, .ref z_failings, .int v_basis, .ref z_given, .int v_trace]))] := hD
    refine lv_goto (tgt := 18) hx hb dX10_lower_14 (by decide) ?_
    cases h
    exact gRl hx hb hr hlocks hP hD hS dX10_lower_18

def f_X10_become (K : Nat) (x1 : Int32) (x2 : Int32) (x3 : Int32) (v_isGoodc : Nat → Int32) (v_frozenc : Nat → Int32) : Option (Int32 × Int32 × (Nat → Int32) × (Nat → Int32)) :=
  gIx x1 32 <|
  gLet (upd v_isGoodc (Int32.toNatClampNeg x1) (vp_nar .boolean x2)) fun w_1 =>
  gIx x1 32 <|
  gLet (upd v_frozenc (Int32.toNatClampNeg x1) x3) fun w_2 =>
  some ((-9), 0, w_1, w_2)
set_option maxHeartbeats 4000000 in
set_option maxRecDepth 100000 in
theorem c_X10_become (l : Launch) (D : va_G) (cy : Nat → ClassId) (t sz K : Nat) (z : Nat) (z_isGood : Nat) (z_frozen : Nat) (z_sheetSize : Nat) (z_sheetLane : Nat) (z_sheet : Nat) (z_hands : Nat) (z_seen : Nat) (z_work : Nat) (z_known : Nat) (z_next : Nat) (z_counts : Nat) (z_acrosses : Nat) (z_failings : Nat) (z_given : Nat) (v_fault : Int32) (v_size : Int32) (v_upper : Int32) (v_base : Int32) (v_wide : Int32) (v_mask : Int64) (v_paths : Int32) (v_come : Int32) (v_isCounted : Int32) (v_basis : Int32) (v_trace : Int32) (v_isGoodc : Nat → Int32) (v_frozenc : Nat → Int32) (x1 : Int32) (x2 : Int32) (x3 : Int32) (o_v_paths : Int32) (o_v_isCounted : Int32) (o_v_isGoodc : Nat → Int32) (o_v_frozenc : Nat → Int32) (h : f_X10_become K x1 x2 x3 v_isGoodc v_frozenc = some (o_v_paths, o_v_isCounted, o_v_isGoodc, o_v_frozenc)) : gMv l D cy t sz yX10_become wsX10_become 0 0 [.ref z, .int x1, .int x2, .int x3] [(z, .inr (9, [.int v_fault, .int v_size, .int v_upper, .int v_base, .ref z_isGood, .ref z_frozen, .ref z_sheetSize, .ref z_sheetLane, .ref z_sheet, .ref z_hands, .int v_wide, .long v_mask, .int v_paths, .ref z_seen, .ref z_work, .ref z_known, .ref z_next, .int v_come, .int v_isCounted, .ref z_counts, .ref z_acrosses, .ref z_failings, .int v_basis, .ref z_given, .int v_trace])), (z_isGood, .inl (cy 2, 32, .inl v_isGoodc)), (z_frozen, .inl (cy 0, 32, .inl v_frozenc))] [(z, .inr (9, [.int v_fault, .int v_size, .int v_upper, .int v_base, .ref z_isGood, .ref z_frozen, .ref z_sheetSize, .ref z_sheetLane, .ref z_sheet, .ref z_hands, .int v_wide, .long v_mask, .int o_v_paths, .ref z_seen, .ref z_work, .ref z_known, .ref z_next, .int v_come, .int o_v_isCounted, .ref z_counts, .ref z_acrosses, .ref z_failings, .int v_basis, .ref z_given, .int v_trace])), (z_isGood, .inl (cy 2, 32, .inl o_v_isGoodc)), (z_frozen, .inl (cy 0, 32, .inl o_v_frozenc))] := by
  refine gBv (cc := cX10_become) (maxL := 4) (ret := none) (by decide) rfl (Nat.le_of_ble_eq_true rfl) ?_
  intro p e s m below meth c A ls hAt hl
  obtain ⟨hx, hb, hml, hr, hts, hown, hlocks, hin, hK, hG, hA, hP, hD⟩ := hAt
  have hS : va_S A s.heap s.heap [] := va_S.rf
  have hl : lv_has ls 4 [(0, .ref z), (1, .int x1), (2, .int x2), (3, .int x3)] := hl
  have f7 := hts (.fieldLink RX10 7 "PlainLinesModel" "isGood" "[Z") (by decide +kernel)
  have iX10 := (by decide +kernel : ∀ w ∈ u_ws RX10 TX10 25, w ∈ wsX10_become)
  have f13 := hts (.fieldLink RX10 13 "PlainLinesModel" "frozen" "[I") (by decide +kernel)
  have f67 := hts (.fieldLink RX10 67 "PlainLinesModel" "paths" "I") (by decide +kernel)
  have f83 := hts (.fieldLink RX10 83 "PlainLinesModel" "isCounted" "Z") (by decide +kernel)
  rw [f_X10_become] at h
  refine lv_aload_n hx hb dX10_become_0 rfl (lv_at hl 0 rfl) ?_
  refine va_get (D := D) (ci := 9) (v := .ref z_isGood) (C := RX10) (T := TX10) (N := 25) hx hb hts iX10 hown hK hP 0 rfl rfl 4 (by decide) f7 (fun _ h9 => h9) rfl dX10_become_1 ?_
  refine lv_iload_n hx hb dX10_become_4 rfl (lv_at hl 1 rfl) ?_
  refine lv_iload_n hx hb dX10_become_5 rfl (lv_at hl 2 rfl) ?_
  obtain ⟨hi_, h⟩ := gx_ix h
  refine va_zast hx hb hK hP hD hS 1 2 rfl rfl hi_ dX10_become_6 (fun H locs hP hD hS => ?_)
  obtain ⟨w_1, e_w_1⟩ : ∃ y : Nat → Int32, y = (upd v_isGoodc (Int32.toNatClampNeg x1) (vp_nar .boolean x2)) := ⟨_, rfl⟩
  have h := gx_let e_w_1 h
  have hP : va_P D vwCl [(z, .inr (9, [.int v_fault, .int v_size, .int v_upper, .int v_base, .ref z_isGood, .ref z_frozen, .ref z_sheetSize, .ref z_sheetLane, .ref z_sheet, .ref z_hands, .int v_wide, .long v_mask, .int v_paths, .ref z_seen, .ref z_work, .ref z_known, .ref z_next, .int v_come, .int v_isCounted, .ref z_counts, .ref z_acrosses, .ref z_failings, .int v_basis, .ref z_given, .int v_trace])), (z_isGood, .inl (cy 2, 32, .inl (upd v_isGoodc (Int32.toNatClampNeg x1) (vp_nar .boolean x2)))), (z_frozen, .inl (cy 0, 32, .inl v_frozenc))] H := hP
  have hD : va_D A [(z, .inr (9, [.int v_fault, .int v_size, .int v_upper, .int v_base, .ref z_isGood, .ref z_frozen, .ref z_sheetSize, .ref z_sheetLane, .ref z_sheet, .ref z_hands, .int v_wide, .long v_mask, .int v_paths, .ref z_seen, .ref z_work, .ref z_known, .ref z_next, .int v_come, .int v_isCounted, .ref z_counts, .ref z_acrosses, .ref z_failings, .int v_basis, .ref z_given, .int v_trace])), (z_isGood, .inl (cy 2, 32, .inl (upd v_isGoodc (Int32.toNatClampNeg x1) (vp_nar .boolean x2)))), (z_frozen, .inl (cy 0, 32, .inl v_frozenc))] := hD
  rw [← e_w_1] at hP hD
  refine lv_aload_n hx hb dX10_become_7 rfl (lv_at hl 0 rfl) ?_
  refine va_get (D := D) (ci := 9) (v := .ref z_frozen) (C := RX10) (T := TX10) (N := 25) hx hb hts iX10 hown hK hP 0 rfl rfl 5 (by decide) f13 (fun _ h9 => h9) rfl dX10_become_8 ?_
  refine lv_iload_n hx hb dX10_become_11 rfl (lv_at hl 1 rfl) ?_
  refine lv_iload_n hx hb dX10_become_12 rfl (lv_at hl 3 rfl) ?_
  obtain ⟨hi_, h⟩ := gx_ix h
  refine va_iast hx hb hK hP hD hS 2 0 rfl rfl hi_ dX10_become_13 (fun H locs hP hD hS => ?_)
  obtain ⟨w_2, e_w_2⟩ : ∃ y : Nat → Int32, y = (upd v_frozenc (Int32.toNatClampNeg x1) x3) := ⟨_, rfl⟩
  have h := gx_let e_w_2 h
  have hP : va_P D vwCl [(z, .inr (9, [.int v_fault, .int v_size, .int v_upper, .int v_base, .ref z_isGood, .ref z_frozen, .ref z_sheetSize, .ref z_sheetLane, .ref z_sheet, .ref z_hands, .int v_wide, .long v_mask, .int v_paths, .ref z_seen, .ref z_work, .ref z_known, .ref z_next, .int v_come, .int v_isCounted, .ref z_counts, .ref z_acrosses, .ref z_failings, .int v_basis, .ref z_given, .int v_trace])), (z_isGood, .inl (cy 2, 32, .inl w_1)), (z_frozen, .inl (cy 0, 32, .inl (upd v_frozenc (Int32.toNatClampNeg x1) x3)))] H := hP
  have hD : va_D A [(z, .inr (9, [.int v_fault, .int v_size, .int v_upper, .int v_base, .ref z_isGood, .ref z_frozen, .ref z_sheetSize, .ref z_sheetLane, .ref z_sheet, .ref z_hands, .int v_wide, .long v_mask, .int v_paths, .ref z_seen, .ref z_work, .ref z_known, .ref z_next, .int v_come, .int v_isCounted, .ref z_counts, .ref z_acrosses, .ref z_failings, .int v_basis, .ref z_given, .int v_trace])), (z_isGood, .inl (cy 2, 32, .inl w_1)), (z_frozen, .inl (cy 0, 32, .inl (upd v_frozenc (Int32.toNatClampNeg x1) x3)))] := hD
  rw [← e_w_2] at hP hD
  refine lv_aload_n hx hb dX10_become_14 rfl (lv_at hl 0 rfl) ?_
  refine lv_bipush (v := (-9)) hx hb dX10_become_15 (by decide) ?_
  refine va_put (D := D) (ci := 9) (v := .int (-9)) (ty := .int) (C := RX10) (T := TX10) (N := 25) hx hb hts iX10 tyX10 tyX10_ok nmX10 hown hK hP hD hS 0 rfl rfl 12 (by decide) f67 (fun _ h9 => h9) rfl (by decide +kernel) rfl rfl (Nat.le_of_ble_eq_true rfl) dX10_become_17 (fun H locs hP hD hS => ?_)
  have hP : va_P D vwCl [(z, .inr (9, [.int v_fault, .int v_size, .int v_upper, .int v_base, .ref z_isGood, .ref z_frozen, .ref z_sheetSize, .ref z_sheetLane, .ref z_sheet, .ref z_hands, .int v_wide, .long v_mask, .int (-9), .ref z_seen, .ref z_work, .ref z_known, .ref z_next, .int v_come, .int v_isCounted, .ref z_counts, .ref z_acrosses, .ref z_failings, .int v_basis, .ref z_given, .int v_trace])), (z_isGood, .inl (cy 2, 32, .inl w_1)), (z_frozen, .inl (cy 0, 32, .inl w_2))] H := hP
  have hD : va_D A [(z, .inr (9, [.int v_fault, .int v_size, .int v_upper, .int v_base, .ref z_isGood, .ref z_frozen, .ref z_sheetSize, .ref z_sheetLane, .ref z_sheet, .ref z_hands, .int v_wide, .long v_mask, .int (-9), .ref z_seen, .ref z_work, .ref z_known, .ref z_next, .int v_come, .int v_isCounted, .ref z_counts, .ref z_acrosses, .ref z_failings, .int v_basis, .ref z_given, .int v_trace])), (z_isGood, .inl (cy 2, 32, .inl w_1)), (z_frozen, .inl (cy 0, 32, .inl w_2))] := hD
  refine lv_aload_n hx hb dX10_become_20 rfl (lv_at hl 0 rfl) ?_
  refine lv_iconst (v := 0) hx hb dX10_become_21 (by decide) ?_
  refine va_put (D := D) (ci := 9) (v := .int 0) (ty := .boolean) (C := RX10) (T := TX10) (N := 25) hx hb hts iX10 tyX10 tyX10_ok nmX10 hown hK hP hD hS 0 rfl rfl 18 (by decide) f83 (fun _ h9 => h9) rfl (by decide +kernel) rfl rfl (Nat.le_of_ble_eq_true rfl) dX10_become_22 (fun H locs hP hD hS => ?_)
  have hP : va_P D vwCl [(z, .inr (9, [.int v_fault, .int v_size, .int v_upper, .int v_base, .ref z_isGood, .ref z_frozen, .ref z_sheetSize, .ref z_sheetLane, .ref z_sheet, .ref z_hands, .int v_wide, .long v_mask, .int (-9), .ref z_seen, .ref z_work, .ref z_known, .ref z_next, .int v_come, .int 0, .ref z_counts, .ref z_acrosses, .ref z_failings, .int v_basis, .ref z_given, .int v_trace])), (z_isGood, .inl (cy 2, 32, .inl w_1)), (z_frozen, .inl (cy 0, 32, .inl w_2))] H := hP
  have hD : va_D A [(z, .inr (9, [.int v_fault, .int v_size, .int v_upper, .int v_base, .ref z_isGood, .ref z_frozen, .ref z_sheetSize, .ref z_sheetLane, .ref z_sheet, .ref z_hands, .int v_wide, .long v_mask, .int (-9), .ref z_seen, .ref z_work, .ref z_known, .ref z_next, .int v_come, .int 0, .ref z_counts, .ref z_acrosses, .ref z_failings, .int v_basis, .ref z_given, .int v_trace])), (z_isGood, .inl (cy 2, 32, .inl w_1)), (z_frozen, .inl (cy 0, 32, .inl w_2))] := hD
  cases h
  exact gRv hx hb hr hlocks hP hD hS dX10_become_25

def f_X10_good (K : Nat) (x1 : Int32) (v_size : Int32) (v_paths : Int32) (v_isCounted : Int32) (v_isGoodc : Nat → Int32) (v_frozenc : Nat → Int32) : Option (Int32 × Int32 × Int32 × (Nat → Int32) × (Nat → Int32)) :=
  Option.bind (f_X10_noPlace K x1 v_size) fun r_1 =>
  if r_1 = 0 then
    gIx x1 32 <|
    Option.bind (α := Int32) (
      if (v_isGoodc (Int32.toNatClampNeg x1)) = 0 then
        some 1
      else
        some 0) fun ms_3 =>
    Option.bind (f_X10_become K x1 1 0 v_isGoodc v_frozenc) fun (o_5, o_6, o_7, o_8) =>
    some (ms_3, o_5, o_6, o_7, o_8)
  else
    some ((-1), v_paths, v_isCounted, v_isGoodc, v_frozenc)
set_option maxHeartbeats 4000000 in
set_option maxRecDepth 100000 in
theorem c_X10_good (l : Launch) (D : va_G) (cy : Nat → ClassId) (t sz K : Nat) (z : Nat) (z_isGood : Nat) (z_frozen : Nat) (z_sheetSize : Nat) (z_sheetLane : Nat) (z_sheet : Nat) (z_hands : Nat) (z_seen : Nat) (z_work : Nat) (z_known : Nat) (z_next : Nat) (z_counts : Nat) (z_acrosses : Nat) (z_failings : Nat) (z_given : Nat) (v_fault : Int32) (v_size : Int32) (v_upper : Int32) (v_base : Int32) (v_wide : Int32) (v_mask : Int64) (v_paths : Int32) (v_come : Int32) (v_isCounted : Int32) (v_basis : Int32) (v_trace : Int32) (v_isGoodc : Nat → Int32) (v_frozenc : Nat → Int32) (x1 : Int32) (r_ : Int32) (o_v_paths : Int32) (o_v_isCounted : Int32) (o_v_isGoodc : Nat → Int32) (o_v_frozenc : Nat → Int32) (h : f_X10_good K x1 v_size v_paths v_isCounted v_isGoodc v_frozenc = some (r_, o_v_paths, o_v_isCounted, o_v_isGoodc, o_v_frozenc)) : gMi l D cy t sz yX10_good wsX10_good 2 46 [.ref z, .int x1] [(z, .inr (9, [.int v_fault, .int v_size, .int v_upper, .int v_base, .ref z_isGood, .ref z_frozen, .ref z_sheetSize, .ref z_sheetLane, .ref z_sheet, .ref z_hands, .int v_wide, .long v_mask, .int v_paths, .ref z_seen, .ref z_work, .ref z_known, .ref z_next, .int v_come, .int v_isCounted, .ref z_counts, .ref z_acrosses, .ref z_failings, .int v_basis, .ref z_given, .int v_trace])), (z_isGood, .inl (cy 2, 32, .inl v_isGoodc)), (z_frozen, .inl (cy 0, 32, .inl v_frozenc))] r_ [(z, .inr (9, [.int v_fault, .int v_size, .int v_upper, .int v_base, .ref z_isGood, .ref z_frozen, .ref z_sheetSize, .ref z_sheetLane, .ref z_sheet, .ref z_hands, .int v_wide, .long v_mask, .int o_v_paths, .ref z_seen, .ref z_work, .ref z_known, .ref z_next, .int v_come, .int o_v_isCounted, .ref z_counts, .ref z_acrosses, .ref z_failings, .int v_basis, .ref z_given, .int v_trace])), (z_isGood, .inl (cy 2, 32, .inl o_v_isGoodc)), (z_frozen, .inl (cy 0, 32, .inl o_v_frozenc))] := by
  refine gBi (cc := cX10_good) (maxL := 3) (ret := (some .int)) (by decide) rfl (Nat.le_of_ble_eq_true rfl) ?_
  intro p e s m below meth c A ls hAt hl
  obtain ⟨hx, hb, hml, hr, hts, hown, hlocks, hin, hK, hG, hA, hP, hD⟩ := hAt
  have hS : va_S A s.heap s.heap [] := va_S.rf
  have hl : lv_has ls 3 [(0, .ref z), (1, .int x1)] := hl
  have f7 := hts (.fieldLink RX10 7 "PlainLinesModel" "isGood" "[Z") (by decide +kernel)
  have iX10 := (by decide +kernel : ∀ w ∈ u_ws RX10 TX10 25, w ∈ wsX10_good)
  rw [f_X10_good] at h
  refine lv_aload_n hx hb dX10_good_0 rfl (lv_at hl 0 rfl) ?_
  refine lv_iload_n hx hb dX10_good_1 rfl (lv_at hl 1 rfl) ?_
  obtain ⟨r_1, hc_2, h⟩ := gx_b h
  refine gCalli (wr := [(z_isGood, .inl (cy 2, 32, .inl v_isGoodc)), (z_frozen, .inl (cy 0, 32, .inl v_frozenc))]) (va_runV (As := [.int x1]) (rest := []) ⟨hx, hb, hml, hown, hts⟩ (c_X10_noPlace l D cy t s.heap.size K z z_isGood z_frozen z_sheetSize z_sheetLane z_sheet z_hands z_seen z_work z_known z_next z_counts z_acrosses z_failings z_given v_fault v_size v_upper v_base v_wide v_mask v_paths v_come v_isCounted v_basis v_trace x1 r_1 hc_2) (cwV 1 hts gX10_good_X10_noPlace rfl rfl rfl (by decide +kernel) ⟨Nat.le_of_ble_eq_true rfl, Nat.le_of_ble_eq_true rfl⟩) ⟨gBlind, va_recv hK hP (ci := 9) (q0 := 0) rfl rfl, fun U hU hW => ⟨rfl, gPre.call hK hG hA hP hD hS [0] (by decide) rfl U hU hW⟩⟩ rfl rfl hl.1 rfl (lv_room (Nat.le_of_ble_eq_true rfl)) dX10_good_2 ⟨Nat.le_of_ble_eq_true rfl, Nat.le_of_ble_eq_true rfl⟩) hA hP hD hS [0] [1, 2] rfl rfl (by decide) (by decide) (fun H locs hP hD hS => ?_)
  have hP := hP.sub (ws' := [(z, .inr (9, [.int v_fault, .int v_size, .int v_upper, .int v_base, .ref z_isGood, .ref z_frozen, .ref z_sheetSize, .ref z_sheetLane, .ref z_sheet, .ref z_hands, .int v_wide, .long v_mask, .int v_paths, .ref z_seen, .ref z_work, .ref z_known, .ref z_next, .int v_come, .int v_isCounted, .ref z_counts, .ref z_acrosses, .ref z_failings, .int v_basis, .ref z_given, .int v_trace])), (z_isGood, .inl (cy 2, 32, .inl v_isGoodc)), (z_frozen, .inl (cy 0, 32, .inl v_frozenc))]) [2, 0, 1] rfl
  have hD := hD.sub (ws' := [(z, .inr (9, [.int v_fault, .int v_size, .int v_upper, .int v_base, .ref z_isGood, .ref z_frozen, .ref z_sheetSize, .ref z_sheetLane, .ref z_sheet, .ref z_hands, .int v_wide, .long v_mask, .int v_paths, .ref z_seen, .ref z_work, .ref z_known, .ref z_next, .int v_come, .int v_isCounted, .ref z_counts, .ref z_acrosses, .ref z_failings, .int v_basis, .ref z_given, .int v_trace])), (z_isGood, .inl (cy 2, 32, .inl v_isGoodc)), (z_frozen, .inl (cy 0, 32, .inl v_frozenc))]) [2, 0, 1] (by decide) rfl
  refine lv_if_eq (tgt := 10) hx hb dX10_good_5 (by decide) (fun c_3 => ?_) (fun c_3 => ?_)
  · have h := gx_t c_3 h
    refine lv_aload_n hx hb dX10_good_10 rfl (lv_at hl 0 rfl) ?_
    refine va_get (D := D) (ci := 9) (v := .ref z_isGood) (C := RX10) (T := TX10) (N := 25) hx hb hts iX10 hown hK hP 0 rfl rfl 4 (by decide) f7 (fun _ h9 => h9) rfl dX10_good_11 ?_
    refine lv_iload_n hx hb dX10_good_14 rfl (lv_at hl 1 rfl) ?_
    obtain ⟨hi_, h⟩ := gx_ix h
    refine va_zald hx hb hK hP 1 2 rfl rfl hi_ dX10_good_15 ?_
    obtain ⟨ms_4, hR_5, h⟩ := gx_b h
    refine gJoin (Pj := fun H locs ls => va_P D vwCl [(z, .inr (9, [.int v_fault, .int v_size, .int v_upper, .int v_base, .ref z_isGood, .ref z_frozen, .ref z_sheetSize, .ref z_sheetLane, .ref z_sheet, .ref z_hands, .int v_wide, .long v_mask, .int v_paths, .ref z_seen, .ref z_work, .ref z_known, .ref z_next, .int v_come, .int v_isCounted, .ref z_counts, .ref z_acrosses, .ref z_failings, .int v_basis, .ref z_given, .int v_trace])), (z_isGood, .inl (cy 2, 32, .inl v_isGoodc)), (z_frozen, .inl (cy 0, 32, .inl v_frozenc))] H ∧ va_D A [(z, .inr (9, [.int v_fault, .int v_size, .int v_upper, .int v_base, .ref z_isGood, .ref z_frozen, .ref z_sheetSize, .ref z_sheetLane, .ref z_sheet, .ref z_hands, .int v_wide, .long v_mask, .int v_paths, .ref z_seen, .ref z_work, .ref z_known, .ref z_next, .int v_come, .int v_isCounted, .ref z_counts, .ref z_acrosses, .ref z_failings, .int v_basis, .ref z_given, .int v_trace])), (z_isGood, .inl (cy 2, 32, .inl v_isGoodc)), (z_frozen, .inl (cy 0, 32, .inl v_frozenc))] ∧ va_S A s.heap H locs ∧ lv_has ls 3 [(0, .ref z), (1, .int x1)]) (pcM := 24) (st := [.int ms_4]) ?_ (fun hJ24 => ?_)
    · intro H locs ls hp_
      obtain ⟨hP, hD, hS, hl⟩ := hp_
      clear hR_5
      refine lv_istore_n (lv' := [(2, .int ms_4), (0, .ref z), (1, .int x1)]) hx hb dX10_good_24 rfl hl (by decide) rfl (fun ls hl => ?_)
      refine lv_aload_n hx hb dX10_good_25 rfl (lv_at hl 1 rfl) ?_
      refine lv_iload_n hx hb dX10_good_26 rfl (lv_at hl 2 rfl) ?_
      refine lv_iconst (v := 1) hx hb dX10_good_27 (by decide) ?_
      refine lv_iconst (v := 0) hx hb dX10_good_28 (by decide) ?_
      obtain ⟨⟨o_6, o_7, o_8, o_9⟩, hc_10, h⟩ := gx_b h
      refine gCallv (wr := []) (va_runV (As := [.int x1, .int 1, .int 0]) (rest := []) ⟨hx, hb, hml, hown, hts⟩ (c_X10_become l D cy t H.size K z z_isGood z_frozen z_sheetSize z_sheetLane z_sheet z_hands z_seen z_work z_known z_next z_counts z_acrosses z_failings z_given v_fault v_size v_upper v_base v_wide v_mask v_paths v_come v_isCounted v_basis v_trace v_isGoodc v_frozenc x1 1 0 o_6 o_7 o_8 o_9 hc_10) (cwV 3 hts gX10_good_X10_become rfl rfl rfl (by decide +kernel) ⟨Nat.le_of_ble_eq_true rfl, Nat.le_of_ble_eq_true rfl⟩) ⟨gBlind, va_recv hK hP (ci := 9) (q0 := 0) rfl rfl, fun U hU hW => ⟨rfl, gPre.call hK hG hA hP hD hS [0, 1, 2] (by decide) rfl U hU hW⟩⟩ rfl rfl hl.1 rfl (lv_room (Nat.le_of_ble_eq_true rfl)) dX10_good_29 ⟨Nat.le_of_ble_eq_true rfl, Nat.le_of_ble_eq_true rfl⟩) hA hP hD hS [0, 1, 2] [] rfl rfl (by decide) (by decide) (fun H locs hP hD hS => ?_)
      have hP : va_P D vwCl [(z, .inr (9, [.int v_fault, .int v_size, .int v_upper, .int v_base, .ref z_isGood, .ref z_frozen, .ref z_sheetSize, .ref z_sheetLane, .ref z_sheet, .ref z_hands, .int v_wide, .long v_mask, .int o_6, .ref z_seen, .ref z_work, .ref z_known, .ref z_next, .int v_come, .int o_7, .ref z_counts, .ref z_acrosses, .ref z_failings, .int v_basis, .ref z_given, .int v_trace])), (z_isGood, .inl (cy 2, 32, .inl o_8)), (z_frozen, .inl (cy 0, 32, .inl o_9))] H := hP
      have hD : va_D A [(z, .inr (9, [.int v_fault, .int v_size, .int v_upper, .int v_base, .ref z_isGood, .ref z_frozen, .ref z_sheetSize, .ref z_sheetLane, .ref z_sheet, .ref z_hands, .int v_wide, .long v_mask, .int o_6, .ref z_seen, .ref z_work, .ref z_known, .ref z_next, .int v_come, .int o_7, .ref z_counts, .ref z_acrosses, .ref z_failings, .int v_basis, .ref z_given, .int v_trace])), (z_isGood, .inl (cy 2, 32, .inl o_8)), (z_frozen, .inl (cy 0, 32, .inl o_9))] := hD
      refine lv_iload_n hx hb dX10_good_32 rfl (lv_at hl 0 rfl) ?_
      cases h
      exact gRi hx hb hr hlocks hP hD hS dX10_good_33
    · have h := hR_5
      refine lv_if_eq (tgt := 23) hx hb dX10_good_16 (by decide) (fun c_11 => ?_) (fun c_11 => ?_)
      · have h := gx_t c_11 h
        refine lv_iconst (v := 1) hx hb dX10_good_23 (by decide) ?_
        have hl := lv_sub (l' := [(0, .ref z), (1, .int x1)]) hl [0, 1] rfl
        cases h
        exact hJ24 _ _ _ ⟨hP, hD, hS, hl⟩
      · have h := gx_f c_11 h
        refine lv_iconst (v := 0) hx hb dX10_good_19 (by decide) ?_
        refine lv_goto (tgt := 24) hx hb dX10_good_20 (by decide) ?_
        have hl := lv_sub (l' := [(0, .ref z), (1, .int x1)]) hl [0, 1] rfl
        cases h
        exact hJ24 _ _ _ ⟨hP, hD, hS, hl⟩
  · have h := gx_f c_3 h
    refine lv_iconst (v := (-1)) hx hb dX10_good_8 (by decide) ?_
    cases h
    exact gRi hx hb hr hlocks hP hD hS dX10_good_9

def f_X10_freeze (K : Nat) (x1 : Int32) (x2 : Int32) (v_size : Int32) (v_paths : Int32) (v_isCounted : Int32) (v_isGoodc : Nat → Int32) (v_frozenc : Nat → Int32) : Option (Int32 × Int32 × Int32 × (Nat → Int32) × (Nat → Int32)) :=
  Option.bind (f_X10_noPlace K x1 v_size) fun r_1 =>
  if r_1 = 0 then
    Option.bind (f_X10_in K (Int32.toInt64 x2) 0 1) fun r_3 =>
    if r_3 = 0 then
      some ((-2), v_paths, v_isCounted, v_isGoodc, v_frozenc)
    else
      gIx x1 32 <|
      Option.bind (α := Int32) (
        if (v_isGoodc (Int32.toNatClampNeg x1)) = 0 then
          gIx x1 32 <|
          if (v_frozenc (Int32.toNatClampNeg x1)) = x2 then
            some 0
          else
            some 1
        else
          some 1) fun ms_5 =>
      Option.bind (f_X10_become K x1 0 x2 v_isGoodc v_frozenc) fun (o_8, o_9, o_10, o_11) =>
      some (ms_5, o_8, o_9, o_10, o_11)
  else
    some ((-1), v_paths, v_isCounted, v_isGoodc, v_frozenc)
set_option maxHeartbeats 4000000 in
set_option maxRecDepth 100000 in
theorem c_X10_freeze (l : Launch) (D : va_G) (cy : Nat → ClassId) (t sz K : Nat) (z : Nat) (z_isGood : Nat) (z_frozen : Nat) (z_sheetSize : Nat) (z_sheetLane : Nat) (z_sheet : Nat) (z_hands : Nat) (z_seen : Nat) (z_work : Nat) (z_known : Nat) (z_next : Nat) (z_counts : Nat) (z_acrosses : Nat) (z_failings : Nat) (z_given : Nat) (v_fault : Int32) (v_size : Int32) (v_upper : Int32) (v_base : Int32) (v_wide : Int32) (v_mask : Int64) (v_paths : Int32) (v_come : Int32) (v_isCounted : Int32) (v_basis : Int32) (v_trace : Int32) (v_isGoodc : Nat → Int32) (v_frozenc : Nat → Int32) (x1 : Int32) (x2 : Int32) (r_ : Int32) (o_v_paths : Int32) (o_v_isCounted : Int32) (o_v_isGoodc : Nat → Int32) (o_v_frozenc : Nat → Int32) (h : f_X10_freeze K x1 x2 v_size v_paths v_isCounted v_isGoodc v_frozenc = some (r_, o_v_paths, o_v_isCounted, o_v_isGoodc, o_v_frozenc)) : gMi l D cy t sz yX10_freeze wsX10_freeze 2 46 [.ref z, .int x1, .int x2] [(z, .inr (9, [.int v_fault, .int v_size, .int v_upper, .int v_base, .ref z_isGood, .ref z_frozen, .ref z_sheetSize, .ref z_sheetLane, .ref z_sheet, .ref z_hands, .int v_wide, .long v_mask, .int v_paths, .ref z_seen, .ref z_work, .ref z_known, .ref z_next, .int v_come, .int v_isCounted, .ref z_counts, .ref z_acrosses, .ref z_failings, .int v_basis, .ref z_given, .int v_trace])), (z_isGood, .inl (cy 2, 32, .inl v_isGoodc)), (z_frozen, .inl (cy 0, 32, .inl v_frozenc))] r_ [(z, .inr (9, [.int v_fault, .int v_size, .int v_upper, .int v_base, .ref z_isGood, .ref z_frozen, .ref z_sheetSize, .ref z_sheetLane, .ref z_sheet, .ref z_hands, .int v_wide, .long v_mask, .int o_v_paths, .ref z_seen, .ref z_work, .ref z_known, .ref z_next, .int v_come, .int o_v_isCounted, .ref z_counts, .ref z_acrosses, .ref z_failings, .int v_basis, .ref z_given, .int v_trace])), (z_isGood, .inl (cy 2, 32, .inl o_v_isGoodc)), (z_frozen, .inl (cy 0, 32, .inl o_v_frozenc))] := by
  refine gBi (cc := cX10_freeze) (maxL := 4) (ret := (some .int)) (by decide) rfl (Nat.le_of_ble_eq_true rfl) ?_
  intro p e s m below meth c A ls hAt hl
  obtain ⟨hx, hb, hml, hr, hts, hown, hlocks, hin, hK, hG, hA, hP, hD⟩ := hAt
  have hS : va_S A s.heap s.heap [] := va_S.rf
  have hl : lv_has ls 4 [(0, .ref z), (1, .int x1), (2, .int x2)] := hl
  have f7 := hts (.fieldLink RX10 7 "PlainLinesModel" "isGood" "[Z") (by decide +kernel)
  have iX10 := (by decide +kernel : ∀ w ∈ u_ws RX10 TX10 25, w ∈ wsX10_freeze)
  have f13 := hts (.fieldLink RX10 13 "PlainLinesModel" "frozen" "[I") (by decide +kernel)
  rw [f_X10_freeze] at h
  refine lv_aload_n hx hb dX10_freeze_0 rfl (lv_at hl 0 rfl) ?_
  refine lv_iload_n hx hb dX10_freeze_1 rfl (lv_at hl 1 rfl) ?_
  obtain ⟨r_1, hc_2, h⟩ := gx_b h
  refine gCalli (wr := [(z_isGood, .inl (cy 2, 32, .inl v_isGoodc)), (z_frozen, .inl (cy 0, 32, .inl v_frozenc))]) (va_runV (As := [.int x1]) (rest := []) ⟨hx, hb, hml, hown, hts⟩ (c_X10_noPlace l D cy t s.heap.size K z z_isGood z_frozen z_sheetSize z_sheetLane z_sheet z_hands z_seen z_work z_known z_next z_counts z_acrosses z_failings z_given v_fault v_size v_upper v_base v_wide v_mask v_paths v_come v_isCounted v_basis v_trace x1 r_1 hc_2) (cwV 1 hts gX10_freeze_X10_noPlace rfl rfl rfl (by decide +kernel) ⟨Nat.le_of_ble_eq_true rfl, Nat.le_of_ble_eq_true rfl⟩) ⟨gBlind, va_recv hK hP (ci := 9) (q0 := 0) rfl rfl, fun U hU hW => ⟨rfl, gPre.call hK hG hA hP hD hS [0] (by decide) rfl U hU hW⟩⟩ rfl rfl hl.1 rfl (lv_room (Nat.le_of_ble_eq_true rfl)) dX10_freeze_2 ⟨Nat.le_of_ble_eq_true rfl, Nat.le_of_ble_eq_true rfl⟩) hA hP hD hS [0] [1, 2] rfl rfl (by decide) (by decide) (fun H locs hP hD hS => ?_)
  have hP := hP.sub (ws' := [(z, .inr (9, [.int v_fault, .int v_size, .int v_upper, .int v_base, .ref z_isGood, .ref z_frozen, .ref z_sheetSize, .ref z_sheetLane, .ref z_sheet, .ref z_hands, .int v_wide, .long v_mask, .int v_paths, .ref z_seen, .ref z_work, .ref z_known, .ref z_next, .int v_come, .int v_isCounted, .ref z_counts, .ref z_acrosses, .ref z_failings, .int v_basis, .ref z_given, .int v_trace])), (z_isGood, .inl (cy 2, 32, .inl v_isGoodc)), (z_frozen, .inl (cy 0, 32, .inl v_frozenc))]) [2, 0, 1] rfl
  have hD := hD.sub (ws' := [(z, .inr (9, [.int v_fault, .int v_size, .int v_upper, .int v_base, .ref z_isGood, .ref z_frozen, .ref z_sheetSize, .ref z_sheetLane, .ref z_sheet, .ref z_hands, .int v_wide, .long v_mask, .int v_paths, .ref z_seen, .ref z_work, .ref z_known, .ref z_next, .int v_come, .int v_isCounted, .ref z_counts, .ref z_acrosses, .ref z_failings, .int v_basis, .ref z_given, .int v_trace])), (z_isGood, .inl (cy 2, 32, .inl v_isGoodc)), (z_frozen, .inl (cy 0, 32, .inl v_frozenc))]) [2, 0, 1] (by decide) rfl
  refine lv_if_eq (tgt := 10) hx hb dX10_freeze_5 (by decide) (fun c_3 => ?_) (fun c_3 => ?_)
  · have h := gx_t c_3 h
    refine lv_iload_n hx hb dX10_freeze_10 rfl (lv_at hl 2 rfl) ?_
    refine lv_i2l (v := (Int32.toInt64 x2)) hx hb dX10_freeze_11 rfl ?_
    refine lv_lconst (v := 0) hx hb dX10_freeze_12 (by decide) ?_
    refine lv_lconst (v := 1) hx hb dX10_freeze_13 (by decide) ?_
    obtain ⟨r_4, hc_5, h⟩ := gx_b h
    refine gCalli (wr := [(z, .inr (9, [.int v_fault, .int v_size, .int v_upper, .int v_base, .ref z_isGood, .ref z_frozen, .ref z_sheetSize, .ref z_sheetLane, .ref z_sheet, .ref z_hands, .int v_wide, .long v_mask, .int v_paths, .ref z_seen, .ref z_work, .ref z_known, .ref z_next, .int v_come, .int v_isCounted, .ref z_counts, .ref z_acrosses, .ref z_failings, .int v_basis, .ref z_given, .int v_trace])), (z_isGood, .inl (cy 2, 32, .inl v_isGoodc)), (z_frozen, .inl (cy 0, 32, .inl v_frozenc))]) (va_runS (As := [.long (Int32.toInt64 x2), .long 0, .long 1]) (rest := []) ⟨hx, hb, hml, hown, hts⟩ (c_X10_in l D cy t H.size K (Int32.toInt64 x2) 0 1 r_4 hc_5) (va_cwS 3 hts gX10_freeze_X10_in rfl rfl rfl (by decide +kernel) ⟨Nat.le_of_ble_eq_true rfl, Nat.le_of_ble_eq_true rfl⟩) ⟨gBlind, fun U hU hW => ⟨rfl, gPre.call hK hG hA hP hD hS [] (by decide) rfl U hU hW⟩⟩ rfl rfl hl.1 rfl (lv_room (Nat.le_of_ble_eq_true rfl)) dX10_freeze_14 ⟨Nat.le_of_ble_eq_true rfl, Nat.le_of_ble_eq_true rfl⟩) hA hP hD hS [] [0, 1, 2] rfl rfl (by decide) (by decide) (fun H locs hP hD hS => ?_)
    have hP : va_P D vwCl [(z, .inr (9, [.int v_fault, .int v_size, .int v_upper, .int v_base, .ref z_isGood, .ref z_frozen, .ref z_sheetSize, .ref z_sheetLane, .ref z_sheet, .ref z_hands, .int v_wide, .long v_mask, .int v_paths, .ref z_seen, .ref z_work, .ref z_known, .ref z_next, .int v_come, .int v_isCounted, .ref z_counts, .ref z_acrosses, .ref z_failings, .int v_basis, .ref z_given, .int v_trace])), (z_isGood, .inl (cy 2, 32, .inl v_isGoodc)), (z_frozen, .inl (cy 0, 32, .inl v_frozenc))] H := hP
    have hD : va_D A [(z, .inr (9, [.int v_fault, .int v_size, .int v_upper, .int v_base, .ref z_isGood, .ref z_frozen, .ref z_sheetSize, .ref z_sheetLane, .ref z_sheet, .ref z_hands, .int v_wide, .long v_mask, .int v_paths, .ref z_seen, .ref z_work, .ref z_known, .ref z_next, .int v_come, .int v_isCounted, .ref z_counts, .ref z_acrosses, .ref z_failings, .int v_basis, .ref z_given, .int v_trace])), (z_isGood, .inl (cy 2, 32, .inl v_isGoodc)), (z_frozen, .inl (cy 0, 32, .inl v_frozenc))] := hD
    refine lv_if_ne (tgt := 23) hx hb dX10_freeze_17 (by decide) (fun c_6 => ?_) (fun c_6 => ?_)
    · have h := gx_f c_6 h
      refine lv_aload_n hx hb dX10_freeze_23 rfl (lv_at hl 0 rfl) ?_
      refine va_get (D := D) (ci := 9) (v := .ref z_isGood) (C := RX10) (T := TX10) (N := 25) hx hb hts iX10 hown hK hP 0 rfl rfl 4 (by decide) f7 (fun _ h9 => h9) rfl dX10_freeze_24 ?_
      refine lv_iload_n hx hb dX10_freeze_27 rfl (lv_at hl 1 rfl) ?_
      obtain ⟨hi_, h⟩ := gx_ix h
      refine va_zald hx hb hK hP 1 2 rfl rfl hi_ dX10_freeze_28 ?_
      obtain ⟨ms_7, hR_8, h⟩ := gx_b h
      refine gJoin (Pj := fun H locs ls => va_P D vwCl [(z, .inr (9, [.int v_fault, .int v_size, .int v_upper, .int v_base, .ref z_isGood, .ref z_frozen, .ref z_sheetSize, .ref z_sheetLane, .ref z_sheet, .ref z_hands, .int v_wide, .long v_mask, .int v_paths, .ref z_seen, .ref z_work, .ref z_known, .ref z_next, .int v_come, .int v_isCounted, .ref z_counts, .ref z_acrosses, .ref z_failings, .int v_basis, .ref z_given, .int v_trace])), (z_isGood, .inl (cy 2, 32, .inl v_isGoodc)), (z_frozen, .inl (cy 0, 32, .inl v_frozenc))] H ∧ va_D A [(z, .inr (9, [.int v_fault, .int v_size, .int v_upper, .int v_base, .ref z_isGood, .ref z_frozen, .ref z_sheetSize, .ref z_sheetLane, .ref z_sheet, .ref z_hands, .int v_wide, .long v_mask, .int v_paths, .ref z_seen, .ref z_work, .ref z_known, .ref z_next, .int v_come, .int v_isCounted, .ref z_counts, .ref z_acrosses, .ref z_failings, .int v_basis, .ref z_given, .int v_trace])), (z_isGood, .inl (cy 2, 32, .inl v_isGoodc)), (z_frozen, .inl (cy 0, 32, .inl v_frozenc))] ∧ va_S A s.heap H locs ∧ lv_has ls 4 [(0, .ref z), (1, .int x1), (2, .int x2)]) (pcM := 47) (st := [.int ms_7]) ?_ (fun hJ47 => ?_)
      · intro H locs ls hp_
        obtain ⟨hP, hD, hS, hl⟩ := hp_
        clear hR_8
        refine lv_istore_n (lv' := [(3, .int ms_7), (0, .ref z), (1, .int x1), (2, .int x2)]) hx hb dX10_freeze_47 rfl hl (by decide) rfl (fun ls hl => ?_)
        refine lv_aload_n hx hb dX10_freeze_48 rfl (lv_at hl 1 rfl) ?_
        refine lv_iload_n hx hb dX10_freeze_49 rfl (lv_at hl 2 rfl) ?_
        refine lv_iconst (v := 0) hx hb dX10_freeze_50 (by decide) ?_
        refine lv_iload_n hx hb dX10_freeze_51 rfl (lv_at hl 3 rfl) ?_
        obtain ⟨⟨o_9, o_10, o_11, o_12⟩, hc_13, h⟩ := gx_b h
        refine gCallv (wr := []) (va_runV (As := [.int x1, .int 0, .int x2]) (rest := []) ⟨hx, hb, hml, hown, hts⟩ (c_X10_become l D cy t H.size K z z_isGood z_frozen z_sheetSize z_sheetLane z_sheet z_hands z_seen z_work z_known z_next z_counts z_acrosses z_failings z_given v_fault v_size v_upper v_base v_wide v_mask v_paths v_come v_isCounted v_basis v_trace v_isGoodc v_frozenc x1 0 x2 o_9 o_10 o_11 o_12 hc_13) (cwV 3 hts gX10_freeze_X10_become rfl rfl rfl (by decide +kernel) ⟨Nat.le_of_ble_eq_true rfl, Nat.le_of_ble_eq_true rfl⟩) ⟨gBlind, va_recv hK hP (ci := 9) (q0 := 0) rfl rfl, fun U hU hW => ⟨rfl, gPre.call hK hG hA hP hD hS [0, 1, 2] (by decide) rfl U hU hW⟩⟩ rfl rfl hl.1 rfl (lv_room (Nat.le_of_ble_eq_true rfl)) dX10_freeze_52 ⟨Nat.le_of_ble_eq_true rfl, Nat.le_of_ble_eq_true rfl⟩) hA hP hD hS [0, 1, 2] [] rfl rfl (by decide) (by decide) (fun H locs hP hD hS => ?_)
        have hP : va_P D vwCl [(z, .inr (9, [.int v_fault, .int v_size, .int v_upper, .int v_base, .ref z_isGood, .ref z_frozen, .ref z_sheetSize, .ref z_sheetLane, .ref z_sheet, .ref z_hands, .int v_wide, .long v_mask, .int o_9, .ref z_seen, .ref z_work, .ref z_known, .ref z_next, .int v_come, .int o_10, .ref z_counts, .ref z_acrosses, .ref z_failings, .int v_basis, .ref z_given, .int v_trace])), (z_isGood, .inl (cy 2, 32, .inl o_11)), (z_frozen, .inl (cy 0, 32, .inl o_12))] H := hP
        have hD : va_D A [(z, .inr (9, [.int v_fault, .int v_size, .int v_upper, .int v_base, .ref z_isGood, .ref z_frozen, .ref z_sheetSize, .ref z_sheetLane, .ref z_sheet, .ref z_hands, .int v_wide, .long v_mask, .int o_9, .ref z_seen, .ref z_work, .ref z_known, .ref z_next, .int v_come, .int o_10, .ref z_counts, .ref z_acrosses, .ref z_failings, .int v_basis, .ref z_given, .int v_trace])), (z_isGood, .inl (cy 2, 32, .inl o_11)), (z_frozen, .inl (cy 0, 32, .inl o_12))] := hD
        refine lv_iload_n hx hb dX10_freeze_55 rfl (lv_at hl 0 rfl) ?_
        cases h
        exact gRi hx hb hr hlocks hP hD hS dX10_freeze_56
      · have h := hR_8
        refine lv_if_ne (tgt := 42) hx hb dX10_freeze_29 (by decide) (fun c_14 => ?_) (fun c_14 => ?_)
        · have h := gx_f c_14 h
          refine lv_iconst (v := 1) hx hb dX10_freeze_42 (by decide) ?_
          refine lv_goto (tgt := 47) hx hb dX10_freeze_43 (by decide) ?_
          have hl := lv_sub (l' := [(0, .ref z), (1, .int x1), (2, .int x2)]) hl [0, 1, 2] rfl
          cases h
          exact hJ47 _ _ _ ⟨hP, hD, hS, hl⟩
        · have h := gx_t c_14 h
          refine lv_aload_n hx hb dX10_freeze_32 rfl (lv_at hl 0 rfl) ?_
          refine va_get (D := D) (ci := 9) (v := .ref z_frozen) (C := RX10) (T := TX10) (N := 25) hx hb hts iX10 hown hK hP 0 rfl rfl 5 (by decide) f13 (fun _ h9 => h9) rfl dX10_freeze_33 ?_
          refine lv_iload_n hx hb dX10_freeze_36 rfl (lv_at hl 1 rfl) ?_
          obtain ⟨hi_, h⟩ := gx_ix h
          refine va_iald hx hb hK hP 2 0 rfl rfl hi_ dX10_freeze_37 ?_
          refine lv_iload_n hx hb dX10_freeze_38 rfl (lv_at hl 2 rfl) ?_
          refine lv_icmp_eq (tgt := 46) hx hb dX10_freeze_39 (by decide) (fun c_15 => ?_) (fun c_15 => ?_)
          · have h := gx_t c_15 h
            refine lv_iconst (v := 0) hx hb dX10_freeze_46 (by decide) ?_
            have hl := lv_sub (l' := [(0, .ref z), (1, .int x1), (2, .int x2)]) hl [0, 1, 2] rfl
            cases h
            exact hJ47 _ _ _ ⟨hP, hD, hS, hl⟩
          · have h := gx_f c_15 h
            refine lv_iconst (v := 1) hx hb dX10_freeze_42 (by decide) ?_
            refine lv_goto (tgt := 47) hx hb dX10_freeze_43 (by decide) ?_
            have hl := lv_sub (l' := [(0, .ref z), (1, .int x1), (2, .int x2)]) hl [0, 1, 2] rfl
            cases h
            exact hJ47 _ _ _ ⟨hP, hD, hS, hl⟩
    · have h := gx_t c_6 h
      refine lv_bipush (v := (-2)) hx hb dX10_freeze_20 (by decide) ?_
      cases h
      exact gRi hx hb hr hlocks hP hD hS dX10_freeze_22
  · have h := gx_f c_3 h
    refine lv_iconst (v := (-1)) hx hb dX10_freeze_8 (by decide) ?_
    cases h
    exact gRi hx hb hr hlocks hP hD hS dX10_freeze_9

def fL_X10_choose_29 (K : Nat) (u0_1 : Int32) : Nat → Int32 × Int32 × Int32 × (Nat → Int32) × (Nat → Int32) → Option (Int32 × Int32 × Int32 × (Nat → Int32) × (Nat → Int32))
  | 0, _ => none
  | k + 1, (l2, u0_12, u0_18, u1, u2) =>
    if u0_1 ≤ l2 then
      some (l2, u0_12, u0_18, u1, u2)
    else
      Option.bind (f_X10_become K l2 0 0 u1 u2) fun (o_13, o_14, o_15, o_16) =>
      gLet (l2 + 1) fun y2_17 =>
      fL_X10_choose_29 K u0_1 k (y2_17, o_13, o_14, o_15, o_16)
def fL_X10_choose_67 (K : Nat) (u0_1 : Int32) (u0_2 : Int32) (u0_3 : Int32) (u1 : Nat → Int32) : Nat → Int32 × Int32 → Option (Int32 × Int32)
  | 0, _ => none
  | k + 1, (l6, l5) =>
    if u0_1 ≤ l6 then
      some (l6, l5)
    else
      gIx l6 32 <|
      Option.bind (α := Int32) (
        if (u1 (Int32.toNatClampNeg l6)) = 0 then
          if l5 < 0 then
            some l6
          else
            Option.bind (f_X10_shareOf K l6 u0_1 u0_2 u0_3) fun r_28 =>
            Option.bind (f_X10_shareOf K l5 u0_1 u0_2 u0_3) fun r_29 =>
            if 0 < (lg_cmp r_28 r_29) then
              some l5
            else
              some l6
        else
          some l5) fun ms_25 =>
      gLet (l6 + 1) fun y6_31 =>
      fL_X10_choose_67 K u0_1 u0_2 u0_3 u1 k (y6_31, ms_25)
def fL_X10_choose_55 (K : Nat) (l1 : Int32) (u0_1 : Int32) (u0_2 : Int32) (u0_3 : Int32) : Nat → Int32 × Int64 × (Nat → Int32) → Option (Int32 × Int64 × (Nat → Int32))
  | 0, _ => none
  | k + 1, (l4, l2, u1) =>
    if l1 ≤ l4 then
      some (l4, l2, u1)
    else
      Option.bind (fL_X10_choose_67 K u0_1 u0_2 u0_3 u1 K (0, (-1))) fun (o_39, o_40) =>
      gIx o_40 32 <|
      gLet (upd u1 (Int32.toNatClampNeg o_40) (vp_nar .boolean 1)) fun w_41 =>
      Option.bind (f_X10_shareOf K o_40 u0_1 u0_2 u0_3) fun r_42 =>
      gLet (l2 + r_42) fun y2_43 =>
      gLet (l4 + 1) fun y4_44 =>
      fL_X10_choose_55 K l1 u0_1 u0_2 u0_3 k (y4_44, y2_43, w_41)
def f_X10_choose (K : Nat) (x1 : Int32) (v_size : Int32) (v_upper : Int32) (v_base : Int32) (v_paths : Int32) (v_isCounted : Int32) (v_isGoodc : Nat → Int32) (v_frozenc : Nat → Int32) : Option (Int64 × Int32 × Int32 × (Nat → Int32) × (Nat → Int32)) :=
  Option.bind (f_X10_in K (Int32.toInt64 x1) 0 (Int32.toInt64 v_size)) fun r_1 =>
  if r_1 = 0 then
    Option.bind (f_X10_lost K) fun r_3 =>
    some (r_3, v_paths, v_isCounted, v_isGoodc, v_frozenc)
  else
    Option.bind (f_X10_lowest K v_size v_base) fun r_4 =>
    if 0 ≤ (lg_cmp r_4 0) then
      Option.bind (fL_X10_choose_29 K v_size K (0, v_paths, v_isCounted, v_isGoodc, v_frozenc)) fun (o_18, o_19, o_20, o_21, o_22) =>
      Option.bind (fL_X10_choose_55 K x1 v_size v_upper v_base K (0, 0, o_21)) fun (o_45, o_46, o_47) =>
      some (o_46, o_19, o_20, o_47, o_22)
    else
      Option.bind (f_X10_lost K) fun r_48 =>
      some (r_48, v_paths, v_isCounted, v_isGoodc, v_frozenc)
set_option maxHeartbeats 4000000 in
set_option maxRecDepth 100000 in
theorem c_X10_choose (l : Launch) (D : va_G) (cy : Nat → ClassId) (t sz K : Nat) (z : Nat) (z_isGood : Nat) (z_frozen : Nat) (z_sheetSize : Nat) (z_sheetLane : Nat) (z_sheet : Nat) (z_hands : Nat) (z_seen : Nat) (z_work : Nat) (z_known : Nat) (z_next : Nat) (z_counts : Nat) (z_acrosses : Nat) (z_failings : Nat) (z_given : Nat) (v_fault : Int32) (v_size : Int32) (v_upper : Int32) (v_base : Int32) (v_wide : Int32) (v_mask : Int64) (v_paths : Int32) (v_come : Int32) (v_isCounted : Int32) (v_basis : Int32) (v_trace : Int32) (v_isGoodc : Nat → Int32) (v_frozenc : Nat → Int32) (x1 : Int32) (r_ : Int64) (o_v_paths : Int32) (o_v_isCounted : Int32) (o_v_isGoodc : Nat → Int32) (o_v_frozenc : Nat → Int32) (h : f_X10_choose K x1 v_size v_upper v_base v_paths v_isCounted v_isGoodc v_frozenc = some (r_, o_v_paths, o_v_isCounted, o_v_isGoodc, o_v_frozenc)) : gMl l D cy t sz yX10_choose wsX10_choose 1 26 [.ref z, .int x1] [(z, .inr (9, [.int v_fault, .int v_size, .int v_upper, .int v_base, .ref z_isGood, .ref z_frozen, .ref z_sheetSize, .ref z_sheetLane, .ref z_sheet, .ref z_hands, .int v_wide, .long v_mask, .int v_paths, .ref z_seen, .ref z_work, .ref z_known, .ref z_next, .int v_come, .int v_isCounted, .ref z_counts, .ref z_acrosses, .ref z_failings, .int v_basis, .ref z_given, .int v_trace])), (z_isGood, .inl (cy 2, 32, .inl v_isGoodc)), (z_frozen, .inl (cy 0, 32, .inl v_frozenc))] r_ [(z, .inr (9, [.int v_fault, .int v_size, .int v_upper, .int v_base, .ref z_isGood, .ref z_frozen, .ref z_sheetSize, .ref z_sheetLane, .ref z_sheet, .ref z_hands, .int v_wide, .long v_mask, .int o_v_paths, .ref z_seen, .ref z_work, .ref z_known, .ref z_next, .int v_come, .int o_v_isCounted, .ref z_counts, .ref z_acrosses, .ref z_failings, .int v_basis, .ref z_given, .int v_trace])), (z_isGood, .inl (cy 2, 32, .inl o_v_isGoodc)), (z_frozen, .inl (cy 0, 32, .inl o_v_frozenc))] := by
  refine gBl (cc := cX10_choose) (maxL := 7) (ret := (some .long)) (by decide) rfl (Nat.le_of_ble_eq_true rfl) ?_
  intro p e s m below meth c A ls hAt hl
  obtain ⟨hx, hb, hml, hr, hts, hown, hlocks, hin, hK, hG, hA, hP, hD⟩ := hAt
  have hS : va_S A s.heap s.heap [] := va_S.rf
  have hl : lv_has ls 7 [(0, .ref z), (1, .int x1)] := hl
  have f54 := hts (.fieldLink RX10 54 "PlainLinesModel" "size" "I") (by decide +kernel)
  have iX10 := (by decide +kernel : ∀ w ∈ u_ws RX10 TX10 25, w ∈ wsX10_choose)
  have f7 := hts (.fieldLink RX10 7 "PlainLinesModel" "isGood" "[Z") (by decide +kernel)
  rw [f_X10_choose] at h
  refine lv_iload_n hx hb dX10_choose_0 rfl (lv_at hl 1 rfl) ?_
  refine lv_i2l (v := (Int32.toInt64 x1)) hx hb dX10_choose_1 rfl ?_
  refine lv_lconst (v := 0) hx hb dX10_choose_2 (by decide) ?_
  refine lv_aload_n hx hb dX10_choose_3 rfl (lv_at hl 0 rfl) ?_
  refine va_get (D := D) (ci := 9) (v := .int v_size) (C := RX10) (T := TX10) (N := 25) hx hb hts iX10 hown hK hP 0 rfl rfl 1 (by decide) f54 (fun _ h9 => h9) rfl dX10_choose_4 ?_
  refine lv_i2l (v := (Int32.toInt64 v_size)) hx hb dX10_choose_7 rfl ?_
  obtain ⟨r_1, hc_2, h⟩ := gx_b h
  refine gCalli (wr := [(z, .inr (9, [.int v_fault, .int v_size, .int v_upper, .int v_base, .ref z_isGood, .ref z_frozen, .ref z_sheetSize, .ref z_sheetLane, .ref z_sheet, .ref z_hands, .int v_wide, .long v_mask, .int v_paths, .ref z_seen, .ref z_work, .ref z_known, .ref z_next, .int v_come, .int v_isCounted, .ref z_counts, .ref z_acrosses, .ref z_failings, .int v_basis, .ref z_given, .int v_trace])), (z_isGood, .inl (cy 2, 32, .inl v_isGoodc)), (z_frozen, .inl (cy 0, 32, .inl v_frozenc))]) (va_runS (As := [.long (Int32.toInt64 x1), .long 0, .long (Int32.toInt64 v_size)]) (rest := []) ⟨hx, hb, hml, hown, hts⟩ (c_X10_in l D cy t s.heap.size K (Int32.toInt64 x1) 0 (Int32.toInt64 v_size) r_1 hc_2) (va_cwS 3 hts gX10_choose_X10_in rfl rfl rfl (by decide +kernel) ⟨Nat.le_of_ble_eq_true rfl, Nat.le_of_ble_eq_true rfl⟩) ⟨gBlind, fun U hU hW => ⟨rfl, gPre.call hK hG hA hP hD hS [] (by decide) rfl U hU hW⟩⟩ rfl rfl hl.1 rfl (lv_room (Nat.le_of_ble_eq_true rfl)) dX10_choose_8 ⟨Nat.le_of_ble_eq_true rfl, Nat.le_of_ble_eq_true rfl⟩) hA hP hD hS [] [0, 1, 2] rfl rfl (by decide) (by decide) (fun H locs hP hD hS => ?_)
  have hP : va_P D vwCl [(z, .inr (9, [.int v_fault, .int v_size, .int v_upper, .int v_base, .ref z_isGood, .ref z_frozen, .ref z_sheetSize, .ref z_sheetLane, .ref z_sheet, .ref z_hands, .int v_wide, .long v_mask, .int v_paths, .ref z_seen, .ref z_work, .ref z_known, .ref z_next, .int v_come, .int v_isCounted, .ref z_counts, .ref z_acrosses, .ref z_failings, .int v_basis, .ref z_given, .int v_trace])), (z_isGood, .inl (cy 2, 32, .inl v_isGoodc)), (z_frozen, .inl (cy 0, 32, .inl v_frozenc))] H := hP
  have hD : va_D A [(z, .inr (9, [.int v_fault, .int v_size, .int v_upper, .int v_base, .ref z_isGood, .ref z_frozen, .ref z_sheetSize, .ref z_sheetLane, .ref z_sheet, .ref z_hands, .int v_wide, .long v_mask, .int v_paths, .ref z_seen, .ref z_work, .ref z_known, .ref z_next, .int v_come, .int v_isCounted, .ref z_counts, .ref z_acrosses, .ref z_failings, .int v_basis, .ref z_given, .int v_trace])), (z_isGood, .inl (cy 2, 32, .inl v_isGoodc)), (z_frozen, .inl (cy 0, 32, .inl v_frozenc))] := hD
  refine lv_if_eq (tgt := 23) hx hb dX10_choose_11 (by decide) (fun c_3 => ?_) (fun c_3 => ?_)
  · have h := gx_t c_3 h
    obtain ⟨r_4, hc_5, h⟩ := gx_b h
    refine gCalll (wr := [(z, .inr (9, [.int v_fault, .int v_size, .int v_upper, .int v_base, .ref z_isGood, .ref z_frozen, .ref z_sheetSize, .ref z_sheetLane, .ref z_sheet, .ref z_hands, .int v_wide, .long v_mask, .int v_paths, .ref z_seen, .ref z_work, .ref z_known, .ref z_next, .int v_come, .int v_isCounted, .ref z_counts, .ref z_acrosses, .ref z_failings, .int v_basis, .ref z_given, .int v_trace])), (z_isGood, .inl (cy 2, 32, .inl v_isGoodc)), (z_frozen, .inl (cy 0, 32, .inl v_frozenc))]) (va_runS (As := []) (rest := []) ⟨hx, hb, hml, hown, hts⟩ (c_X10_lost l D cy t H.size K r_4 hc_5) (va_cwS 0 hts gX10_choose_X10_lost rfl rfl rfl (by decide +kernel) ⟨Nat.le_of_ble_eq_true rfl, Nat.le_of_ble_eq_true rfl⟩) ⟨gBlind, fun U hU hW => ⟨rfl, gPre.call hK hG hA hP hD hS [] (by decide) rfl U hU hW⟩⟩ rfl rfl hl.1 rfl (lv_room (Nat.le_of_ble_eq_true rfl)) dX10_choose_23 ⟨Nat.le_of_ble_eq_true rfl, Nat.le_of_ble_eq_true rfl⟩) hA hP hD hS [] [0, 1, 2] rfl rfl (by decide) (by decide) (fun H locs hP hD hS => ?_)
    have hP : va_P D vwCl [(z, .inr (9, [.int v_fault, .int v_size, .int v_upper, .int v_base, .ref z_isGood, .ref z_frozen, .ref z_sheetSize, .ref z_sheetLane, .ref z_sheet, .ref z_hands, .int v_wide, .long v_mask, .int v_paths, .ref z_seen, .ref z_work, .ref z_known, .ref z_next, .int v_come, .int v_isCounted, .ref z_counts, .ref z_acrosses, .ref z_failings, .int v_basis, .ref z_given, .int v_trace])), (z_isGood, .inl (cy 2, 32, .inl v_isGoodc)), (z_frozen, .inl (cy 0, 32, .inl v_frozenc))] H := hP
    have hD : va_D A [(z, .inr (9, [.int v_fault, .int v_size, .int v_upper, .int v_base, .ref z_isGood, .ref z_frozen, .ref z_sheetSize, .ref z_sheetLane, .ref z_sheet, .ref z_hands, .int v_wide, .long v_mask, .int v_paths, .ref z_seen, .ref z_work, .ref z_known, .ref z_next, .int v_come, .int v_isCounted, .ref z_counts, .ref z_acrosses, .ref z_failings, .int v_basis, .ref z_given, .int v_trace])), (z_isGood, .inl (cy 2, 32, .inl v_isGoodc)), (z_frozen, .inl (cy 0, 32, .inl v_frozenc))] := hD
    cases h
    exact gRl hx hb hr hlocks hP hD hS dX10_choose_26
  · have h := gx_f c_3 h
    refine lv_aload_n hx hb dX10_choose_14 rfl (lv_at hl 0 rfl) ?_
    obtain ⟨r_6, hc_7, h⟩ := gx_b h
    refine gCalll (wr := [(z_isGood, .inl (cy 2, 32, .inl v_isGoodc)), (z_frozen, .inl (cy 0, 32, .inl v_frozenc))]) (va_runV (As := []) (rest := []) ⟨hx, hb, hml, hown, hts⟩ (c_X10_lowest l D cy t H.size K z z_isGood z_frozen z_sheetSize z_sheetLane z_sheet z_hands z_seen z_work z_known z_next z_counts z_acrosses z_failings z_given v_fault v_size v_upper v_base v_wide v_mask v_paths v_come v_isCounted v_basis v_trace r_6 hc_7) (cwV 0 hts gX10_choose_X10_lowest rfl rfl rfl (by decide +kernel) ⟨Nat.le_of_ble_eq_true rfl, Nat.le_of_ble_eq_true rfl⟩) ⟨gBlind, va_recv hK hP (ci := 9) (q0 := 0) rfl rfl, fun U hU hW => ⟨rfl, gPre.call hK hG hA hP hD hS [0] (by decide) rfl U hU hW⟩⟩ rfl rfl hl.1 rfl (lv_room (Nat.le_of_ble_eq_true rfl)) dX10_choose_15 ⟨Nat.le_of_ble_eq_true rfl, Nat.le_of_ble_eq_true rfl⟩) hA hP hD hS [0] [1, 2] rfl rfl (by decide) (by decide) (fun H locs hP hD hS => ?_)
    have hP := hP.sub (ws' := [(z, .inr (9, [.int v_fault, .int v_size, .int v_upper, .int v_base, .ref z_isGood, .ref z_frozen, .ref z_sheetSize, .ref z_sheetLane, .ref z_sheet, .ref z_hands, .int v_wide, .long v_mask, .int v_paths, .ref z_seen, .ref z_work, .ref z_known, .ref z_next, .int v_come, .int v_isCounted, .ref z_counts, .ref z_acrosses, .ref z_failings, .int v_basis, .ref z_given, .int v_trace])), (z_isGood, .inl (cy 2, 32, .inl v_isGoodc)), (z_frozen, .inl (cy 0, 32, .inl v_frozenc))]) [2, 0, 1] rfl
    have hD := hD.sub (ws' := [(z, .inr (9, [.int v_fault, .int v_size, .int v_upper, .int v_base, .ref z_isGood, .ref z_frozen, .ref z_sheetSize, .ref z_sheetLane, .ref z_sheet, .ref z_hands, .int v_wide, .long v_mask, .int v_paths, .ref z_seen, .ref z_work, .ref z_known, .ref z_next, .int v_come, .int v_isCounted, .ref z_counts, .ref z_acrosses, .ref z_failings, .int v_basis, .ref z_given, .int v_trace])), (z_isGood, .inl (cy 2, 32, .inl v_isGoodc)), (z_frozen, .inl (cy 0, 32, .inl v_frozenc))]) [2, 0, 1] (by decide) rfl
    refine lv_lconst (v := 0) hx hb dX10_choose_18 (by decide) ?_
    refine W.lcmp hx hb dX10_choose_19 ?_
    refine lv_if_ge (tgt := 27) hx hb dX10_choose_20 (by decide) (fun c_8 => ?_) (fun c_8 => ?_)
    · have h := gx_t c_8 h
      refine lv_iconst (v := 0) hx hb dX10_choose_27 (by decide) ?_
      refine lv_istore_n (lv' := [(2, .int 0), (0, .ref z), (1, .int x1)]) hx hb dX10_choose_28 rfl hl (by decide) rfl (fun ls hl => ?_)
      obtain ⟨⟨o_9, o_10, o_11, o_12, o_13⟩, hL_14, h⟩ := gx_b h
      refine gJoin (Pj := fun H locs ls => va_P D vwCl [(z, .inr (9, [.int v_fault, .int v_size, .int v_upper, .int v_base, .ref z_isGood, .ref z_frozen, .ref z_sheetSize, .ref z_sheetLane, .ref z_sheet, .ref z_hands, .int v_wide, .long v_mask, .int o_10, .ref z_seen, .ref z_work, .ref z_known, .ref z_next, .int v_come, .int o_11, .ref z_counts, .ref z_acrosses, .ref z_failings, .int v_basis, .ref z_given, .int v_trace])), (z_isGood, .inl (cy 2, 32, .inl o_12)), (z_frozen, .inl (cy 0, 32, .inl o_13))] H ∧ va_D A [(z, .inr (9, [.int v_fault, .int v_size, .int v_upper, .int v_base, .ref z_isGood, .ref z_frozen, .ref z_sheetSize, .ref z_sheetLane, .ref z_sheet, .ref z_hands, .int v_wide, .long v_mask, .int o_10, .ref z_seen, .ref z_work, .ref z_known, .ref z_next, .int v_come, .int o_11, .ref z_counts, .ref z_acrosses, .ref z_failings, .int v_basis, .ref z_given, .int v_trace])), (z_isGood, .inl (cy 2, 32, .inl o_12)), (z_frozen, .inl (cy 0, 32, .inl o_13))] ∧ va_S A s.heap H locs ∧ lv_has ls 7 [(2, .int o_9), (0, .ref z), (1, .int x1)]) (pcM := 50) (st := []) ?_ (fun hJ50 => ?_)
      · intro H locs ls hp_
        obtain ⟨hP, hD, hS, hl⟩ := hp_
        clear hL_14
        refine lv_lconst (v := 0) hx hb dX10_choose_50 (by decide) ?_
        refine lv_lstore_n (lv' := [(2, .long 0), (0, .ref z), (1, .int x1)]) hx hb dX10_choose_51 rfl hl (by decide) rfl (fun ls hl => ?_)
        refine lv_iconst (v := 0) hx hb dX10_choose_52 (by decide) ?_
        refine lv_istore (lv' := [(4, .int 0), (2, .long 0), (0, .ref z), (1, .int x1)]) hx hb dX10_choose_53 hl (by decide) rfl (fun ls hl => ?_)
        obtain ⟨⟨o_15, o_16, o_17⟩, hL_18, h⟩ := gx_b h
        refine gJoin (Pj := fun H locs ls => va_P D vwCl [(z, .inr (9, [.int v_fault, .int v_size, .int v_upper, .int v_base, .ref z_isGood, .ref z_frozen, .ref z_sheetSize, .ref z_sheetLane, .ref z_sheet, .ref z_hands, .int v_wide, .long v_mask, .int o_10, .ref z_seen, .ref z_work, .ref z_known, .ref z_next, .int v_come, .int o_11, .ref z_counts, .ref z_acrosses, .ref z_failings, .int v_basis, .ref z_given, .int v_trace])), (z_isGood, .inl (cy 2, 32, .inl o_17)), (z_frozen, .inl (cy 0, 32, .inl o_13))] H ∧ va_D A [(z, .inr (9, [.int v_fault, .int v_size, .int v_upper, .int v_base, .ref z_isGood, .ref z_frozen, .ref z_sheetSize, .ref z_sheetLane, .ref z_sheet, .ref z_hands, .int v_wide, .long v_mask, .int o_10, .ref z_seen, .ref z_work, .ref z_known, .ref z_next, .int v_come, .int o_11, .ref z_counts, .ref z_acrosses, .ref z_failings, .int v_basis, .ref z_given, .int v_trace])), (z_isGood, .inl (cy 2, 32, .inl o_17)), (z_frozen, .inl (cy 0, 32, .inl o_13))] ∧ va_S A s.heap H locs ∧ lv_has ls 7 [(4, .int o_15), (2, .long o_16), (0, .ref z), (1, .int x1)]) (pcM := 145) (st := []) ?_ (fun hJ145 => ?_)
        · intro H locs ls hp_
          obtain ⟨hP, hD, hS, hl⟩ := hp_
          clear hL_18
          refine lv_lload_n hx hb dX10_choose_145 rfl (lv_at hl 1 rfl) ?_
          cases h
          exact gRl hx hb hr hlocks hP hD hS dX10_choose_146
        · refine gLoop (Hy := fun k_ v_ => fL_X10_choose_55 K x1 v_size v_upper v_base k_ v_ = some (o_15, o_16, o_17)) (Pl := fun (v_ : Int32 × Int64 × (Nat → Int32)) H locs ls => match v_ with | (a_19, a_20, a_21) => va_P D vwCl [(z, .inr (9, [.int v_fault, .int v_size, .int v_upper, .int v_base, .ref z_isGood, .ref z_frozen, .ref z_sheetSize, .ref z_sheetLane, .ref z_sheet, .ref z_hands, .int v_wide, .long v_mask, .int o_10, .ref z_seen, .ref z_work, .ref z_known, .ref z_next, .int v_come, .int o_11, .ref z_counts, .ref z_acrosses, .ref z_failings, .int v_basis, .ref z_given, .int v_trace])), (z_isGood, .inl (cy 2, 32, .inl a_21)), (z_frozen, .inl (cy 0, 32, .inl o_13))] H ∧ va_D A [(z, .inr (9, [.int v_fault, .int v_size, .int v_upper, .int v_base, .ref z_isGood, .ref z_frozen, .ref z_sheetSize, .ref z_sheetLane, .ref z_sheet, .ref z_hands, .int v_wide, .long v_mask, .int o_10, .ref z_seen, .ref z_work, .ref z_known, .ref z_next, .int v_come, .int o_11, .ref z_counts, .ref z_acrosses, .ref z_failings, .int v_basis, .ref z_given, .int v_trace])), (z_isGood, .inl (cy 2, 32, .inl a_21)), (z_frozen, .inl (cy 0, 32, .inl o_13))] ∧ va_S A s.heap H locs ∧ lv_has ls 7 [(4, .int a_19), (2, .long a_20), (0, .ref z), (1, .int x1)]) (pcH := 55) (fun _ q_ => by cases q_) ?_ K (0, 0, o_12) hL_18 ⟨hP, hD, hS, hl⟩
          clear hL_18 h hP hD hS hl
          intro k_ ih ⟨a_19, a_20, a_21⟩ H locs ls h hp_
          obtain ⟨hP, hD, hS, hl⟩ := hp_
          have hP : va_P D vwCl [(z, .inr (9, [.int v_fault, .int v_size, .int v_upper, .int v_base, .ref z_isGood, .ref z_frozen, .ref z_sheetSize, .ref z_sheetLane, .ref z_sheet, .ref z_hands, .int v_wide, .long v_mask, .int o_10, .ref z_seen, .ref z_work, .ref z_known, .ref z_next, .int v_come, .int o_11, .ref z_counts, .ref z_acrosses, .ref z_failings, .int v_basis, .ref z_given, .int v_trace])), (z_isGood, .inl (cy 2, 32, .inl a_21)), (z_frozen, .inl (cy 0, 32, .inl o_13))] H := hP
          have hD : va_D A [(z, .inr (9, [.int v_fault, .int v_size, .int v_upper, .int v_base, .ref z_isGood, .ref z_frozen, .ref z_sheetSize, .ref z_sheetLane, .ref z_sheet, .ref z_hands, .int v_wide, .long v_mask, .int o_10, .ref z_seen, .ref z_work, .ref z_known, .ref z_next, .int v_come, .int o_11, .ref z_counts, .ref z_acrosses, .ref z_failings, .int v_basis, .ref z_given, .int v_trace])), (z_isGood, .inl (cy 2, 32, .inl a_21)), (z_frozen, .inl (cy 0, 32, .inl o_13))] := hD
          have hl : lv_has ls 7 [(4, .int a_19), (2, .long a_20), (0, .ref z), (1, .int x1)] := hl
          change fL_X10_choose_55 K x1 v_size v_upper v_base (k_ + 1) (a_19, a_20, a_21) = _ at h
          rw [fL_X10_choose_55] at h
          refine lv_iload hx hb dX10_choose_55 (lv_at hl 0 rfl) ?_
          refine lv_iload_n hx hb dX10_choose_57 rfl (lv_at hl 3 rfl) ?_
          refine lv_icmp_ge (tgt := 145) hx hb dX10_choose_58 (by decide) (fun c_22 => ?_) (fun c_22 => ?_)
          · have h := gx_t c_22 h
            have hl := lv_sub (l' := [(4, .int a_19), (2, .long a_20), (0, .ref z), (1, .int x1)]) hl [0, 1, 2, 3] rfl
            cases h
            exact hJ145 _ _ _ ⟨hP, hD, hS, hl⟩
          · have h := gx_f c_22 h
            refine lv_iconst (v := (-1)) hx hb dX10_choose_61 (by decide) ?_
            refine lv_istore (lv' := [(5, .int (-1)), (4, .int a_19), (2, .long a_20), (0, .ref z), (1, .int x1)]) hx hb dX10_choose_62 hl (by decide) rfl (fun ls hl => ?_)
            refine lv_iconst (v := 0) hx hb dX10_choose_64 (by decide) ?_
            refine lv_istore (lv' := [(6, .int 0), (5, .int (-1)), (4, .int a_19), (2, .long a_20), (0, .ref z), (1, .int x1)]) hx hb dX10_choose_65 hl (by decide) rfl (fun ls hl => ?_)
            obtain ⟨⟨o_23, o_24⟩, hL_25, h⟩ := gx_b h
            refine gJoin (Pj := fun H locs ls => va_P D vwCl [(z, .inr (9, [.int v_fault, .int v_size, .int v_upper, .int v_base, .ref z_isGood, .ref z_frozen, .ref z_sheetSize, .ref z_sheetLane, .ref z_sheet, .ref z_hands, .int v_wide, .long v_mask, .int o_10, .ref z_seen, .ref z_work, .ref z_known, .ref z_next, .int v_come, .int o_11, .ref z_counts, .ref z_acrosses, .ref z_failings, .int v_basis, .ref z_given, .int v_trace])), (z_isGood, .inl (cy 2, 32, .inl a_21)), (z_frozen, .inl (cy 0, 32, .inl o_13))] H ∧ va_D A [(z, .inr (9, [.int v_fault, .int v_size, .int v_upper, .int v_base, .ref z_isGood, .ref z_frozen, .ref z_sheetSize, .ref z_sheetLane, .ref z_sheet, .ref z_hands, .int v_wide, .long v_mask, .int o_10, .ref z_seen, .ref z_work, .ref z_known, .ref z_next, .int v_come, .int o_11, .ref z_counts, .ref z_acrosses, .ref z_failings, .int v_basis, .ref z_given, .int v_trace])), (z_isGood, .inl (cy 2, 32, .inl a_21)), (z_frozen, .inl (cy 0, 32, .inl o_13))] ∧ va_S A s.heap H locs ∧ lv_has ls 7 [(6, .int o_23), (5, .int o_24), (4, .int a_19), (2, .long a_20), (0, .ref z), (1, .int x1)]) (pcM := 122) (st := []) ?_ (fun hJ122 => ?_)
            · intro H locs ls hp_
              obtain ⟨hP, hD, hS, hl⟩ := hp_
              clear hL_25
              refine lv_aload_n hx hb dX10_choose_122 rfl (lv_at hl 4 rfl) ?_
              refine va_get (D := D) (ci := 9) (v := .ref z_isGood) (C := RX10) (T := TX10) (N := 25) hx hb hts iX10 hown hK hP 0 rfl rfl 4 (by decide) f7 (fun _ h9 => h9) rfl dX10_choose_123 ?_
              refine lv_iload hx hb dX10_choose_126 (lv_at hl 1 rfl) ?_
              refine lv_iconst (v := 1) hx hb dX10_choose_128 (by decide) ?_
              obtain ⟨hi_, h⟩ := gx_ix h
              refine va_zast hx hb hK hP hD hS 1 2 rfl rfl hi_ dX10_choose_129 (fun H locs hP hD hS => ?_)
              obtain ⟨w_26, e_w_26⟩ : ∃ y : Nat → Int32, y = (upd a_21 (Int32.toNatClampNeg o_24) (vp_nar .boolean 1)) := ⟨_, rfl⟩
              have h := gx_let e_w_26 h
              have hP : va_P D vwCl [(z, .inr (9, [.int v_fault, .int v_size, .int v_upper, .int v_base, .ref z_isGood, .ref z_frozen, .ref z_sheetSize, .ref z_sheetLane, .ref z_sheet, .ref z_hands, .int v_wide, .long v_mask, .int o_10, .ref z_seen, .ref z_work, .ref z_known, .ref z_next, .int v_come, .int o_11, .ref z_counts, .ref z_acrosses, .ref z_failings, .int v_basis, .ref z_given, .int v_trace])), (z_isGood, .inl (cy 2, 32, .inl (upd a_21 (Int32.toNatClampNeg o_24) (vp_nar .boolean 1)))), (z_frozen, .inl (cy 0, 32, .inl o_13))] H := hP
              have hD : va_D A [(z, .inr (9, [.int v_fault, .int v_size, .int v_upper, .int v_base, .ref z_isGood, .ref z_frozen, .ref z_sheetSize, .ref z_sheetLane, .ref z_sheet, .ref z_hands, .int v_wide, .long v_mask, .int o_10, .ref z_seen, .ref z_work, .ref z_known, .ref z_next, .int v_come, .int o_11, .ref z_counts, .ref z_acrosses, .ref z_failings, .int v_basis, .ref z_given, .int v_trace])), (z_isGood, .inl (cy 2, 32, .inl (upd a_21 (Int32.toNatClampNeg o_24) (vp_nar .boolean 1)))), (z_frozen, .inl (cy 0, 32, .inl o_13))] := hD
              rw [← e_w_26] at hP hD
              refine lv_lload_n hx hb dX10_choose_130 rfl (lv_at hl 3 rfl) ?_
              refine lv_aload_n hx hb dX10_choose_131 rfl (lv_at hl 4 rfl) ?_
              refine lv_iload hx hb dX10_choose_132 (lv_at hl 1 rfl) ?_
              obtain ⟨r_27, hc_28, h⟩ := gx_b h
              refine gCalll (wr := [(z_isGood, .inl (cy 2, 32, .inl w_26)), (z_frozen, .inl (cy 0, 32, .inl o_13))]) (va_runV (As := [.int o_24]) (rest := [.long a_20]) ⟨hx, hb, hml, hown, hts⟩ (c_X10_shareOf l D cy t H.size K z z_isGood z_frozen z_sheetSize z_sheetLane z_sheet z_hands z_seen z_work z_known z_next z_counts z_acrosses z_failings z_given v_fault v_size v_upper v_base v_wide v_mask o_10 v_come o_11 v_basis v_trace o_24 r_27 hc_28) (cwV 1 hts gX10_choose_X10_shareOf rfl rfl rfl (by decide +kernel) ⟨Nat.le_of_ble_eq_true rfl, Nat.le_of_ble_eq_true rfl⟩) ⟨gBlind, va_recv hK hP (ci := 9) (q0 := 0) rfl rfl, fun U hU hW => ⟨rfl, gPre.call hK hG hA hP hD hS [0] (by decide) rfl U hU hW⟩⟩ rfl rfl hl.1 rfl (lv_room (Nat.le_of_ble_eq_true rfl)) dX10_choose_134 ⟨Nat.le_of_ble_eq_true rfl, Nat.le_of_ble_eq_true rfl⟩) hA hP hD hS [0] [1, 2] rfl rfl (by decide) (by decide) (fun H locs hP hD hS => ?_)
              have hP := hP.sub (ws' := [(z, .inr (9, [.int v_fault, .int v_size, .int v_upper, .int v_base, .ref z_isGood, .ref z_frozen, .ref z_sheetSize, .ref z_sheetLane, .ref z_sheet, .ref z_hands, .int v_wide, .long v_mask, .int o_10, .ref z_seen, .ref z_work, .ref z_known, .ref z_next, .int v_come, .int o_11, .ref z_counts, .ref z_acrosses, .ref z_failings, .int v_basis, .ref z_given, .int v_trace])), (z_isGood, .inl (cy 2, 32, .inl w_26)), (z_frozen, .inl (cy 0, 32, .inl o_13))]) [2, 0, 1] rfl
              have hD := hD.sub (ws' := [(z, .inr (9, [.int v_fault, .int v_size, .int v_upper, .int v_base, .ref z_isGood, .ref z_frozen, .ref z_sheetSize, .ref z_sheetLane, .ref z_sheet, .ref z_hands, .int v_wide, .long v_mask, .int o_10, .ref z_seen, .ref z_work, .ref z_known, .ref z_next, .int v_come, .int o_11, .ref z_counts, .ref z_acrosses, .ref z_failings, .int v_basis, .ref z_given, .int v_trace])), (z_isGood, .inl (cy 2, 32, .inl w_26)), (z_frozen, .inl (cy 0, 32, .inl o_13))]) [2, 0, 1] (by decide) rfl
              refine lv_ladd hx hb dX10_choose_137 ?_
              refine lv_topl (fun y2_29 e_y2_29 => ?_)
              have h := gx_let e_y2_29 h
              refine lv_lstore_n (lv' := [(2, .long y2_29), (6, .int o_23), (5, .int o_24), (4, .int a_19), (0, .ref z), (1, .int x1)]) hx hb dX10_choose_138 rfl hl (by decide) rfl (fun ls hl => ?_)
              obtain ⟨y4_30, e_y4_30⟩ : ∃ y : Int32, y = (a_19 + 1) := ⟨_, rfl⟩
              have h := gx_let e_y4_30 h
              refine lv_iinc (v := y4_30) (lv' := [(4, .int y4_30), (2, .long y2_29), (6, .int o_23), (5, .int o_24), (0, .ref z), (1, .int x1)]) hx hb dX10_choose_139 hl (k := 3) rfl (by rw [e_y4_30]; rfl) (by decide) rfl (fun ls hl => ?_)
              refine lv_goto (tgt := 55) hx hb dX10_choose_142 (by decide) ?_
              exact ih (y4_30, y2_29, w_26) _ _ _ h ⟨hP, hD, hS, lv_sub (l' := [(4, .int y4_30), (2, .long y2_29), (0, .ref z), (1, .int x1)]) hl [0, 1, 4, 5] rfl⟩
            · refine gLoop (Hy := fun k_ v_ => fL_X10_choose_67 K v_size v_upper v_base a_21 k_ v_ = some (o_23, o_24)) (Pl := fun (v_ : Int32 × Int32) H locs ls => match v_ with | (a_31, a_32) => va_P D vwCl [(z, .inr (9, [.int v_fault, .int v_size, .int v_upper, .int v_base, .ref z_isGood, .ref z_frozen, .ref z_sheetSize, .ref z_sheetLane, .ref z_sheet, .ref z_hands, .int v_wide, .long v_mask, .int o_10, .ref z_seen, .ref z_work, .ref z_known, .ref z_next, .int v_come, .int o_11, .ref z_counts, .ref z_acrosses, .ref z_failings, .int v_basis, .ref z_given, .int v_trace])), (z_isGood, .inl (cy 2, 32, .inl a_21)), (z_frozen, .inl (cy 0, 32, .inl o_13))] H ∧ va_D A [(z, .inr (9, [.int v_fault, .int v_size, .int v_upper, .int v_base, .ref z_isGood, .ref z_frozen, .ref z_sheetSize, .ref z_sheetLane, .ref z_sheet, .ref z_hands, .int v_wide, .long v_mask, .int o_10, .ref z_seen, .ref z_work, .ref z_known, .ref z_next, .int v_come, .int o_11, .ref z_counts, .ref z_acrosses, .ref z_failings, .int v_basis, .ref z_given, .int v_trace])), (z_isGood, .inl (cy 2, 32, .inl a_21)), (z_frozen, .inl (cy 0, 32, .inl o_13))] ∧ va_S A s.heap H locs ∧ lv_has ls 7 [(6, .int a_31), (5, .int a_32), (4, .int a_19), (2, .long a_20), (0, .ref z), (1, .int x1)]) (pcH := 67) (fun _ q_ => by cases q_) ?_ K (0, (-1)) hL_25 ⟨hP, hD, hS, hl⟩
              clear hL_25 h hP hD hS hl
              intro k_ ih ⟨a_31, a_32⟩ H locs ls h hp_
              obtain ⟨hP, hD, hS, hl⟩ := hp_
              have hP : va_P D vwCl [(z, .inr (9, [.int v_fault, .int v_size, .int v_upper, .int v_base, .ref z_isGood, .ref z_frozen, .ref z_sheetSize, .ref z_sheetLane, .ref z_sheet, .ref z_hands, .int v_wide, .long v_mask, .int o_10, .ref z_seen, .ref z_work, .ref z_known, .ref z_next, .int v_come, .int o_11, .ref z_counts, .ref z_acrosses, .ref z_failings, .int v_basis, .ref z_given, .int v_trace])), (z_isGood, .inl (cy 2, 32, .inl a_21)), (z_frozen, .inl (cy 0, 32, .inl o_13))] H := hP
              have hD : va_D A [(z, .inr (9, [.int v_fault, .int v_size, .int v_upper, .int v_base, .ref z_isGood, .ref z_frozen, .ref z_sheetSize, .ref z_sheetLane, .ref z_sheet, .ref z_hands, .int v_wide, .long v_mask, .int o_10, .ref z_seen, .ref z_work, .ref z_known, .ref z_next, .int v_come, .int o_11, .ref z_counts, .ref z_acrosses, .ref z_failings, .int v_basis, .ref z_given, .int v_trace])), (z_isGood, .inl (cy 2, 32, .inl a_21)), (z_frozen, .inl (cy 0, 32, .inl o_13))] := hD
              have hl : lv_has ls 7 [(6, .int a_31), (5, .int a_32), (4, .int a_19), (2, .long a_20), (0, .ref z), (1, .int x1)] := hl
              change fL_X10_choose_67 K v_size v_upper v_base a_21 (k_ + 1) (a_31, a_32) = _ at h
              rw [fL_X10_choose_67] at h
              refine lv_iload hx hb dX10_choose_67 (lv_at hl 0 rfl) ?_
              refine lv_aload_n hx hb dX10_choose_69 rfl (lv_at hl 4 rfl) ?_
              refine va_get (D := D) (ci := 9) (v := .int v_size) (C := RX10) (T := TX10) (N := 25) hx hb hts iX10 hown hK hP 0 rfl rfl 1 (by decide) f54 (fun _ h9 => h9) rfl dX10_choose_70 ?_
              refine lv_icmp_ge (tgt := 122) hx hb dX10_choose_73 (by decide) (fun c_33 => ?_) (fun c_33 => ?_)
              · have h := gx_t c_33 h
                have hl := lv_sub (l' := [(6, .int a_31), (5, .int a_32), (4, .int a_19), (2, .long a_20), (0, .ref z), (1, .int x1)]) hl [0, 1, 2, 3, 4, 5] rfl
                cases h
                exact hJ122 _ _ _ ⟨hP, hD, hS, hl⟩
              · have h := gx_f c_33 h
                refine lv_aload_n hx hb dX10_choose_76 rfl (lv_at hl 4 rfl) ?_
                refine va_get (D := D) (ci := 9) (v := .ref z_isGood) (C := RX10) (T := TX10) (N := 25) hx hb hts iX10 hown hK hP 0 rfl rfl 4 (by decide) f7 (fun _ h9 => h9) rfl dX10_choose_77 ?_
                refine lv_iload hx hb dX10_choose_80 (lv_at hl 0 rfl) ?_
                obtain ⟨hi_, h⟩ := gx_ix h
                refine va_zald hx hb hK hP 1 2 rfl rfl hi_ dX10_choose_82 ?_
                obtain ⟨ms_34, hR_35, h⟩ := gx_b h
                refine gJoin (Pj := fun H locs ls => va_P D vwCl [(z, .inr (9, [.int v_fault, .int v_size, .int v_upper, .int v_base, .ref z_isGood, .ref z_frozen, .ref z_sheetSize, .ref z_sheetLane, .ref z_sheet, .ref z_hands, .int v_wide, .long v_mask, .int o_10, .ref z_seen, .ref z_work, .ref z_known, .ref z_next, .int v_come, .int o_11, .ref z_counts, .ref z_acrosses, .ref z_failings, .int v_basis, .ref z_given, .int v_trace])), (z_isGood, .inl (cy 2, 32, .inl a_21)), (z_frozen, .inl (cy 0, 32, .inl o_13))] H ∧ va_D A [(z, .inr (9, [.int v_fault, .int v_size, .int v_upper, .int v_base, .ref z_isGood, .ref z_frozen, .ref z_sheetSize, .ref z_sheetLane, .ref z_sheet, .ref z_hands, .int v_wide, .long v_mask, .int o_10, .ref z_seen, .ref z_work, .ref z_known, .ref z_next, .int v_come, .int o_11, .ref z_counts, .ref z_acrosses, .ref z_failings, .int v_basis, .ref z_given, .int v_trace])), (z_isGood, .inl (cy 2, 32, .inl a_21)), (z_frozen, .inl (cy 0, 32, .inl o_13))] ∧ va_S A s.heap H locs ∧ lv_has ls 7 [(6, .int a_31), (5, .int a_32), (4, .int a_19), (2, .long a_20), (0, .ref z), (1, .int x1)]) (pcM := 114) (st := [.int ms_34]) ?_ (fun hJ114 => ?_)
                · intro H locs ls hp_
                  obtain ⟨hP, hD, hS, hl⟩ := hp_
                  clear hR_35
                  refine lv_istore (lv' := [(5, .int ms_34), (6, .int a_31), (4, .int a_19), (2, .long a_20), (0, .ref z), (1, .int x1)]) hx hb dX10_choose_114 hl (by decide) rfl (fun ls hl => ?_)
                  obtain ⟨y6_36, e_y6_36⟩ : ∃ y : Int32, y = (a_31 + 1) := ⟨_, rfl⟩
                  have h := gx_let e_y6_36 h
                  refine lv_iinc (v := y6_36) (lv' := [(6, .int y6_36), (5, .int ms_34), (4, .int a_19), (2, .long a_20), (0, .ref z), (1, .int x1)]) hx hb dX10_choose_116 hl (k := 1) rfl (by rw [e_y6_36]; rfl) (by decide) rfl (fun ls hl => ?_)
                  refine lv_goto (tgt := 67) hx hb dX10_choose_119 (by decide) ?_
                  exact ih (y6_36, ms_34) _ _ _ h ⟨hP, hD, hS, lv_sub (l' := [(6, .int y6_36), (5, .int ms_34), (4, .int a_19), (2, .long a_20), (0, .ref z), (1, .int x1)]) hl [0, 1, 2, 3, 4, 5] rfl⟩
                · have h := hR_35
                  refine lv_if_ne (tgt := 112) hx hb dX10_choose_83 (by decide) (fun c_37 => ?_) (fun c_37 => ?_)
                  · have h := gx_f c_37 h
                    refine lv_iload hx hb dX10_choose_112 (lv_at hl 1 rfl) ?_
                    have hl := lv_sub (l' := [(6, .int a_31), (5, .int a_32), (4, .int a_19), (2, .long a_20), (0, .ref z), (1, .int x1)]) hl [0, 1, 2, 3, 4, 5] rfl
                    cases h
                    exact hJ114 _ _ _ ⟨hP, hD, hS, hl⟩
                  · have h := gx_t c_37 h
                    refine lv_iload hx hb dX10_choose_86 (lv_at hl 1 rfl) ?_
                    refine lv_if_lt (tgt := 107) hx hb dX10_choose_88 (by decide) (fun c_38 => ?_) (fun c_38 => ?_)
                    · have h := gx_t c_38 h
                      refine lv_iload hx hb dX10_choose_107 (lv_at hl 0 rfl) ?_
                      refine lv_goto (tgt := 114) hx hb dX10_choose_109 (by decide) ?_
                      have hl := lv_sub (l' := [(6, .int a_31), (5, .int a_32), (4, .int a_19), (2, .long a_20), (0, .ref z), (1, .int x1)]) hl [0, 1, 2, 3, 4, 5] rfl
                      cases h
                      exact hJ114 _ _ _ ⟨hP, hD, hS, hl⟩
                    · have h := gx_f c_38 h
                      refine lv_aload_n hx hb dX10_choose_91 rfl (lv_at hl 4 rfl) ?_
                      refine lv_iload hx hb dX10_choose_92 (lv_at hl 0 rfl) ?_
                      obtain ⟨r_39, hc_40, h⟩ := gx_b h
                      refine gCalll (wr := [(z_isGood, .inl (cy 2, 32, .inl a_21)), (z_frozen, .inl (cy 0, 32, .inl o_13))]) (va_runV (As := [.int a_31]) (rest := []) ⟨hx, hb, hml, hown, hts⟩ (c_X10_shareOf l D cy t H.size K z z_isGood z_frozen z_sheetSize z_sheetLane z_sheet z_hands z_seen z_work z_known z_next z_counts z_acrosses z_failings z_given v_fault v_size v_upper v_base v_wide v_mask o_10 v_come o_11 v_basis v_trace a_31 r_39 hc_40) (cwV 1 hts gX10_choose_X10_shareOf rfl rfl rfl (by decide +kernel) ⟨Nat.le_of_ble_eq_true rfl, Nat.le_of_ble_eq_true rfl⟩) ⟨gBlind, va_recv hK hP (ci := 9) (q0 := 0) rfl rfl, fun U hU hW => ⟨rfl, gPre.call hK hG hA hP hD hS [0] (by decide) rfl U hU hW⟩⟩ rfl rfl hl.1 rfl (lv_room (Nat.le_of_ble_eq_true rfl)) dX10_choose_94 ⟨Nat.le_of_ble_eq_true rfl, Nat.le_of_ble_eq_true rfl⟩) hA hP hD hS [0] [1, 2] rfl rfl (by decide) (by decide) (fun H locs hP hD hS => ?_)
                      have hP := hP.sub (ws' := [(z, .inr (9, [.int v_fault, .int v_size, .int v_upper, .int v_base, .ref z_isGood, .ref z_frozen, .ref z_sheetSize, .ref z_sheetLane, .ref z_sheet, .ref z_hands, .int v_wide, .long v_mask, .int o_10, .ref z_seen, .ref z_work, .ref z_known, .ref z_next, .int v_come, .int o_11, .ref z_counts, .ref z_acrosses, .ref z_failings, .int v_basis, .ref z_given, .int v_trace])), (z_isGood, .inl (cy 2, 32, .inl a_21)), (z_frozen, .inl (cy 0, 32, .inl o_13))]) [2, 0, 1] rfl
                      have hD := hD.sub (ws' := [(z, .inr (9, [.int v_fault, .int v_size, .int v_upper, .int v_base, .ref z_isGood, .ref z_frozen, .ref z_sheetSize, .ref z_sheetLane, .ref z_sheet, .ref z_hands, .int v_wide, .long v_mask, .int o_10, .ref z_seen, .ref z_work, .ref z_known, .ref z_next, .int v_come, .int o_11, .ref z_counts, .ref z_acrosses, .ref z_failings, .int v_basis, .ref z_given, .int v_trace])), (z_isGood, .inl (cy 2, 32, .inl a_21)), (z_frozen, .inl (cy 0, 32, .inl o_13))]) [2, 0, 1] (by decide) rfl
                      refine lv_aload_n hx hb dX10_choose_97 rfl (lv_at hl 4 rfl) ?_
                      refine lv_iload hx hb dX10_choose_98 (lv_at hl 1 rfl) ?_
                      obtain ⟨r_41, hc_42, h⟩ := gx_b h
                      refine gCalll (wr := [(z_isGood, .inl (cy 2, 32, .inl a_21)), (z_frozen, .inl (cy 0, 32, .inl o_13))]) (va_runV (As := [.int a_32]) (rest := [.long r_39]) ⟨hx, hb, hml, hown, hts⟩ (c_X10_shareOf l D cy t H.size K z z_isGood z_frozen z_sheetSize z_sheetLane z_sheet z_hands z_seen z_work z_known z_next z_counts z_acrosses z_failings z_given v_fault v_size v_upper v_base v_wide v_mask o_10 v_come o_11 v_basis v_trace a_32 r_41 hc_42) (cwV 1 hts gX10_choose_X10_shareOf rfl rfl rfl (by decide +kernel) ⟨Nat.le_of_ble_eq_true rfl, Nat.le_of_ble_eq_true rfl⟩) ⟨gBlind, va_recv hK hP (ci := 9) (q0 := 0) rfl rfl, fun U hU hW => ⟨rfl, gPre.call hK hG hA hP hD hS [0] (by decide) rfl U hU hW⟩⟩ rfl rfl hl.1 rfl (lv_room (Nat.le_of_ble_eq_true rfl)) dX10_choose_100 ⟨Nat.le_of_ble_eq_true rfl, Nat.le_of_ble_eq_true rfl⟩) hA hP hD hS [0] [1, 2] rfl rfl (by decide) (by decide) (fun H locs hP hD hS => ?_)
                      have hP := hP.sub (ws' := [(z, .inr (9, [.int v_fault, .int v_size, .int v_upper, .int v_base, .ref z_isGood, .ref z_frozen, .ref z_sheetSize, .ref z_sheetLane, .ref z_sheet, .ref z_hands, .int v_wide, .long v_mask, .int o_10, .ref z_seen, .ref z_work, .ref z_known, .ref z_next, .int v_come, .int o_11, .ref z_counts, .ref z_acrosses, .ref z_failings, .int v_basis, .ref z_given, .int v_trace])), (z_isGood, .inl (cy 2, 32, .inl a_21)), (z_frozen, .inl (cy 0, 32, .inl o_13))]) [2, 0, 1] rfl
                      have hD := hD.sub (ws' := [(z, .inr (9, [.int v_fault, .int v_size, .int v_upper, .int v_base, .ref z_isGood, .ref z_frozen, .ref z_sheetSize, .ref z_sheetLane, .ref z_sheet, .ref z_hands, .int v_wide, .long v_mask, .int o_10, .ref z_seen, .ref z_work, .ref z_known, .ref z_next, .int v_come, .int o_11, .ref z_counts, .ref z_acrosses, .ref z_failings, .int v_basis, .ref z_given, .int v_trace])), (z_isGood, .inl (cy 2, 32, .inl a_21)), (z_frozen, .inl (cy 0, 32, .inl o_13))]) [2, 0, 1] (by decide) rfl
                      refine W.lcmp hx hb dX10_choose_103 ?_
                      refine lv_if_gt (tgt := 112) hx hb dX10_choose_104 (by decide) (fun c_43 => ?_) (fun c_43 => ?_)
                      · have h := gx_t c_43 h
                        refine lv_iload hx hb dX10_choose_112 (lv_at hl 1 rfl) ?_
                        have hl := lv_sub (l' := [(6, .int a_31), (5, .int a_32), (4, .int a_19), (2, .long a_20), (0, .ref z), (1, .int x1)]) hl [0, 1, 2, 3, 4, 5] rfl
                        cases h
                        exact hJ114 _ _ _ ⟨hP, hD, hS, hl⟩
                      · have h := gx_f c_43 h
                        refine lv_iload hx hb dX10_choose_107 (lv_at hl 0 rfl) ?_
                        refine lv_goto (tgt := 114) hx hb dX10_choose_109 (by decide) ?_
                        have hl := lv_sub (l' := [(6, .int a_31), (5, .int a_32), (4, .int a_19), (2, .long a_20), (0, .ref z), (1, .int x1)]) hl [0, 1, 2, 3, 4, 5] rfl
                        cases h
                        exact hJ114 _ _ _ ⟨hP, hD, hS, hl⟩
      · refine gLoop (Hy := fun k_ v_ => fL_X10_choose_29 K v_size k_ v_ = some (o_9, o_10, o_11, o_12, o_13)) (Pl := fun (v_ : Int32 × Int32 × Int32 × (Nat → Int32) × (Nat → Int32)) H locs ls => match v_ with | (a_44, a_45, a_46, a_47, a_48) => va_P D vwCl [(z, .inr (9, [.int v_fault, .int v_size, .int v_upper, .int v_base, .ref z_isGood, .ref z_frozen, .ref z_sheetSize, .ref z_sheetLane, .ref z_sheet, .ref z_hands, .int v_wide, .long v_mask, .int a_45, .ref z_seen, .ref z_work, .ref z_known, .ref z_next, .int v_come, .int a_46, .ref z_counts, .ref z_acrosses, .ref z_failings, .int v_basis, .ref z_given, .int v_trace])), (z_isGood, .inl (cy 2, 32, .inl a_47)), (z_frozen, .inl (cy 0, 32, .inl a_48))] H ∧ va_D A [(z, .inr (9, [.int v_fault, .int v_size, .int v_upper, .int v_base, .ref z_isGood, .ref z_frozen, .ref z_sheetSize, .ref z_sheetLane, .ref z_sheet, .ref z_hands, .int v_wide, .long v_mask, .int a_45, .ref z_seen, .ref z_work, .ref z_known, .ref z_next, .int v_come, .int a_46, .ref z_counts, .ref z_acrosses, .ref z_failings, .int v_basis, .ref z_given, .int v_trace])), (z_isGood, .inl (cy 2, 32, .inl a_47)), (z_frozen, .inl (cy 0, 32, .inl a_48))] ∧ va_S A s.heap H locs ∧ lv_has ls 7 [(2, .int a_44), (0, .ref z), (1, .int x1)]) (pcH := 29) (fun _ q_ => by cases q_) ?_ K (0, v_paths, v_isCounted, v_isGoodc, v_frozenc) hL_14 ⟨hP, hD, hS, hl⟩
        clear hL_14 h hP hD hS hl
        intro k_ ih ⟨a_44, a_45, a_46, a_47, a_48⟩ H locs ls h hp_
        obtain ⟨hP, hD, hS, hl⟩ := hp_
        have hP : va_P D vwCl [(z, .inr (9, [.int v_fault, .int v_size, .int v_upper, .int v_base, .ref z_isGood, .ref z_frozen, .ref z_sheetSize, .ref z_sheetLane, .ref z_sheet, .ref z_hands, .int v_wide, .long v_mask, .int a_45, .ref z_seen, .ref z_work, .ref z_known, .ref z_next, .int v_come, .int a_46, .ref z_counts, .ref z_acrosses, .ref z_failings, .int v_basis, .ref z_given, .int v_trace])), (z_isGood, .inl (cy 2, 32, .inl a_47)), (z_frozen, .inl (cy 0, 32, .inl a_48))] H := hP
        have hD : va_D A [(z, .inr (9, [.int v_fault, .int v_size, .int v_upper, .int v_base, .ref z_isGood, .ref z_frozen, .ref z_sheetSize, .ref z_sheetLane, .ref z_sheet, .ref z_hands, .int v_wide, .long v_mask, .int a_45, .ref z_seen, .ref z_work, .ref z_known, .ref z_next, .int v_come, .int a_46, .ref z_counts, .ref z_acrosses, .ref z_failings, .int v_basis, .ref z_given, .int v_trace])), (z_isGood, .inl (cy 2, 32, .inl a_47)), (z_frozen, .inl (cy 0, 32, .inl a_48))] := hD
        have hl : lv_has ls 7 [(2, .int a_44), (0, .ref z), (1, .int x1)] := hl
        change fL_X10_choose_29 K v_size (k_ + 1) (a_44, a_45, a_46, a_47, a_48) = _ at h
        rw [fL_X10_choose_29] at h
        refine lv_iload_n hx hb dX10_choose_29 rfl (lv_at hl 0 rfl) ?_
        refine lv_aload_n hx hb dX10_choose_30 rfl (lv_at hl 1 rfl) ?_
        refine va_get (D := D) (ci := 9) (v := .int v_size) (C := RX10) (T := TX10) (N := 25) hx hb hts iX10 hown hK hP 0 rfl rfl 1 (by decide) f54 (fun _ h9 => h9) rfl dX10_choose_31 ?_
        refine lv_icmp_ge (tgt := 50) hx hb dX10_choose_34 (by decide) (fun c_49 => ?_) (fun c_49 => ?_)
        · have h := gx_t c_49 h
          have hl := lv_sub (l' := [(2, .int a_44), (0, .ref z), (1, .int x1)]) hl [0, 1, 2] rfl
          cases h
          exact hJ50 _ _ _ ⟨hP, hD, hS, hl⟩
        · have h := gx_f c_49 h
          refine lv_aload_n hx hb dX10_choose_37 rfl (lv_at hl 1 rfl) ?_
          refine lv_iload_n hx hb dX10_choose_38 rfl (lv_at hl 0 rfl) ?_
          refine lv_iconst (v := 0) hx hb dX10_choose_39 (by decide) ?_
          refine lv_iconst (v := 0) hx hb dX10_choose_40 (by decide) ?_
          obtain ⟨⟨o_50, o_51, o_52, o_53⟩, hc_54, h⟩ := gx_b h
          refine gCallv (wr := []) (va_runV (As := [.int a_44, .int 0, .int 0]) (rest := []) ⟨hx, hb, hml, hown, hts⟩ (c_X10_become l D cy t H.size K z z_isGood z_frozen z_sheetSize z_sheetLane z_sheet z_hands z_seen z_work z_known z_next z_counts z_acrosses z_failings z_given v_fault v_size v_upper v_base v_wide v_mask a_45 v_come a_46 v_basis v_trace a_47 a_48 a_44 0 0 o_50 o_51 o_52 o_53 hc_54) (cwV 3 hts gX10_choose_X10_become rfl rfl rfl (by decide +kernel) ⟨Nat.le_of_ble_eq_true rfl, Nat.le_of_ble_eq_true rfl⟩) ⟨gBlind, va_recv hK hP (ci := 9) (q0 := 0) rfl rfl, fun U hU hW => ⟨rfl, gPre.call hK hG hA hP hD hS [0, 1, 2] (by decide) rfl U hU hW⟩⟩ rfl rfl hl.1 rfl (lv_room (Nat.le_of_ble_eq_true rfl)) dX10_choose_41 ⟨Nat.le_of_ble_eq_true rfl, Nat.le_of_ble_eq_true rfl⟩) hA hP hD hS [0, 1, 2] [] rfl rfl (by decide) (by decide) (fun H locs hP hD hS => ?_)
          have hP : va_P D vwCl [(z, .inr (9, [.int v_fault, .int v_size, .int v_upper, .int v_base, .ref z_isGood, .ref z_frozen, .ref z_sheetSize, .ref z_sheetLane, .ref z_sheet, .ref z_hands, .int v_wide, .long v_mask, .int o_50, .ref z_seen, .ref z_work, .ref z_known, .ref z_next, .int v_come, .int o_51, .ref z_counts, .ref z_acrosses, .ref z_failings, .int v_basis, .ref z_given, .int v_trace])), (z_isGood, .inl (cy 2, 32, .inl o_52)), (z_frozen, .inl (cy 0, 32, .inl o_53))] H := hP
          have hD : va_D A [(z, .inr (9, [.int v_fault, .int v_size, .int v_upper, .int v_base, .ref z_isGood, .ref z_frozen, .ref z_sheetSize, .ref z_sheetLane, .ref z_sheet, .ref z_hands, .int v_wide, .long v_mask, .int o_50, .ref z_seen, .ref z_work, .ref z_known, .ref z_next, .int v_come, .int o_51, .ref z_counts, .ref z_acrosses, .ref z_failings, .int v_basis, .ref z_given, .int v_trace])), (z_isGood, .inl (cy 2, 32, .inl o_52)), (z_frozen, .inl (cy 0, 32, .inl o_53))] := hD
          obtain ⟨y2_55, e_y2_55⟩ : ∃ y : Int32, y = (a_44 + 1) := ⟨_, rfl⟩
          have h := gx_let e_y2_55 h
          refine lv_iinc (v := y2_55) (lv' := [(2, .int y2_55), (0, .ref z), (1, .int x1)]) hx hb dX10_choose_44 hl (k := 0) rfl (by rw [e_y2_55]; rfl) (by decide) rfl (fun ls hl => ?_)
          refine lv_goto (tgt := 29) hx hb dX10_choose_47 (by decide) ?_
          exact ih (y2_55, o_50, o_51, o_52, o_53) _ _ _ h ⟨hP, hD, hS, lv_sub (l' := [(2, .int y2_55), (0, .ref z), (1, .int x1)]) hl [0, 1, 2] rfl⟩
    · have h := gx_f c_8 h
      obtain ⟨r_56, hc_57, h⟩ := gx_b h
      refine gCalll (wr := [(z, .inr (9, [.int v_fault, .int v_size, .int v_upper, .int v_base, .ref z_isGood, .ref z_frozen, .ref z_sheetSize, .ref z_sheetLane, .ref z_sheet, .ref z_hands, .int v_wide, .long v_mask, .int v_paths, .ref z_seen, .ref z_work, .ref z_known, .ref z_next, .int v_come, .int v_isCounted, .ref z_counts, .ref z_acrosses, .ref z_failings, .int v_basis, .ref z_given, .int v_trace])), (z_isGood, .inl (cy 2, 32, .inl v_isGoodc)), (z_frozen, .inl (cy 0, 32, .inl v_frozenc))]) (va_runS (As := []) (rest := []) ⟨hx, hb, hml, hown, hts⟩ (c_X10_lost l D cy t H.size K r_56 hc_57) (va_cwS 0 hts gX10_choose_X10_lost rfl rfl rfl (by decide +kernel) ⟨Nat.le_of_ble_eq_true rfl, Nat.le_of_ble_eq_true rfl⟩) ⟨gBlind, fun U hU hW => ⟨rfl, gPre.call hK hG hA hP hD hS [] (by decide) rfl U hU hW⟩⟩ rfl rfl hl.1 rfl (lv_room (Nat.le_of_ble_eq_true rfl)) dX10_choose_23 ⟨Nat.le_of_ble_eq_true rfl, Nat.le_of_ble_eq_true rfl⟩) hA hP hD hS [] [0, 1, 2] rfl rfl (by decide) (by decide) (fun H locs hP hD hS => ?_)
      have hP : va_P D vwCl [(z, .inr (9, [.int v_fault, .int v_size, .int v_upper, .int v_base, .ref z_isGood, .ref z_frozen, .ref z_sheetSize, .ref z_sheetLane, .ref z_sheet, .ref z_hands, .int v_wide, .long v_mask, .int v_paths, .ref z_seen, .ref z_work, .ref z_known, .ref z_next, .int v_come, .int v_isCounted, .ref z_counts, .ref z_acrosses, .ref z_failings, .int v_basis, .ref z_given, .int v_trace])), (z_isGood, .inl (cy 2, 32, .inl v_isGoodc)), (z_frozen, .inl (cy 0, 32, .inl v_frozenc))] H := hP
      have hD : va_D A [(z, .inr (9, [.int v_fault, .int v_size, .int v_upper, .int v_base, .ref z_isGood, .ref z_frozen, .ref z_sheetSize, .ref z_sheetLane, .ref z_sheet, .ref z_hands, .int v_wide, .long v_mask, .int v_paths, .ref z_seen, .ref z_work, .ref z_known, .ref z_next, .int v_come, .int v_isCounted, .ref z_counts, .ref z_acrosses, .ref z_failings, .int v_basis, .ref z_given, .int v_trace])), (z_isGood, .inl (cy 2, 32, .inl v_isGoodc)), (z_frozen, .inl (cy 0, 32, .inl v_frozenc))] := hD
      cases h
      exact gRl hx hb hr hlocks hP hD hS dX10_choose_26

def fL_X10_goods_4 (K : Nat) (u0_1 : Int32) (u1 : Nat → Int32) : Nat → Int32 × Int32 → Option (Int32 × Int32)
  | 0, _ => none
  | k + 1, (l2, l1) =>
    if u0_1 ≤ l2 then
      some (l2, l1)
    else
      gIx l2 32 <|
      Option.bind (α := Int32) (
        if (u1 (Int32.toNatClampNeg l2)) = 0 then
          some 0
        else
          some 1) fun ms_2 =>
      gLet (l1 + ms_2) fun y1_4 =>
      gLet (l2 + 1) fun y2_5 =>
      fL_X10_goods_4 K u0_1 u1 k (y2_5, y1_4)
def f_X10_goods (K : Nat) (v_size : Int32) (v_isGoodc : Nat → Int32) : Option (Int32) :=
  Option.bind (fL_X10_goods_4 K v_size v_isGoodc K (0, 0)) fun (o_6, o_7) =>
  some o_7
set_option maxHeartbeats 4000000 in
set_option maxRecDepth 100000 in
theorem c_X10_goods (l : Launch) (D : va_G) (cy : Nat → ClassId) (t sz K : Nat) (z : Nat) (z_isGood : Nat) (z_frozen : Nat) (z_sheetSize : Nat) (z_sheetLane : Nat) (z_sheet : Nat) (z_hands : Nat) (z_seen : Nat) (z_work : Nat) (z_known : Nat) (z_next : Nat) (z_counts : Nat) (z_acrosses : Nat) (z_failings : Nat) (z_given : Nat) (v_fault : Int32) (v_size : Int32) (v_upper : Int32) (v_base : Int32) (v_wide : Int32) (v_mask : Int64) (v_paths : Int32) (v_come : Int32) (v_isCounted : Int32) (v_basis : Int32) (v_trace : Int32) (v_isGoodc : Nat → Int32) (r_ : Int32) (h : f_X10_goods K v_size v_isGoodc = some r_) : gMi l D cy t sz yX10_goods wsX10_goods 0 0 [.ref z] [(z, .inr (9, [.int v_fault, .int v_size, .int v_upper, .int v_base, .ref z_isGood, .ref z_frozen, .ref z_sheetSize, .ref z_sheetLane, .ref z_sheet, .ref z_hands, .int v_wide, .long v_mask, .int v_paths, .ref z_seen, .ref z_work, .ref z_known, .ref z_next, .int v_come, .int v_isCounted, .ref z_counts, .ref z_acrosses, .ref z_failings, .int v_basis, .ref z_given, .int v_trace])), (z_isGood, .inl (cy 2, 32, .inl v_isGoodc))] r_ [(z, .inr (9, [.int v_fault, .int v_size, .int v_upper, .int v_base, .ref z_isGood, .ref z_frozen, .ref z_sheetSize, .ref z_sheetLane, .ref z_sheet, .ref z_hands, .int v_wide, .long v_mask, .int v_paths, .ref z_seen, .ref z_work, .ref z_known, .ref z_next, .int v_come, .int v_isCounted, .ref z_counts, .ref z_acrosses, .ref z_failings, .int v_basis, .ref z_given, .int v_trace])), (z_isGood, .inl (cy 2, 32, .inl v_isGoodc))] := by
  refine gBi (cc := cX10_goods) (maxL := 3) (ret := (some .int)) (by decide) rfl (Nat.le_of_ble_eq_true rfl) ?_
  intro p e s m below meth c A ls hAt hl
  obtain ⟨hx, hb, hml, hr, hts, hown, hlocks, hin, hK, hG, hA, hP, hD⟩ := hAt
  have hS : va_S A s.heap s.heap [] := va_S.rf
  have hl : lv_has ls 3 [(0, .ref z)] := hl
  have f54 := hts (.fieldLink RX10 54 "PlainLinesModel" "size" "I") (by decide +kernel)
  have iX10 := (by decide +kernel : ∀ w ∈ u_ws RX10 TX10 25, w ∈ wsX10_goods)
  have f7 := hts (.fieldLink RX10 7 "PlainLinesModel" "isGood" "[Z") (by decide +kernel)
  rw [f_X10_goods] at h
  refine lv_iconst (v := 0) hx hb dX10_goods_0 (by decide) ?_
  refine lv_istore_n (lv' := [(1, .int 0), (0, .ref z)]) hx hb dX10_goods_1 rfl hl (by decide) rfl (fun ls hl => ?_)
  refine lv_iconst (v := 0) hx hb dX10_goods_2 (by decide) ?_
  refine lv_istore_n (lv' := [(2, .int 0), (1, .int 0), (0, .ref z)]) hx hb dX10_goods_3 rfl hl (by decide) rfl (fun ls hl => ?_)
  obtain ⟨⟨o_1, o_2⟩, hL_3, h⟩ := gx_b h
  refine gJoin (Pj := fun H locs ls => va_P D vwCl [(z, .inr (9, [.int v_fault, .int v_size, .int v_upper, .int v_base, .ref z_isGood, .ref z_frozen, .ref z_sheetSize, .ref z_sheetLane, .ref z_sheet, .ref z_hands, .int v_wide, .long v_mask, .int v_paths, .ref z_seen, .ref z_work, .ref z_known, .ref z_next, .int v_come, .int v_isCounted, .ref z_counts, .ref z_acrosses, .ref z_failings, .int v_basis, .ref z_given, .int v_trace])), (z_isGood, .inl (cy 2, 32, .inl v_isGoodc))] H ∧ va_D A [(z, .inr (9, [.int v_fault, .int v_size, .int v_upper, .int v_base, .ref z_isGood, .ref z_frozen, .ref z_sheetSize, .ref z_sheetLane, .ref z_sheet, .ref z_hands, .int v_wide, .long v_mask, .int v_paths, .ref z_seen, .ref z_work, .ref z_known, .ref z_next, .int v_come, .int v_isCounted, .ref z_counts, .ref z_acrosses, .ref z_failings, .int v_basis, .ref z_given, .int v_trace])), (z_isGood, .inl (cy 2, 32, .inl v_isGoodc))] ∧ va_S A s.heap H locs ∧ lv_has ls 3 [(2, .int o_1), (1, .int o_2), (0, .ref z)]) (pcM := 35) (st := []) ?_ (fun hJ35 => ?_)
  · intro H locs ls hp_
    obtain ⟨hP, hD, hS, hl⟩ := hp_
    clear hL_3
    refine lv_iload_n hx hb dX10_goods_35 rfl (lv_at hl 1 rfl) ?_
    cases h
    exact gRi hx hb hr hlocks hP hD hS dX10_goods_36
  · refine gLoop (Hy := fun k_ v_ => fL_X10_goods_4 K v_size v_isGoodc k_ v_ = some (o_1, o_2)) (Pl := fun (v_ : Int32 × Int32) H locs ls => match v_ with | (a_4, a_5) => va_P D vwCl [(z, .inr (9, [.int v_fault, .int v_size, .int v_upper, .int v_base, .ref z_isGood, .ref z_frozen, .ref z_sheetSize, .ref z_sheetLane, .ref z_sheet, .ref z_hands, .int v_wide, .long v_mask, .int v_paths, .ref z_seen, .ref z_work, .ref z_known, .ref z_next, .int v_come, .int v_isCounted, .ref z_counts, .ref z_acrosses, .ref z_failings, .int v_basis, .ref z_given, .int v_trace])), (z_isGood, .inl (cy 2, 32, .inl v_isGoodc))] H ∧ va_D A [(z, .inr (9, [.int v_fault, .int v_size, .int v_upper, .int v_base, .ref z_isGood, .ref z_frozen, .ref z_sheetSize, .ref z_sheetLane, .ref z_sheet, .ref z_hands, .int v_wide, .long v_mask, .int v_paths, .ref z_seen, .ref z_work, .ref z_known, .ref z_next, .int v_come, .int v_isCounted, .ref z_counts, .ref z_acrosses, .ref z_failings, .int v_basis, .ref z_given, .int v_trace])), (z_isGood, .inl (cy 2, 32, .inl v_isGoodc))] ∧ va_S A s.heap H locs ∧ lv_has ls 3 [(2, .int a_4), (1, .int a_5), (0, .ref z)]) (pcH := 4) (fun _ q_ => by cases q_) ?_ K (0, 0) hL_3 ⟨hP, hD, hS, hl⟩
    clear hL_3 h hP hD hS hl
    intro k_ ih ⟨a_4, a_5⟩ H locs ls h hp_
    obtain ⟨hP, hD, hS, hl⟩ := hp_
    have hP : va_P D vwCl [(z, .inr (9, [.int v_fault, .int v_size, .int v_upper, .int v_base, .ref z_isGood, .ref z_frozen, .ref z_sheetSize, .ref z_sheetLane, .ref z_sheet, .ref z_hands, .int v_wide, .long v_mask, .int v_paths, .ref z_seen, .ref z_work, .ref z_known, .ref z_next, .int v_come, .int v_isCounted, .ref z_counts, .ref z_acrosses, .ref z_failings, .int v_basis, .ref z_given, .int v_trace])), (z_isGood, .inl (cy 2, 32, .inl v_isGoodc))] H := hP
    have hD : va_D A [(z, .inr (9, [.int v_fault, .int v_size, .int v_upper, .int v_base, .ref z_isGood, .ref z_frozen, .ref z_sheetSize, .ref z_sheetLane, .ref z_sheet, .ref z_hands, .int v_wide, .long v_mask, .int v_paths, .ref z_seen, .ref z_work, .ref z_known, .ref z_next, .int v_come, .int v_isCounted, .ref z_counts, .ref z_acrosses, .ref z_failings, .int v_basis, .ref z_given, .int v_trace])), (z_isGood, .inl (cy 2, 32, .inl v_isGoodc))] := hD
    have hl : lv_has ls 3 [(2, .int a_4), (1, .int a_5), (0, .ref z)] := hl
    change fL_X10_goods_4 K v_size v_isGoodc (k_ + 1) (a_4, a_5) = _ at h
    rw [fL_X10_goods_4] at h
    refine lv_iload_n hx hb dX10_goods_4 rfl (lv_at hl 0 rfl) ?_
    refine lv_aload_n hx hb dX10_goods_5 rfl (lv_at hl 2 rfl) ?_
    refine va_get (D := D) (ci := 9) (v := .int v_size) (C := RX10) (T := TX10) (N := 25) hx hb hts iX10 hown hK hP 0 rfl rfl 1 (by decide) f54 (fun _ h9 => h9) rfl dX10_goods_6 ?_
    refine lv_icmp_ge (tgt := 35) hx hb dX10_goods_9 (by decide) (fun c_6 => ?_) (fun c_6 => ?_)
    · have h := gx_t c_6 h
      have hl := lv_sub (l' := [(2, .int a_4), (1, .int a_5), (0, .ref z)]) hl [0, 1, 2] rfl
      cases h
      exact hJ35 _ _ _ ⟨hP, hD, hS, hl⟩
    · have h := gx_f c_6 h
      refine lv_iload_n hx hb dX10_goods_12 rfl (lv_at hl 1 rfl) ?_
      refine lv_aload_n hx hb dX10_goods_13 rfl (lv_at hl 2 rfl) ?_
      refine va_get (D := D) (ci := 9) (v := .ref z_isGood) (C := RX10) (T := TX10) (N := 25) hx hb hts iX10 hown hK hP 0 rfl rfl 4 (by decide) f7 (fun _ h9 => h9) rfl dX10_goods_14 ?_
      refine lv_iload_n hx hb dX10_goods_17 rfl (lv_at hl 0 rfl) ?_
      obtain ⟨hi_, h⟩ := gx_ix h
      refine va_zald hx hb hK hP 1 2 rfl rfl hi_ dX10_goods_18 ?_
      obtain ⟨ms_7, hR_8, h⟩ := gx_b h
      refine gJoin (Pj := fun H locs ls => va_P D vwCl [(z, .inr (9, [.int v_fault, .int v_size, .int v_upper, .int v_base, .ref z_isGood, .ref z_frozen, .ref z_sheetSize, .ref z_sheetLane, .ref z_sheet, .ref z_hands, .int v_wide, .long v_mask, .int v_paths, .ref z_seen, .ref z_work, .ref z_known, .ref z_next, .int v_come, .int v_isCounted, .ref z_counts, .ref z_acrosses, .ref z_failings, .int v_basis, .ref z_given, .int v_trace])), (z_isGood, .inl (cy 2, 32, .inl v_isGoodc))] H ∧ va_D A [(z, .inr (9, [.int v_fault, .int v_size, .int v_upper, .int v_base, .ref z_isGood, .ref z_frozen, .ref z_sheetSize, .ref z_sheetLane, .ref z_sheet, .ref z_hands, .int v_wide, .long v_mask, .int v_paths, .ref z_seen, .ref z_work, .ref z_known, .ref z_next, .int v_come, .int v_isCounted, .ref z_counts, .ref z_acrosses, .ref z_failings, .int v_basis, .ref z_given, .int v_trace])), (z_isGood, .inl (cy 2, 32, .inl v_isGoodc))] ∧ va_S A s.heap H locs ∧ lv_has ls 3 [(2, .int a_4), (1, .int a_5), (0, .ref z)]) (pcM := 27) (st := [.int ms_7, .int a_5]) ?_ (fun hJ27 => ?_)
      · intro H locs ls hp_
        obtain ⟨hP, hD, hS, hl⟩ := hp_
        clear hR_8
        refine lv_iadd hx hb dX10_goods_27 ?_
        refine lv_topi (fun y1_9 e_y1_9 => ?_)
        have h := gx_let e_y1_9 h
        refine lv_istore_n (lv' := [(1, .int y1_9), (2, .int a_4), (0, .ref z)]) hx hb dX10_goods_28 rfl hl (by decide) rfl (fun ls hl => ?_)
        obtain ⟨y2_10, e_y2_10⟩ : ∃ y : Int32, y = (a_4 + 1) := ⟨_, rfl⟩
        have h := gx_let e_y2_10 h
        refine lv_iinc (v := y2_10) (lv' := [(2, .int y2_10), (1, .int y1_9), (0, .ref z)]) hx hb dX10_goods_29 hl (k := 1) rfl (by rw [e_y2_10]; rfl) (by decide) rfl (fun ls hl => ?_)
        refine lv_goto (tgt := 4) hx hb dX10_goods_32 (by decide) ?_
        exact ih (y2_10, y1_9) _ _ _ h ⟨hP, hD, hS, lv_sub (l' := [(2, .int y2_10), (1, .int y1_9), (0, .ref z)]) hl [0, 1, 2] rfl⟩
      · have h := hR_8
        refine lv_if_eq (tgt := 26) hx hb dX10_goods_19 (by decide) (fun c_11 => ?_) (fun c_11 => ?_)
        · have h := gx_t c_11 h
          refine lv_iconst (v := 0) hx hb dX10_goods_26 (by decide) ?_
          have hl := lv_sub (l' := [(2, .int a_4), (1, .int a_5), (0, .ref z)]) hl [0, 1, 2] rfl
          cases h
          exact hJ27 _ _ _ ⟨hP, hD, hS, hl⟩
        · have h := gx_f c_11 h
          refine lv_iconst (v := 1) hx hb dX10_goods_22 (by decide) ?_
          refine lv_goto (tgt := 27) hx hb dX10_goods_23 (by decide) ?_
          have hl := lv_sub (l' := [(2, .int a_4), (1, .int a_5), (0, .ref z)]) hl [0, 1, 2] rfl
          cases h
          exact hJ27 _ _ _ ⟨hP, hD, hS, hl⟩
