def f_X10_faultOf (K : Nat) (x1 : Int32) (x2 : Int32) (v_size : Int32) (v_sheetSizec : Nat → Int32) (v_sheetLanec : Nat → Int32) : Option (Int32) :=
  gIx x1 4 <|
  if (v_sheetSizec (Int32.toNatClampNeg x1)) < 0 then
    gIx x1 4 <|
    if 0 ≤ (v_sheetSizec (Int32.toNatClampNeg x1)) then
      gIx x1 4 <|
      if v_size ≤ (v_sheetSizec (Int32.toNatClampNeg x1)) then
        some 0
      else
        some 3
    else
      some 1
  else
    gIx x1 4 <|
    if (v_sheetLanec (Int32.toNatClampNeg x1)) = x2 then
      gIx x1 4 <|
      if 0 ≤ (v_sheetSizec (Int32.toNatClampNeg x1)) then
        gIx x1 4 <|
        if v_size ≤ (v_sheetSizec (Int32.toNatClampNeg x1)) then
          some 0
        else
          some 3
      else
        some 1
    else
      some 2
set_option maxHeartbeats 4000000 in
set_option maxRecDepth 100000 in
theorem c_X10_faultOf (l : Launch) (D : va_G) (cy : Nat → ClassId) (t sz K : Nat) (z : Nat) (z_sheetSize : Nat) (z_sheetLane : Nat) (z_isGood : Nat) (z_frozen : Nat) (z_sheet : Nat) (z_hands : Nat) (z_seen : Nat) (z_work : Nat) (z_known : Nat) (z_next : Nat) (z_counts : Nat) (z_acrosses : Nat) (z_failings : Nat) (z_given : Nat) (v_fault : Int32) (v_size : Int32) (v_upper : Int32) (v_base : Int32) (v_wide : Int32) (v_mask : Int64) (v_paths : Int32) (v_come : Int32) (v_isCounted : Int32) (v_basis : Int32) (v_trace : Int32) (v_sheetSizec : Nat → Int32) (v_sheetLanec : Nat → Int32) (x1 : Int32) (x2 : Int32) (r_ : Int32) (h : f_X10_faultOf K x1 x2 v_size v_sheetSizec v_sheetLanec = some r_) : gMi l D cy t sz yX10_faultOf wsX10_faultOf 0 0 [.ref z, .int x1, .int x2] [(z, .inr (9, [.int v_fault, .int v_size, .int v_upper, .int v_base, .ref z_isGood, .ref z_frozen, .ref z_sheetSize, .ref z_sheetLane, .ref z_sheet, .ref z_hands, .int v_wide, .long v_mask, .int v_paths, .ref z_seen, .ref z_work, .ref z_known, .ref z_next, .int v_come, .int v_isCounted, .ref z_counts, .ref z_acrosses, .ref z_failings, .int v_basis, .ref z_given, .int v_trace])), (z_sheetSize, .inl (cy 0, 4, .inl v_sheetSizec)), (z_sheetLane, .inl (cy 0, 4, .inl v_sheetLanec))] r_ [(z, .inr (9, [.int v_fault, .int v_size, .int v_upper, .int v_base, .ref z_isGood, .ref z_frozen, .ref z_sheetSize, .ref z_sheetLane, .ref z_sheet, .ref z_hands, .int v_wide, .long v_mask, .int v_paths, .ref z_seen, .ref z_work, .ref z_known, .ref z_next, .int v_come, .int v_isCounted, .ref z_counts, .ref z_acrosses, .ref z_failings, .int v_basis, .ref z_given, .int v_trace])), (z_sheetSize, .inl (cy 0, 4, .inl v_sheetSizec)), (z_sheetLane, .inl (cy 0, 4, .inl v_sheetLanec))] := by
  refine gBi (cc := cX10_faultOf) (maxL := 3) (ret := (some .int)) (by decide) rfl (Nat.le_of_ble_eq_true rfl) ?_
  intro p e s m below meth c A ls hAt hl
  obtain ⟨hx, hb, hml, hr, hts, hown, hlocks, hin, hK, hG, hA, hP, hD⟩ := hAt
  have hS : va_S A s.heap s.heap [] := va_S.rf
  have hl : lv_has ls 3 [(0, .ref z), (1, .int x1), (2, .int x2)] := hl
  have f17 := hts (.fieldLink RX10 17 "PlainLinesModel" "sheetSize" "[I") (by decide +kernel)
  have iX10 := (by decide +kernel : ∀ w ∈ u_ws RX10 TX10 25, w ∈ wsX10_faultOf)
  have f54 := hts (.fieldLink RX10 54 "PlainLinesModel" "size" "I") (by decide +kernel)
  have f20 := hts (.fieldLink RX10 20 "PlainLinesModel" "sheetLane" "[I") (by decide +kernel)
  rw [f_X10_faultOf] at h
  refine lv_aload_n hx hb dX10_faultOf_0 rfl (lv_at hl 0 rfl) ?_
  refine va_get (D := D) (ci := 9) (v := .ref z_sheetSize) (C := RX10) (T := TX10) (N := 25) hx hb hts iX10 hown hK hP 0 rfl rfl 6 (by decide) f17 (fun _ h9 => h9) rfl dX10_faultOf_1 ?_
  refine lv_iload_n hx hb dX10_faultOf_4 rfl (lv_at hl 1 rfl) ?_
  obtain ⟨hi_, h⟩ := gx_ix h
  refine va_iald hx hb hK hP 1 0 rfl rfl hi_ dX10_faultOf_5 ?_
  refine lv_if_lt (tgt := 21) hx hb dX10_faultOf_6 (by decide) (fun c_1 => ?_) (fun c_1 => ?_)
  · have h := gx_t c_1 h
    refine lv_aload_n hx hb dX10_faultOf_21 rfl (lv_at hl 0 rfl) ?_
    refine va_get (D := D) (ci := 9) (v := .ref z_sheetSize) (C := RX10) (T := TX10) (N := 25) hx hb hts iX10 hown hK hP 0 rfl rfl 6 (by decide) f17 (fun _ h9 => h9) rfl dX10_faultOf_22 ?_
    refine lv_iload_n hx hb dX10_faultOf_25 rfl (lv_at hl 1 rfl) ?_
    obtain ⟨hi_, h⟩ := gx_ix h
    refine va_iald hx hb hK hP 1 0 rfl rfl hi_ dX10_faultOf_26 ?_
    refine lv_if_ge (tgt := 34) hx hb dX10_faultOf_27 (by decide) (fun c_2 => ?_) (fun c_2 => ?_)
    · have h := gx_t c_2 h
      refine lv_aload_n hx hb dX10_faultOf_34 rfl (lv_at hl 0 rfl) ?_
      refine va_get (D := D) (ci := 9) (v := .ref z_sheetSize) (C := RX10) (T := TX10) (N := 25) hx hb hts iX10 hown hK hP 0 rfl rfl 6 (by decide) f17 (fun _ h9 => h9) rfl dX10_faultOf_35 ?_
      refine lv_iload_n hx hb dX10_faultOf_38 rfl (lv_at hl 1 rfl) ?_
      obtain ⟨hi_, h⟩ := gx_ix h
      refine va_iald hx hb hK hP 1 0 rfl rfl hi_ dX10_faultOf_39 ?_
      refine lv_aload_n hx hb dX10_faultOf_40 rfl (lv_at hl 0 rfl) ?_
      refine va_get (D := D) (ci := 9) (v := .int v_size) (C := RX10) (T := TX10) (N := 25) hx hb hts iX10 hown hK hP 0 rfl rfl 1 (by decide) f54 (fun _ h9 => h9) rfl dX10_faultOf_41 ?_
      refine lv_icmp_ge (tgt := 51) hx hb dX10_faultOf_44 (by decide) (fun c_3 => ?_) (fun c_3 => ?_)
      · have h := gx_t c_3 h
        refine lv_iconst (v := 0) hx hb dX10_faultOf_51 (by decide) ?_
        cases h
        exact gRi hx hb hr hlocks hP hD hS dX10_faultOf_52
      · have h := gx_f c_3 h
        refine lv_iconst (v := 3) hx hb dX10_faultOf_47 (by decide) ?_
        refine lv_goto (tgt := 52) hx hb dX10_faultOf_48 (by decide) ?_
        cases h
        exact gRi hx hb hr hlocks hP hD hS dX10_faultOf_52
    · have h := gx_f c_2 h
      refine lv_iconst (v := 1) hx hb dX10_faultOf_30 (by decide) ?_
      refine lv_goto (tgt := 52) hx hb dX10_faultOf_31 (by decide) ?_
      cases h
      exact gRi hx hb hr hlocks hP hD hS dX10_faultOf_52
  · have h := gx_f c_1 h
    refine lv_aload_n hx hb dX10_faultOf_9 rfl (lv_at hl 0 rfl) ?_
    refine va_get (D := D) (ci := 9) (v := .ref z_sheetLane) (C := RX10) (T := TX10) (N := 25) hx hb hts iX10 hown hK hP 0 rfl rfl 7 (by decide) f20 (fun _ h9 => h9) rfl dX10_faultOf_10 ?_
    refine lv_iload_n hx hb dX10_faultOf_13 rfl (lv_at hl 1 rfl) ?_
    obtain ⟨hi_, h⟩ := gx_ix h
    refine va_iald hx hb hK hP 2 0 rfl rfl hi_ dX10_faultOf_14 ?_
    refine lv_iload_n hx hb dX10_faultOf_15 rfl (lv_at hl 2 rfl) ?_
    refine lv_icmp_eq (tgt := 21) hx hb dX10_faultOf_16 (by decide) (fun c_4 => ?_) (fun c_4 => ?_)
    · have h := gx_t c_4 h
      refine lv_aload_n hx hb dX10_faultOf_21 rfl (lv_at hl 0 rfl) ?_
      refine va_get (D := D) (ci := 9) (v := .ref z_sheetSize) (C := RX10) (T := TX10) (N := 25) hx hb hts iX10 hown hK hP 0 rfl rfl 6 (by decide) f17 (fun _ h9 => h9) rfl dX10_faultOf_22 ?_
      refine lv_iload_n hx hb dX10_faultOf_25 rfl (lv_at hl 1 rfl) ?_
      obtain ⟨hi_, h⟩ := gx_ix h
      refine va_iald hx hb hK hP 1 0 rfl rfl hi_ dX10_faultOf_26 ?_
      refine lv_if_ge (tgt := 34) hx hb dX10_faultOf_27 (by decide) (fun c_5 => ?_) (fun c_5 => ?_)
      · have h := gx_t c_5 h
        refine lv_aload_n hx hb dX10_faultOf_34 rfl (lv_at hl 0 rfl) ?_
        refine va_get (D := D) (ci := 9) (v := .ref z_sheetSize) (C := RX10) (T := TX10) (N := 25) hx hb hts iX10 hown hK hP 0 rfl rfl 6 (by decide) f17 (fun _ h9 => h9) rfl dX10_faultOf_35 ?_
        refine lv_iload_n hx hb dX10_faultOf_38 rfl (lv_at hl 1 rfl) ?_
        obtain ⟨hi_, h⟩ := gx_ix h
        refine va_iald hx hb hK hP 1 0 rfl rfl hi_ dX10_faultOf_39 ?_
        refine lv_aload_n hx hb dX10_faultOf_40 rfl (lv_at hl 0 rfl) ?_
        refine va_get (D := D) (ci := 9) (v := .int v_size) (C := RX10) (T := TX10) (N := 25) hx hb hts iX10 hown hK hP 0 rfl rfl 1 (by decide) f54 (fun _ h9 => h9) rfl dX10_faultOf_41 ?_
        refine lv_icmp_ge (tgt := 51) hx hb dX10_faultOf_44 (by decide) (fun c_6 => ?_) (fun c_6 => ?_)
        · have h := gx_t c_6 h
          refine lv_iconst (v := 0) hx hb dX10_faultOf_51 (by decide) ?_
          cases h
          exact gRi hx hb hr hlocks hP hD hS dX10_faultOf_52
        · have h := gx_f c_6 h
          refine lv_iconst (v := 3) hx hb dX10_faultOf_47 (by decide) ?_
          refine lv_goto (tgt := 52) hx hb dX10_faultOf_48 (by decide) ?_
          cases h
          exact gRi hx hb hr hlocks hP hD hS dX10_faultOf_52
      · have h := gx_f c_5 h
        refine lv_iconst (v := 1) hx hb dX10_faultOf_30 (by decide) ?_
        refine lv_goto (tgt := 52) hx hb dX10_faultOf_31 (by decide) ?_
        cases h
        exact gRi hx hb hr hlocks hP hD hS dX10_faultOf_52
    · have h := gx_f c_4 h
      refine lv_iconst (v := 2) hx hb dX10_faultOf_19 (by decide) ?_
      cases h
      exact gRi hx hb hr hlocks hP hD hS dX10_faultOf_20

def fL_X10_laySeen_2 (K : Nat) (l1 : Int32) (u0_1 : Int32) (u1 : Nat → Int64) : Nat → Int32 × (Nat → Int32) → Option (Int32 × (Nat → Int32))
  | 0, _ => none
  | k + 1, (l2, u2) =>
    if u0_1 ≤ l2 then
      some (l2, u2)
    else
      gIx ((40 * l1) + l2) 160 <|
      gLet (u1 (Int32.toNatClampNeg ((40 * l1) + l2))) fun y3_9 =>
      Option.bind (α := Int32) (
        if (lg_cmp y3_9 0) = 0 then
          some 0
        else
          if (lg_cmp y3_9 1) = 0 then
            some 1
          else
            some 2) fun ms_10 =>
      gIx l2 32 <|
      gLet (upd u2 (Int32.toNatClampNeg l2) ms_10) fun w_13 =>
      gLet (l2 + 1) fun y2_14 =>
      fL_X10_laySeen_2 K l1 u0_1 u1 k (y2_14, w_13)
def f_X10_laySeen (K : Nat) (x1 : Int32) (v_size : Int32) (v_sheetc : Nat → Int64) (v_seenc : Nat → Int32) : Option ((Nat → Int32)) :=
  Option.bind (fL_X10_laySeen_2 K x1 v_size v_sheetc K (0, v_seenc)) fun (o_15, o_16) =>
  some o_16
set_option maxHeartbeats 4000000 in
set_option maxRecDepth 100000 in
theorem c_X10_laySeen (l : Launch) (D : va_G) (cy : Nat → ClassId) (t sz K : Nat) (z : Nat) (z_sheet : Nat) (z_seen : Nat) (z_isGood : Nat) (z_frozen : Nat) (z_sheetSize : Nat) (z_sheetLane : Nat) (z_hands : Nat) (z_work : Nat) (z_known : Nat) (z_next : Nat) (z_counts : Nat) (z_acrosses : Nat) (z_failings : Nat) (z_given : Nat) (v_fault : Int32) (v_size : Int32) (v_upper : Int32) (v_base : Int32) (v_wide : Int32) (v_mask : Int64) (v_paths : Int32) (v_come : Int32) (v_isCounted : Int32) (v_basis : Int32) (v_trace : Int32) (v_sheetc : Nat → Int64) (v_seenc : Nat → Int32) (x1 : Int32) (o_v_seenc : Nat → Int32) (h : f_X10_laySeen K x1 v_size v_sheetc v_seenc = some o_v_seenc) : gMv l D cy t sz yX10_laySeen wsX10_laySeen 0 0 [.ref z, .int x1] [(z, .inr (9, [.int v_fault, .int v_size, .int v_upper, .int v_base, .ref z_isGood, .ref z_frozen, .ref z_sheetSize, .ref z_sheetLane, .ref z_sheet, .ref z_hands, .int v_wide, .long v_mask, .int v_paths, .ref z_seen, .ref z_work, .ref z_known, .ref z_next, .int v_come, .int v_isCounted, .ref z_counts, .ref z_acrosses, .ref z_failings, .int v_basis, .ref z_given, .int v_trace])), (z_sheet, .inl (cy 1, 160, .inr (.inl v_sheetc))), (z_seen, .inl (cy 0, 32, .inl v_seenc))] [(z, .inr (9, [.int v_fault, .int v_size, .int v_upper, .int v_base, .ref z_isGood, .ref z_frozen, .ref z_sheetSize, .ref z_sheetLane, .ref z_sheet, .ref z_hands, .int v_wide, .long v_mask, .int v_paths, .ref z_seen, .ref z_work, .ref z_known, .ref z_next, .int v_come, .int v_isCounted, .ref z_counts, .ref z_acrosses, .ref z_failings, .int v_basis, .ref z_given, .int v_trace])), (z_sheet, .inl (cy 1, 160, .inr (.inl v_sheetc))), (z_seen, .inl (cy 0, 32, .inl o_v_seenc))] := by
  refine gBv (cc := cX10_laySeen) (maxL := 5) (ret := none) (by decide) rfl (Nat.le_of_ble_eq_true rfl) ?_
  intro p e s m below meth c A ls hAt hl
  obtain ⟨hx, hb, hml, hr, hts, hown, hlocks, hin, hK, hG, hA, hP, hD⟩ := hAt
  have hS : va_S A s.heap s.heap [] := va_S.rf
  have hl : lv_has ls 5 [(0, .ref z), (1, .int x1)] := hl
  have f54 := hts (.fieldLink RX10 54 "PlainLinesModel" "size" "I") (by decide +kernel)
  have iX10 := (by decide +kernel : ∀ w ∈ u_ws RX10 TX10 25, w ∈ wsX10_laySeen)
  have f23 := hts (.fieldLink RX10 23 "PlainLinesModel" "sheet" "[J") (by decide +kernel)
  have f30 := hts (.fieldLink RX10 30 "PlainLinesModel" "seen" "[I") (by decide +kernel)
  rw [f_X10_laySeen] at h
  refine lv_iconst (v := 0) hx hb dX10_laySeen_0 (by decide) ?_
  refine lv_istore_n (lv' := [(2, .int 0), (0, .ref z), (1, .int x1)]) hx hb dX10_laySeen_1 rfl hl (by decide) rfl (fun ls hl => ?_)
  obtain ⟨⟨o_1, o_2⟩, hL_3, h⟩ := gx_b h
  refine gJoin (Pj := fun H locs ls => va_P D vwCl [(z, .inr (9, [.int v_fault, .int v_size, .int v_upper, .int v_base, .ref z_isGood, .ref z_frozen, .ref z_sheetSize, .ref z_sheetLane, .ref z_sheet, .ref z_hands, .int v_wide, .long v_mask, .int v_paths, .ref z_seen, .ref z_work, .ref z_known, .ref z_next, .int v_come, .int v_isCounted, .ref z_counts, .ref z_acrosses, .ref z_failings, .int v_basis, .ref z_given, .int v_trace])), (z_sheet, .inl (cy 1, 160, .inr (.inl v_sheetc))), (z_seen, .inl (cy 0, 32, .inl o_2))] H ∧ va_D A [(z, .inr (9, [.int v_fault, .int v_size, .int v_upper, .int v_base, .ref z_isGood, .ref z_frozen, .ref z_sheetSize, .ref z_sheetLane, .ref z_sheet, .ref z_hands, .int v_wide, .long v_mask, .int v_paths, .ref z_seen, .ref z_work, .ref z_known, .ref z_next, .int v_come, .int v_isCounted, .ref z_counts, .ref z_acrosses, .ref z_failings, .int v_basis, .ref z_given, .int v_trace])), (z_sheet, .inl (cy 1, 160, .inr (.inl v_sheetc))), (z_seen, .inl (cy 0, 32, .inl o_2))] ∧ va_S A s.heap H locs ∧ lv_has ls 5 [(2, .int o_1), (0, .ref z), (1, .int x1)]) (pcM := 55) (st := []) ?_ (fun hJ55 => ?_)
  · intro H locs ls hp_
    obtain ⟨hP, hD, hS, hl⟩ := hp_
    clear hL_3
    cases h
    exact gRv hx hb hr hlocks hP hD hS dX10_laySeen_55
  · refine gLoop (Hy := fun k_ v_ => fL_X10_laySeen_2 K x1 v_size v_sheetc k_ v_ = some (o_1, o_2)) (Pl := fun (v_ : Int32 × (Nat → Int32)) H locs ls => match v_ with | (a_4, a_5) => va_P D vwCl [(z, .inr (9, [.int v_fault, .int v_size, .int v_upper, .int v_base, .ref z_isGood, .ref z_frozen, .ref z_sheetSize, .ref z_sheetLane, .ref z_sheet, .ref z_hands, .int v_wide, .long v_mask, .int v_paths, .ref z_seen, .ref z_work, .ref z_known, .ref z_next, .int v_come, .int v_isCounted, .ref z_counts, .ref z_acrosses, .ref z_failings, .int v_basis, .ref z_given, .int v_trace])), (z_sheet, .inl (cy 1, 160, .inr (.inl v_sheetc))), (z_seen, .inl (cy 0, 32, .inl a_5))] H ∧ va_D A [(z, .inr (9, [.int v_fault, .int v_size, .int v_upper, .int v_base, .ref z_isGood, .ref z_frozen, .ref z_sheetSize, .ref z_sheetLane, .ref z_sheet, .ref z_hands, .int v_wide, .long v_mask, .int v_paths, .ref z_seen, .ref z_work, .ref z_known, .ref z_next, .int v_come, .int v_isCounted, .ref z_counts, .ref z_acrosses, .ref z_failings, .int v_basis, .ref z_given, .int v_trace])), (z_sheet, .inl (cy 1, 160, .inr (.inl v_sheetc))), (z_seen, .inl (cy 0, 32, .inl a_5))] ∧ va_S A s.heap H locs ∧ lv_has ls 5 [(2, .int a_4), (0, .ref z), (1, .int x1)]) (pcH := 2) (fun _ q_ => by cases q_) ?_ K (0, v_seenc) hL_3 ⟨hP, hD, hS, hl⟩
    clear hL_3 h hP hD hS hl
    intro k_ ih ⟨a_4, a_5⟩ H locs ls h hp_
    obtain ⟨hP, hD, hS, hl⟩ := hp_
    have hP : va_P D vwCl [(z, .inr (9, [.int v_fault, .int v_size, .int v_upper, .int v_base, .ref z_isGood, .ref z_frozen, .ref z_sheetSize, .ref z_sheetLane, .ref z_sheet, .ref z_hands, .int v_wide, .long v_mask, .int v_paths, .ref z_seen, .ref z_work, .ref z_known, .ref z_next, .int v_come, .int v_isCounted, .ref z_counts, .ref z_acrosses, .ref z_failings, .int v_basis, .ref z_given, .int v_trace])), (z_sheet, .inl (cy 1, 160, .inr (.inl v_sheetc))), (z_seen, .inl (cy 0, 32, .inl a_5))] H := hP
    have hD : va_D A [(z, .inr (9, [.int v_fault, .int v_size, .int v_upper, .int v_base, .ref z_isGood, .ref z_frozen, .ref z_sheetSize, .ref z_sheetLane, .ref z_sheet, .ref z_hands, .int v_wide, .long v_mask, .int v_paths, .ref z_seen, .ref z_work, .ref z_known, .ref z_next, .int v_come, .int v_isCounted, .ref z_counts, .ref z_acrosses, .ref z_failings, .int v_basis, .ref z_given, .int v_trace])), (z_sheet, .inl (cy 1, 160, .inr (.inl v_sheetc))), (z_seen, .inl (cy 0, 32, .inl a_5))] := hD
    have hl : lv_has ls 5 [(2, .int a_4), (0, .ref z), (1, .int x1)] := hl
    change fL_X10_laySeen_2 K x1 v_size v_sheetc (k_ + 1) (a_4, a_5) = _ at h
    rw [fL_X10_laySeen_2] at h
    refine lv_iload_n hx hb dX10_laySeen_2 rfl (lv_at hl 0 rfl) ?_
    refine lv_aload_n hx hb dX10_laySeen_3 rfl (lv_at hl 1 rfl) ?_
    refine va_get (D := D) (ci := 9) (v := .int v_size) (C := RX10) (T := TX10) (N := 25) hx hb hts iX10 hown hK hP 0 rfl rfl 1 (by decide) f54 (fun _ h9 => h9) rfl dX10_laySeen_4 ?_
    refine lv_icmp_ge (tgt := 55) hx hb dX10_laySeen_7 (by decide) (fun c_6 => ?_) (fun c_6 => ?_)
    · have h := gx_t c_6 h
      have hl := lv_sub (l' := [(2, .int a_4), (0, .ref z), (1, .int x1)]) hl [0, 1, 2] rfl
      cases h
      exact hJ55 _ _ _ ⟨hP, hD, hS, hl⟩
    · have h := gx_f c_6 h
      refine lv_aload_n hx hb dX10_laySeen_10 rfl (lv_at hl 1 rfl) ?_
      refine va_get (D := D) (ci := 9) (v := .ref z_sheet) (C := RX10) (T := TX10) (N := 25) hx hb hts iX10 hown hK hP 0 rfl rfl 8 (by decide) f23 (fun _ h9 => h9) rfl dX10_laySeen_11 ?_
      refine lv_bipush (v := 40) hx hb dX10_laySeen_14 (by decide) ?_
      refine lv_iload_n hx hb dX10_laySeen_16 rfl (lv_at hl 2 rfl) ?_
      refine lv_imul hx hb dX10_laySeen_17 ?_
      refine lv_iload_n hx hb dX10_laySeen_18 rfl (lv_at hl 0 rfl) ?_
      refine lv_iadd hx hb dX10_laySeen_19 ?_
      obtain ⟨hi_, h⟩ := gx_ix h
      refine va_lald hx hb hK hP 1 1 rfl rfl hi_ dX10_laySeen_20 ?_
      refine lv_topl (fun y3_7 e_y3_7 => ?_)
      have h := gx_let e_y3_7 h
      refine lv_lstore_n (lv' := [(3, .long y3_7), (2, .int a_4), (0, .ref z), (1, .int x1)]) hx hb dX10_laySeen_21 rfl hl (by decide) rfl (fun ls hl => ?_)
      refine lv_aload_n hx hb dX10_laySeen_22 rfl (lv_at hl 2 rfl) ?_
      refine va_get (D := D) (ci := 9) (v := .ref z_seen) (C := RX10) (T := TX10) (N := 25) hx hb hts iX10 hown hK hP 0 rfl rfl 13 (by decide) f30 (fun _ h9 => h9) rfl dX10_laySeen_23 ?_
      refine lv_iload_n hx hb dX10_laySeen_26 rfl (lv_at hl 1 rfl) ?_
      refine lv_lload_n hx hb dX10_laySeen_27 rfl (lv_at hl 0 rfl) ?_
      refine lv_lconst (v := 0) hx hb dX10_laySeen_28 (by decide) ?_
      refine W.lcmp hx hb dX10_laySeen_29 ?_
      obtain ⟨ms_8, hR_9, h⟩ := gx_b h
      refine gJoin (Pj := fun H locs ls => va_P D vwCl [(z, .inr (9, [.int v_fault, .int v_size, .int v_upper, .int v_base, .ref z_isGood, .ref z_frozen, .ref z_sheetSize, .ref z_sheetLane, .ref z_sheet, .ref z_hands, .int v_wide, .long v_mask, .int v_paths, .ref z_seen, .ref z_work, .ref z_known, .ref z_next, .int v_come, .int v_isCounted, .ref z_counts, .ref z_acrosses, .ref z_failings, .int v_basis, .ref z_given, .int v_trace])), (z_sheet, .inl (cy 1, 160, .inr (.inl v_sheetc))), (z_seen, .inl (cy 0, 32, .inl a_5))] H ∧ va_D A [(z, .inr (9, [.int v_fault, .int v_size, .int v_upper, .int v_base, .ref z_isGood, .ref z_frozen, .ref z_sheetSize, .ref z_sheetLane, .ref z_sheet, .ref z_hands, .int v_wide, .long v_mask, .int v_paths, .ref z_seen, .ref z_work, .ref z_known, .ref z_next, .int v_come, .int v_isCounted, .ref z_counts, .ref z_acrosses, .ref z_failings, .int v_basis, .ref z_given, .int v_trace])), (z_sheet, .inl (cy 1, 160, .inr (.inl v_sheetc))), (z_seen, .inl (cy 0, 32, .inl a_5))] ∧ va_S A s.heap H locs ∧ lv_has ls 5 [(3, .long y3_7), (2, .int a_4), (0, .ref z), (1, .int x1)]) (pcM := 48) (st := [.int ms_8, .int a_4, .ref z_seen]) ?_ (fun hJ48 => ?_)
      · intro H locs ls hp_
        obtain ⟨hP, hD, hS, hl⟩ := hp_
        clear hR_9
        obtain ⟨hi_, h⟩ := gx_ix h
        refine va_iast hx hb hK hP hD hS 2 0 rfl rfl hi_ dX10_laySeen_48 (fun H locs hP hD hS => ?_)
        obtain ⟨w_10, e_w_10⟩ : ∃ y : Nat → Int32, y = (upd a_5 (Int32.toNatClampNeg a_4) ms_8) := ⟨_, rfl⟩
        have h := gx_let e_w_10 h
        have hP : va_P D vwCl [(z, .inr (9, [.int v_fault, .int v_size, .int v_upper, .int v_base, .ref z_isGood, .ref z_frozen, .ref z_sheetSize, .ref z_sheetLane, .ref z_sheet, .ref z_hands, .int v_wide, .long v_mask, .int v_paths, .ref z_seen, .ref z_work, .ref z_known, .ref z_next, .int v_come, .int v_isCounted, .ref z_counts, .ref z_acrosses, .ref z_failings, .int v_basis, .ref z_given, .int v_trace])), (z_sheet, .inl (cy 1, 160, .inr (.inl v_sheetc))), (z_seen, .inl (cy 0, 32, .inl (upd a_5 (Int32.toNatClampNeg a_4) ms_8)))] H := hP
        have hD : va_D A [(z, .inr (9, [.int v_fault, .int v_size, .int v_upper, .int v_base, .ref z_isGood, .ref z_frozen, .ref z_sheetSize, .ref z_sheetLane, .ref z_sheet, .ref z_hands, .int v_wide, .long v_mask, .int v_paths, .ref z_seen, .ref z_work, .ref z_known, .ref z_next, .int v_come, .int v_isCounted, .ref z_counts, .ref z_acrosses, .ref z_failings, .int v_basis, .ref z_given, .int v_trace])), (z_sheet, .inl (cy 1, 160, .inr (.inl v_sheetc))), (z_seen, .inl (cy 0, 32, .inl (upd a_5 (Int32.toNatClampNeg a_4) ms_8)))] := hD
        rw [← e_w_10] at hP hD
        obtain ⟨y2_11, e_y2_11⟩ : ∃ y : Int32, y = (a_4 + 1) := ⟨_, rfl⟩
        have h := gx_let e_y2_11 h
        refine lv_iinc (v := y2_11) (lv' := [(2, .int y2_11), (3, .long y3_7), (0, .ref z), (1, .int x1)]) hx hb dX10_laySeen_49 hl (k := 1) rfl (by rw [e_y2_11]; rfl) (by decide) rfl (fun ls hl => ?_)
        refine lv_goto (tgt := 2) hx hb dX10_laySeen_52 (by decide) ?_
        exact ih (y2_11, w_10) _ _ _ h ⟨hP, hD, hS, lv_sub (l' := [(2, .int y2_11), (0, .ref z), (1, .int x1)]) hl [0, 2, 3] rfl⟩
      · have h := hR_9
        refine lv_if_ne (tgt := 37) hx hb dX10_laySeen_30 (by decide) (fun c_12 => ?_) (fun c_12 => ?_)
        · have h := gx_f c_12 h
          refine lv_lload_n hx hb dX10_laySeen_37 rfl (lv_at hl 0 rfl) ?_
          refine lv_lconst (v := 1) hx hb dX10_laySeen_38 (by decide) ?_
          refine W.lcmp hx hb dX10_laySeen_39 ?_
          refine lv_if_ne (tgt := 47) hx hb dX10_laySeen_40 (by decide) (fun c_13 => ?_) (fun c_13 => ?_)
          · have h := gx_f c_13 h
            refine lv_iconst (v := 2) hx hb dX10_laySeen_47 (by decide) ?_
            have hl := lv_sub (l' := [(3, .long y3_7), (2, .int a_4), (0, .ref z), (1, .int x1)]) hl [0, 1, 2, 3] rfl
            cases h
            exact hJ48 _ _ _ ⟨hP, hD, hS, hl⟩
          · have h := gx_t c_13 h
            refine lv_iconst (v := 1) hx hb dX10_laySeen_43 (by decide) ?_
            refine lv_goto (tgt := 48) hx hb dX10_laySeen_44 (by decide) ?_
            have hl := lv_sub (l' := [(3, .long y3_7), (2, .int a_4), (0, .ref z), (1, .int x1)]) hl [0, 1, 2, 3] rfl
            cases h
            exact hJ48 _ _ _ ⟨hP, hD, hS, hl⟩
        · have h := gx_t c_12 h
          refine lv_iconst (v := 0) hx hb dX10_laySeen_33 (by decide) ?_
          refine lv_goto (tgt := 48) hx hb dX10_laySeen_34 (by decide) ?_
          have hl := lv_sub (l' := [(3, .long y3_7), (2, .int a_4), (0, .ref z), (1, .int x1)]) hl [0, 1, 2, 3] rfl
          cases h
          exact hJ48 _ _ _ ⟨hP, hD, hS, hl⟩

def fL_X10_theBit_3 (K : Nat) (u0_1 : Int32) (u1 : Nat → Int32) : Nat → Int32 × (Nat → Int32) → Option (Int32 × (Nat → Int32))
  | 0, _ => none
  | k + 1, (l4, u2) =>
    if u0_1 ≤ l4 then
      some (l4, u2)
    else
      gIx l4 32 <|
      gLet (u1 (Int32.toNatClampNeg l4)) fun y_6 =>
      gIx l4 32 <|
      gLet (upd u2 (Int32.toNatClampNeg l4) y_6) fun w_7 =>
      gLet (l4 + 1) fun y4_8 =>
      fL_X10_theBit_3 K u0_1 u1 k (y4_8, w_7)
def fL_X10_theBit_152 (K : Nat) (l7 : Int64) (l6 : Int32) : Nat → Int32 × (Nat → Int32) → Option (Int32 × (Nat → Int32))
  | 0, _ => none
  | k + 1, (l9, u2) =>
    if l6 ≤ l9 then
      some (l9, u2)
    else
      gIx l9 32 <|
      Option.bind (α := Int32) (
        if (u2 (Int32.toNatClampNeg l9)) = 2 then
          some 2
        else
          gIx l9 32 <|
          some ((u2 (Int32.toNatClampNeg l9)) ^^^ (Int64.toInt32 ((gLshr l7 l9) &&& 1)))) fun ms_23 =>
      gIx (l9 + l6) 32 <|
      Option.bind (α := Int32) (
        if (u2 (Int32.toNatClampNeg (l9 + l6))) = 2 then
          some ms_23
        else
          gIx (l9 + l6) 32 <|
          some (u2 (Int32.toNatClampNeg (l9 + l6)))) fun ms_25 =>
      gIx l9 32 <|
      gLet (upd u2 (Int32.toNatClampNeg l9) ms_25) fun w_27 =>
      gLet (l9 + 1) fun y9_28 =>
      fL_X10_theBit_152 K l7 l6 k (y9_28, w_27)
def fL_X10_theBit_61 (K : Nat) (l6 : Int32) : Nat → Int32 × (Nat → Int32) → Option (Int32 × (Nat → Int32))
  | 0, _ => none
  | k + 1, (l7, u2) =>
    if l6 ≤ l7 then
      some (l7, u2)
    else
      gIx l7 32 <|
      Option.bind (α := Int32) (
        if (u2 (Int32.toNatClampNeg l7)) = 2 then
          some 2
        else
          gIx (l7 + l6) 32 <|
          if (u2 (Int32.toNatClampNeg (l7 + l6))) = 2 then
            some 2
          else
            gIx l7 32 <|
            gIx (l7 + l6) 32 <|
            some ((u2 (Int32.toNatClampNeg l7)) ^^^ (u2 (Int32.toNatClampNeg (l7 + l6))))) fun ms_40 =>
      gIx l7 32 <|
      gLet (upd u2 (Int32.toNatClampNeg l7) ms_40) fun w_43 =>
      gLet (l7 + 1) fun y7_44 =>
      fL_X10_theBit_61 K l6 k (y7_44, w_43)
def fL_X10_theBit_46 (K : Nat) (l1 : Int64) : Nat → Int32 × Int32 × Int32 × (Nat → Int32) → Option (Int32 × Int32 × Int32 × (Nat → Int32))
  | 0, _ => none
  | k + 1, (l6, l5, l4, u2) =>
    if l6 ≤ 0 then
      some (l6, l5, l4, u2)
    else
      Option.bind (α := Int32 × Int32 × (Nat → Int32)) (
        if l6 ≤ l5 then
          Option.bind (f_X10_folded K ((gLshr l1 l4) &&& ((gLshl 1 l6) - 1)) l6) fun r_30 =>
          Option.bind (fL_X10_theBit_152 K r_30 l6 K (0, u2)) fun (o_31, o_32) =>
          gLet (l4 + l6) fun y4_33 =>
          gLet (l5 - l6) fun y5_34 =>
          some (y5_34, y4_33, o_32)
        else
          Option.bind (fL_X10_theBit_61 K l6 K (0, u2)) fun (o_35, o_36) =>
          some (l5, l4, o_36)) fun (m5_26, m4_27, mc_28) =>
      gLet (l6 / 2) fun y6_37 =>
      fL_X10_theBit_46 K l1 k (y6_37, m5_26, m4_27, mc_28)
def f_X10_theBit (K : Nat) (x1 : Int64) (x2 : Int32) (v_size : Int32) (v_seenc : Nat → Int32) (v_workc : Nat → Int32) : Option (Int32 × (Nat → Int32)) :=
  Option.bind (fL_X10_theBit_3 K v_size v_seenc K (0, v_workc)) fun (o_9, o_10) =>
  gLet (v_size / 2) fun y6_11 =>
  Option.bind (fL_X10_theBit_46 K x1 K (y6_11, x2, 0, o_10)) fun (o_38, o_39, o_40, o_41) =>
  gIx 0 32 <|
  some ((o_41 (Int32.toNatClampNeg 0)), o_41)
set_option maxHeartbeats 4000000 in
set_option maxRecDepth 100000 in
theorem c_X10_theBit (l : Launch) (D : va_G) (cy : Nat → ClassId) (t sz K : Nat) (z : Nat) (z_seen : Nat) (z_work : Nat) (z_isGood : Nat) (z_frozen : Nat) (z_sheetSize : Nat) (z_sheetLane : Nat) (z_sheet : Nat) (z_hands : Nat) (z_known : Nat) (z_next : Nat) (z_counts : Nat) (z_acrosses : Nat) (z_failings : Nat) (z_given : Nat) (v_fault : Int32) (v_size : Int32) (v_upper : Int32) (v_base : Int32) (v_wide : Int32) (v_mask : Int64) (v_paths : Int32) (v_come : Int32) (v_isCounted : Int32) (v_basis : Int32) (v_trace : Int32) (v_seenc : Nat → Int32) (v_workc : Nat → Int32) (x1 : Int64) (x2 : Int32) (r_ : Int32) (o_v_workc : Nat → Int32) (h : f_X10_theBit K x1 x2 v_size v_seenc v_workc = some (r_, o_v_workc)) : gMi l D cy t sz yX10_theBit wsX10_theBit 1 28 [.ref z, .long x1, .int x2] [(z, .inr (9, [.int v_fault, .int v_size, .int v_upper, .int v_base, .ref z_isGood, .ref z_frozen, .ref z_sheetSize, .ref z_sheetLane, .ref z_sheet, .ref z_hands, .int v_wide, .long v_mask, .int v_paths, .ref z_seen, .ref z_work, .ref z_known, .ref z_next, .int v_come, .int v_isCounted, .ref z_counts, .ref z_acrosses, .ref z_failings, .int v_basis, .ref z_given, .int v_trace])), (z_seen, .inl (cy 0, 32, .inl v_seenc)), (z_work, .inl (cy 0, 32, .inl v_workc))] r_ [(z, .inr (9, [.int v_fault, .int v_size, .int v_upper, .int v_base, .ref z_isGood, .ref z_frozen, .ref z_sheetSize, .ref z_sheetLane, .ref z_sheet, .ref z_hands, .int v_wide, .long v_mask, .int v_paths, .ref z_seen, .ref z_work, .ref z_known, .ref z_next, .int v_come, .int v_isCounted, .ref z_counts, .ref z_acrosses, .ref z_failings, .int v_basis, .ref z_given, .int v_trace])), (z_seen, .inl (cy 0, 32, .inl v_seenc)), (z_work, .inl (cy 0, 32, .inl o_v_workc))] := by
  refine gBi (cc := cX10_theBit) (maxL := 11) (ret := (some .int)) (by decide) rfl (Nat.le_of_ble_eq_true rfl) ?_
  intro p e s m below meth c A ls hAt hl
  obtain ⟨hx, hb, hml, hr, hts, hown, hlocks, hin, hK, hG, hA, hP, hD⟩ := hAt
  have hS : va_S A s.heap s.heap [] := va_S.rf
  have hl : lv_has ls 11 [(0, .ref z), (1, .long x1), (3, .int x2)] := hl
  have f54 := hts (.fieldLink RX10 54 "PlainLinesModel" "size" "I") (by decide +kernel)
  have iX10 := (by decide +kernel : ∀ w ∈ u_ws RX10 TX10 25, w ∈ wsX10_theBit)
  have f33 := hts (.fieldLink RX10 33 "PlainLinesModel" "work" "[I") (by decide +kernel)
  have f30 := hts (.fieldLink RX10 30 "PlainLinesModel" "seen" "[I") (by decide +kernel)
  rw [f_X10_theBit] at h
  refine lv_iconst (v := 0) hx hb dX10_theBit_0 (by decide) ?_
  refine lv_istore (lv' := [(4, .int 0), (0, .ref z), (1, .long x1), (3, .int x2)]) hx hb dX10_theBit_1 hl (by decide) rfl (fun ls hl => ?_)
  obtain ⟨⟨o_1, o_2⟩, hL_3, h⟩ := gx_b h
  refine gJoin (Pj := fun H locs ls => va_P D vwCl [(z, .inr (9, [.int v_fault, .int v_size, .int v_upper, .int v_base, .ref z_isGood, .ref z_frozen, .ref z_sheetSize, .ref z_sheetLane, .ref z_sheet, .ref z_hands, .int v_wide, .long v_mask, .int v_paths, .ref z_seen, .ref z_work, .ref z_known, .ref z_next, .int v_come, .int v_isCounted, .ref z_counts, .ref z_acrosses, .ref z_failings, .int v_basis, .ref z_given, .int v_trace])), (z_seen, .inl (cy 0, 32, .inl v_seenc)), (z_work, .inl (cy 0, 32, .inl o_2))] H ∧ va_D A [(z, .inr (9, [.int v_fault, .int v_size, .int v_upper, .int v_base, .ref z_isGood, .ref z_frozen, .ref z_sheetSize, .ref z_sheetLane, .ref z_sheet, .ref z_hands, .int v_wide, .long v_mask, .int v_paths, .ref z_seen, .ref z_work, .ref z_known, .ref z_next, .int v_come, .int v_isCounted, .ref z_counts, .ref z_acrosses, .ref z_failings, .int v_basis, .ref z_given, .int v_trace])), (z_seen, .inl (cy 0, 32, .inl v_seenc)), (z_work, .inl (cy 0, 32, .inl o_2))] ∧ va_S A s.heap H locs ∧ lv_has ls 11 [(4, .int o_1), (0, .ref z), (1, .long x1), (3, .int x2)]) (pcM := 32) (st := []) ?_ (fun hJ32 => ?_)
  · intro H locs ls hp_
    obtain ⟨hP, hD, hS, hl⟩ := hp_
    clear hL_3
    refine lv_iconst (v := 0) hx hb dX10_theBit_32 (by decide) ?_
    refine lv_istore (lv' := [(4, .int 0), (0, .ref z), (1, .long x1), (3, .int x2)]) hx hb dX10_theBit_33 hl (by decide) rfl (fun ls hl => ?_)
    refine lv_iload_n hx hb dX10_theBit_35 rfl (lv_at hl 3 rfl) ?_
    refine lv_istore (lv' := [(5, .int x2), (4, .int 0), (0, .ref z), (1, .long x1), (3, .int x2)]) hx hb dX10_theBit_36 hl (by decide) rfl (fun ls hl => ?_)
    refine lv_aload_n hx hb dX10_theBit_38 rfl (lv_at hl 2 rfl) ?_
    refine va_get (D := D) (ci := 9) (v := .int v_size) (C := RX10) (T := TX10) (N := 25) hx hb hts iX10 hown hK hP 0 rfl rfl 1 (by decide) f54 (fun _ h9 => h9) rfl dX10_theBit_39 ?_
    refine lv_iconst (v := 2) hx hb dX10_theBit_42 (by decide) ?_
    refine lv_idiv hx hb dX10_theBit_43 (by decide) ?_
    refine lv_topi (fun y6_4 e_y6_4 => ?_)
    have h := gx_let e_y6_4 h
    refine lv_istore (lv' := [(6, .int y6_4), (5, .int x2), (4, .int 0), (0, .ref z), (1, .long x1), (3, .int x2)]) hx hb dX10_theBit_44 hl (by decide) rfl (fun ls hl => ?_)
    obtain ⟨⟨o_5, o_6, o_7, o_8⟩, hL_9, h⟩ := gx_b h
    refine gJoin (Pj := fun H locs ls => va_P D vwCl [(z, .inr (9, [.int v_fault, .int v_size, .int v_upper, .int v_base, .ref z_isGood, .ref z_frozen, .ref z_sheetSize, .ref z_sheetLane, .ref z_sheet, .ref z_hands, .int v_wide, .long v_mask, .int v_paths, .ref z_seen, .ref z_work, .ref z_known, .ref z_next, .int v_come, .int v_isCounted, .ref z_counts, .ref z_acrosses, .ref z_failings, .int v_basis, .ref z_given, .int v_trace])), (z_seen, .inl (cy 0, 32, .inl v_seenc)), (z_work, .inl (cy 0, 32, .inl o_8))] H ∧ va_D A [(z, .inr (9, [.int v_fault, .int v_size, .int v_upper, .int v_base, .ref z_isGood, .ref z_frozen, .ref z_sheetSize, .ref z_sheetLane, .ref z_sheet, .ref z_hands, .int v_wide, .long v_mask, .int v_paths, .ref z_seen, .ref z_work, .ref z_known, .ref z_next, .int v_come, .int v_isCounted, .ref z_counts, .ref z_acrosses, .ref z_failings, .int v_basis, .ref z_given, .int v_trace])), (z_seen, .inl (cy 0, 32, .inl v_seenc)), (z_work, .inl (cy 0, 32, .inl o_8))] ∧ va_S A s.heap H locs ∧ lv_has ls 11 [(6, .int o_5), (5, .int o_6), (4, .int o_7), (0, .ref z), (1, .long x1), (3, .int x2)]) (pcM := 257) (st := []) ?_ (fun hJ257 => ?_)
    · intro H locs ls hp_
      obtain ⟨hP, hD, hS, hl⟩ := hp_
      clear hL_9
      refine lv_aload_n hx hb dX10_theBit_257 rfl (lv_at hl 3 rfl) ?_
      refine va_get (D := D) (ci := 9) (v := .ref z_work) (C := RX10) (T := TX10) (N := 25) hx hb hts iX10 hown hK hP 0 rfl rfl 14 (by decide) f33 (fun _ h9 => h9) rfl dX10_theBit_258 ?_
      refine lv_iconst (v := 0) hx hb dX10_theBit_261 (by decide) ?_
      obtain ⟨hi_, h⟩ := gx_ix h
      refine va_iald hx hb hK hP 2 0 rfl rfl hi_ dX10_theBit_262 ?_
      cases h
      exact gRi hx hb hr hlocks hP hD hS dX10_theBit_263
    · refine gLoop (Hy := fun k_ v_ => fL_X10_theBit_46 K x1 k_ v_ = some (o_5, o_6, o_7, o_8)) (Pl := fun (v_ : Int32 × Int32 × Int32 × (Nat → Int32)) H locs ls => match v_ with | (a_10, a_11, a_12, a_13) => va_P D vwCl [(z, .inr (9, [.int v_fault, .int v_size, .int v_upper, .int v_base, .ref z_isGood, .ref z_frozen, .ref z_sheetSize, .ref z_sheetLane, .ref z_sheet, .ref z_hands, .int v_wide, .long v_mask, .int v_paths, .ref z_seen, .ref z_work, .ref z_known, .ref z_next, .int v_come, .int v_isCounted, .ref z_counts, .ref z_acrosses, .ref z_failings, .int v_basis, .ref z_given, .int v_trace])), (z_seen, .inl (cy 0, 32, .inl v_seenc)), (z_work, .inl (cy 0, 32, .inl a_13))] H ∧ va_D A [(z, .inr (9, [.int v_fault, .int v_size, .int v_upper, .int v_base, .ref z_isGood, .ref z_frozen, .ref z_sheetSize, .ref z_sheetLane, .ref z_sheet, .ref z_hands, .int v_wide, .long v_mask, .int v_paths, .ref z_seen, .ref z_work, .ref z_known, .ref z_next, .int v_come, .int v_isCounted, .ref z_counts, .ref z_acrosses, .ref z_failings, .int v_basis, .ref z_given, .int v_trace])), (z_seen, .inl (cy 0, 32, .inl v_seenc)), (z_work, .inl (cy 0, 32, .inl a_13))] ∧ va_S A s.heap H locs ∧ lv_has ls 11 [(6, .int a_10), (5, .int a_11), (4, .int a_12), (0, .ref z), (1, .long x1), (3, .int x2)]) (pcH := 46) (fun _ q_ => by cases q_) ?_ K (y6_4, x2, 0, o_2) hL_9 ⟨hP, hD, hS, hl⟩
      clear hL_9 h hP hD hS hl
      intro k_ ih ⟨a_10, a_11, a_12, a_13⟩ H locs ls h hp_
      obtain ⟨hP, hD, hS, hl⟩ := hp_
      have hP : va_P D vwCl [(z, .inr (9, [.int v_fault, .int v_size, .int v_upper, .int v_base, .ref z_isGood, .ref z_frozen, .ref z_sheetSize, .ref z_sheetLane, .ref z_sheet, .ref z_hands, .int v_wide, .long v_mask, .int v_paths, .ref z_seen, .ref z_work, .ref z_known, .ref z_next, .int v_come, .int v_isCounted, .ref z_counts, .ref z_acrosses, .ref z_failings, .int v_basis, .ref z_given, .int v_trace])), (z_seen, .inl (cy 0, 32, .inl v_seenc)), (z_work, .inl (cy 0, 32, .inl a_13))] H := hP
      have hD : va_D A [(z, .inr (9, [.int v_fault, .int v_size, .int v_upper, .int v_base, .ref z_isGood, .ref z_frozen, .ref z_sheetSize, .ref z_sheetLane, .ref z_sheet, .ref z_hands, .int v_wide, .long v_mask, .int v_paths, .ref z_seen, .ref z_work, .ref z_known, .ref z_next, .int v_come, .int v_isCounted, .ref z_counts, .ref z_acrosses, .ref z_failings, .int v_basis, .ref z_given, .int v_trace])), (z_seen, .inl (cy 0, 32, .inl v_seenc)), (z_work, .inl (cy 0, 32, .inl a_13))] := hD
      have hl : lv_has ls 11 [(6, .int a_10), (5, .int a_11), (4, .int a_12), (0, .ref z), (1, .long x1), (3, .int x2)] := hl
      change fL_X10_theBit_46 K x1 (k_ + 1) (a_10, a_11, a_12, a_13) = _ at h
      rw [fL_X10_theBit_46] at h
      refine lv_iload hx hb dX10_theBit_46 (lv_at hl 0 rfl) ?_
      refine lv_if_le (tgt := 257) hx hb dX10_theBit_48 (by decide) (fun c_14 => ?_) (fun c_14 => ?_)
      · have h := gx_t c_14 h
        have hl := lv_sub (l' := [(6, .int a_10), (5, .int a_11), (4, .int a_12), (0, .ref z), (1, .long x1), (3, .int x2)]) hl [0, 1, 2, 3, 4, 5] rfl
        cases h
        exact hJ257 _ _ _ ⟨hP, hD, hS, hl⟩
      · have h := gx_f c_14 h
        refine lv_iload hx hb dX10_theBit_51 (lv_at hl 1 rfl) ?_
        refine lv_iload hx hb dX10_theBit_53 (lv_at hl 0 rfl) ?_
        obtain ⟨⟨m5_15, m4_16, mc_17⟩, hR_18, h⟩ := gx_b h
        refine gJoin (Pj := fun H locs ls => va_P D vwCl [(z, .inr (9, [.int v_fault, .int v_size, .int v_upper, .int v_base, .ref z_isGood, .ref z_frozen, .ref z_sheetSize, .ref z_sheetLane, .ref z_sheet, .ref z_hands, .int v_wide, .long v_mask, .int v_paths, .ref z_seen, .ref z_work, .ref z_known, .ref z_next, .int v_come, .int v_isCounted, .ref z_counts, .ref z_acrosses, .ref z_failings, .int v_basis, .ref z_given, .int v_trace])), (z_seen, .inl (cy 0, 32, .inl v_seenc)), (z_work, .inl (cy 0, 32, .inl mc_17))] H ∧ va_D A [(z, .inr (9, [.int v_fault, .int v_size, .int v_upper, .int v_base, .ref z_isGood, .ref z_frozen, .ref z_sheetSize, .ref z_sheetLane, .ref z_sheet, .ref z_hands, .int v_wide, .long v_mask, .int v_paths, .ref z_seen, .ref z_work, .ref z_known, .ref z_next, .int v_come, .int v_isCounted, .ref z_counts, .ref z_acrosses, .ref z_failings, .int v_basis, .ref z_given, .int v_trace])), (z_seen, .inl (cy 0, 32, .inl v_seenc)), (z_work, .inl (cy 0, 32, .inl mc_17))] ∧ va_S A s.heap H locs ∧ lv_has ls 11 [(5, .int m5_15), (4, .int m4_16), (6, .int a_10), (0, .ref z), (1, .long x1), (3, .int x2)]) (pcM := 248) (st := []) ?_ (fun hJ248 => ?_)
        · intro H locs ls hp_
          obtain ⟨hP, hD, hS, hl⟩ := hp_
          clear hR_18
          refine lv_iload hx hb dX10_theBit_248 (lv_at hl 2 rfl) ?_
          refine lv_iconst (v := 2) hx hb dX10_theBit_250 (by decide) ?_
          refine lv_idiv hx hb dX10_theBit_251 (by decide) ?_
          refine lv_topi (fun y6_19 e_y6_19 => ?_)
          have h := gx_let e_y6_19 h
          refine lv_istore (lv' := [(6, .int y6_19), (5, .int m5_15), (4, .int m4_16), (0, .ref z), (1, .long x1), (3, .int x2)]) hx hb dX10_theBit_252 hl (by decide) rfl (fun ls hl => ?_)
          refine lv_goto (tgt := 46) hx hb dX10_theBit_254 (by decide) ?_
          exact ih (y6_19, m5_15, m4_16, mc_17) _ _ _ h ⟨hP, hD, hS, lv_sub (l' := [(6, .int y6_19), (5, .int m5_15), (4, .int m4_16), (0, .ref z), (1, .long x1), (3, .int x2)]) hl [0, 1, 2, 3, 4, 5] rfl⟩
        · have h := hR_18
          refine lv_icmp_ge (tgt := 131) hx hb dX10_theBit_55 (by decide) (fun c_20 => ?_) (fun c_20 => ?_)
          · have h := gx_t c_20 h
            refine lv_lload_n hx hb dX10_theBit_131 rfl (lv_at hl 4 rfl) ?_
            refine lv_iload hx hb dX10_theBit_132 (lv_at hl 2 rfl) ?_
            refine lv_lshr (v := (gLshr x1 a_12)) hx hb dX10_theBit_134 rfl ?_
            refine lv_lconst (v := 1) hx hb dX10_theBit_135 (by decide) ?_
            refine lv_iload hx hb dX10_theBit_136 (lv_at hl 0 rfl) ?_
            refine lv_lshl (v := (gLshl 1 a_10)) hx hb dX10_theBit_138 rfl ?_
            refine lv_lconst (v := 1) hx hb dX10_theBit_139 (by decide) ?_
            refine lv_lsub hx hb dX10_theBit_140 ?_
            refine lv_land hx hb dX10_theBit_141 ?_
            refine lv_iload hx hb dX10_theBit_142 (lv_at hl 0 rfl) ?_
            obtain ⟨r_21, hc_22, h⟩ := gx_b h
            refine gCalll (wr := [(z, .inr (9, [.int v_fault, .int v_size, .int v_upper, .int v_base, .ref z_isGood, .ref z_frozen, .ref z_sheetSize, .ref z_sheetLane, .ref z_sheet, .ref z_hands, .int v_wide, .long v_mask, .int v_paths, .ref z_seen, .ref z_work, .ref z_known, .ref z_next, .int v_come, .int v_isCounted, .ref z_counts, .ref z_acrosses, .ref z_failings, .int v_basis, .ref z_given, .int v_trace])), (z_seen, .inl (cy 0, 32, .inl v_seenc)), (z_work, .inl (cy 0, 32, .inl a_13))]) (va_runS (As := [.long ((gLshr x1 a_12) &&& ((gLshl 1 a_10) - 1)), .int a_10]) (rest := []) ⟨hx, hb, hml, hown, hts⟩ (c_X10_folded l D cy t H.size K ((gLshr x1 a_12) &&& ((gLshl 1 a_10) - 1)) a_10 r_21 hc_22) (va_cwS 2 hts gX10_theBit_X10_folded rfl rfl rfl (by decide +kernel) ⟨Nat.le_of_ble_eq_true rfl, Nat.le_of_ble_eq_true rfl⟩) ⟨gBlind, fun U hU hW => ⟨rfl, gPre.call hK hG hA hP hD hS [] (by decide) rfl U hU hW⟩⟩ rfl rfl hl.1 rfl (lv_room (Nat.le_of_ble_eq_true rfl)) dX10_theBit_144 ⟨Nat.le_of_ble_eq_true rfl, Nat.le_of_ble_eq_true rfl⟩) hA hP hD hS [] [0, 1, 2] rfl rfl (by decide) (by decide) (fun H locs hP hD hS => ?_)
            have hP : va_P D vwCl [(z, .inr (9, [.int v_fault, .int v_size, .int v_upper, .int v_base, .ref z_isGood, .ref z_frozen, .ref z_sheetSize, .ref z_sheetLane, .ref z_sheet, .ref z_hands, .int v_wide, .long v_mask, .int v_paths, .ref z_seen, .ref z_work, .ref z_known, .ref z_next, .int v_come, .int v_isCounted, .ref z_counts, .ref z_acrosses, .ref z_failings, .int v_basis, .ref z_given, .int v_trace])), (z_seen, .inl (cy 0, 32, .inl v_seenc)), (z_work, .inl (cy 0, 32, .inl a_13))] H := hP
            have hD : va_D A [(z, .inr (9, [.int v_fault, .int v_size, .int v_upper, .int v_base, .ref z_isGood, .ref z_frozen, .ref z_sheetSize, .ref z_sheetLane, .ref z_sheet, .ref z_hands, .int v_wide, .long v_mask, .int v_paths, .ref z_seen, .ref z_work, .ref z_known, .ref z_next, .int v_come, .int v_isCounted, .ref z_counts, .ref z_acrosses, .ref z_failings, .int v_basis, .ref z_given, .int v_trace])), (z_seen, .inl (cy 0, 32, .inl v_seenc)), (z_work, .inl (cy 0, 32, .inl a_13))] := hD
            refine lv_lstore (lv' := [(7, .long r_21), (6, .int a_10), (5, .int a_11), (4, .int a_12), (0, .ref z), (1, .long x1), (3, .int x2)]) hx hb dX10_theBit_147 hl (by decide) rfl (fun ls hl => ?_)
            refine lv_iconst (v := 0) hx hb dX10_theBit_149 (by decide) ?_
            refine lv_istore (lv' := [(9, .int 0), (7, .long r_21), (6, .int a_10), (5, .int a_11), (4, .int a_12), (0, .ref z), (1, .long x1), (3, .int x2)]) hx hb dX10_theBit_150 hl (by decide) rfl (fun ls hl => ?_)
            obtain ⟨⟨o_23, o_24⟩, hL_25, h⟩ := gx_b h
            refine gJoin (Pj := fun H locs ls => va_P D vwCl [(z, .inr (9, [.int v_fault, .int v_size, .int v_upper, .int v_base, .ref z_isGood, .ref z_frozen, .ref z_sheetSize, .ref z_sheetLane, .ref z_sheet, .ref z_hands, .int v_wide, .long v_mask, .int v_paths, .ref z_seen, .ref z_work, .ref z_known, .ref z_next, .int v_come, .int v_isCounted, .ref z_counts, .ref z_acrosses, .ref z_failings, .int v_basis, .ref z_given, .int v_trace])), (z_seen, .inl (cy 0, 32, .inl v_seenc)), (z_work, .inl (cy 0, 32, .inl o_24))] H ∧ va_D A [(z, .inr (9, [.int v_fault, .int v_size, .int v_upper, .int v_base, .ref z_isGood, .ref z_frozen, .ref z_sheetSize, .ref z_sheetLane, .ref z_sheet, .ref z_hands, .int v_wide, .long v_mask, .int v_paths, .ref z_seen, .ref z_work, .ref z_known, .ref z_next, .int v_come, .int v_isCounted, .ref z_counts, .ref z_acrosses, .ref z_failings, .int v_basis, .ref z_given, .int v_trace])), (z_seen, .inl (cy 0, 32, .inl v_seenc)), (z_work, .inl (cy 0, 32, .inl o_24))] ∧ va_S A s.heap H locs ∧ lv_has ls 11 [(9, .int o_23), (7, .long r_21), (6, .int a_10), (5, .int a_11), (4, .int a_12), (0, .ref z), (1, .long x1), (3, .int x2)]) (pcM := 234) (st := []) ?_ (fun hJ234 => ?_)
            · intro H locs ls hp_
              obtain ⟨hP, hD, hS, hl⟩ := hp_
              clear hL_25
              refine lv_iload hx hb dX10_theBit_234 (lv_at hl 4 rfl) ?_
              refine lv_iload hx hb dX10_theBit_236 (lv_at hl 2 rfl) ?_
              refine lv_iadd hx hb dX10_theBit_238 ?_
              refine lv_topi (fun y4_26 e_y4_26 => ?_)
              have h := gx_let e_y4_26 h
              refine lv_istore (lv' := [(4, .int y4_26), (9, .int o_23), (7, .long r_21), (6, .int a_10), (5, .int a_11), (0, .ref z), (1, .long x1), (3, .int x2)]) hx hb dX10_theBit_239 hl (by decide) rfl (fun ls hl => ?_)
              refine lv_iload hx hb dX10_theBit_241 (lv_at hl 4 rfl) ?_
              refine lv_iload hx hb dX10_theBit_243 (lv_at hl 3 rfl) ?_
              refine lv_isub hx hb dX10_theBit_245 ?_
              refine lv_topi (fun y5_27 e_y5_27 => ?_)
              have h := gx_let e_y5_27 h
              refine lv_istore (lv' := [(5, .int y5_27), (4, .int y4_26), (9, .int o_23), (7, .long r_21), (6, .int a_10), (0, .ref z), (1, .long x1), (3, .int x2)]) hx hb dX10_theBit_246 hl (by decide) rfl (fun ls hl => ?_)
              have hl := lv_sub (l' := [(5, .int y5_27), (4, .int y4_26), (6, .int a_10), (0, .ref z), (1, .long x1), (3, .int x2)]) hl [0, 1, 4, 5, 6, 7] rfl
              cases h
              exact hJ248 _ _ _ ⟨hP, hD, hS, hl⟩
            · refine gLoop (Hy := fun k_ v_ => fL_X10_theBit_152 K r_21 a_10 k_ v_ = some (o_23, o_24)) (Pl := fun (v_ : Int32 × (Nat → Int32)) H locs ls => match v_ with | (a_28, a_29) => va_P D vwCl [(z, .inr (9, [.int v_fault, .int v_size, .int v_upper, .int v_base, .ref z_isGood, .ref z_frozen, .ref z_sheetSize, .ref z_sheetLane, .ref z_sheet, .ref z_hands, .int v_wide, .long v_mask, .int v_paths, .ref z_seen, .ref z_work, .ref z_known, .ref z_next, .int v_come, .int v_isCounted, .ref z_counts, .ref z_acrosses, .ref z_failings, .int v_basis, .ref z_given, .int v_trace])), (z_seen, .inl (cy 0, 32, .inl v_seenc)), (z_work, .inl (cy 0, 32, .inl a_29))] H ∧ va_D A [(z, .inr (9, [.int v_fault, .int v_size, .int v_upper, .int v_base, .ref z_isGood, .ref z_frozen, .ref z_sheetSize, .ref z_sheetLane, .ref z_sheet, .ref z_hands, .int v_wide, .long v_mask, .int v_paths, .ref z_seen, .ref z_work, .ref z_known, .ref z_next, .int v_come, .int v_isCounted, .ref z_counts, .ref z_acrosses, .ref z_failings, .int v_basis, .ref z_given, .int v_trace])), (z_seen, .inl (cy 0, 32, .inl v_seenc)), (z_work, .inl (cy 0, 32, .inl a_29))] ∧ va_S A s.heap H locs ∧ lv_has ls 11 [(9, .int a_28), (7, .long r_21), (6, .int a_10), (5, .int a_11), (4, .int a_12), (0, .ref z), (1, .long x1), (3, .int x2)]) (pcH := 152) (fun _ q_ => by cases q_) ?_ K (0, a_13) hL_25 ⟨hP, hD, hS, hl⟩
              clear hL_25 h hP hD hS hl
              intro k_ ih ⟨a_28, a_29⟩ H locs ls h hp_
              obtain ⟨hP, hD, hS, hl⟩ := hp_
              have hP : va_P D vwCl [(z, .inr (9, [.int v_fault, .int v_size, .int v_upper, .int v_base, .ref z_isGood, .ref z_frozen, .ref z_sheetSize, .ref z_sheetLane, .ref z_sheet, .ref z_hands, .int v_wide, .long v_mask, .int v_paths, .ref z_seen, .ref z_work, .ref z_known, .ref z_next, .int v_come, .int v_isCounted, .ref z_counts, .ref z_acrosses, .ref z_failings, .int v_basis, .ref z_given, .int v_trace])), (z_seen, .inl (cy 0, 32, .inl v_seenc)), (z_work, .inl (cy 0, 32, .inl a_29))] H := hP
              have hD : va_D A [(z, .inr (9, [.int v_fault, .int v_size, .int v_upper, .int v_base, .ref z_isGood, .ref z_frozen, .ref z_sheetSize, .ref z_sheetLane, .ref z_sheet, .ref z_hands, .int v_wide, .long v_mask, .int v_paths, .ref z_seen, .ref z_work, .ref z_known, .ref z_next, .int v_come, .int v_isCounted, .ref z_counts, .ref z_acrosses, .ref z_failings, .int v_basis, .ref z_given, .int v_trace])), (z_seen, .inl (cy 0, 32, .inl v_seenc)), (z_work, .inl (cy 0, 32, .inl a_29))] := hD
              have hl : lv_has ls 11 [(9, .int a_28), (7, .long r_21), (6, .int a_10), (5, .int a_11), (4, .int a_12), (0, .ref z), (1, .long x1), (3, .int x2)] := hl
              change fL_X10_theBit_152 K r_21 a_10 (k_ + 1) (a_28, a_29) = _ at h
              rw [fL_X10_theBit_152] at h
              refine lv_iload hx hb dX10_theBit_152 (lv_at hl 0 rfl) ?_
              refine lv_iload hx hb dX10_theBit_154 (lv_at hl 2 rfl) ?_
              refine lv_icmp_ge (tgt := 234) hx hb dX10_theBit_156 (by decide) (fun c_30 => ?_) (fun c_30 => ?_)
              · have h := gx_t c_30 h
                have hl := lv_sub (l' := [(9, .int a_28), (7, .long r_21), (6, .int a_10), (5, .int a_11), (4, .int a_12), (0, .ref z), (1, .long x1), (3, .int x2)]) hl [0, 1, 2, 3, 4, 5, 6, 7] rfl
                cases h
                exact hJ234 _ _ _ ⟨hP, hD, hS, hl⟩
              · have h := gx_f c_30 h
                refine lv_aload_n hx hb dX10_theBit_159 rfl (lv_at hl 5 rfl) ?_
                refine va_get (D := D) (ci := 9) (v := .ref z_work) (C := RX10) (T := TX10) (N := 25) hx hb hts iX10 hown hK hP 0 rfl rfl 14 (by decide) f33 (fun _ h9 => h9) rfl dX10_theBit_160 ?_
                refine lv_iload hx hb dX10_theBit_163 (lv_at hl 0 rfl) ?_
                obtain ⟨hi_, h⟩ := gx_ix h
                refine va_iald hx hb hK hP 2 0 rfl rfl hi_ dX10_theBit_165 ?_
                refine lv_iconst (v := 2) hx hb dX10_theBit_166 (by decide) ?_
                obtain ⟨ms_31, hR_32, h⟩ := gx_b h
                refine gJoin (Pj := fun H locs ls => va_P D vwCl [(z, .inr (9, [.int v_fault, .int v_size, .int v_upper, .int v_base, .ref z_isGood, .ref z_frozen, .ref z_sheetSize, .ref z_sheetLane, .ref z_sheet, .ref z_hands, .int v_wide, .long v_mask, .int v_paths, .ref z_seen, .ref z_work, .ref z_known, .ref z_next, .int v_come, .int v_isCounted, .ref z_counts, .ref z_acrosses, .ref z_failings, .int v_basis, .ref z_given, .int v_trace])), (z_seen, .inl (cy 0, 32, .inl v_seenc)), (z_work, .inl (cy 0, 32, .inl a_29))] H ∧ va_D A [(z, .inr (9, [.int v_fault, .int v_size, .int v_upper, .int v_base, .ref z_isGood, .ref z_frozen, .ref z_sheetSize, .ref z_sheetLane, .ref z_sheet, .ref z_hands, .int v_wide, .long v_mask, .int v_paths, .ref z_seen, .ref z_work, .ref z_known, .ref z_next, .int v_come, .int v_isCounted, .ref z_counts, .ref z_acrosses, .ref z_failings, .int v_basis, .ref z_given, .int v_trace])), (z_seen, .inl (cy 0, 32, .inl v_seenc)), (z_work, .inl (cy 0, 32, .inl a_29))] ∧ va_S A s.heap H locs ∧ lv_has ls 11 [(9, .int a_28), (7, .long r_21), (6, .int a_10), (5, .int a_11), (4, .int a_12), (0, .ref z), (1, .long x1), (3, .int x2)]) (pcM := 190) (st := [.int ms_31]) ?_ (fun hJ190 => ?_)
                · intro H locs ls hp_
                  obtain ⟨hP, hD, hS, hl⟩ := hp_
                  clear hR_32
                  refine lv_istore (lv' := [(10, .int ms_31), (9, .int a_28), (7, .long r_21), (6, .int a_10), (5, .int a_11), (4, .int a_12), (0, .ref z), (1, .long x1), (3, .int x2)]) hx hb dX10_theBit_190 hl (by decide) rfl (fun ls hl => ?_)
                  refine lv_aload_n hx hb dX10_theBit_192 rfl (lv_at hl 6 rfl) ?_
                  refine va_get (D := D) (ci := 9) (v := .ref z_work) (C := RX10) (T := TX10) (N := 25) hx hb hts iX10 hown hK hP 0 rfl rfl 14 (by decide) f33 (fun _ h9 => h9) rfl dX10_theBit_193 ?_
                  refine lv_iload hx hb dX10_theBit_196 (lv_at hl 1 rfl) ?_
                  refine lv_aload_n hx hb dX10_theBit_198 rfl (lv_at hl 6 rfl) ?_
                  refine va_get (D := D) (ci := 9) (v := .ref z_work) (C := RX10) (T := TX10) (N := 25) hx hb hts iX10 hown hK hP 0 rfl rfl 14 (by decide) f33 (fun _ h9 => h9) rfl dX10_theBit_199 ?_
                  refine lv_iload hx hb dX10_theBit_202 (lv_at hl 1 rfl) ?_
                  refine lv_iload hx hb dX10_theBit_204 (lv_at hl 3 rfl) ?_
                  refine lv_iadd hx hb dX10_theBit_206 ?_
                  obtain ⟨hi_, h⟩ := gx_ix h
                  refine va_iald hx hb hK hP 2 0 rfl rfl hi_ dX10_theBit_207 ?_
                  refine lv_iconst (v := 2) hx hb dX10_theBit_208 (by decide) ?_
                  obtain ⟨ms_33, hR_34, h⟩ := gx_b h
                  refine gJoin (Pj := fun H locs ls => va_P D vwCl [(z, .inr (9, [.int v_fault, .int v_size, .int v_upper, .int v_base, .ref z_isGood, .ref z_frozen, .ref z_sheetSize, .ref z_sheetLane, .ref z_sheet, .ref z_hands, .int v_wide, .long v_mask, .int v_paths, .ref z_seen, .ref z_work, .ref z_known, .ref z_next, .int v_come, .int v_isCounted, .ref z_counts, .ref z_acrosses, .ref z_failings, .int v_basis, .ref z_given, .int v_trace])), (z_seen, .inl (cy 0, 32, .inl v_seenc)), (z_work, .inl (cy 0, 32, .inl a_29))] H ∧ va_D A [(z, .inr (9, [.int v_fault, .int v_size, .int v_upper, .int v_base, .ref z_isGood, .ref z_frozen, .ref z_sheetSize, .ref z_sheetLane, .ref z_sheet, .ref z_hands, .int v_wide, .long v_mask, .int v_paths, .ref z_seen, .ref z_work, .ref z_known, .ref z_next, .int v_come, .int v_isCounted, .ref z_counts, .ref z_acrosses, .ref z_failings, .int v_basis, .ref z_given, .int v_trace])), (z_seen, .inl (cy 0, 32, .inl v_seenc)), (z_work, .inl (cy 0, 32, .inl a_29))] ∧ va_S A s.heap H locs ∧ lv_has ls 11 [(10, .int ms_31), (9, .int a_28), (7, .long r_21), (6, .int a_10), (5, .int a_11), (4, .int a_12), (0, .ref z), (1, .long x1), (3, .int x2)]) (pcM := 227) (st := [.int ms_33, .int a_28, .ref z_work]) ?_ (fun hJ227 => ?_)
                  · intro H locs ls hp_
                    obtain ⟨hP, hD, hS, hl⟩ := hp_
                    clear hR_34
                    obtain ⟨hi_, h⟩ := gx_ix h
                    refine va_iast hx hb hK hP hD hS 2 0 rfl rfl hi_ dX10_theBit_227 (fun H locs hP hD hS => ?_)
                    obtain ⟨w_35, e_w_35⟩ : ∃ y : Nat → Int32, y = (upd a_29 (Int32.toNatClampNeg a_28) ms_33) := ⟨_, rfl⟩
                    have h := gx_let e_w_35 h
                    have hP : va_P D vwCl [(z, .inr (9, [.int v_fault, .int v_size, .int v_upper, .int v_base, .ref z_isGood, .ref z_frozen, .ref z_sheetSize, .ref z_sheetLane, .ref z_sheet, .ref z_hands, .int v_wide, .long v_mask, .int v_paths, .ref z_seen, .ref z_work, .ref z_known, .ref z_next, .int v_come, .int v_isCounted, .ref z_counts, .ref z_acrosses, .ref z_failings, .int v_basis, .ref z_given, .int v_trace])), (z_seen, .inl (cy 0, 32, .inl v_seenc)), (z_work, .inl (cy 0, 32, .inl (upd a_29 (Int32.toNatClampNeg a_28) ms_33)))] H := hP
                    have hD : va_D A [(z, .inr (9, [.int v_fault, .int v_size, .int v_upper, .int v_base, .ref z_isGood, .ref z_frozen, .ref z_sheetSize, .ref z_sheetLane, .ref z_sheet, .ref z_hands, .int v_wide, .long v_mask, .int v_paths, .ref z_seen, .ref z_work, .ref z_known, .ref z_next, .int v_come, .int v_isCounted, .ref z_counts, .ref z_acrosses, .ref z_failings, .int v_basis, .ref z_given, .int v_trace])), (z_seen, .inl (cy 0, 32, .inl v_seenc)), (z_work, .inl (cy 0, 32, .inl (upd a_29 (Int32.toNatClampNeg a_28) ms_33)))] := hD
                    rw [← e_w_35] at hP hD
                    obtain ⟨y9_36, e_y9_36⟩ : ∃ y : Int32, y = (a_28 + 1) := ⟨_, rfl⟩
                    have h := gx_let e_y9_36 h
                    refine lv_iinc (v := y9_36) (lv' := [(9, .int y9_36), (10, .int ms_31), (7, .long r_21), (6, .int a_10), (5, .int a_11), (4, .int a_12), (0, .ref z), (1, .long x1), (3, .int x2)]) hx hb dX10_theBit_228 hl (k := 1) rfl (by rw [e_y9_36]; rfl) (by decide) rfl (fun ls hl => ?_)
                    refine lv_goto (tgt := 152) hx hb dX10_theBit_231 (by decide) ?_
                    exact ih (y9_36, w_35) _ _ _ h ⟨hP, hD, hS, lv_sub (l' := [(9, .int y9_36), (7, .long r_21), (6, .int a_10), (5, .int a_11), (4, .int a_12), (0, .ref z), (1, .long x1), (3, .int x2)]) hl [0, 2, 3, 4, 5, 6, 7, 8] rfl⟩
                  · have h := hR_34
                    refine lv_icmp_ne (tgt := 217) hx hb dX10_theBit_209 (by decide) (fun c_37 => ?_) (fun c_37 => ?_)
                    · have h := gx_f c_37 h
                      refine lv_aload_n hx hb dX10_theBit_217 rfl (lv_at hl 6 rfl) ?_
                      refine va_get (D := D) (ci := 9) (v := .ref z_work) (C := RX10) (T := TX10) (N := 25) hx hb hts iX10 hown hK hP 0 rfl rfl 14 (by decide) f33 (fun _ h9 => h9) rfl dX10_theBit_218 ?_
                      refine lv_iload hx hb dX10_theBit_221 (lv_at hl 1 rfl) ?_
                      refine lv_iload hx hb dX10_theBit_223 (lv_at hl 3 rfl) ?_
                      refine lv_iadd hx hb dX10_theBit_225 ?_
                      obtain ⟨hi_, h⟩ := gx_ix h
                      refine va_iald hx hb hK hP 2 0 rfl rfl hi_ dX10_theBit_226 ?_
                      have hl := lv_sub (l' := [(10, .int ms_31), (9, .int a_28), (7, .long r_21), (6, .int a_10), (5, .int a_11), (4, .int a_12), (0, .ref z), (1, .long x1), (3, .int x2)]) hl [0, 1, 2, 3, 4, 5, 6, 7, 8] rfl
                      cases h
                      exact hJ227 _ _ _ ⟨hP, hD, hS, hl⟩
                    · have h := gx_t c_37 h
                      refine lv_iload hx hb dX10_theBit_212 (lv_at hl 0 rfl) ?_
                      refine lv_goto (tgt := 227) hx hb dX10_theBit_214 (by decide) ?_
                      have hl := lv_sub (l' := [(10, .int ms_31), (9, .int a_28), (7, .long r_21), (6, .int a_10), (5, .int a_11), (4, .int a_12), (0, .ref z), (1, .long x1), (3, .int x2)]) hl [0, 1, 2, 3, 4, 5, 6, 7, 8] rfl
                      cases h
                      exact hJ227 _ _ _ ⟨hP, hD, hS, hl⟩
                · have h := hR_32
                  refine lv_icmp_ne (tgt := 174) hx hb dX10_theBit_167 (by decide) (fun c_38 => ?_) (fun c_38 => ?_)
                  · have h := gx_f c_38 h
                    refine lv_aload_n hx hb dX10_theBit_174 rfl (lv_at hl 5 rfl) ?_
                    refine va_get (D := D) (ci := 9) (v := .ref z_work) (C := RX10) (T := TX10) (N := 25) hx hb hts iX10 hown hK hP 0 rfl rfl 14 (by decide) f33 (fun _ h9 => h9) rfl dX10_theBit_175 ?_
                    refine lv_iload hx hb dX10_theBit_178 (lv_at hl 0 rfl) ?_
                    obtain ⟨hi_, h⟩ := gx_ix h
                    refine va_iald hx hb hK hP 2 0 rfl rfl hi_ dX10_theBit_180 ?_
                    refine lv_lload hx hb dX10_theBit_181 (lv_at hl 1 rfl) ?_
                    refine lv_iload hx hb dX10_theBit_183 (lv_at hl 0 rfl) ?_
                    refine lv_lshr (v := (gLshr r_21 a_28)) hx hb dX10_theBit_185 rfl ?_
                    refine lv_lconst (v := 1) hx hb dX10_theBit_186 (by decide) ?_
                    refine lv_land hx hb dX10_theBit_187 ?_
                    refine lv_l2i (v := (Int64.toInt32 ((gLshr r_21 a_28) &&& 1))) hx hb dX10_theBit_188 rfl ?_
                    refine lv_ixor hx hb dX10_theBit_189 ?_
                    have hl := lv_sub (l' := [(9, .int a_28), (7, .long r_21), (6, .int a_10), (5, .int a_11), (4, .int a_12), (0, .ref z), (1, .long x1), (3, .int x2)]) hl [0, 1, 2, 3, 4, 5, 6, 7] rfl
                    cases h
                    exact hJ190 _ _ _ ⟨hP, hD, hS, hl⟩
                  · have h := gx_t c_38 h
                    refine lv_iconst (v := 2) hx hb dX10_theBit_170 (by decide) ?_
                    refine lv_goto (tgt := 190) hx hb dX10_theBit_171 (by decide) ?_
                    have hl := lv_sub (l' := [(9, .int a_28), (7, .long r_21), (6, .int a_10), (5, .int a_11), (4, .int a_12), (0, .ref z), (1, .long x1), (3, .int x2)]) hl [0, 1, 2, 3, 4, 5, 6, 7] rfl
                    cases h
                    exact hJ190 _ _ _ ⟨hP, hD, hS, hl⟩
          · have h := gx_f c_20 h
            refine lv_iconst (v := 0) hx hb dX10_theBit_58 (by decide) ?_
            refine lv_istore (lv' := [(7, .int 0), (6, .int a_10), (5, .int a_11), (4, .int a_12), (0, .ref z), (1, .long x1), (3, .int x2)]) hx hb dX10_theBit_59 hl (by decide) rfl (fun ls hl => ?_)
            obtain ⟨⟨o_39, o_40⟩, hL_41, h⟩ := gx_b h
            refine gJoin (Pj := fun H locs ls => va_P D vwCl [(z, .inr (9, [.int v_fault, .int v_size, .int v_upper, .int v_base, .ref z_isGood, .ref z_frozen, .ref z_sheetSize, .ref z_sheetLane, .ref z_sheet, .ref z_hands, .int v_wide, .long v_mask, .int v_paths, .ref z_seen, .ref z_work, .ref z_known, .ref z_next, .int v_come, .int v_isCounted, .ref z_counts, .ref z_acrosses, .ref z_failings, .int v_basis, .ref z_given, .int v_trace])), (z_seen, .inl (cy 0, 32, .inl v_seenc)), (z_work, .inl (cy 0, 32, .inl o_40))] H ∧ va_D A [(z, .inr (9, [.int v_fault, .int v_size, .int v_upper, .int v_base, .ref z_isGood, .ref z_frozen, .ref z_sheetSize, .ref z_sheetLane, .ref z_sheet, .ref z_hands, .int v_wide, .long v_mask, .int v_paths, .ref z_seen, .ref z_work, .ref z_known, .ref z_next, .int v_come, .int v_isCounted, .ref z_counts, .ref z_acrosses, .ref z_failings, .int v_basis, .ref z_given, .int v_trace])), (z_seen, .inl (cy 0, 32, .inl v_seenc)), (z_work, .inl (cy 0, 32, .inl o_40))] ∧ va_S A s.heap H locs ∧ lv_has ls 11 [(7, .int o_39), (6, .int a_10), (5, .int a_11), (4, .int a_12), (0, .ref z), (1, .long x1), (3, .int x2)]) (pcM := 128) (st := []) ?_ (fun hJ128 => ?_)
            · intro H locs ls hp_
              obtain ⟨hP, hD, hS, hl⟩ := hp_
              clear hL_41
              refine lv_goto (tgt := 248) hx hb dX10_theBit_128 (by decide) ?_
              have hl := lv_sub (l' := [(5, .int a_11), (4, .int a_12), (6, .int a_10), (0, .ref z), (1, .long x1), (3, .int x2)]) hl [2, 3, 1, 4, 5, 6] rfl
              cases h
              exact hJ248 _ _ _ ⟨hP, hD, hS, hl⟩
            · refine gLoop (Hy := fun k_ v_ => fL_X10_theBit_61 K a_10 k_ v_ = some (o_39, o_40)) (Pl := fun (v_ : Int32 × (Nat → Int32)) H locs ls => match v_ with | (a_42, a_43) => va_P D vwCl [(z, .inr (9, [.int v_fault, .int v_size, .int v_upper, .int v_base, .ref z_isGood, .ref z_frozen, .ref z_sheetSize, .ref z_sheetLane, .ref z_sheet, .ref z_hands, .int v_wide, .long v_mask, .int v_paths, .ref z_seen, .ref z_work, .ref z_known, .ref z_next, .int v_come, .int v_isCounted, .ref z_counts, .ref z_acrosses, .ref z_failings, .int v_basis, .ref z_given, .int v_trace])), (z_seen, .inl (cy 0, 32, .inl v_seenc)), (z_work, .inl (cy 0, 32, .inl a_43))] H ∧ va_D A [(z, .inr (9, [.int v_fault, .int v_size, .int v_upper, .int v_base, .ref z_isGood, .ref z_frozen, .ref z_sheetSize, .ref z_sheetLane, .ref z_sheet, .ref z_hands, .int v_wide, .long v_mask, .int v_paths, .ref z_seen, .ref z_work, .ref z_known, .ref z_next, .int v_come, .int v_isCounted, .ref z_counts, .ref z_acrosses, .ref z_failings, .int v_basis, .ref z_given, .int v_trace])), (z_seen, .inl (cy 0, 32, .inl v_seenc)), (z_work, .inl (cy 0, 32, .inl a_43))] ∧ va_S A s.heap H locs ∧ lv_has ls 11 [(7, .int a_42), (6, .int a_10), (5, .int a_11), (4, .int a_12), (0, .ref z), (1, .long x1), (3, .int x2)]) (pcH := 61) (fun _ q_ => by cases q_) ?_ K (0, a_13) hL_41 ⟨hP, hD, hS, hl⟩
              clear hL_41 h hP hD hS hl
              intro k_ ih ⟨a_42, a_43⟩ H locs ls h hp_
              obtain ⟨hP, hD, hS, hl⟩ := hp_
              have hP : va_P D vwCl [(z, .inr (9, [.int v_fault, .int v_size, .int v_upper, .int v_base, .ref z_isGood, .ref z_frozen, .ref z_sheetSize, .ref z_sheetLane, .ref z_sheet, .ref z_hands, .int v_wide, .long v_mask, .int v_paths, .ref z_seen, .ref z_work, .ref z_known, .ref z_next, .int v_come, .int v_isCounted, .ref z_counts, .ref z_acrosses, .ref z_failings, .int v_basis, .ref z_given, .int v_trace])), (z_seen, .inl (cy 0, 32, .inl v_seenc)), (z_work, .inl (cy 0, 32, .inl a_43))] H := hP
              have hD : va_D A [(z, .inr (9, [.int v_fault, .int v_size, .int v_upper, .int v_base, .ref z_isGood, .ref z_frozen, .ref z_sheetSize, .ref z_sheetLane, .ref z_sheet, .ref z_hands, .int v_wide, .long v_mask, .int v_paths, .ref z_seen, .ref z_work, .ref z_known, .ref z_next, .int v_come, .int v_isCounted, .ref z_counts, .ref z_acrosses, .ref z_failings, .int v_basis, .ref z_given, .int v_trace])), (z_seen, .inl (cy 0, 32, .inl v_seenc)), (z_work, .inl (cy 0, 32, .inl a_43))] := hD
              have hl : lv_has ls 11 [(7, .int a_42), (6, .int a_10), (5, .int a_11), (4, .int a_12), (0, .ref z), (1, .long x1), (3, .int x2)] := hl
              change fL_X10_theBit_61 K a_10 (k_ + 1) (a_42, a_43) = _ at h
              rw [fL_X10_theBit_61] at h
              refine lv_iload hx hb dX10_theBit_61 (lv_at hl 0 rfl) ?_
              refine lv_iload hx hb dX10_theBit_63 (lv_at hl 1 rfl) ?_
              refine lv_icmp_ge (tgt := 128) hx hb dX10_theBit_65 (by decide) (fun c_44 => ?_) (fun c_44 => ?_)
              · have h := gx_t c_44 h
                have hl := lv_sub (l' := [(7, .int a_42), (6, .int a_10), (5, .int a_11), (4, .int a_12), (0, .ref z), (1, .long x1), (3, .int x2)]) hl [0, 1, 2, 3, 4, 5, 6] rfl
                cases h
                exact hJ128 _ _ _ ⟨hP, hD, hS, hl⟩
              · have h := gx_f c_44 h
                refine lv_aload_n hx hb dX10_theBit_68 rfl (lv_at hl 4 rfl) ?_
                refine va_get (D := D) (ci := 9) (v := .ref z_work) (C := RX10) (T := TX10) (N := 25) hx hb hts iX10 hown hK hP 0 rfl rfl 14 (by decide) f33 (fun _ h9 => h9) rfl dX10_theBit_69 ?_
                refine lv_iload hx hb dX10_theBit_72 (lv_at hl 0 rfl) ?_
                refine lv_aload_n hx hb dX10_theBit_74 rfl (lv_at hl 4 rfl) ?_
                refine va_get (D := D) (ci := 9) (v := .ref z_work) (C := RX10) (T := TX10) (N := 25) hx hb hts iX10 hown hK hP 0 rfl rfl 14 (by decide) f33 (fun _ h9 => h9) rfl dX10_theBit_75 ?_
                refine lv_iload hx hb dX10_theBit_78 (lv_at hl 0 rfl) ?_
                obtain ⟨hi_, h⟩ := gx_ix h
                refine va_iald hx hb hK hP 2 0 rfl rfl hi_ dX10_theBit_80 ?_
                refine lv_iconst (v := 2) hx hb dX10_theBit_81 (by decide) ?_
                obtain ⟨ms_45, hR_46, h⟩ := gx_b h
                refine gJoin (Pj := fun H locs ls => va_P D vwCl [(z, .inr (9, [.int v_fault, .int v_size, .int v_upper, .int v_base, .ref z_isGood, .ref z_frozen, .ref z_sheetSize, .ref z_sheetLane, .ref z_sheet, .ref z_hands, .int v_wide, .long v_mask, .int v_paths, .ref z_seen, .ref z_work, .ref z_known, .ref z_next, .int v_come, .int v_isCounted, .ref z_counts, .ref z_acrosses, .ref z_failings, .int v_basis, .ref z_given, .int v_trace])), (z_seen, .inl (cy 0, 32, .inl v_seenc)), (z_work, .inl (cy 0, 32, .inl a_43))] H ∧ va_D A [(z, .inr (9, [.int v_fault, .int v_size, .int v_upper, .int v_base, .ref z_isGood, .ref z_frozen, .ref z_sheetSize, .ref z_sheetLane, .ref z_sheet, .ref z_hands, .int v_wide, .long v_mask, .int v_paths, .ref z_seen, .ref z_work, .ref z_known, .ref z_next, .int v_come, .int v_isCounted, .ref z_counts, .ref z_acrosses, .ref z_failings, .int v_basis, .ref z_given, .int v_trace])), (z_seen, .inl (cy 0, 32, .inl v_seenc)), (z_work, .inl (cy 0, 32, .inl a_43))] ∧ va_S A s.heap H locs ∧ lv_has ls 11 [(7, .int a_42), (6, .int a_10), (5, .int a_11), (4, .int a_12), (0, .ref z), (1, .long x1), (3, .int x2)]) (pcM := 121) (st := [.int ms_45, .int a_42, .ref z_work]) ?_ (fun hJ121 => ?_)
                · intro H locs ls hp_
                  obtain ⟨hP, hD, hS, hl⟩ := hp_
                  clear hR_46
                  obtain ⟨hi_, h⟩ := gx_ix h
                  refine va_iast hx hb hK hP hD hS 2 0 rfl rfl hi_ dX10_theBit_121 (fun H locs hP hD hS => ?_)
                  obtain ⟨w_47, e_w_47⟩ : ∃ y : Nat → Int32, y = (upd a_43 (Int32.toNatClampNeg a_42) ms_45) := ⟨_, rfl⟩
                  have h := gx_let e_w_47 h
                  have hP : va_P D vwCl [(z, .inr (9, [.int v_fault, .int v_size, .int v_upper, .int v_base, .ref z_isGood, .ref z_frozen, .ref z_sheetSize, .ref z_sheetLane, .ref z_sheet, .ref z_hands, .int v_wide, .long v_mask, .int v_paths, .ref z_seen, .ref z_work, .ref z_known, .ref z_next, .int v_come, .int v_isCounted, .ref z_counts, .ref z_acrosses, .ref z_failings, .int v_basis, .ref z_given, .int v_trace])), (z_seen, .inl (cy 0, 32, .inl v_seenc)), (z_work, .inl (cy 0, 32, .inl (upd a_43 (Int32.toNatClampNeg a_42) ms_45)))] H := hP
                  have hD : va_D A [(z, .inr (9, [.int v_fault, .int v_size, .int v_upper, .int v_base, .ref z_isGood, .ref z_frozen, .ref z_sheetSize, .ref z_sheetLane, .ref z_sheet, .ref z_hands, .int v_wide, .long v_mask, .int v_paths, .ref z_seen, .ref z_work, .ref z_known, .ref z_next, .int v_come, .int v_isCounted, .ref z_counts, .ref z_acrosses, .ref z_failings, .int v_basis, .ref z_given, .int v_trace])), (z_seen, .inl (cy 0, 32, .inl v_seenc)), (z_work, .inl (cy 0, 32, .inl (upd a_43 (Int32.toNatClampNeg a_42) ms_45)))] := hD
                  rw [← e_w_47] at hP hD
                  obtain ⟨y7_48, e_y7_48⟩ : ∃ y : Int32, y = (a_42 + 1) := ⟨_, rfl⟩
                  have h := gx_let e_y7_48 h
                  refine lv_iinc (v := y7_48) (lv' := [(7, .int y7_48), (6, .int a_10), (5, .int a_11), (4, .int a_12), (0, .ref z), (1, .long x1), (3, .int x2)]) hx hb dX10_theBit_122 hl (k := 0) rfl (by rw [e_y7_48]; rfl) (by decide) rfl (fun ls hl => ?_)
                  refine lv_goto (tgt := 61) hx hb dX10_theBit_125 (by decide) ?_
                  exact ih (y7_48, w_47) _ _ _ h ⟨hP, hD, hS, lv_sub (l' := [(7, .int y7_48), (6, .int a_10), (5, .int a_11), (4, .int a_12), (0, .ref z), (1, .long x1), (3, .int x2)]) hl [0, 1, 2, 3, 4, 5, 6] rfl⟩
                · have h := hR_46
                  refine lv_icmp_eq (tgt := 99) hx hb dX10_theBit_82 (by decide) (fun c_49 => ?_) (fun c_49 => ?_)
                  · have h := gx_t c_49 h
                    refine lv_iconst (v := 2) hx hb dX10_theBit_99 (by decide) ?_
                    refine lv_goto (tgt := 121) hx hb dX10_theBit_100 (by decide) ?_
                    have hl := lv_sub (l' := [(7, .int a_42), (6, .int a_10), (5, .int a_11), (4, .int a_12), (0, .ref z), (1, .long x1), (3, .int x2)]) hl [0, 1, 2, 3, 4, 5, 6] rfl
                    cases h
                    exact hJ121 _ _ _ ⟨hP, hD, hS, hl⟩
                  · have h := gx_f c_49 h
                    refine lv_aload_n hx hb dX10_theBit_85 rfl (lv_at hl 4 rfl) ?_
                    refine va_get (D := D) (ci := 9) (v := .ref z_work) (C := RX10) (T := TX10) (N := 25) hx hb hts iX10 hown hK hP 0 rfl rfl 14 (by decide) f33 (fun _ h9 => h9) rfl dX10_theBit_86 ?_
                    refine lv_iload hx hb dX10_theBit_89 (lv_at hl 0 rfl) ?_
                    refine lv_iload hx hb dX10_theBit_91 (lv_at hl 1 rfl) ?_
                    refine lv_iadd hx hb dX10_theBit_93 ?_
                    obtain ⟨hi_, h⟩ := gx_ix h
                    refine va_iald hx hb hK hP 2 0 rfl rfl hi_ dX10_theBit_94 ?_
                    refine lv_iconst (v := 2) hx hb dX10_theBit_95 (by decide) ?_
                    refine lv_icmp_ne (tgt := 103) hx hb dX10_theBit_96 (by decide) (fun c_50 => ?_) (fun c_50 => ?_)
                    · have h := gx_f c_50 h
                      refine lv_aload_n hx hb dX10_theBit_103 rfl (lv_at hl 4 rfl) ?_
                      refine va_get (D := D) (ci := 9) (v := .ref z_work) (C := RX10) (T := TX10) (N := 25) hx hb hts iX10 hown hK hP 0 rfl rfl 14 (by decide) f33 (fun _ h9 => h9) rfl dX10_theBit_104 ?_
                      refine lv_iload hx hb dX10_theBit_107 (lv_at hl 0 rfl) ?_
                      obtain ⟨hi_, h⟩ := gx_ix h
                      refine va_iald hx hb hK hP 2 0 rfl rfl hi_ dX10_theBit_109 ?_
                      refine lv_aload_n hx hb dX10_theBit_110 rfl (lv_at hl 4 rfl) ?_
                      refine va_get (D := D) (ci := 9) (v := .ref z_work) (C := RX10) (T := TX10) (N := 25) hx hb hts iX10 hown hK hP 0 rfl rfl 14 (by decide) f33 (fun _ h9 => h9) rfl dX10_theBit_111 ?_
                      refine lv_iload hx hb dX10_theBit_114 (lv_at hl 0 rfl) ?_
                      refine lv_iload hx hb dX10_theBit_116 (lv_at hl 1 rfl) ?_
                      refine lv_iadd hx hb dX10_theBit_118 ?_
                      obtain ⟨hi_, h⟩ := gx_ix h
                      refine va_iald hx hb hK hP 2 0 rfl rfl hi_ dX10_theBit_119 ?_
                      refine lv_ixor hx hb dX10_theBit_120 ?_
                      have hl := lv_sub (l' := [(7, .int a_42), (6, .int a_10), (5, .int a_11), (4, .int a_12), (0, .ref z), (1, .long x1), (3, .int x2)]) hl [0, 1, 2, 3, 4, 5, 6] rfl
                      cases h
                      exact hJ121 _ _ _ ⟨hP, hD, hS, hl⟩
                    · have h := gx_t c_50 h
                      refine lv_iconst (v := 2) hx hb dX10_theBit_99 (by decide) ?_
                      refine lv_goto (tgt := 121) hx hb dX10_theBit_100 (by decide) ?_
                      have hl := lv_sub (l' := [(7, .int a_42), (6, .int a_10), (5, .int a_11), (4, .int a_12), (0, .ref z), (1, .long x1), (3, .int x2)]) hl [0, 1, 2, 3, 4, 5, 6] rfl
                      cases h
                      exact hJ121 _ _ _ ⟨hP, hD, hS, hl⟩
  · refine gLoop (Hy := fun k_ v_ => fL_X10_theBit_3 K v_size v_seenc k_ v_ = some (o_1, o_2)) (Pl := fun (v_ : Int32 × (Nat → Int32)) H locs ls => match v_ with | (a_51, a_52) => va_P D vwCl [(z, .inr (9, [.int v_fault, .int v_size, .int v_upper, .int v_base, .ref z_isGood, .ref z_frozen, .ref z_sheetSize, .ref z_sheetLane, .ref z_sheet, .ref z_hands, .int v_wide, .long v_mask, .int v_paths, .ref z_seen, .ref z_work, .ref z_known, .ref z_next, .int v_come, .int v_isCounted, .ref z_counts, .ref z_acrosses, .ref z_failings, .int v_basis, .ref z_given, .int v_trace])), (z_seen, .inl (cy 0, 32, .inl v_seenc)), (z_work, .inl (cy 0, 32, .inl a_52))] H ∧ va_D A [(z, .inr (9, [.int v_fault, .int v_size, .int v_upper, .int v_base, .ref z_isGood, .ref z_frozen, .ref z_sheetSize, .ref z_sheetLane, .ref z_sheet, .ref z_hands, .int v_wide, .long v_mask, .int v_paths, .ref z_seen, .ref z_work, .ref z_known, .ref z_next, .int v_come, .int v_isCounted, .ref z_counts, .ref z_acrosses, .ref z_failings, .int v_basis, .ref z_given, .int v_trace])), (z_seen, .inl (cy 0, 32, .inl v_seenc)), (z_work, .inl (cy 0, 32, .inl a_52))] ∧ va_S A s.heap H locs ∧ lv_has ls 11 [(4, .int a_51), (0, .ref z), (1, .long x1), (3, .int x2)]) (pcH := 3) (fun _ q_ => by cases q_) ?_ K (0, v_workc) hL_3 ⟨hP, hD, hS, hl⟩
    clear hL_3 h hP hD hS hl
    intro k_ ih ⟨a_51, a_52⟩ H locs ls h hp_
    obtain ⟨hP, hD, hS, hl⟩ := hp_
    have hP : va_P D vwCl [(z, .inr (9, [.int v_fault, .int v_size, .int v_upper, .int v_base, .ref z_isGood, .ref z_frozen, .ref z_sheetSize, .ref z_sheetLane, .ref z_sheet, .ref z_hands, .int v_wide, .long v_mask, .int v_paths, .ref z_seen, .ref z_work, .ref z_known, .ref z_next, .int v_come, .int v_isCounted, .ref z_counts, .ref z_acrosses, .ref z_failings, .int v_basis, .ref z_given, .int v_trace])), (z_seen, .inl (cy 0, 32, .inl v_seenc)), (z_work, .inl (cy 0, 32, .inl a_52))] H := hP
    have hD : va_D A [(z, .inr (9, [.int v_fault, .int v_size, .int v_upper, .int v_base, .ref z_isGood, .ref z_frozen, .ref z_sheetSize, .ref z_sheetLane, .ref z_sheet, .ref z_hands, .int v_wide, .long v_mask, .int v_paths, .ref z_seen, .ref z_work, .ref z_known, .ref z_next, .int v_come, .int v_isCounted, .ref z_counts, .ref z_acrosses, .ref z_failings, .int v_basis, .ref z_given, .int v_trace])), (z_seen, .inl (cy 0, 32, .inl v_seenc)), (z_work, .inl (cy 0, 32, .inl a_52))] := hD
    have hl : lv_has ls 11 [(4, .int a_51), (0, .ref z), (1, .long x1), (3, .int x2)] := hl
    change fL_X10_theBit_3 K v_size v_seenc (k_ + 1) (a_51, a_52) = _ at h
    rw [fL_X10_theBit_3] at h
    refine lv_iload hx hb dX10_theBit_3 (lv_at hl 0 rfl) ?_
    refine lv_aload_n hx hb dX10_theBit_5 rfl (lv_at hl 1 rfl) ?_
    refine va_get (D := D) (ci := 9) (v := .int v_size) (C := RX10) (T := TX10) (N := 25) hx hb hts iX10 hown hK hP 0 rfl rfl 1 (by decide) f54 (fun _ h9 => h9) rfl dX10_theBit_6 ?_
    refine lv_icmp_ge (tgt := 32) hx hb dX10_theBit_9 (by decide) (fun c_53 => ?_) (fun c_53 => ?_)
    · have h := gx_t c_53 h
      have hl := lv_sub (l' := [(4, .int a_51), (0, .ref z), (1, .long x1), (3, .int x2)]) hl [0, 1, 2, 3] rfl
      cases h
      exact hJ32 _ _ _ ⟨hP, hD, hS, hl⟩
    · have h := gx_f c_53 h
      refine lv_aload_n hx hb dX10_theBit_12 rfl (lv_at hl 1 rfl) ?_
      refine va_get (D := D) (ci := 9) (v := .ref z_work) (C := RX10) (T := TX10) (N := 25) hx hb hts iX10 hown hK hP 0 rfl rfl 14 (by decide) f33 (fun _ h9 => h9) rfl dX10_theBit_13 ?_
      refine lv_iload hx hb dX10_theBit_16 (lv_at hl 0 rfl) ?_
      refine lv_aload_n hx hb dX10_theBit_18 rfl (lv_at hl 1 rfl) ?_
      refine va_get (D := D) (ci := 9) (v := .ref z_seen) (C := RX10) (T := TX10) (N := 25) hx hb hts iX10 hown hK hP 0 rfl rfl 13 (by decide) f30 (fun _ h9 => h9) rfl dX10_theBit_19 ?_
      refine lv_iload hx hb dX10_theBit_22 (lv_at hl 0 rfl) ?_
      obtain ⟨hi_, h⟩ := gx_ix h
      refine va_iald hx hb hK hP 1 0 rfl rfl hi_ dX10_theBit_24 ?_
      refine lv_topi (fun y_54 e_y_54 => ?_)
      have h := gx_let e_y_54 h
      obtain ⟨hi_, h⟩ := gx_ix h
      refine va_iast hx hb hK hP hD hS 2 0 rfl rfl hi_ dX10_theBit_25 (fun H locs hP hD hS => ?_)
      obtain ⟨w_55, e_w_55⟩ : ∃ y : Nat → Int32, y = (upd a_52 (Int32.toNatClampNeg a_51) y_54) := ⟨_, rfl⟩
      have h := gx_let e_w_55 h
      have hP : va_P D vwCl [(z, .inr (9, [.int v_fault, .int v_size, .int v_upper, .int v_base, .ref z_isGood, .ref z_frozen, .ref z_sheetSize, .ref z_sheetLane, .ref z_sheet, .ref z_hands, .int v_wide, .long v_mask, .int v_paths, .ref z_seen, .ref z_work, .ref z_known, .ref z_next, .int v_come, .int v_isCounted, .ref z_counts, .ref z_acrosses, .ref z_failings, .int v_basis, .ref z_given, .int v_trace])), (z_seen, .inl (cy 0, 32, .inl v_seenc)), (z_work, .inl (cy 0, 32, .inl (upd a_52 (Int32.toNatClampNeg a_51) y_54)))] H := hP
      have hD : va_D A [(z, .inr (9, [.int v_fault, .int v_size, .int v_upper, .int v_base, .ref z_isGood, .ref z_frozen, .ref z_sheetSize, .ref z_sheetLane, .ref z_sheet, .ref z_hands, .int v_wide, .long v_mask, .int v_paths, .ref z_seen, .ref z_work, .ref z_known, .ref z_next, .int v_come, .int v_isCounted, .ref z_counts, .ref z_acrosses, .ref z_failings, .int v_basis, .ref z_given, .int v_trace])), (z_seen, .inl (cy 0, 32, .inl v_seenc)), (z_work, .inl (cy 0, 32, .inl (upd a_52 (Int32.toNatClampNeg a_51) y_54)))] := hD
      rw [← e_w_55] at hP hD
      obtain ⟨y4_56, e_y4_56⟩ : ∃ y : Int32, y = (a_51 + 1) := ⟨_, rfl⟩
      have h := gx_let e_y4_56 h
      refine lv_iinc (v := y4_56) (lv' := [(4, .int y4_56), (0, .ref z), (1, .long x1), (3, .int x2)]) hx hb dX10_theBit_26 hl (k := 0) rfl (by rw [e_y4_56]; rfl) (by decide) rfl (fun ls hl => ?_)
      refine lv_goto (tgt := 3) hx hb dX10_theBit_29 (by decide) ?_
      exact ih (y4_56, w_55) _ _ _ h ⟨hP, hD, hS, lv_sub (l' := [(4, .int y4_56), (0, .ref z), (1, .long x1), (3, .int x2)]) hl [0, 1, 2, 3] rfl⟩

def f_X10_goOn (K : Nat) (x1 : Int64) (x2 : Int32) (x3 : Int64) (v_come : Int32) (v_nextc : Nat → Int64) : Option (Int32 × (Nat → Int64)) :=
  gLet (x1 ||| (gLshl x3 x2)) fun y_1 =>
  gIx v_come 130 <|
  gLet (vp_updL v_nextc (Int32.toNatClampNeg v_come) y_1) fun w_2 =>
  gLet (v_come + 1) fun y_3 =>
  some (y_3, w_2)
set_option maxHeartbeats 4000000 in
set_option maxRecDepth 100000 in
theorem c_X10_goOn (l : Launch) (D : va_G) (cy : Nat → ClassId) (t sz K : Nat) (z : Nat) (z_next : Nat) (z_isGood : Nat) (z_frozen : Nat) (z_sheetSize : Nat) (z_sheetLane : Nat) (z_sheet : Nat) (z_hands : Nat) (z_seen : Nat) (z_work : Nat) (z_known : Nat) (z_counts : Nat) (z_acrosses : Nat) (z_failings : Nat) (z_given : Nat) (v_fault : Int32) (v_size : Int32) (v_upper : Int32) (v_base : Int32) (v_wide : Int32) (v_mask : Int64) (v_paths : Int32) (v_come : Int32) (v_isCounted : Int32) (v_basis : Int32) (v_trace : Int32) (v_nextc : Nat → Int64) (x1 : Int64) (x2 : Int32) (x3 : Int64) (o_v_come : Int32) (o_v_nextc : Nat → Int64) (h : f_X10_goOn K x1 x2 x3 v_come v_nextc = some (o_v_come, o_v_nextc)) : gMv l D cy t sz yX10_goOn wsX10_goOn 0 0 [.ref z, .long x1, .int x2, .long x3] [(z, .inr (9, [.int v_fault, .int v_size, .int v_upper, .int v_base, .ref z_isGood, .ref z_frozen, .ref z_sheetSize, .ref z_sheetLane, .ref z_sheet, .ref z_hands, .int v_wide, .long v_mask, .int v_paths, .ref z_seen, .ref z_work, .ref z_known, .ref z_next, .int v_come, .int v_isCounted, .ref z_counts, .ref z_acrosses, .ref z_failings, .int v_basis, .ref z_given, .int v_trace])), (z_next, .inl (cy 1, 130, .inr (.inl v_nextc)))] [(z, .inr (9, [.int v_fault, .int v_size, .int v_upper, .int v_base, .ref z_isGood, .ref z_frozen, .ref z_sheetSize, .ref z_sheetLane, .ref z_sheet, .ref z_hands, .int v_wide, .long v_mask, .int v_paths, .ref z_seen, .ref z_work, .ref z_known, .ref z_next, .int o_v_come, .int v_isCounted, .ref z_counts, .ref z_acrosses, .ref z_failings, .int v_basis, .ref z_given, .int v_trace])), (z_next, .inl (cy 1, 130, .inr (.inl o_v_nextc)))] := by
  refine gBv (cc := cX10_goOn) (maxL := 6) (ret := none) (by decide) rfl (Nat.le_of_ble_eq_true rfl) ?_
  intro p e s m below meth c A ls hAt hl
  obtain ⟨hx, hb, hml, hr, hts, hown, hlocks, hin, hK, hG, hA, hP, hD⟩ := hAt
  have hS : va_S A s.heap s.heap [] := va_S.rf
  have hl : lv_has ls 6 [(0, .ref z), (1, .long x1), (3, .int x2), (4, .long x3)] := hl
  have f39 := hts (.fieldLink RX10 39 "PlainLinesModel" "next" "[J") (by decide +kernel)
  have iX10 := (by decide +kernel : ∀ w ∈ u_ws RX10 TX10 25, w ∈ wsX10_goOn)
  have f152 := hts (.fieldLink RX10 152 "PlainLinesModel" "come" "I") (by decide +kernel)
  rw [f_X10_goOn] at h
  refine lv_aload_n hx hb dX10_goOn_0 rfl (lv_at hl 0 rfl) ?_
  refine va_get (D := D) (ci := 9) (v := .ref z_next) (C := RX10) (T := TX10) (N := 25) hx hb hts iX10 hown hK hP 0 rfl rfl 16 (by decide) f39 (fun _ h9 => h9) rfl dX10_goOn_1 ?_
  refine lv_aload_n hx hb dX10_goOn_4 rfl (lv_at hl 0 rfl) ?_
  refine va_get (D := D) (ci := 9) (v := .int v_come) (C := RX10) (T := TX10) (N := 25) hx hb hts iX10 hown hK hP 0 rfl rfl 17 (by decide) f152 (fun _ h9 => h9) rfl dX10_goOn_5 ?_
  refine lv_lload_n hx hb dX10_goOn_8 rfl (lv_at hl 1 rfl) ?_
  refine lv_lload hx hb dX10_goOn_9 (lv_at hl 3 rfl) ?_
  refine lv_iload_n hx hb dX10_goOn_11 rfl (lv_at hl 2 rfl) ?_
  refine lv_lshl (v := (gLshl x3 x2)) hx hb dX10_goOn_12 rfl ?_
  refine lv_lor hx hb dX10_goOn_13 ?_
  refine lv_topl (fun y_1 e_y_1 => ?_)
  have h := gx_let e_y_1 h
  obtain ⟨hi_, h⟩ := gx_ix h
  refine va_last hx hb hK hP hD hS 1 1 rfl rfl hi_ dX10_goOn_14 (fun H locs hP hD hS => ?_)
  obtain ⟨w_2, e_w_2⟩ : ∃ y : Nat → Int64, y = (vp_updL v_nextc (Int32.toNatClampNeg v_come) y_1) := ⟨_, rfl⟩
  have h := gx_let e_w_2 h
  have hP : va_P D vwCl [(z, .inr (9, [.int v_fault, .int v_size, .int v_upper, .int v_base, .ref z_isGood, .ref z_frozen, .ref z_sheetSize, .ref z_sheetLane, .ref z_sheet, .ref z_hands, .int v_wide, .long v_mask, .int v_paths, .ref z_seen, .ref z_work, .ref z_known, .ref z_next, .int v_come, .int v_isCounted, .ref z_counts, .ref z_acrosses, .ref z_failings, .int v_basis, .ref z_given, .int v_trace])), (z_next, .inl (cy 1, 130, .inr (.inl (vp_updL v_nextc (Int32.toNatClampNeg v_come) y_1))))] H := hP
  have hD : va_D A [(z, .inr (9, [.int v_fault, .int v_size, .int v_upper, .int v_base, .ref z_isGood, .ref z_frozen, .ref z_sheetSize, .ref z_sheetLane, .ref z_sheet, .ref z_hands, .int v_wide, .long v_mask, .int v_paths, .ref z_seen, .ref z_work, .ref z_known, .ref z_next, .int v_come, .int v_isCounted, .ref z_counts, .ref z_acrosses, .ref z_failings, .int v_basis, .ref z_given, .int v_trace])), (z_next, .inl (cy 1, 130, .inr (.inl (vp_updL v_nextc (Int32.toNatClampNeg v_come) y_1))))] := hD
  rw [← e_w_2] at hP hD
  refine lv_aload_n hx hb dX10_goOn_15 rfl (lv_at hl 0 rfl) ?_
  refine lv_dup hx hb dX10_goOn_16 rfl ?_
  refine va_get (D := D) (ci := 9) (v := .int v_come) (C := RX10) (T := TX10) (N := 25) hx hb hts iX10 hown hK hP 0 rfl rfl 17 (by decide) f152 (fun _ h9 => h9) rfl dX10_goOn_17 ?_
  refine lv_iconst (v := 1) hx hb dX10_goOn_20 (by decide) ?_
  refine lv_iadd hx hb dX10_goOn_21 ?_
  refine lv_topi (fun y_3 e_y_3 => ?_)
  have h := gx_let e_y_3 h
  refine va_put (D := D) (ci := 9) (v := .int y_3) (ty := .int) (C := RX10) (T := TX10) (N := 25) hx hb hts iX10 tyX10 tyX10_ok nmX10 hown hK hP hD hS 0 rfl rfl 17 (by decide) f152 (fun _ h9 => h9) rfl (by decide +kernel) rfl rfl (Nat.le_of_ble_eq_true rfl) dX10_goOn_22 (fun H locs hP hD hS => ?_)
  have hP : va_P D vwCl [(z, .inr (9, [.int v_fault, .int v_size, .int v_upper, .int v_base, .ref z_isGood, .ref z_frozen, .ref z_sheetSize, .ref z_sheetLane, .ref z_sheet, .ref z_hands, .int v_wide, .long v_mask, .int v_paths, .ref z_seen, .ref z_work, .ref z_known, .ref z_next, .int y_3, .int v_isCounted, .ref z_counts, .ref z_acrosses, .ref z_failings, .int v_basis, .ref z_given, .int v_trace])), (z_next, .inl (cy 1, 130, .inr (.inl w_2)))] H := hP
  have hD : va_D A [(z, .inr (9, [.int v_fault, .int v_size, .int v_upper, .int v_base, .ref z_isGood, .ref z_frozen, .ref z_sheetSize, .ref z_sheetLane, .ref z_sheet, .ref z_hands, .int v_wide, .long v_mask, .int v_paths, .ref z_seen, .ref z_work, .ref z_known, .ref z_next, .int y_3, .int v_isCounted, .ref z_counts, .ref z_acrosses, .ref z_failings, .int v_basis, .ref z_given, .int v_trace])), (z_next, .inl (cy 1, 130, .inr (.inl w_2)))] := hD
  cases h
  exact gRv hx hb hr hlocks hP hD hS dX10_goOn_25

def fL_X10_goPlace_7 (K : Nat) (l1 : Int32) (u0_1 : Int32) (u0_12 : Int32) (u1 : Nat → Int64) (u2 : Nat → Int32) (u4 : Nat → Int32) (u5 : Nat → Int32) : Nat → Int32 × Int32 × (Nat → Int32) × (Nat → Int64) → Option (Int32 × Int32 × (Nat → Int32) × (Nat → Int64))
  | 0, _ => none
  | k + 1, (l2, u0_17, u3, u6) =>
    if u0_12 ≤ l2 then
      some (l2, u0_17, u3, u6)
    else
      gIx l2 64 <|
      Option.bind (f_X10_theBit K (u1 (Int32.toNatClampNeg l2)) l1 u0_1 u2 u3) fun (r_24, o_25) =>
      gIx l1 32 <|
      if (u4 (Int32.toNatClampNeg l1)) = 0 then
        if r_24 = 2 then
          gIx l2 64 <|
          gIx l1 32 <|
          Option.bind (f_X10_goOn K (u1 (Int32.toNatClampNeg l2)) l1 (Int32.toInt64 (u5 (Int32.toNatClampNeg l1))) u0_17 u6) fun (o_28, o_29) =>
          gLet (l2 + 1) fun y2_30 =>
          fL_X10_goPlace_7 K l1 u0_1 u0_12 u1 u2 u4 u5 k (y2_30, o_28, o_25, o_29)
        else
          gIx l1 32 <|
          if r_24 = (u5 (Int32.toNatClampNeg l1)) then
            gIx l2 64 <|
            gIx l1 32 <|
            Option.bind (f_X10_goOn K (u1 (Int32.toNatClampNeg l2)) l1 (Int32.toInt64 (u5 (Int32.toNatClampNeg l1))) u0_17 u6) fun (o_33, o_34) =>
            gLet (l2 + 1) fun y2_35 =>
            fL_X10_goPlace_7 K l1 u0_1 u0_12 u1 u2 u4 u5 k (y2_35, o_33, o_25, o_34)
          else
            gLet (l2 + 1) fun y2_32 =>
            fL_X10_goPlace_7 K l1 u0_1 u0_12 u1 u2 u4 u5 k (y2_32, u0_17, o_25, u6)
      else
        gIx l2 64 <|
        Option.bind (α := Int64) (
          if r_24 = 2 then
            some 0
          else
            some (Int32.toInt64 r_24)) fun ms_36 =>
        Option.bind (f_X10_goOn K (u1 (Int32.toNatClampNeg l2)) l1 ms_36 u0_17 u6) fun (o_38, o_39) =>
        if r_24 = 2 then
          gIx l2 64 <|
          Option.bind (f_X10_goOn K (u1 (Int32.toNatClampNeg l2)) l1 1 o_38 o_39) fun (o_42, o_43) =>
          gLet (l2 + 1) fun y2_44 =>
          fL_X10_goPlace_7 K l1 u0_1 u0_12 u1 u2 u4 u5 k (y2_44, o_42, o_25, o_43)
        else
          gLet (l2 + 1) fun y2_41 =>
          fL_X10_goPlace_7 K l1 u0_1 u0_12 u1 u2 u4 u5 k (y2_41, o_38, o_25, o_39)
def fL_X10_goPlace_145 (K : Nat) (u0_12 : Int32) (u6 : Nat → Int64) : Nat → Int32 × (Nat → Int64) → Option (Int32 × (Nat → Int64))
  | 0, _ => none
  | k + 1, (l2, u1) =>
    if u0_12 ≤ l2 then
      some (l2, u1)
    else
      gIx l2 130 <|
      gLet (u6 (Int32.toNatClampNeg l2)) fun y_56 =>
      gIx l2 64 <|
      gLet (vp_updL u1 (Int32.toNatClampNeg l2) y_56) fun w_57 =>
      gLet (l2 + 1) fun y2_58 =>
      fL_X10_goPlace_145 K u0_12 u6 k (y2_58, w_57)
def f_X10_goPlace (K : Nat) (x1 : Int32) (v_size : Int32) (v_wide : Int32) (v_paths : Int32) (v_knownc : Nat → Int64) (v_seenc : Nat → Int32) (v_workc : Nat → Int32) (v_isGoodc : Nat → Int32) (v_frozenc : Nat → Int32) (v_nextc : Nat → Int64) : Option (Int32 × Int32 × (Nat → Int64) × (Nat → Int32) × (Nat → Int64)) :=
  Option.bind (fL_X10_goPlace_7 K x1 v_size v_paths v_knownc v_seenc v_isGoodc v_frozenc K (0, 0, v_workc, v_nextc)) fun (o_45, o_46, o_47, o_48) =>
  Option.bind (α := Int32) (
    if v_wide ≤ o_46 then
      some v_wide
    else
      some o_46) fun ms_49 =>
  Option.bind (fL_X10_goPlace_145 K ms_49 o_48 K (0, v_knownc)) fun (o_59, o_60) =>
  some (ms_49, o_46, o_60, o_47, o_48)
set_option maxHeartbeats 4000000 in
set_option maxRecDepth 100000 in
theorem c_X10_goPlace (l : Launch) (D : va_G) (cy : Nat → ClassId) (t sz K : Nat) (z : Nat) (z_known : Nat) (z_seen : Nat) (z_work : Nat) (z_isGood : Nat) (z_frozen : Nat) (z_next : Nat) (z_sheetSize : Nat) (z_sheetLane : Nat) (z_sheet : Nat) (z_hands : Nat) (z_counts : Nat) (z_acrosses : Nat) (z_failings : Nat) (z_given : Nat) (v_fault : Int32) (v_size : Int32) (v_upper : Int32) (v_base : Int32) (v_wide : Int32) (v_mask : Int64) (v_paths : Int32) (v_come : Int32) (v_isCounted : Int32) (v_basis : Int32) (v_trace : Int32) (v_knownc : Nat → Int64) (v_seenc : Nat → Int32) (v_workc : Nat → Int32) (v_isGoodc : Nat → Int32) (v_frozenc : Nat → Int32) (v_nextc : Nat → Int64) (x1 : Int32) (o_v_paths : Int32) (o_v_come : Int32) (o_v_knownc : Nat → Int64) (o_v_workc : Nat → Int32) (o_v_nextc : Nat → Int64) (h : f_X10_goPlace K x1 v_size v_wide v_paths v_knownc v_seenc v_workc v_isGoodc v_frozenc v_nextc = some (o_v_paths, o_v_come, o_v_knownc, o_v_workc, o_v_nextc)) : gMv l D cy t sz yX10_goPlace wsX10_goPlace 2 58 [.ref z, .int x1] [(z, .inr (9, [.int v_fault, .int v_size, .int v_upper, .int v_base, .ref z_isGood, .ref z_frozen, .ref z_sheetSize, .ref z_sheetLane, .ref z_sheet, .ref z_hands, .int v_wide, .long v_mask, .int v_paths, .ref z_seen, .ref z_work, .ref z_known, .ref z_next, .int v_come, .int v_isCounted, .ref z_counts, .ref z_acrosses, .ref z_failings, .int v_basis, .ref z_given, .int v_trace])), (z_known, .inl (cy 1, 64, .inr (.inl v_knownc))), (z_seen, .inl (cy 0, 32, .inl v_seenc)), (z_work, .inl (cy 0, 32, .inl v_workc)), (z_isGood, .inl (cy 2, 32, .inl v_isGoodc)), (z_frozen, .inl (cy 0, 32, .inl v_frozenc)), (z_next, .inl (cy 1, 130, .inr (.inl v_nextc)))] [(z, .inr (9, [.int v_fault, .int v_size, .int v_upper, .int v_base, .ref z_isGood, .ref z_frozen, .ref z_sheetSize, .ref z_sheetLane, .ref z_sheet, .ref z_hands, .int v_wide, .long v_mask, .int o_v_paths, .ref z_seen, .ref z_work, .ref z_known, .ref z_next, .int o_v_come, .int v_isCounted, .ref z_counts, .ref z_acrosses, .ref z_failings, .int v_basis, .ref z_given, .int v_trace])), (z_known, .inl (cy 1, 64, .inr (.inl o_v_knownc))), (z_seen, .inl (cy 0, 32, .inl v_seenc)), (z_work, .inl (cy 0, 32, .inl o_v_workc)), (z_isGood, .inl (cy 2, 32, .inl v_isGoodc)), (z_frozen, .inl (cy 0, 32, .inl v_frozenc)), (z_next, .inl (cy 1, 130, .inr (.inl o_v_nextc)))] := by
  refine gBv (cc := cX10_goPlace) (maxL := 4) (ret := none) (by decide) rfl (Nat.le_of_ble_eq_true rfl) ?_
  intro p e s m below meth c A ls hAt hl
  obtain ⟨hx, hb, hml, hr, hts, hown, hlocks, hin, hK, hG, hA, hP, hD⟩ := hAt
  have hS : va_S A s.heap s.heap [] := va_S.rf
  have hl : lv_has ls 4 [(0, .ref z), (1, .int x1)] := hl
  have f152 := hts (.fieldLink RX10 152 "PlainLinesModel" "come" "I") (by decide +kernel)
  have iX10 := (by decide +kernel : ∀ w ∈ u_ws RX10 TX10 25, w ∈ wsX10_goPlace)
  have f64 := hts (.fieldLink RX10 64 "PlainLinesModel" "wide" "I") (by decide +kernel)
  have f67 := hts (.fieldLink RX10 67 "PlainLinesModel" "paths" "I") (by decide +kernel)
  have f36 := hts (.fieldLink RX10 36 "PlainLinesModel" "known" "[J") (by decide +kernel)
  have f39 := hts (.fieldLink RX10 39 "PlainLinesModel" "next" "[J") (by decide +kernel)
  have f7 := hts (.fieldLink RX10 7 "PlainLinesModel" "isGood" "[Z") (by decide +kernel)
  have f13 := hts (.fieldLink RX10 13 "PlainLinesModel" "frozen" "[I") (by decide +kernel)
  rw [f_X10_goPlace] at h
  refine lv_aload_n hx hb dX10_goPlace_0 rfl (lv_at hl 0 rfl) ?_
  refine lv_iconst (v := 0) hx hb dX10_goPlace_1 (by decide) ?_
  refine va_put (D := D) (ci := 9) (v := .int 0) (ty := .int) (C := RX10) (T := TX10) (N := 25) hx hb hts iX10 tyX10 tyX10_ok nmX10 hown hK hP hD hS 0 rfl rfl 17 (by decide) f152 (fun _ h9 => h9) rfl (by decide +kernel) rfl rfl (Nat.le_of_ble_eq_true rfl) dX10_goPlace_2 (fun H locs hP hD hS => ?_)
  have hP : va_P D vwCl [(z, .inr (9, [.int v_fault, .int v_size, .int v_upper, .int v_base, .ref z_isGood, .ref z_frozen, .ref z_sheetSize, .ref z_sheetLane, .ref z_sheet, .ref z_hands, .int v_wide, .long v_mask, .int v_paths, .ref z_seen, .ref z_work, .ref z_known, .ref z_next, .int 0, .int v_isCounted, .ref z_counts, .ref z_acrosses, .ref z_failings, .int v_basis, .ref z_given, .int v_trace])), (z_known, .inl (cy 1, 64, .inr (.inl v_knownc))), (z_seen, .inl (cy 0, 32, .inl v_seenc)), (z_work, .inl (cy 0, 32, .inl v_workc)), (z_isGood, .inl (cy 2, 32, .inl v_isGoodc)), (z_frozen, .inl (cy 0, 32, .inl v_frozenc)), (z_next, .inl (cy 1, 130, .inr (.inl v_nextc)))] H := hP
  have hD : va_D A [(z, .inr (9, [.int v_fault, .int v_size, .int v_upper, .int v_base, .ref z_isGood, .ref z_frozen, .ref z_sheetSize, .ref z_sheetLane, .ref z_sheet, .ref z_hands, .int v_wide, .long v_mask, .int v_paths, .ref z_seen, .ref z_work, .ref z_known, .ref z_next, .int 0, .int v_isCounted, .ref z_counts, .ref z_acrosses, .ref z_failings, .int v_basis, .ref z_given, .int v_trace])), (z_known, .inl (cy 1, 64, .inr (.inl v_knownc))), (z_seen, .inl (cy 0, 32, .inl v_seenc)), (z_work, .inl (cy 0, 32, .inl v_workc)), (z_isGood, .inl (cy 2, 32, .inl v_isGoodc)), (z_frozen, .inl (cy 0, 32, .inl v_frozenc)), (z_next, .inl (cy 1, 130, .inr (.inl v_nextc)))] := hD
  refine lv_iconst (v := 0) hx hb dX10_goPlace_5 (by decide) ?_
  refine lv_istore_n (lv' := [(2, .int 0), (0, .ref z), (1, .int x1)]) hx hb dX10_goPlace_6 rfl hl (by decide) rfl (fun ls hl => ?_)
  obtain ⟨⟨o_1, o_2, o_3, o_4⟩, hL_5, h⟩ := gx_b h
  refine gJoin (Pj := fun H locs ls => va_P D vwCl [(z, .inr (9, [.int v_fault, .int v_size, .int v_upper, .int v_base, .ref z_isGood, .ref z_frozen, .ref z_sheetSize, .ref z_sheetLane, .ref z_sheet, .ref z_hands, .int v_wide, .long v_mask, .int v_paths, .ref z_seen, .ref z_work, .ref z_known, .ref z_next, .int o_2, .int v_isCounted, .ref z_counts, .ref z_acrosses, .ref z_failings, .int v_basis, .ref z_given, .int v_trace])), (z_known, .inl (cy 1, 64, .inr (.inl v_knownc))), (z_seen, .inl (cy 0, 32, .inl v_seenc)), (z_work, .inl (cy 0, 32, .inl o_3)), (z_isGood, .inl (cy 2, 32, .inl v_isGoodc)), (z_frozen, .inl (cy 0, 32, .inl v_frozenc)), (z_next, .inl (cy 1, 130, .inr (.inl o_4)))] H ∧ va_D A [(z, .inr (9, [.int v_fault, .int v_size, .int v_upper, .int v_base, .ref z_isGood, .ref z_frozen, .ref z_sheetSize, .ref z_sheetLane, .ref z_sheet, .ref z_hands, .int v_wide, .long v_mask, .int v_paths, .ref z_seen, .ref z_work, .ref z_known, .ref z_next, .int o_2, .int v_isCounted, .ref z_counts, .ref z_acrosses, .ref z_failings, .int v_basis, .ref z_given, .int v_trace])), (z_known, .inl (cy 1, 64, .inr (.inl v_knownc))), (z_seen, .inl (cy 0, 32, .inl v_seenc)), (z_work, .inl (cy 0, 32, .inl o_3)), (z_isGood, .inl (cy 2, 32, .inl v_isGoodc)), (z_frozen, .inl (cy 0, 32, .inl v_frozenc)), (z_next, .inl (cy 1, 130, .inr (.inl o_4)))] ∧ va_S A s.heap H locs ∧ lv_has ls 4 [(2, .int o_1), (0, .ref z), (1, .int x1)]) (pcM := 117) (st := []) ?_ (fun hJ117 => ?_)
  · intro H locs ls hp_
    obtain ⟨hP, hD, hS, hl⟩ := hp_
    clear hL_5
    refine lv_aload_n hx hb dX10_goPlace_117 rfl (lv_at hl 1 rfl) ?_
    refine lv_aload_n hx hb dX10_goPlace_118 rfl (lv_at hl 1 rfl) ?_
    refine va_get (D := D) (ci := 9) (v := .int o_2) (C := RX10) (T := TX10) (N := 25) hx hb hts iX10 hown hK hP 0 rfl rfl 17 (by decide) f152 (fun _ h9 => h9) rfl dX10_goPlace_119 ?_
    refine lv_aload_n hx hb dX10_goPlace_122 rfl (lv_at hl 1 rfl) ?_
    refine va_get (D := D) (ci := 9) (v := .int v_wide) (C := RX10) (T := TX10) (N := 25) hx hb hts iX10 hown hK hP 0 rfl rfl 10 (by decide) f64 (fun _ h9 => h9) rfl dX10_goPlace_123 ?_
    obtain ⟨ms_6, hR_7, h⟩ := gx_b h
    refine gJoin (Pj := fun H locs ls => va_P D vwCl [(z, .inr (9, [.int v_fault, .int v_size, .int v_upper, .int v_base, .ref z_isGood, .ref z_frozen, .ref z_sheetSize, .ref z_sheetLane, .ref z_sheet, .ref z_hands, .int v_wide, .long v_mask, .int v_paths, .ref z_seen, .ref z_work, .ref z_known, .ref z_next, .int o_2, .int v_isCounted, .ref z_counts, .ref z_acrosses, .ref z_failings, .int v_basis, .ref z_given, .int v_trace])), (z_known, .inl (cy 1, 64, .inr (.inl v_knownc))), (z_seen, .inl (cy 0, 32, .inl v_seenc)), (z_work, .inl (cy 0, 32, .inl o_3)), (z_isGood, .inl (cy 2, 32, .inl v_isGoodc)), (z_frozen, .inl (cy 0, 32, .inl v_frozenc)), (z_next, .inl (cy 1, 130, .inr (.inl o_4)))] H ∧ va_D A [(z, .inr (9, [.int v_fault, .int v_size, .int v_upper, .int v_base, .ref z_isGood, .ref z_frozen, .ref z_sheetSize, .ref z_sheetLane, .ref z_sheet, .ref z_hands, .int v_wide, .long v_mask, .int v_paths, .ref z_seen, .ref z_work, .ref z_known, .ref z_next, .int o_2, .int v_isCounted, .ref z_counts, .ref z_acrosses, .ref z_failings, .int v_basis, .ref z_given, .int v_trace])), (z_known, .inl (cy 1, 64, .inr (.inl v_knownc))), (z_seen, .inl (cy 0, 32, .inl v_seenc)), (z_work, .inl (cy 0, 32, .inl o_3)), (z_isGood, .inl (cy 2, 32, .inl v_isGoodc)), (z_frozen, .inl (cy 0, 32, .inl v_frozenc)), (z_next, .inl (cy 1, 130, .inr (.inl o_4)))] ∧ va_S A s.heap H locs ∧ lv_has ls 4 [(2, .int o_1), (0, .ref z), (1, .int x1)]) (pcM := 140) (st := [.int ms_6, .ref z]) ?_ (fun hJ140 => ?_)
    · intro H locs ls hp_
      obtain ⟨hP, hD, hS, hl⟩ := hp_
      clear hR_7
      refine va_put (D := D) (ci := 9) (v := .int ms_6) (ty := .int) (C := RX10) (T := TX10) (N := 25) hx hb hts iX10 tyX10 tyX10_ok nmX10 hown hK hP hD hS 0 rfl rfl 12 (by decide) f67 (fun _ h9 => h9) rfl (by decide +kernel) rfl rfl (Nat.le_of_ble_eq_true rfl) dX10_goPlace_140 (fun H locs hP hD hS => ?_)
      have hP : va_P D vwCl [(z, .inr (9, [.int v_fault, .int v_size, .int v_upper, .int v_base, .ref z_isGood, .ref z_frozen, .ref z_sheetSize, .ref z_sheetLane, .ref z_sheet, .ref z_hands, .int v_wide, .long v_mask, .int ms_6, .ref z_seen, .ref z_work, .ref z_known, .ref z_next, .int o_2, .int v_isCounted, .ref z_counts, .ref z_acrosses, .ref z_failings, .int v_basis, .ref z_given, .int v_trace])), (z_known, .inl (cy 1, 64, .inr (.inl v_knownc))), (z_seen, .inl (cy 0, 32, .inl v_seenc)), (z_work, .inl (cy 0, 32, .inl o_3)), (z_isGood, .inl (cy 2, 32, .inl v_isGoodc)), (z_frozen, .inl (cy 0, 32, .inl v_frozenc)), (z_next, .inl (cy 1, 130, .inr (.inl o_4)))] H := hP
      have hD : va_D A [(z, .inr (9, [.int v_fault, .int v_size, .int v_upper, .int v_base, .ref z_isGood, .ref z_frozen, .ref z_sheetSize, .ref z_sheetLane, .ref z_sheet, .ref z_hands, .int v_wide, .long v_mask, .int ms_6, .ref z_seen, .ref z_work, .ref z_known, .ref z_next, .int o_2, .int v_isCounted, .ref z_counts, .ref z_acrosses, .ref z_failings, .int v_basis, .ref z_given, .int v_trace])), (z_known, .inl (cy 1, 64, .inr (.inl v_knownc))), (z_seen, .inl (cy 0, 32, .inl v_seenc)), (z_work, .inl (cy 0, 32, .inl o_3)), (z_isGood, .inl (cy 2, 32, .inl v_isGoodc)), (z_frozen, .inl (cy 0, 32, .inl v_frozenc)), (z_next, .inl (cy 1, 130, .inr (.inl o_4)))] := hD
      refine lv_iconst (v := 0) hx hb dX10_goPlace_143 (by decide) ?_
      refine lv_istore_n (lv' := [(2, .int 0), (0, .ref z), (1, .int x1)]) hx hb dX10_goPlace_144 rfl hl (by decide) rfl (fun ls hl => ?_)
      obtain ⟨⟨o_8, o_9⟩, hL_10, h⟩ := gx_b h
      refine gJoin (Pj := fun H locs ls => va_P D vwCl [(z, .inr (9, [.int v_fault, .int v_size, .int v_upper, .int v_base, .ref z_isGood, .ref z_frozen, .ref z_sheetSize, .ref z_sheetLane, .ref z_sheet, .ref z_hands, .int v_wide, .long v_mask, .int ms_6, .ref z_seen, .ref z_work, .ref z_known, .ref z_next, .int o_2, .int v_isCounted, .ref z_counts, .ref z_acrosses, .ref z_failings, .int v_basis, .ref z_given, .int v_trace])), (z_known, .inl (cy 1, 64, .inr (.inl o_9))), (z_seen, .inl (cy 0, 32, .inl v_seenc)), (z_work, .inl (cy 0, 32, .inl o_3)), (z_isGood, .inl (cy 2, 32, .inl v_isGoodc)), (z_frozen, .inl (cy 0, 32, .inl v_frozenc)), (z_next, .inl (cy 1, 130, .inr (.inl o_4)))] H ∧ va_D A [(z, .inr (9, [.int v_fault, .int v_size, .int v_upper, .int v_base, .ref z_isGood, .ref z_frozen, .ref z_sheetSize, .ref z_sheetLane, .ref z_sheet, .ref z_hands, .int v_wide, .long v_mask, .int ms_6, .ref z_seen, .ref z_work, .ref z_known, .ref z_next, .int o_2, .int v_isCounted, .ref z_counts, .ref z_acrosses, .ref z_failings, .int v_basis, .ref z_given, .int v_trace])), (z_known, .inl (cy 1, 64, .inr (.inl o_9))), (z_seen, .inl (cy 0, 32, .inl v_seenc)), (z_work, .inl (cy 0, 32, .inl o_3)), (z_isGood, .inl (cy 2, 32, .inl v_isGoodc)), (z_frozen, .inl (cy 0, 32, .inl v_frozenc)), (z_next, .inl (cy 1, 130, .inr (.inl o_4)))] ∧ va_S A s.heap H locs ∧ lv_has ls 4 [(2, .int o_8), (0, .ref z), (1, .int x1)]) (pcM := 171) (st := []) ?_ (fun hJ171 => ?_)
      · intro H locs ls hp_
        obtain ⟨hP, hD, hS, hl⟩ := hp_
        clear hL_10
        cases h
        exact gRv hx hb hr hlocks hP hD hS dX10_goPlace_171
      · refine gLoop (Hy := fun k_ v_ => fL_X10_goPlace_145 K ms_6 o_4 k_ v_ = some (o_8, o_9)) (Pl := fun (v_ : Int32 × (Nat → Int64)) H locs ls => match v_ with | (a_11, a_12) => va_P D vwCl [(z, .inr (9, [.int v_fault, .int v_size, .int v_upper, .int v_base, .ref z_isGood, .ref z_frozen, .ref z_sheetSize, .ref z_sheetLane, .ref z_sheet, .ref z_hands, .int v_wide, .long v_mask, .int ms_6, .ref z_seen, .ref z_work, .ref z_known, .ref z_next, .int o_2, .int v_isCounted, .ref z_counts, .ref z_acrosses, .ref z_failings, .int v_basis, .ref z_given, .int v_trace])), (z_known, .inl (cy 1, 64, .inr (.inl a_12))), (z_seen, .inl (cy 0, 32, .inl v_seenc)), (z_work, .inl (cy 0, 32, .inl o_3)), (z_isGood, .inl (cy 2, 32, .inl v_isGoodc)), (z_frozen, .inl (cy 0, 32, .inl v_frozenc)), (z_next, .inl (cy 1, 130, .inr (.inl o_4)))] H ∧ va_D A [(z, .inr (9, [.int v_fault, .int v_size, .int v_upper, .int v_base, .ref z_isGood, .ref z_frozen, .ref z_sheetSize, .ref z_sheetLane, .ref z_sheet, .ref z_hands, .int v_wide, .long v_mask, .int ms_6, .ref z_seen, .ref z_work, .ref z_known, .ref z_next, .int o_2, .int v_isCounted, .ref z_counts, .ref z_acrosses, .ref z_failings, .int v_basis, .ref z_given, .int v_trace])), (z_known, .inl (cy 1, 64, .inr (.inl a_12))), (z_seen, .inl (cy 0, 32, .inl v_seenc)), (z_work, .inl (cy 0, 32, .inl o_3)), (z_isGood, .inl (cy 2, 32, .inl v_isGoodc)), (z_frozen, .inl (cy 0, 32, .inl v_frozenc)), (z_next, .inl (cy 1, 130, .inr (.inl o_4)))] ∧ va_S A s.heap H locs ∧ lv_has ls 4 [(2, .int a_11), (0, .ref z), (1, .int x1)]) (pcH := 145) (fun _ q_ => by cases q_) ?_ K (0, v_knownc) hL_10 ⟨hP, hD, hS, hl⟩
        clear hL_10 h hP hD hS hl
        intro k_ ih ⟨a_11, a_12⟩ H locs ls h hp_
        obtain ⟨hP, hD, hS, hl⟩ := hp_
        have hP : va_P D vwCl [(z, .inr (9, [.int v_fault, .int v_size, .int v_upper, .int v_base, .ref z_isGood, .ref z_frozen, .ref z_sheetSize, .ref z_sheetLane, .ref z_sheet, .ref z_hands, .int v_wide, .long v_mask, .int ms_6, .ref z_seen, .ref z_work, .ref z_known, .ref z_next, .int o_2, .int v_isCounted, .ref z_counts, .ref z_acrosses, .ref z_failings, .int v_basis, .ref z_given, .int v_trace])), (z_known, .inl (cy 1, 64, .inr (.inl a_12))), (z_seen, .inl (cy 0, 32, .inl v_seenc)), (z_work, .inl (cy 0, 32, .inl o_3)), (z_isGood, .inl (cy 2, 32, .inl v_isGoodc)), (z_frozen, .inl (cy 0, 32, .inl v_frozenc)), (z_next, .inl (cy 1, 130, .inr (.inl o_4)))] H := hP
        have hD : va_D A [(z, .inr (9, [.int v_fault, .int v_size, .int v_upper, .int v_base, .ref z_isGood, .ref z_frozen, .ref z_sheetSize, .ref z_sheetLane, .ref z_sheet, .ref z_hands, .int v_wide, .long v_mask, .int ms_6, .ref z_seen, .ref z_work, .ref z_known, .ref z_next, .int o_2, .int v_isCounted, .ref z_counts, .ref z_acrosses, .ref z_failings, .int v_basis, .ref z_given, .int v_trace])), (z_known, .inl (cy 1, 64, .inr (.inl a_12))), (z_seen, .inl (cy 0, 32, .inl v_seenc)), (z_work, .inl (cy 0, 32, .inl o_3)), (z_isGood, .inl (cy 2, 32, .inl v_isGoodc)), (z_frozen, .inl (cy 0, 32, .inl v_frozenc)), (z_next, .inl (cy 1, 130, .inr (.inl o_4)))] := hD
        have hl : lv_has ls 4 [(2, .int a_11), (0, .ref z), (1, .int x1)] := hl
        change fL_X10_goPlace_145 K ms_6 o_4 (k_ + 1) (a_11, a_12) = _ at h
        rw [fL_X10_goPlace_145] at h
        refine lv_iload_n hx hb dX10_goPlace_145 rfl (lv_at hl 0 rfl) ?_
        refine lv_aload_n hx hb dX10_goPlace_146 rfl (lv_at hl 1 rfl) ?_
        refine va_get (D := D) (ci := 9) (v := .int ms_6) (C := RX10) (T := TX10) (N := 25) hx hb hts iX10 hown hK hP 0 rfl rfl 12 (by decide) f67 (fun _ h9 => h9) rfl dX10_goPlace_147 ?_
        refine lv_icmp_ge (tgt := 171) hx hb dX10_goPlace_150 (by decide) (fun c_13 => ?_) (fun c_13 => ?_)
        · have h := gx_t c_13 h
          have hl := lv_sub (l' := [(2, .int a_11), (0, .ref z), (1, .int x1)]) hl [0, 1, 2] rfl
          cases h
          exact hJ171 _ _ _ ⟨hP, hD, hS, hl⟩
        · have h := gx_f c_13 h
          refine lv_aload_n hx hb dX10_goPlace_153 rfl (lv_at hl 1 rfl) ?_
          refine va_get (D := D) (ci := 9) (v := .ref z_known) (C := RX10) (T := TX10) (N := 25) hx hb hts iX10 hown hK hP 0 rfl rfl 15 (by decide) f36 (fun _ h9 => h9) rfl dX10_goPlace_154 ?_
          refine lv_iload_n hx hb dX10_goPlace_157 rfl (lv_at hl 0 rfl) ?_
          refine lv_aload_n hx hb dX10_goPlace_158 rfl (lv_at hl 1 rfl) ?_
          refine va_get (D := D) (ci := 9) (v := .ref z_next) (C := RX10) (T := TX10) (N := 25) hx hb hts iX10 hown hK hP 0 rfl rfl 16 (by decide) f39 (fun _ h9 => h9) rfl dX10_goPlace_159 ?_
          refine lv_iload_n hx hb dX10_goPlace_162 rfl (lv_at hl 0 rfl) ?_
          obtain ⟨hi_, h⟩ := gx_ix h
          refine va_lald hx hb hK hP 6 1 rfl rfl hi_ dX10_goPlace_163 ?_
          refine lv_topl (fun y_14 e_y_14 => ?_)
          have h := gx_let e_y_14 h
          obtain ⟨hi_, h⟩ := gx_ix h
          refine va_last hx hb hK hP hD hS 1 1 rfl rfl hi_ dX10_goPlace_164 (fun H locs hP hD hS => ?_)
          obtain ⟨w_15, e_w_15⟩ : ∃ y : Nat → Int64, y = (vp_updL a_12 (Int32.toNatClampNeg a_11) y_14) := ⟨_, rfl⟩
          have h := gx_let e_w_15 h
          have hP : va_P D vwCl [(z, .inr (9, [.int v_fault, .int v_size, .int v_upper, .int v_base, .ref z_isGood, .ref z_frozen, .ref z_sheetSize, .ref z_sheetLane, .ref z_sheet, .ref z_hands, .int v_wide, .long v_mask, .int ms_6, .ref z_seen, .ref z_work, .ref z_known, .ref z_next, .int o_2, .int v_isCounted, .ref z_counts, .ref z_acrosses, .ref z_failings, .int v_basis, .ref z_given, .int v_trace])), (z_known, .inl (cy 1, 64, .inr (.inl (vp_updL a_12 (Int32.toNatClampNeg a_11) y_14)))), (z_seen, .inl (cy 0, 32, .inl v_seenc)), (z_work, .inl (cy 0, 32, .inl o_3)), (z_isGood, .inl (cy 2, 32, .inl v_isGoodc)), (z_frozen, .inl (cy 0, 32, .inl v_frozenc)), (z_next, .inl (cy 1, 130, .inr (.inl o_4)))] H := hP
          have hD : va_D A [(z, .inr (9, [.int v_fault, .int v_size, .int v_upper, .int v_base, .ref z_isGood, .ref z_frozen, .ref z_sheetSize, .ref z_sheetLane, .ref z_sheet, .ref z_hands, .int v_wide, .long v_mask, .int ms_6, .ref z_seen, .ref z_work, .ref z_known, .ref z_next, .int o_2, .int v_isCounted, .ref z_counts, .ref z_acrosses, .ref z_failings, .int v_basis, .ref z_given, .int v_trace])), (z_known, .inl (cy 1, 64, .inr (.inl (vp_updL a_12 (Int32.toNatClampNeg a_11) y_14)))), (z_seen, .inl (cy 0, 32, .inl v_seenc)), (z_work, .inl (cy 0, 32, .inl o_3)), (z_isGood, .inl (cy 2, 32, .inl v_isGoodc)), (z_frozen, .inl (cy 0, 32, .inl v_frozenc)), (z_next, .inl (cy 1, 130, .inr (.inl o_4)))] := hD
          rw [← e_w_15] at hP hD
          obtain ⟨y2_16, e_y2_16⟩ : ∃ y : Int32, y = (a_11 + 1) := ⟨_, rfl⟩
          have h := gx_let e_y2_16 h
          refine lv_iinc (v := y2_16) (lv' := [(2, .int y2_16), (0, .ref z), (1, .int x1)]) hx hb dX10_goPlace_165 hl (k := 0) rfl (by rw [e_y2_16]; rfl) (by decide) rfl (fun ls hl => ?_)
          refine lv_goto (tgt := 145) hx hb dX10_goPlace_168 (by decide) ?_
          exact ih (y2_16, w_15) _ _ _ h ⟨hP, hD, hS, lv_sub (l' := [(2, .int y2_16), (0, .ref z), (1, .int x1)]) hl [0, 1, 2] rfl⟩
    · have h := hR_7
      refine lv_icmp_ge (tgt := 136) hx hb dX10_goPlace_126 (by decide) (fun c_17 => ?_) (fun c_17 => ?_)
      · have h := gx_t c_17 h
        refine lv_aload_n hx hb dX10_goPlace_136 rfl (lv_at hl 1 rfl) ?_
        refine va_get (D := D) (ci := 9) (v := .int v_wide) (C := RX10) (T := TX10) (N := 25) hx hb hts iX10 hown hK hP 0 rfl rfl 10 (by decide) f64 (fun _ h9 => h9) rfl dX10_goPlace_137 ?_
        have hl := lv_sub (l' := [(2, .int o_1), (0, .ref z), (1, .int x1)]) hl [0, 1, 2] rfl
        cases h
        exact hJ140 _ _ _ ⟨hP, hD, hS, hl⟩
      · have h := gx_f c_17 h
        refine lv_aload_n hx hb dX10_goPlace_129 rfl (lv_at hl 1 rfl) ?_
        refine va_get (D := D) (ci := 9) (v := .int o_2) (C := RX10) (T := TX10) (N := 25) hx hb hts iX10 hown hK hP 0 rfl rfl 17 (by decide) f152 (fun _ h9 => h9) rfl dX10_goPlace_130 ?_
        refine lv_goto (tgt := 140) hx hb dX10_goPlace_133 (by decide) ?_
        have hl := lv_sub (l' := [(2, .int o_1), (0, .ref z), (1, .int x1)]) hl [0, 1, 2] rfl
        cases h
        exact hJ140 _ _ _ ⟨hP, hD, hS, hl⟩
  · refine gLoop (Hy := fun k_ v_ => fL_X10_goPlace_7 K x1 v_size v_paths v_knownc v_seenc v_isGoodc v_frozenc k_ v_ = some (o_1, o_2, o_3, o_4)) (Pl := fun (v_ : Int32 × Int32 × (Nat → Int32) × (Nat → Int64)) H locs ls => match v_ with | (a_18, a_19, a_20, a_21) => va_P D vwCl [(z, .inr (9, [.int v_fault, .int v_size, .int v_upper, .int v_base, .ref z_isGood, .ref z_frozen, .ref z_sheetSize, .ref z_sheetLane, .ref z_sheet, .ref z_hands, .int v_wide, .long v_mask, .int v_paths, .ref z_seen, .ref z_work, .ref z_known, .ref z_next, .int a_19, .int v_isCounted, .ref z_counts, .ref z_acrosses, .ref z_failings, .int v_basis, .ref z_given, .int v_trace])), (z_known, .inl (cy 1, 64, .inr (.inl v_knownc))), (z_seen, .inl (cy 0, 32, .inl v_seenc)), (z_work, .inl (cy 0, 32, .inl a_20)), (z_isGood, .inl (cy 2, 32, .inl v_isGoodc)), (z_frozen, .inl (cy 0, 32, .inl v_frozenc)), (z_next, .inl (cy 1, 130, .inr (.inl a_21)))] H ∧ va_D A [(z, .inr (9, [.int v_fault, .int v_size, .int v_upper, .int v_base, .ref z_isGood, .ref z_frozen, .ref z_sheetSize, .ref z_sheetLane, .ref z_sheet, .ref z_hands, .int v_wide, .long v_mask, .int v_paths, .ref z_seen, .ref z_work, .ref z_known, .ref z_next, .int a_19, .int v_isCounted, .ref z_counts, .ref z_acrosses, .ref z_failings, .int v_basis, .ref z_given, .int v_trace])), (z_known, .inl (cy 1, 64, .inr (.inl v_knownc))), (z_seen, .inl (cy 0, 32, .inl v_seenc)), (z_work, .inl (cy 0, 32, .inl a_20)), (z_isGood, .inl (cy 2, 32, .inl v_isGoodc)), (z_frozen, .inl (cy 0, 32, .inl v_frozenc)), (z_next, .inl (cy 1, 130, .inr (.inl a_21)))] ∧ va_S A s.heap H locs ∧ lv_has ls 4 [(2, .int a_18), (0, .ref z), (1, .int x1)]) (pcH := 7) (fun _ q_ => by cases q_) ?_ K (0, 0, v_workc, v_nextc) hL_5 ⟨hP, hD, hS, hl⟩
    clear hL_5 h hP hD hS hl
    intro k_ ih ⟨a_18, a_19, a_20, a_21⟩ H locs ls h hp_
    obtain ⟨hP, hD, hS, hl⟩ := hp_
    have hP : va_P D vwCl [(z, .inr (9, [.int v_fault, .int v_size, .int v_upper, .int v_base, .ref z_isGood, .ref z_frozen, .ref z_sheetSize, .ref z_sheetLane, .ref z_sheet, .ref z_hands, .int v_wide, .long v_mask, .int v_paths, .ref z_seen, .ref z_work, .ref z_known, .ref z_next, .int a_19, .int v_isCounted, .ref z_counts, .ref z_acrosses, .ref z_failings, .int v_basis, .ref z_given, .int v_trace])), (z_known, .inl (cy 1, 64, .inr (.inl v_knownc))), (z_seen, .inl (cy 0, 32, .inl v_seenc)), (z_work, .inl (cy 0, 32, .inl a_20)), (z_isGood, .inl (cy 2, 32, .inl v_isGoodc)), (z_frozen, .inl (cy 0, 32, .inl v_frozenc)), (z_next, .inl (cy 1, 130, .inr (.inl a_21)))] H := hP
    have hD : va_D A [(z, .inr (9, [.int v_fault, .int v_size, .int v_upper, .int v_base, .ref z_isGood, .ref z_frozen, .ref z_sheetSize, .ref z_sheetLane, .ref z_sheet, .ref z_hands, .int v_wide, .long v_mask, .int v_paths, .ref z_seen, .ref z_work, .ref z_known, .ref z_next, .int a_19, .int v_isCounted, .ref z_counts, .ref z_acrosses, .ref z_failings, .int v_basis, .ref z_given, .int v_trace])), (z_known, .inl (cy 1, 64, .inr (.inl v_knownc))), (z_seen, .inl (cy 0, 32, .inl v_seenc)), (z_work, .inl (cy 0, 32, .inl a_20)), (z_isGood, .inl (cy 2, 32, .inl v_isGoodc)), (z_frozen, .inl (cy 0, 32, .inl v_frozenc)), (z_next, .inl (cy 1, 130, .inr (.inl a_21)))] := hD
    have hl : lv_has ls 4 [(2, .int a_18), (0, .ref z), (1, .int x1)] := hl
    change fL_X10_goPlace_7 K x1 v_size v_paths v_knownc v_seenc v_isGoodc v_frozenc (k_ + 1) (a_18, a_19, a_20, a_21) = _ at h
    rw [fL_X10_goPlace_7] at h
    refine lv_iload_n hx hb dX10_goPlace_7 rfl (lv_at hl 0 rfl) ?_
    refine lv_aload_n hx hb dX10_goPlace_8 rfl (lv_at hl 1 rfl) ?_
    refine va_get (D := D) (ci := 9) (v := .int v_paths) (C := RX10) (T := TX10) (N := 25) hx hb hts iX10 hown hK hP 0 rfl rfl 12 (by decide) f67 (fun _ h9 => h9) rfl dX10_goPlace_9 ?_
    refine lv_icmp_ge (tgt := 117) hx hb dX10_goPlace_12 (by decide) (fun c_22 => ?_) (fun c_22 => ?_)
    · have h := gx_t c_22 h
      have hl := lv_sub (l' := [(2, .int a_18), (0, .ref z), (1, .int x1)]) hl [0, 1, 2] rfl
      cases h
      exact hJ117 _ _ _ ⟨hP, hD, hS, hl⟩
    · have h := gx_f c_22 h
      refine lv_aload_n hx hb dX10_goPlace_15 rfl (lv_at hl 1 rfl) ?_
      refine lv_aload_n hx hb dX10_goPlace_16 rfl (lv_at hl 1 rfl) ?_
      refine va_get (D := D) (ci := 9) (v := .ref z_known) (C := RX10) (T := TX10) (N := 25) hx hb hts iX10 hown hK hP 0 rfl rfl 15 (by decide) f36 (fun _ h9 => h9) rfl dX10_goPlace_17 ?_
      refine lv_iload_n hx hb dX10_goPlace_20 rfl (lv_at hl 0 rfl) ?_
      obtain ⟨hi_, h⟩ := gx_ix h
      refine va_lald hx hb hK hP 1 1 rfl rfl hi_ dX10_goPlace_21 ?_
      refine lv_iload_n hx hb dX10_goPlace_22 rfl (lv_at hl 2 rfl) ?_
      obtain ⟨⟨r_23, o_24⟩, hc_25, h⟩ := gx_b h
      refine gCalli (wr := [(z_known, .inl (cy 1, 64, .inr (.inl v_knownc))), (z_isGood, .inl (cy 2, 32, .inl v_isGoodc)), (z_frozen, .inl (cy 0, 32, .inl v_frozenc)), (z_next, .inl (cy 1, 130, .inr (.inl a_21)))]) (va_runV (As := [.long (v_knownc (Int32.toNatClampNeg a_18)), .int x1]) (rest := []) ⟨hx, hb, hml, hown, hts⟩ (c_X10_theBit l D cy t H.size K z z_seen z_work z_isGood z_frozen z_sheetSize z_sheetLane z_sheet z_hands z_known z_next z_counts z_acrosses z_failings z_given v_fault v_size v_upper v_base v_wide v_mask v_paths a_19 v_isCounted v_basis v_trace v_seenc a_20 (v_knownc (Int32.toNatClampNeg a_18)) x1 r_23 o_24 hc_25) (cwV 2 hts gX10_goPlace_X10_theBit rfl rfl rfl (by decide +kernel) ⟨Nat.le_of_ble_eq_true rfl, Nat.le_of_ble_eq_true rfl⟩) ⟨gBlind, va_recv hK hP (ci := 9) (q0 := 0) rfl rfl, fun U hU hW => ⟨rfl, gPre.call hK hG hA hP hD hS [0, 2, 3] (by decide) rfl U hU hW⟩⟩ rfl rfl hl.1 rfl (lv_room (Nat.le_of_ble_eq_true rfl)) dX10_goPlace_23 ⟨Nat.le_of_ble_eq_true rfl, Nat.le_of_ble_eq_true rfl⟩) hA hP hD hS [0, 2, 3] [1, 4, 5, 6] rfl rfl (by decide) (by decide) (fun H locs hP hD hS => ?_)
      have hP := hP.sub (ws' := [(z, .inr (9, [.int v_fault, .int v_size, .int v_upper, .int v_base, .ref z_isGood, .ref z_frozen, .ref z_sheetSize, .ref z_sheetLane, .ref z_sheet, .ref z_hands, .int v_wide, .long v_mask, .int v_paths, .ref z_seen, .ref z_work, .ref z_known, .ref z_next, .int a_19, .int v_isCounted, .ref z_counts, .ref z_acrosses, .ref z_failings, .int v_basis, .ref z_given, .int v_trace])), (z_known, .inl (cy 1, 64, .inr (.inl v_knownc))), (z_seen, .inl (cy 0, 32, .inl v_seenc)), (z_work, .inl (cy 0, 32, .inl o_24)), (z_isGood, .inl (cy 2, 32, .inl v_isGoodc)), (z_frozen, .inl (cy 0, 32, .inl v_frozenc)), (z_next, .inl (cy 1, 130, .inr (.inl a_21)))]) [4, 0, 5, 6, 1, 2, 3] rfl
      have hD := hD.sub (ws' := [(z, .inr (9, [.int v_fault, .int v_size, .int v_upper, .int v_base, .ref z_isGood, .ref z_frozen, .ref z_sheetSize, .ref z_sheetLane, .ref z_sheet, .ref z_hands, .int v_wide, .long v_mask, .int v_paths, .ref z_seen, .ref z_work, .ref z_known, .ref z_next, .int a_19, .int v_isCounted, .ref z_counts, .ref z_acrosses, .ref z_failings, .int v_basis, .ref z_given, .int v_trace])), (z_known, .inl (cy 1, 64, .inr (.inl v_knownc))), (z_seen, .inl (cy 0, 32, .inl v_seenc)), (z_work, .inl (cy 0, 32, .inl o_24)), (z_isGood, .inl (cy 2, 32, .inl v_isGoodc)), (z_frozen, .inl (cy 0, 32, .inl v_frozenc)), (z_next, .inl (cy 1, 130, .inr (.inl a_21)))]) [4, 0, 5, 6, 1, 2, 3] (by decide) rfl
      refine lv_istore_n (lv' := [(3, .int r_23), (2, .int a_18), (0, .ref z), (1, .int x1)]) hx hb dX10_goPlace_26 rfl hl (by decide) rfl (fun ls hl => ?_)
      refine lv_aload_n hx hb dX10_goPlace_27 rfl (lv_at hl 2 rfl) ?_
      refine va_get (D := D) (ci := 9) (v := .ref z_isGood) (C := RX10) (T := TX10) (N := 25) hx hb hts iX10 hown hK hP 0 rfl rfl 4 (by decide) f7 (fun _ h9 => h9) rfl dX10_goPlace_28 ?_
      refine lv_iload_n hx hb dX10_goPlace_31 rfl (lv_at hl 3 rfl) ?_
      obtain ⟨hi_, h⟩ := gx_ix h
      refine va_zald hx hb hK hP 4 2 rfl rfl hi_ dX10_goPlace_32 ?_
      refine lv_if_eq (tgt := 78) hx hb dX10_goPlace_33 (by decide) (fun c_26 => ?_) (fun c_26 => ?_)
      · have h := gx_t c_26 h
        refine lv_iload_n hx hb dX10_goPlace_78 rfl (lv_at hl 0 rfl) ?_
        refine lv_iconst (v := 2) hx hb dX10_goPlace_79 (by decide) ?_
        refine lv_icmp_eq (tgt := 93) hx hb dX10_goPlace_80 (by decide) (fun c_27 => ?_) (fun c_27 => ?_)
        · have h := gx_t c_27 h
          refine lv_aload_n hx hb dX10_goPlace_93 rfl (lv_at hl 2 rfl) ?_
          refine lv_aload_n hx hb dX10_goPlace_94 rfl (lv_at hl 2 rfl) ?_
          refine va_get (D := D) (ci := 9) (v := .ref z_known) (C := RX10) (T := TX10) (N := 25) hx hb hts iX10 hown hK hP 0 rfl rfl 15 (by decide) f36 (fun _ h9 => h9) rfl dX10_goPlace_95 ?_
          refine lv_iload_n hx hb dX10_goPlace_98 rfl (lv_at hl 1 rfl) ?_
          obtain ⟨hi_, h⟩ := gx_ix h
          refine va_lald hx hb hK hP 1 1 rfl rfl hi_ dX10_goPlace_99 ?_
          refine lv_iload_n hx hb dX10_goPlace_100 rfl (lv_at hl 3 rfl) ?_
          refine lv_aload_n hx hb dX10_goPlace_101 rfl (lv_at hl 2 rfl) ?_
          refine va_get (D := D) (ci := 9) (v := .ref z_frozen) (C := RX10) (T := TX10) (N := 25) hx hb hts iX10 hown hK hP 0 rfl rfl 5 (by decide) f13 (fun _ h9 => h9) rfl dX10_goPlace_102 ?_
          refine lv_iload_n hx hb dX10_goPlace_105 rfl (lv_at hl 3 rfl) ?_
          obtain ⟨hi_, h⟩ := gx_ix h
          refine va_iald hx hb hK hP 5 0 rfl rfl hi_ dX10_goPlace_106 ?_
          refine lv_i2l (v := (Int32.toInt64 (v_frozenc (Int32.toNatClampNeg x1)))) hx hb dX10_goPlace_107 rfl ?_
          obtain ⟨⟨o_28, o_29⟩, hc_30, h⟩ := gx_b h
          refine gCallv (wr := [(z_known, .inl (cy 1, 64, .inr (.inl v_knownc))), (z_seen, .inl (cy 0, 32, .inl v_seenc)), (z_work, .inl (cy 0, 32, .inl o_24)), (z_isGood, .inl (cy 2, 32, .inl v_isGoodc)), (z_frozen, .inl (cy 0, 32, .inl v_frozenc))]) (va_runV (As := [.long (v_knownc (Int32.toNatClampNeg a_18)), .int x1, .long (Int32.toInt64 (v_frozenc (Int32.toNatClampNeg x1)))]) (rest := []) ⟨hx, hb, hml, hown, hts⟩ (c_X10_goOn l D cy t H.size K z z_next z_isGood z_frozen z_sheetSize z_sheetLane z_sheet z_hands z_seen z_work z_known z_counts z_acrosses z_failings z_given v_fault v_size v_upper v_base v_wide v_mask v_paths a_19 v_isCounted v_basis v_trace a_21 (v_knownc (Int32.toNatClampNeg a_18)) x1 (Int32.toInt64 (v_frozenc (Int32.toNatClampNeg x1))) o_28 o_29 hc_30) (cwV 3 hts gX10_goPlace_X10_goOn rfl rfl rfl (by decide +kernel) ⟨Nat.le_of_ble_eq_true rfl, Nat.le_of_ble_eq_true rfl⟩) ⟨gBlind, va_recv hK hP (ci := 9) (q0 := 0) rfl rfl, fun U hU hW => ⟨rfl, gPre.call hK hG hA hP hD hS [0, 6] (by decide) rfl U hU hW⟩⟩ rfl rfl hl.1 rfl (lv_room (Nat.le_of_ble_eq_true rfl)) dX10_goPlace_108 ⟨Nat.le_of_ble_eq_true rfl, Nat.le_of_ble_eq_true rfl⟩) hA hP hD hS [0, 6] [1, 2, 3, 4, 5] rfl rfl (by decide) (by decide) (fun H locs hP hD hS => ?_)
          have hP := hP.sub (ws' := [(z, .inr (9, [.int v_fault, .int v_size, .int v_upper, .int v_base, .ref z_isGood, .ref z_frozen, .ref z_sheetSize, .ref z_sheetLane, .ref z_sheet, .ref z_hands, .int v_wide, .long v_mask, .int v_paths, .ref z_seen, .ref z_work, .ref z_known, .ref z_next, .int o_28, .int v_isCounted, .ref z_counts, .ref z_acrosses, .ref z_failings, .int v_basis, .ref z_given, .int v_trace])), (z_known, .inl (cy 1, 64, .inr (.inl v_knownc))), (z_seen, .inl (cy 0, 32, .inl v_seenc)), (z_work, .inl (cy 0, 32, .inl o_24)), (z_isGood, .inl (cy 2, 32, .inl v_isGoodc)), (z_frozen, .inl (cy 0, 32, .inl v_frozenc)), (z_next, .inl (cy 1, 130, .inr (.inl o_29)))]) [5, 0, 1, 2, 3, 4, 6] rfl
          have hD := hD.sub (ws' := [(z, .inr (9, [.int v_fault, .int v_size, .int v_upper, .int v_base, .ref z_isGood, .ref z_frozen, .ref z_sheetSize, .ref z_sheetLane, .ref z_sheet, .ref z_hands, .int v_wide, .long v_mask, .int v_paths, .ref z_seen, .ref z_work, .ref z_known, .ref z_next, .int o_28, .int v_isCounted, .ref z_counts, .ref z_acrosses, .ref z_failings, .int v_basis, .ref z_given, .int v_trace])), (z_known, .inl (cy 1, 64, .inr (.inl v_knownc))), (z_seen, .inl (cy 0, 32, .inl v_seenc)), (z_work, .inl (cy 0, 32, .inl o_24)), (z_isGood, .inl (cy 2, 32, .inl v_isGoodc)), (z_frozen, .inl (cy 0, 32, .inl v_frozenc)), (z_next, .inl (cy 1, 130, .inr (.inl o_29)))]) [5, 0, 1, 2, 3, 4, 6] (by decide) rfl
          obtain ⟨y2_31, e_y2_31⟩ : ∃ y : Int32, y = (a_18 + 1) := ⟨_, rfl⟩
          have h := gx_let e_y2_31 h
          refine lv_iinc (v := y2_31) (lv' := [(2, .int y2_31), (3, .int r_23), (0, .ref z), (1, .int x1)]) hx hb dX10_goPlace_111 hl (k := 1) rfl (by rw [e_y2_31]; rfl) (by decide) rfl (fun ls hl => ?_)
          refine lv_goto (tgt := 7) hx hb dX10_goPlace_114 (by decide) ?_
          exact ih (y2_31, o_28, o_24, o_29) _ _ _ h ⟨hP, hD, hS, lv_sub (l' := [(2, .int y2_31), (0, .ref z), (1, .int x1)]) hl [0, 2, 3] rfl⟩
        · have h := gx_f c_27 h
          refine lv_iload_n hx hb dX10_goPlace_83 rfl (lv_at hl 0 rfl) ?_
          refine lv_aload_n hx hb dX10_goPlace_84 rfl (lv_at hl 2 rfl) ?_
          refine va_get (D := D) (ci := 9) (v := .ref z_frozen) (C := RX10) (T := TX10) (N := 25) hx hb hts iX10 hown hK hP 0 rfl rfl 5 (by decide) f13 (fun _ h9 => h9) rfl dX10_goPlace_85 ?_
          refine lv_iload_n hx hb dX10_goPlace_88 rfl (lv_at hl 3 rfl) ?_
          obtain ⟨hi_, h⟩ := gx_ix h
          refine va_iald hx hb hK hP 5 0 rfl rfl hi_ dX10_goPlace_89 ?_
          refine lv_icmp_ne (tgt := 111) hx hb dX10_goPlace_90 (by decide) (fun c_32 => ?_) (fun c_32 => ?_)
          · have h := gx_f c_32 h
            obtain ⟨y2_33, e_y2_33⟩ : ∃ y : Int32, y = (a_18 + 1) := ⟨_, rfl⟩
            have h := gx_let e_y2_33 h
            refine lv_iinc (v := y2_33) (lv' := [(2, .int y2_33), (3, .int r_23), (0, .ref z), (1, .int x1)]) hx hb dX10_goPlace_111 hl (k := 1) rfl (by rw [e_y2_33]; rfl) (by decide) rfl (fun ls hl => ?_)
            refine lv_goto (tgt := 7) hx hb dX10_goPlace_114 (by decide) ?_
            exact ih (y2_33, a_19, o_24, a_21) _ _ _ h ⟨hP, hD, hS, lv_sub (l' := [(2, .int y2_33), (0, .ref z), (1, .int x1)]) hl [0, 2, 3] rfl⟩
          · have h := gx_t c_32 h
            refine lv_aload_n hx hb dX10_goPlace_93 rfl (lv_at hl 2 rfl) ?_
            refine lv_aload_n hx hb dX10_goPlace_94 rfl (lv_at hl 2 rfl) ?_
            refine va_get (D := D) (ci := 9) (v := .ref z_known) (C := RX10) (T := TX10) (N := 25) hx hb hts iX10 hown hK hP 0 rfl rfl 15 (by decide) f36 (fun _ h9 => h9) rfl dX10_goPlace_95 ?_
            refine lv_iload_n hx hb dX10_goPlace_98 rfl (lv_at hl 1 rfl) ?_
            obtain ⟨hi_, h⟩ := gx_ix h
            refine va_lald hx hb hK hP 1 1 rfl rfl hi_ dX10_goPlace_99 ?_
            refine lv_iload_n hx hb dX10_goPlace_100 rfl (lv_at hl 3 rfl) ?_
            refine lv_aload_n hx hb dX10_goPlace_101 rfl (lv_at hl 2 rfl) ?_
            refine va_get (D := D) (ci := 9) (v := .ref z_frozen) (C := RX10) (T := TX10) (N := 25) hx hb hts iX10 hown hK hP 0 rfl rfl 5 (by decide) f13 (fun _ h9 => h9) rfl dX10_goPlace_102 ?_
            refine lv_iload_n hx hb dX10_goPlace_105 rfl (lv_at hl 3 rfl) ?_
            obtain ⟨hi_, h⟩ := gx_ix h
            refine va_iald hx hb hK hP 5 0 rfl rfl hi_ dX10_goPlace_106 ?_
            refine lv_i2l (v := (Int32.toInt64 (v_frozenc (Int32.toNatClampNeg x1)))) hx hb dX10_goPlace_107 rfl ?_
            obtain ⟨⟨o_34, o_35⟩, hc_36, h⟩ := gx_b h
            refine gCallv (wr := [(z_known, .inl (cy 1, 64, .inr (.inl v_knownc))), (z_seen, .inl (cy 0, 32, .inl v_seenc)), (z_work, .inl (cy 0, 32, .inl o_24)), (z_isGood, .inl (cy 2, 32, .inl v_isGoodc)), (z_frozen, .inl (cy 0, 32, .inl v_frozenc))]) (va_runV (As := [.long (v_knownc (Int32.toNatClampNeg a_18)), .int x1, .long (Int32.toInt64 (v_frozenc (Int32.toNatClampNeg x1)))]) (rest := []) ⟨hx, hb, hml, hown, hts⟩ (c_X10_goOn l D cy t H.size K z z_next z_isGood z_frozen z_sheetSize z_sheetLane z_sheet z_hands z_seen z_work z_known z_counts z_acrosses z_failings z_given v_fault v_size v_upper v_base v_wide v_mask v_paths a_19 v_isCounted v_basis v_trace a_21 (v_knownc (Int32.toNatClampNeg a_18)) x1 (Int32.toInt64 (v_frozenc (Int32.toNatClampNeg x1))) o_34 o_35 hc_36) (cwV 3 hts gX10_goPlace_X10_goOn rfl rfl rfl (by decide +kernel) ⟨Nat.le_of_ble_eq_true rfl, Nat.le_of_ble_eq_true rfl⟩) ⟨gBlind, va_recv hK hP (ci := 9) (q0 := 0) rfl rfl, fun U hU hW => ⟨rfl, gPre.call hK hG hA hP hD hS [0, 6] (by decide) rfl U hU hW⟩⟩ rfl rfl hl.1 rfl (lv_room (Nat.le_of_ble_eq_true rfl)) dX10_goPlace_108 ⟨Nat.le_of_ble_eq_true rfl, Nat.le_of_ble_eq_true rfl⟩) hA hP hD hS [0, 6] [1, 2, 3, 4, 5] rfl rfl (by decide) (by decide) (fun H locs hP hD hS => ?_)
            have hP := hP.sub (ws' := [(z, .inr (9, [.int v_fault, .int v_size, .int v_upper, .int v_base, .ref z_isGood, .ref z_frozen, .ref z_sheetSize, .ref z_sheetLane, .ref z_sheet, .ref z_hands, .int v_wide, .long v_mask, .int v_paths, .ref z_seen, .ref z_work, .ref z_known, .ref z_next, .int o_34, .int v_isCounted, .ref z_counts, .ref z_acrosses, .ref z_failings, .int v_basis, .ref z_given, .int v_trace])), (z_known, .inl (cy 1, 64, .inr (.inl v_knownc))), (z_seen, .inl (cy 0, 32, .inl v_seenc)), (z_work, .inl (cy 0, 32, .inl o_24)), (z_isGood, .inl (cy 2, 32, .inl v_isGoodc)), (z_frozen, .inl (cy 0, 32, .inl v_frozenc)), (z_next, .inl (cy 1, 130, .inr (.inl o_35)))]) [5, 0, 1, 2, 3, 4, 6] rfl
            have hD := hD.sub (ws' := [(z, .inr (9, [.int v_fault, .int v_size, .int v_upper, .int v_base, .ref z_isGood, .ref z_frozen, .ref z_sheetSize, .ref z_sheetLane, .ref z_sheet, .ref z_hands, .int v_wide, .long v_mask, .int v_paths, .ref z_seen, .ref z_work, .ref z_known, .ref z_next, .int o_34, .int v_isCounted, .ref z_counts, .ref z_acrosses, .ref z_failings, .int v_basis, .ref z_given, .int v_trace])), (z_known, .inl (cy 1, 64, .inr (.inl v_knownc))), (z_seen, .inl (cy 0, 32, .inl v_seenc)), (z_work, .inl (cy 0, 32, .inl o_24)), (z_isGood, .inl (cy 2, 32, .inl v_isGoodc)), (z_frozen, .inl (cy 0, 32, .inl v_frozenc)), (z_next, .inl (cy 1, 130, .inr (.inl o_35)))]) [5, 0, 1, 2, 3, 4, 6] (by decide) rfl
            obtain ⟨y2_37, e_y2_37⟩ : ∃ y : Int32, y = (a_18 + 1) := ⟨_, rfl⟩
            have h := gx_let e_y2_37 h
            refine lv_iinc (v := y2_37) (lv' := [(2, .int y2_37), (3, .int r_23), (0, .ref z), (1, .int x1)]) hx hb dX10_goPlace_111 hl (k := 1) rfl (by rw [e_y2_37]; rfl) (by decide) rfl (fun ls hl => ?_)
            refine lv_goto (tgt := 7) hx hb dX10_goPlace_114 (by decide) ?_
            exact ih (y2_37, o_34, o_24, o_35) _ _ _ h ⟨hP, hD, hS, lv_sub (l' := [(2, .int y2_37), (0, .ref z), (1, .int x1)]) hl [0, 2, 3] rfl⟩
      · have h := gx_f c_26 h
        refine lv_aload_n hx hb dX10_goPlace_36 rfl (lv_at hl 2 rfl) ?_
        refine lv_aload_n hx hb dX10_goPlace_37 rfl (lv_at hl 2 rfl) ?_
        refine va_get (D := D) (ci := 9) (v := .ref z_known) (C := RX10) (T := TX10) (N := 25) hx hb hts iX10 hown hK hP 0 rfl rfl 15 (by decide) f36 (fun _ h9 => h9) rfl dX10_goPlace_38 ?_
        refine lv_iload_n hx hb dX10_goPlace_41 rfl (lv_at hl 1 rfl) ?_
        obtain ⟨hi_, h⟩ := gx_ix h
        refine va_lald hx hb hK hP 1 1 rfl rfl hi_ dX10_goPlace_42 ?_
        refine lv_iload_n hx hb dX10_goPlace_43 rfl (lv_at hl 3 rfl) ?_
        refine lv_iload_n hx hb dX10_goPlace_44 rfl (lv_at hl 0 rfl) ?_
        refine lv_iconst (v := 2) hx hb dX10_goPlace_45 (by decide) ?_
        obtain ⟨ms_38, hR_39, h⟩ := gx_b h
        refine gJoin (Pj := fun H locs ls => va_P D vwCl [(z, .inr (9, [.int v_fault, .int v_size, .int v_upper, .int v_base, .ref z_isGood, .ref z_frozen, .ref z_sheetSize, .ref z_sheetLane, .ref z_sheet, .ref z_hands, .int v_wide, .long v_mask, .int v_paths, .ref z_seen, .ref z_work, .ref z_known, .ref z_next, .int a_19, .int v_isCounted, .ref z_counts, .ref z_acrosses, .ref z_failings, .int v_basis, .ref z_given, .int v_trace])), (z_known, .inl (cy 1, 64, .inr (.inl v_knownc))), (z_seen, .inl (cy 0, 32, .inl v_seenc)), (z_work, .inl (cy 0, 32, .inl o_24)), (z_isGood, .inl (cy 2, 32, .inl v_isGoodc)), (z_frozen, .inl (cy 0, 32, .inl v_frozenc)), (z_next, .inl (cy 1, 130, .inr (.inl a_21)))] H ∧ va_D A [(z, .inr (9, [.int v_fault, .int v_size, .int v_upper, .int v_base, .ref z_isGood, .ref z_frozen, .ref z_sheetSize, .ref z_sheetLane, .ref z_sheet, .ref z_hands, .int v_wide, .long v_mask, .int v_paths, .ref z_seen, .ref z_work, .ref z_known, .ref z_next, .int a_19, .int v_isCounted, .ref z_counts, .ref z_acrosses, .ref z_failings, .int v_basis, .ref z_given, .int v_trace])), (z_known, .inl (cy 1, 64, .inr (.inl v_knownc))), (z_seen, .inl (cy 0, 32, .inl v_seenc)), (z_work, .inl (cy 0, 32, .inl o_24)), (z_isGood, .inl (cy 2, 32, .inl v_isGoodc)), (z_frozen, .inl (cy 0, 32, .inl v_frozenc)), (z_next, .inl (cy 1, 130, .inr (.inl a_21)))] ∧ va_S A s.heap H locs ∧ lv_has ls 4 [(3, .int r_23), (2, .int a_18), (0, .ref z), (1, .int x1)]) (pcM := 55) (st := [.long ms_38, .int x1, .long (v_knownc (Int32.toNatClampNeg a_18)), .ref z]) ?_ (fun hJ55 => ?_)
        · intro H locs ls hp_
          obtain ⟨hP, hD, hS, hl⟩ := hp_
          clear hR_39
          obtain ⟨⟨o_40, o_41⟩, hc_42, h⟩ := gx_b h
          refine gCallv (wr := [(z_known, .inl (cy 1, 64, .inr (.inl v_knownc))), (z_seen, .inl (cy 0, 32, .inl v_seenc)), (z_work, .inl (cy 0, 32, .inl o_24)), (z_isGood, .inl (cy 2, 32, .inl v_isGoodc)), (z_frozen, .inl (cy 0, 32, .inl v_frozenc))]) (va_runV (As := [.long (v_knownc (Int32.toNatClampNeg a_18)), .int x1, .long ms_38]) (rest := []) ⟨hx, hb, hml, hown, hts⟩ (c_X10_goOn l D cy t H.size K z z_next z_isGood z_frozen z_sheetSize z_sheetLane z_sheet z_hands z_seen z_work z_known z_counts z_acrosses z_failings z_given v_fault v_size v_upper v_base v_wide v_mask v_paths a_19 v_isCounted v_basis v_trace a_21 (v_knownc (Int32.toNatClampNeg a_18)) x1 ms_38 o_40 o_41 hc_42) (cwV 3 hts gX10_goPlace_X10_goOn rfl rfl rfl (by decide +kernel) ⟨Nat.le_of_ble_eq_true rfl, Nat.le_of_ble_eq_true rfl⟩) ⟨gBlind, va_recv hK hP (ci := 9) (q0 := 0) rfl rfl, fun U hU hW => ⟨rfl, gPre.call hK hG hA hP hD hS [0, 6] (by decide) rfl U hU hW⟩⟩ rfl rfl hl.1 rfl (lv_room (Nat.le_of_ble_eq_true rfl)) dX10_goPlace_55 ⟨Nat.le_of_ble_eq_true rfl, Nat.le_of_ble_eq_true rfl⟩) hA hP hD hS [0, 6] [1, 2, 3, 4, 5] rfl rfl (by decide) (by decide) (fun H locs hP hD hS => ?_)
          have hP := hP.sub (ws' := [(z, .inr (9, [.int v_fault, .int v_size, .int v_upper, .int v_base, .ref z_isGood, .ref z_frozen, .ref z_sheetSize, .ref z_sheetLane, .ref z_sheet, .ref z_hands, .int v_wide, .long v_mask, .int v_paths, .ref z_seen, .ref z_work, .ref z_known, .ref z_next, .int o_40, .int v_isCounted, .ref z_counts, .ref z_acrosses, .ref z_failings, .int v_basis, .ref z_given, .int v_trace])), (z_known, .inl (cy 1, 64, .inr (.inl v_knownc))), (z_seen, .inl (cy 0, 32, .inl v_seenc)), (z_work, .inl (cy 0, 32, .inl o_24)), (z_isGood, .inl (cy 2, 32, .inl v_isGoodc)), (z_frozen, .inl (cy 0, 32, .inl v_frozenc)), (z_next, .inl (cy 1, 130, .inr (.inl o_41)))]) [5, 0, 1, 2, 3, 4, 6] rfl
          have hD := hD.sub (ws' := [(z, .inr (9, [.int v_fault, .int v_size, .int v_upper, .int v_base, .ref z_isGood, .ref z_frozen, .ref z_sheetSize, .ref z_sheetLane, .ref z_sheet, .ref z_hands, .int v_wide, .long v_mask, .int v_paths, .ref z_seen, .ref z_work, .ref z_known, .ref z_next, .int o_40, .int v_isCounted, .ref z_counts, .ref z_acrosses, .ref z_failings, .int v_basis, .ref z_given, .int v_trace])), (z_known, .inl (cy 1, 64, .inr (.inl v_knownc))), (z_seen, .inl (cy 0, 32, .inl v_seenc)), (z_work, .inl (cy 0, 32, .inl o_24)), (z_isGood, .inl (cy 2, 32, .inl v_isGoodc)), (z_frozen, .inl (cy 0, 32, .inl v_frozenc)), (z_next, .inl (cy 1, 130, .inr (.inl o_41)))]) [5, 0, 1, 2, 3, 4, 6] (by decide) rfl
          refine lv_iload_n hx hb dX10_goPlace_58 rfl (lv_at hl 0 rfl) ?_
          refine lv_iconst (v := 2) hx hb dX10_goPlace_59 (by decide) ?_
          refine lv_icmp_ne (tgt := 111) hx hb dX10_goPlace_60 (by decide) (fun c_43 => ?_) (fun c_43 => ?_)
          · have h := gx_f c_43 h
            obtain ⟨y2_44, e_y2_44⟩ : ∃ y : Int32, y = (a_18 + 1) := ⟨_, rfl⟩
            have h := gx_let e_y2_44 h
            refine lv_iinc (v := y2_44) (lv' := [(2, .int y2_44), (3, .int r_23), (0, .ref z), (1, .int x1)]) hx hb dX10_goPlace_111 hl (k := 1) rfl (by rw [e_y2_44]; rfl) (by decide) rfl (fun ls hl => ?_)
            refine lv_goto (tgt := 7) hx hb dX10_goPlace_114 (by decide) ?_
            exact ih (y2_44, o_40, o_24, o_41) _ _ _ h ⟨hP, hD, hS, lv_sub (l' := [(2, .int y2_44), (0, .ref z), (1, .int x1)]) hl [0, 2, 3] rfl⟩
          · have h := gx_t c_43 h
            refine lv_aload_n hx hb dX10_goPlace_63 rfl (lv_at hl 2 rfl) ?_
            refine lv_aload_n hx hb dX10_goPlace_64 rfl (lv_at hl 2 rfl) ?_
            refine va_get (D := D) (ci := 9) (v := .ref z_known) (C := RX10) (T := TX10) (N := 25) hx hb hts iX10 hown hK hP 0 rfl rfl 15 (by decide) f36 (fun _ h9 => h9) rfl dX10_goPlace_65 ?_
            refine lv_iload_n hx hb dX10_goPlace_68 rfl (lv_at hl 1 rfl) ?_
            obtain ⟨hi_, h⟩ := gx_ix h
            refine va_lald hx hb hK hP 1 1 rfl rfl hi_ dX10_goPlace_69 ?_
            refine lv_iload_n hx hb dX10_goPlace_70 rfl (lv_at hl 3 rfl) ?_
            refine lv_lconst (v := 1) hx hb dX10_goPlace_71 (by decide) ?_
            obtain ⟨⟨o_45, o_46⟩, hc_47, h⟩ := gx_b h
            refine gCallv (wr := [(z_known, .inl (cy 1, 64, .inr (.inl v_knownc))), (z_seen, .inl (cy 0, 32, .inl v_seenc)), (z_work, .inl (cy 0, 32, .inl o_24)), (z_isGood, .inl (cy 2, 32, .inl v_isGoodc)), (z_frozen, .inl (cy 0, 32, .inl v_frozenc))]) (va_runV (As := [.long (v_knownc (Int32.toNatClampNeg a_18)), .int x1, .long 1]) (rest := []) ⟨hx, hb, hml, hown, hts⟩ (c_X10_goOn l D cy t H.size K z z_next z_isGood z_frozen z_sheetSize z_sheetLane z_sheet z_hands z_seen z_work z_known z_counts z_acrosses z_failings z_given v_fault v_size v_upper v_base v_wide v_mask v_paths o_40 v_isCounted v_basis v_trace o_41 (v_knownc (Int32.toNatClampNeg a_18)) x1 1 o_45 o_46 hc_47) (cwV 3 hts gX10_goPlace_X10_goOn rfl rfl rfl (by decide +kernel) ⟨Nat.le_of_ble_eq_true rfl, Nat.le_of_ble_eq_true rfl⟩) ⟨gBlind, va_recv hK hP (ci := 9) (q0 := 0) rfl rfl, fun U hU hW => ⟨rfl, gPre.call hK hG hA hP hD hS [0, 6] (by decide) rfl U hU hW⟩⟩ rfl rfl hl.1 rfl (lv_room (Nat.le_of_ble_eq_true rfl)) dX10_goPlace_72 ⟨Nat.le_of_ble_eq_true rfl, Nat.le_of_ble_eq_true rfl⟩) hA hP hD hS [0, 6] [1, 2, 3, 4, 5] rfl rfl (by decide) (by decide) (fun H locs hP hD hS => ?_)
            have hP := hP.sub (ws' := [(z, .inr (9, [.int v_fault, .int v_size, .int v_upper, .int v_base, .ref z_isGood, .ref z_frozen, .ref z_sheetSize, .ref z_sheetLane, .ref z_sheet, .ref z_hands, .int v_wide, .long v_mask, .int v_paths, .ref z_seen, .ref z_work, .ref z_known, .ref z_next, .int o_45, .int v_isCounted, .ref z_counts, .ref z_acrosses, .ref z_failings, .int v_basis, .ref z_given, .int v_trace])), (z_known, .inl (cy 1, 64, .inr (.inl v_knownc))), (z_seen, .inl (cy 0, 32, .inl v_seenc)), (z_work, .inl (cy 0, 32, .inl o_24)), (z_isGood, .inl (cy 2, 32, .inl v_isGoodc)), (z_frozen, .inl (cy 0, 32, .inl v_frozenc)), (z_next, .inl (cy 1, 130, .inr (.inl o_46)))]) [5, 0, 1, 2, 3, 4, 6] rfl
            have hD := hD.sub (ws' := [(z, .inr (9, [.int v_fault, .int v_size, .int v_upper, .int v_base, .ref z_isGood, .ref z_frozen, .ref z_sheetSize, .ref z_sheetLane, .ref z_sheet, .ref z_hands, .int v_wide, .long v_mask, .int v_paths, .ref z_seen, .ref z_work, .ref z_known, .ref z_next, .int o_45, .int v_isCounted, .ref z_counts, .ref z_acrosses, .ref z_failings, .int v_basis, .ref z_given, .int v_trace])), (z_known, .inl (cy 1, 64, .inr (.inl v_knownc))), (z_seen, .inl (cy 0, 32, .inl v_seenc)), (z_work, .inl (cy 0, 32, .inl o_24)), (z_isGood, .inl (cy 2, 32, .inl v_isGoodc)), (z_frozen, .inl (cy 0, 32, .inl v_frozenc)), (z_next, .inl (cy 1, 130, .inr (.inl o_46)))]) [5, 0, 1, 2, 3, 4, 6] (by decide) rfl
            refine lv_goto (tgt := 111) hx hb dX10_goPlace_75 (by decide) ?_
            obtain ⟨y2_48, e_y2_48⟩ : ∃ y : Int32, y = (a_18 + 1) := ⟨_, rfl⟩
            have h := gx_let e_y2_48 h
            refine lv_iinc (v := y2_48) (lv' := [(2, .int y2_48), (3, .int r_23), (0, .ref z), (1, .int x1)]) hx hb dX10_goPlace_111 hl (k := 1) rfl (by rw [e_y2_48]; rfl) (by decide) rfl (fun ls hl => ?_)
            refine lv_goto (tgt := 7) hx hb dX10_goPlace_114 (by decide) ?_
            exact ih (y2_48, o_45, o_24, o_46) _ _ _ h ⟨hP, hD, hS, lv_sub (l' := [(2, .int y2_48), (0, .ref z), (1, .int x1)]) hl [0, 2, 3] rfl⟩
        · have h := hR_39
          refine lv_icmp_ne (tgt := 53) hx hb dX10_goPlace_46 (by decide) (fun c_49 => ?_) (fun c_49 => ?_)
          · have h := gx_f c_49 h
            refine lv_iload_n hx hb dX10_goPlace_53 rfl (lv_at hl 0 rfl) ?_
            refine lv_i2l (v := (Int32.toInt64 r_23)) hx hb dX10_goPlace_54 rfl ?_
            have hl := lv_sub (l' := [(3, .int r_23), (2, .int a_18), (0, .ref z), (1, .int x1)]) hl [0, 1, 2, 3] rfl
            cases h
            exact hJ55 _ _ _ ⟨hP, hD, hS, hl⟩
          · have h := gx_t c_49 h
            refine lv_lconst (v := 0) hx hb dX10_goPlace_49 (by decide) ?_
            refine lv_goto (tgt := 55) hx hb dX10_goPlace_50 (by decide) ?_
            have hl := lv_sub (l' := [(3, .int r_23), (2, .int a_18), (0, .ref z), (1, .int x1)]) hl [0, 1, 2, 3] rfl
            cases h
            exact hJ55 _ _ _ ⟨hP, hD, hS, hl⟩

def f_X10_wide (K : Nat) (x1 : Int32) (v_wide : Int32) : Option (Int32 × Int32) :=
  Option.bind (f_X10_in K (Int32.toInt64 x1) 1 64) fun r_1 =>
  if r_1 = 0 then
    some ((-2), v_wide)
  else
    some (v_wide, x1)
set_option maxHeartbeats 4000000 in
set_option maxRecDepth 100000 in
theorem c_X10_wide (l : Launch) (D : va_G) (cy : Nat → ClassId) (t sz K : Nat) (z : Nat) (z_isGood : Nat) (z_frozen : Nat) (z_sheetSize : Nat) (z_sheetLane : Nat) (z_sheet : Nat) (z_hands : Nat) (z_seen : Nat) (z_work : Nat) (z_known : Nat) (z_next : Nat) (z_counts : Nat) (z_acrosses : Nat) (z_failings : Nat) (z_given : Nat) (v_fault : Int32) (v_size : Int32) (v_upper : Int32) (v_base : Int32) (v_wide : Int32) (v_mask : Int64) (v_paths : Int32) (v_come : Int32) (v_isCounted : Int32) (v_basis : Int32) (v_trace : Int32) (x1 : Int32) (r_ : Int32) (o_v_wide : Int32) (h : f_X10_wide K x1 v_wide = some (r_, o_v_wide)) : gMi l D cy t sz yX10_wide wsX10_wide 1 25 [.ref z, .int x1] [(z, .inr (9, [.int v_fault, .int v_size, .int v_upper, .int v_base, .ref z_isGood, .ref z_frozen, .ref z_sheetSize, .ref z_sheetLane, .ref z_sheet, .ref z_hands, .int v_wide, .long v_mask, .int v_paths, .ref z_seen, .ref z_work, .ref z_known, .ref z_next, .int v_come, .int v_isCounted, .ref z_counts, .ref z_acrosses, .ref z_failings, .int v_basis, .ref z_given, .int v_trace]))] r_ [(z, .inr (9, [.int v_fault, .int v_size, .int v_upper, .int v_base, .ref z_isGood, .ref z_frozen, .ref z_sheetSize, .ref z_sheetLane, .ref z_sheet, .ref z_hands, .int o_v_wide, .long v_mask, .int v_paths, .ref z_seen, .ref z_work, .ref z_known, .ref z_next, .int v_come, .int v_isCounted, .ref z_counts, .ref z_acrosses, .ref z_failings, .int v_basis, .ref z_given, .int v_trace]))] := by
  refine gBi (cc := cX10_wide) (maxL := 3) (ret := (some .int)) (by decide) rfl (Nat.le_of_ble_eq_true rfl) ?_
  intro p e s m below meth c A ls hAt hl
  obtain ⟨hx, hb, hml, hr, hts, hown, hlocks, hin, hK, hG, hA, hP, hD⟩ := hAt
  have hS : va_S A s.heap s.heap [] := va_S.rf
  have hl : lv_has ls 3 [(0, .ref z), (1, .int x1)] := hl
  have k163 := hts (.constantLong RX10 163 (64)) (by decide +kernel)
  have f64 := hts (.fieldLink RX10 64 "PlainLinesModel" "wide" "I") (by decide +kernel)
  have iX10 := (by decide +kernel : ∀ w ∈ u_ws RX10 TX10 25, w ∈ wsX10_wide)
  rw [f_X10_wide] at h
  refine lv_iload_n hx hb dX10_wide_0 rfl (lv_at hl 1 rfl) ?_
  refine lv_i2l (v := (Int32.toInt64 x1)) hx hb dX10_wide_1 rfl ?_
  refine lv_lconst (v := 1) hx hb dX10_wide_2 (by decide) ?_
  refine lv_ldc2 hx hb hown k163 dX10_wide_3 ?_
  obtain ⟨r_1, hc_2, h⟩ := gx_b h
  refine gCalli (wr := [(z, .inr (9, [.int v_fault, .int v_size, .int v_upper, .int v_base, .ref z_isGood, .ref z_frozen, .ref z_sheetSize, .ref z_sheetLane, .ref z_sheet, .ref z_hands, .int v_wide, .long v_mask, .int v_paths, .ref z_seen, .ref z_work, .ref z_known, .ref z_next, .int v_come, .int v_isCounted, .ref z_counts, .ref z_acrosses, .ref z_failings, .int v_basis, .ref z_given, .int v_trace]))]) (va_runS (As := [.long (Int32.toInt64 x1), .long 1, .long 64]) (rest := []) ⟨hx, hb, hml, hown, hts⟩ (c_X10_in l D cy t s.heap.size K (Int32.toInt64 x1) 1 64 r_1 hc_2) (va_cwS 3 hts gX10_wide_X10_in rfl rfl rfl (by decide +kernel) ⟨Nat.le_of_ble_eq_true rfl, Nat.le_of_ble_eq_true rfl⟩) ⟨gBlind, fun U hU hW => ⟨rfl, gPre.call hK hG hA hP hD hS [] (by decide) rfl U hU hW⟩⟩ rfl rfl hl.1 rfl (lv_room (Nat.le_of_ble_eq_true rfl)) dX10_wide_6 ⟨Nat.le_of_ble_eq_true rfl, Nat.le_of_ble_eq_true rfl⟩) hA hP hD hS [] [0] rfl rfl (by decide) (by decide) (fun H locs hP hD hS => ?_)
  have hP : va_P D vwCl [(z, .inr (9, [.int v_fault, .int v_size, .int v_upper, .int v_base, .ref z_isGood, .ref z_frozen, .ref z_sheetSize, .ref z_sheetLane, .ref z_sheet, .ref z_hands, .int v_wide, .long v_mask, .int v_paths, .ref z_seen, .ref z_work, .ref z_known, .ref z_next, .int v_come, .int v_isCounted, .ref z_counts, .ref z_acrosses, .ref z_failings, .int v_basis, .ref z_given, .int v_trace]))] H := hP
  have hD : va_D A [(z, .inr (9, [.int v_fault, .int v_size, .int v_upper, .int v_base, .ref z_isGood, .ref z_frozen, .ref z_sheetSize, .ref z_sheetLane, .ref z_sheet, .ref z_hands, .int v_wide, .long v_mask, .int v_paths, .ref z_seen, .ref z_work, .ref z_known, .ref z_next, .int v_come, .int v_isCounted, .ref z_counts, .ref z_acrosses, .ref z_failings, .int v_basis, .ref z_given, .int v_trace]))] := hD
  refine lv_if_ne (tgt := 15) hx hb dX10_wide_9 (by decide) (fun c_3 => ?_) (fun c_3 => ?_)
  · have h := gx_f c_3 h
    refine lv_aload_n hx hb dX10_wide_15 rfl (lv_at hl 0 rfl) ?_
    refine va_get (D := D) (ci := 9) (v := .int v_wide) (C := RX10) (T := TX10) (N := 25) hx hb hts iX10 hown hK hP 0 rfl rfl 10 (by decide) f64 (fun _ h9 => h9) rfl dX10_wide_16 ?_
    refine lv_istore_n (lv' := [(2, .int v_wide), (0, .ref z), (1, .int x1)]) hx hb dX10_wide_19 rfl hl (by decide) rfl (fun ls hl => ?_)
    refine lv_aload_n hx hb dX10_wide_20 rfl (lv_at hl 1 rfl) ?_
    refine lv_iload_n hx hb dX10_wide_21 rfl (lv_at hl 2 rfl) ?_
    refine va_put (D := D) (ci := 9) (v := .int x1) (ty := .int) (C := RX10) (T := TX10) (N := 25) hx hb hts iX10 tyX10 tyX10_ok nmX10 hown hK hP hD hS 0 rfl rfl 10 (by decide) f64 (fun _ h9 => h9) rfl (by decide +kernel) rfl rfl (Nat.le_of_ble_eq_true rfl) dX10_wide_22 (fun H locs hP hD hS => ?_)
    have hP : va_P D vwCl [(z, .inr (9, [.int v_fault, .int v_size, .int v_upper, .int v_base, .ref z_isGood, .ref z_frozen, .ref z_sheetSize, .ref z_sheetLane, .ref z_sheet, .ref z_hands, .int x1, .long v_mask, .int v_paths, .ref z_seen, .ref z_work, .ref z_known, .ref z_next, .int v_come, .int v_isCounted, .ref z_counts, .ref z_acrosses, .ref z_failings, .int v_basis, .ref z_given, .int v_trace]))] H := hP
    have hD : va_D A [(z, .inr (9, [.int v_fault, .int v_size, .int v_upper, .int v_base, .ref z_isGood, .ref z_frozen, .ref z_sheetSize, .ref z_sheetLane, .ref z_sheet, .ref z_hands, .int x1, .long v_mask, .int v_paths, .ref z_seen, .ref z_work, .ref z_known, .ref z_next, .int v_come, .int v_isCounted, .ref z_counts, .ref z_acrosses, .ref z_failings, .int v_basis, .ref z_given, .int v_trace]))] := hD
    refine lv_iload_n hx hb dX10_wide_25 rfl (lv_at hl 0 rfl) ?_
    cases h
    exact gRi hx hb hr hlocks hP hD hS dX10_wide_26
  · have h := gx_t c_3 h
    refine lv_bipush (v := (-2)) hx hb dX10_wide_12 (by decide) ?_
    cases h
    exact gRi hx hb hr hlocks hP hD hS dX10_wide_14

def f_X10_check (K : Nat) (x1 : Int64) (v_mask : Int64) : Option (Int32 × Int64) :=
  Option.bind (f_X10_in K x1 0 4294967295) fun r_1 =>
  if r_1 = 0 then
    some ((-2), v_mask)
  else
    some (1, x1)
set_option maxHeartbeats 4000000 in
set_option maxRecDepth 100000 in
theorem c_X10_check (l : Launch) (D : va_G) (cy : Nat → ClassId) (t sz K : Nat) (z : Nat) (z_isGood : Nat) (z_frozen : Nat) (z_sheetSize : Nat) (z_sheetLane : Nat) (z_sheet : Nat) (z_hands : Nat) (z_seen : Nat) (z_work : Nat) (z_known : Nat) (z_next : Nat) (z_counts : Nat) (z_acrosses : Nat) (z_failings : Nat) (z_given : Nat) (v_fault : Int32) (v_size : Int32) (v_upper : Int32) (v_base : Int32) (v_wide : Int32) (v_mask : Int64) (v_paths : Int32) (v_come : Int32) (v_isCounted : Int32) (v_basis : Int32) (v_trace : Int32) (x1 : Int64) (r_ : Int32) (o_v_mask : Int64) (h : f_X10_check K x1 v_mask = some (r_, o_v_mask)) : gMi l D cy t sz yX10_check wsX10_check 1 25 [.ref z, .long x1] [(z, .inr (9, [.int v_fault, .int v_size, .int v_upper, .int v_base, .ref z_isGood, .ref z_frozen, .ref z_sheetSize, .ref z_sheetLane, .ref z_sheet, .ref z_hands, .int v_wide, .long v_mask, .int v_paths, .ref z_seen, .ref z_work, .ref z_known, .ref z_next, .int v_come, .int v_isCounted, .ref z_counts, .ref z_acrosses, .ref z_failings, .int v_basis, .ref z_given, .int v_trace]))] r_ [(z, .inr (9, [.int v_fault, .int v_size, .int v_upper, .int v_base, .ref z_isGood, .ref z_frozen, .ref z_sheetSize, .ref z_sheetLane, .ref z_sheet, .ref z_hands, .int v_wide, .long o_v_mask, .int v_paths, .ref z_seen, .ref z_work, .ref z_known, .ref z_next, .int v_come, .int v_isCounted, .ref z_counts, .ref z_acrosses, .ref z_failings, .int v_basis, .ref z_given, .int v_trace]))] := by
  refine gBi (cc := cX10_check) (maxL := 3) (ret := (some .int)) (by decide) rfl (Nat.le_of_ble_eq_true rfl) ?_
  intro p e s m below meth c A ls hAt hl
  obtain ⟨hx, hb, hml, hr, hts, hown, hlocks, hin, hK, hG, hA, hP, hD⟩ := hAt
  have hS : va_S A s.heap s.heap [] := va_S.rf
  have hl : lv_has ls 3 [(0, .ref z), (1, .long x1)] := hl
  have k165 := hts (.constantLong RX10 165 (4294967295)) (by decide +kernel)
  have f167 := hts (.fieldLink RX10 167 "PlainLinesModel" "mask" "J") (by decide +kernel)
  have iX10 := (by decide +kernel : ∀ w ∈ u_ws RX10 TX10 25, w ∈ wsX10_check)
  rw [f_X10_check] at h
  refine lv_lload_n hx hb dX10_check_0 rfl (lv_at hl 1 rfl) ?_
  refine lv_lconst (v := 0) hx hb dX10_check_1 (by decide) ?_
  refine lv_ldc2 hx hb hown k165 dX10_check_2 ?_
  obtain ⟨r_1, hc_2, h⟩ := gx_b h
  refine gCalli (wr := [(z, .inr (9, [.int v_fault, .int v_size, .int v_upper, .int v_base, .ref z_isGood, .ref z_frozen, .ref z_sheetSize, .ref z_sheetLane, .ref z_sheet, .ref z_hands, .int v_wide, .long v_mask, .int v_paths, .ref z_seen, .ref z_work, .ref z_known, .ref z_next, .int v_come, .int v_isCounted, .ref z_counts, .ref z_acrosses, .ref z_failings, .int v_basis, .ref z_given, .int v_trace]))]) (va_runS (As := [.long x1, .long 0, .long 4294967295]) (rest := []) ⟨hx, hb, hml, hown, hts⟩ (c_X10_in l D cy t s.heap.size K x1 0 4294967295 r_1 hc_2) (va_cwS 3 hts gX10_check_X10_in rfl rfl rfl (by decide +kernel) ⟨Nat.le_of_ble_eq_true rfl, Nat.le_of_ble_eq_true rfl⟩) ⟨gBlind, fun U hU hW => ⟨rfl, gPre.call hK hG hA hP hD hS [] (by decide) rfl U hU hW⟩⟩ rfl rfl hl.1 rfl (lv_room (Nat.le_of_ble_eq_true rfl)) dX10_check_5 ⟨Nat.le_of_ble_eq_true rfl, Nat.le_of_ble_eq_true rfl⟩) hA hP hD hS [] [0] rfl rfl (by decide) (by decide) (fun H locs hP hD hS => ?_)
  have hP : va_P D vwCl [(z, .inr (9, [.int v_fault, .int v_size, .int v_upper, .int v_base, .ref z_isGood, .ref z_frozen, .ref z_sheetSize, .ref z_sheetLane, .ref z_sheet, .ref z_hands, .int v_wide, .long v_mask, .int v_paths, .ref z_seen, .ref z_work, .ref z_known, .ref z_next, .int v_come, .int v_isCounted, .ref z_counts, .ref z_acrosses, .ref z_failings, .int v_basis, .ref z_given, .int v_trace]))] H := hP
  have hD : va_D A [(z, .inr (9, [.int v_fault, .int v_size, .int v_upper, .int v_base, .ref z_isGood, .ref z_frozen, .ref z_sheetSize, .ref z_sheetLane, .ref z_sheet, .ref z_hands, .int v_wide, .long v_mask, .int v_paths, .ref z_seen, .ref z_work, .ref z_known, .ref z_next, .int v_come, .int v_isCounted, .ref z_counts, .ref z_acrosses, .ref z_failings, .int v_basis, .ref z_given, .int v_trace]))] := hD
  refine lv_if_ne (tgt := 14) hx hb dX10_check_8 (by decide) (fun c_3 => ?_) (fun c_3 => ?_)
  · have h := gx_f c_3 h
    refine lv_aload_n hx hb dX10_check_14 rfl (lv_at hl 0 rfl) ?_
    refine lv_lload_n hx hb dX10_check_15 rfl (lv_at hl 1 rfl) ?_
    refine va_put (D := D) (ci := 9) (v := .long x1) (ty := .long) (C := RX10) (T := TX10) (N := 25) hx hb hts iX10 tyX10 tyX10_ok nmX10 hown hK hP hD hS 0 rfl rfl 11 (by decide) f167 (fun _ h9 => h9) rfl (by decide +kernel) rfl rfl (Nat.le_of_ble_eq_true rfl) dX10_check_16 (fun H locs hP hD hS => ?_)
    have hP : va_P D vwCl [(z, .inr (9, [.int v_fault, .int v_size, .int v_upper, .int v_base, .ref z_isGood, .ref z_frozen, .ref z_sheetSize, .ref z_sheetLane, .ref z_sheet, .ref z_hands, .int v_wide, .long x1, .int v_paths, .ref z_seen, .ref z_work, .ref z_known, .ref z_next, .int v_come, .int v_isCounted, .ref z_counts, .ref z_acrosses, .ref z_failings, .int v_basis, .ref z_given, .int v_trace]))] H := hP
    have hD : va_D A [(z, .inr (9, [.int v_fault, .int v_size, .int v_upper, .int v_base, .ref z_isGood, .ref z_frozen, .ref z_sheetSize, .ref z_sheetLane, .ref z_sheet, .ref z_hands, .int v_wide, .long x1, .int v_paths, .ref z_seen, .ref z_work, .ref z_known, .ref z_next, .int v_come, .int v_isCounted, .ref z_counts, .ref z_acrosses, .ref z_failings, .int v_basis, .ref z_given, .int v_trace]))] := hD
    refine lv_iconst (v := 1) hx hb dX10_check_19 (by decide) ?_
    cases h
    exact gRi hx hb hr hlocks hP hD hS dX10_check_20
  · have h := gx_t c_3 h
    refine lv_bipush (v := (-2)) hx hb dX10_check_11 (by decide) ?_
    cases h
    exact gRi hx hb hr hlocks hP hD hS dX10_check_13

def fL_X10_read_69 (K : Nat) (u0_1 : Int32) (u0_10 : Int32) (u4 : Nat → Int32) (u7 : Nat → Int32) (u8 : Nat → Int32) : Nat → Int32 × Int32 × Int32 × (Nat → Int64) × (Nat → Int32) × (Nat → Int64) → Option (Int32 × Int32 × Int32 × (Nat → Int64) × (Nat → Int32) × (Nat → Int64))
  | 0, _ => none
  | k + 1, (l4, u0_12, u0_17, u5, u6, u9) =>
    if u0_1 ≤ l4 then
      some (l4, u0_12, u0_17, u5, u6, u9)
    else
      Option.bind (f_X10_goPlace K l4 u0_1 u0_10 u0_12 u5 u4 u6 u7 u8 u9) fun (o_17, o_18, o_19, o_20, o_21) =>
      gLet (l4 + 1) fun y4_22 =>
      fL_X10_read_69 K u0_1 u0_10 u4 u7 u8 k (y4_22, o_17, o_18, o_19, o_20, o_21)
def f_X10_read (K : Nat) (x1 : Int32) (x2 : Int32) (v_size : Int32) (v_wide : Int32) (v_paths : Int32) (v_come : Int32) (v_sheetSizec : Nat → Int32) (v_sheetLanec : Nat → Int32) (v_sheetc : Nat → Int64) (v_seenc : Nat → Int32) (v_knownc : Nat → Int64) (v_workc : Nat → Int32) (v_isGoodc : Nat → Int32) (v_frozenc : Nat → Int32) (v_nextc : Nat → Int64) : Option (Int32 × Int32 × Int32 × Int32 × (Nat → Int32) × (Nat → Int64) × (Nat → Int32) × (Nat → Int64)) :=
  Option.bind (f_X10_noSheet K x1) fun r_1 =>
  if r_1 = 0 then
    Option.bind (f_X10_in K (Int32.toInt64 x2) 0 2) fun r_3 =>
    if r_3 = 0 then
      Option.bind (f_X10_refused K (-2)) fun (r_33, o_34) =>
      some (r_33, o_34, v_paths, v_come, v_seenc, v_knownc, v_workc, v_nextc)
    else
      Option.bind (f_X10_faultOf K x1 x2 v_size v_sheetSizec v_sheetLanec) fun r_5 =>
      if r_5 ≤ 0 then
        Option.bind (f_X10_laySeen K x1 v_size v_sheetc v_seenc) fun o_7 =>
        gIx 0 64 <|
        gLet (vp_updL v_knownc (Int32.toNatClampNeg 0) 0) fun w_8 =>
        Option.bind (fL_X10_read_69 K v_size v_wide o_7 v_isGoodc v_frozenc K (0, 1, v_come, w_8, v_workc, v_nextc)) fun (o_23, o_24, o_25, o_26, o_27, o_28) =>
        Option.bind (f_X10_refused K o_24) fun (r_29, o_30) =>
        some (r_29, o_30, o_24, o_25, o_7, o_26, o_27, o_28)
      else
        Option.bind (f_X10_failed K r_5) fun (r_31, o_32) =>
        some (r_31, o_32, v_paths, v_come, v_seenc, v_knownc, v_workc, v_nextc)
  else
    Option.bind (f_X10_refused K (-1)) fun (r_35, o_36) =>
    some (r_35, o_36, v_paths, v_come, v_seenc, v_knownc, v_workc, v_nextc)
set_option maxHeartbeats 4000000 in
set_option maxRecDepth 100000 in
theorem c_X10_read (l : Launch) (D : va_G) (cy : Nat → ClassId) (t sz K : Nat) (z : Nat) (z_sheetSize : Nat) (z_sheetLane : Nat) (z_sheet : Nat) (z_seen : Nat) (z_known : Nat) (z_work : Nat) (z_isGood : Nat) (z_frozen : Nat) (z_next : Nat) (z_hands : Nat) (z_counts : Nat) (z_acrosses : Nat) (z_failings : Nat) (z_given : Nat) (v_fault : Int32) (v_size : Int32) (v_upper : Int32) (v_base : Int32) (v_wide : Int32) (v_mask : Int64) (v_paths : Int32) (v_come : Int32) (v_isCounted : Int32) (v_basis : Int32) (v_trace : Int32) (v_sheetSizec : Nat → Int32) (v_sheetLanec : Nat → Int32) (v_sheetc : Nat → Int64) (v_seenc : Nat → Int32) (v_knownc : Nat → Int64) (v_workc : Nat → Int32) (v_isGoodc : Nat → Int32) (v_frozenc : Nat → Int32) (v_nextc : Nat → Int64) (x1 : Int32) (x2 : Int32) (r_ : Int32) (o_v_fault : Int32) (o_v_paths : Int32) (o_v_come : Int32) (o_v_seenc : Nat → Int32) (o_v_knownc : Nat → Int64) (o_v_workc : Nat → Int32) (o_v_nextc : Nat → Int64) (h : f_X10_read K x1 x2 v_size v_wide v_paths v_come v_sheetSizec v_sheetLanec v_sheetc v_seenc v_knownc v_workc v_isGoodc v_frozenc v_nextc = some (r_, o_v_fault, o_v_paths, o_v_come, o_v_seenc, o_v_knownc, o_v_workc, o_v_nextc)) : gMi l D cy t sz yX10_read wsX10_read 3 81 [.ref z, .int x1, .int x2] [(z, .inr (9, [.int v_fault, .int v_size, .int v_upper, .int v_base, .ref z_isGood, .ref z_frozen, .ref z_sheetSize, .ref z_sheetLane, .ref z_sheet, .ref z_hands, .int v_wide, .long v_mask, .int v_paths, .ref z_seen, .ref z_work, .ref z_known, .ref z_next, .int v_come, .int v_isCounted, .ref z_counts, .ref z_acrosses, .ref z_failings, .int v_basis, .ref z_given, .int v_trace])), (z_sheetSize, .inl (cy 0, 4, .inl v_sheetSizec)), (z_sheetLane, .inl (cy 0, 4, .inl v_sheetLanec)), (z_sheet, .inl (cy 1, 160, .inr (.inl v_sheetc))), (z_seen, .inl (cy 0, 32, .inl v_seenc)), (z_known, .inl (cy 1, 64, .inr (.inl v_knownc))), (z_work, .inl (cy 0, 32, .inl v_workc)), (z_isGood, .inl (cy 2, 32, .inl v_isGoodc)), (z_frozen, .inl (cy 0, 32, .inl v_frozenc)), (z_next, .inl (cy 1, 130, .inr (.inl v_nextc)))] r_ [(z, .inr (9, [.int o_v_fault, .int v_size, .int v_upper, .int v_base, .ref z_isGood, .ref z_frozen, .ref z_sheetSize, .ref z_sheetLane, .ref z_sheet, .ref z_hands, .int v_wide, .long v_mask, .int o_v_paths, .ref z_seen, .ref z_work, .ref z_known, .ref z_next, .int o_v_come, .int v_isCounted, .ref z_counts, .ref z_acrosses, .ref z_failings, .int v_basis, .ref z_given, .int v_trace])), (z_sheetSize, .inl (cy 0, 4, .inl v_sheetSizec)), (z_sheetLane, .inl (cy 0, 4, .inl v_sheetLanec)), (z_sheet, .inl (cy 1, 160, .inr (.inl v_sheetc))), (z_seen, .inl (cy 0, 32, .inl o_v_seenc)), (z_known, .inl (cy 1, 64, .inr (.inl o_v_knownc))), (z_work, .inl (cy 0, 32, .inl o_v_workc)), (z_isGood, .inl (cy 2, 32, .inl v_isGoodc)), (z_frozen, .inl (cy 0, 32, .inl v_frozenc)), (z_next, .inl (cy 1, 130, .inr (.inl o_v_nextc)))] := by
  refine gBi (cc := cX10_read) (maxL := 5) (ret := (some .int)) (by decide) rfl (Nat.le_of_ble_eq_true rfl) ?_
  intro p e s m below meth c A ls hAt hl
  obtain ⟨hx, hb, hml, hr, hts, hown, hlocks, hin, hK, hG, hA, hP, hD⟩ := hAt
  have hS : va_S A s.heap s.heap [] := va_S.rf
  have hl : lv_has ls 5 [(0, .ref z), (1, .int x1), (2, .int x2)] := hl
  have k93 := hts (.constantLong RX10 93 (2)) (by decide +kernel)
  have f67 := hts (.fieldLink RX10 67 "PlainLinesModel" "paths" "I") (by decide +kernel)
  have iX10 := (by decide +kernel : ∀ w ∈ u_ws RX10 TX10 25, w ∈ wsX10_read)
  have f36 := hts (.fieldLink RX10 36 "PlainLinesModel" "known" "[J") (by decide +kernel)
  have f54 := hts (.fieldLink RX10 54 "PlainLinesModel" "size" "I") (by decide +kernel)
  rw [f_X10_read] at h
  refine lv_iload_n hx hb dX10_read_0 rfl (lv_at hl 1 rfl) ?_
  obtain ⟨r_1, hc_2, h⟩ := gx_b h
  refine gCalli (wr := [(z, .inr (9, [.int v_fault, .int v_size, .int v_upper, .int v_base, .ref z_isGood, .ref z_frozen, .ref z_sheetSize, .ref z_sheetLane, .ref z_sheet, .ref z_hands, .int v_wide, .long v_mask, .int v_paths, .ref z_seen, .ref z_work, .ref z_known, .ref z_next, .int v_come, .int v_isCounted, .ref z_counts, .ref z_acrosses, .ref z_failings, .int v_basis, .ref z_given, .int v_trace])), (z_sheetSize, .inl (cy 0, 4, .inl v_sheetSizec)), (z_sheetLane, .inl (cy 0, 4, .inl v_sheetLanec)), (z_sheet, .inl (cy 1, 160, .inr (.inl v_sheetc))), (z_seen, .inl (cy 0, 32, .inl v_seenc)), (z_known, .inl (cy 1, 64, .inr (.inl v_knownc))), (z_work, .inl (cy 0, 32, .inl v_workc)), (z_isGood, .inl (cy 2, 32, .inl v_isGoodc)), (z_frozen, .inl (cy 0, 32, .inl v_frozenc)), (z_next, .inl (cy 1, 130, .inr (.inl v_nextc)))]) (va_runS (As := [.int x1]) (rest := []) ⟨hx, hb, hml, hown, hts⟩ (c_X10_noSheet l D cy t s.heap.size K x1 r_1 hc_2) (va_cwS 1 hts gX10_read_X10_noSheet rfl rfl rfl (by decide +kernel) ⟨Nat.le_of_ble_eq_true rfl, Nat.le_of_ble_eq_true rfl⟩) ⟨gBlind, fun U hU hW => ⟨rfl, gPre.call hK hG hA hP hD hS [] (by decide) rfl U hU hW⟩⟩ rfl rfl hl.1 rfl (lv_room (Nat.le_of_ble_eq_true rfl)) dX10_read_1 ⟨Nat.le_of_ble_eq_true rfl, Nat.le_of_ble_eq_true rfl⟩) hA hP hD hS [] [0, 1, 2, 3, 4, 5, 6, 7, 8, 9] rfl rfl (by decide) (by decide) (fun H locs hP hD hS => ?_)
  have hP : va_P D vwCl [(z, .inr (9, [.int v_fault, .int v_size, .int v_upper, .int v_base, .ref z_isGood, .ref z_frozen, .ref z_sheetSize, .ref z_sheetLane, .ref z_sheet, .ref z_hands, .int v_wide, .long v_mask, .int v_paths, .ref z_seen, .ref z_work, .ref z_known, .ref z_next, .int v_come, .int v_isCounted, .ref z_counts, .ref z_acrosses, .ref z_failings, .int v_basis, .ref z_given, .int v_trace])), (z_sheetSize, .inl (cy 0, 4, .inl v_sheetSizec)), (z_sheetLane, .inl (cy 0, 4, .inl v_sheetLanec)), (z_sheet, .inl (cy 1, 160, .inr (.inl v_sheetc))), (z_seen, .inl (cy 0, 32, .inl v_seenc)), (z_known, .inl (cy 1, 64, .inr (.inl v_knownc))), (z_work, .inl (cy 0, 32, .inl v_workc)), (z_isGood, .inl (cy 2, 32, .inl v_isGoodc)), (z_frozen, .inl (cy 0, 32, .inl v_frozenc)), (z_next, .inl (cy 1, 130, .inr (.inl v_nextc)))] H := hP
  have hD : va_D A [(z, .inr (9, [.int v_fault, .int v_size, .int v_upper, .int v_base, .ref z_isGood, .ref z_frozen, .ref z_sheetSize, .ref z_sheetLane, .ref z_sheet, .ref z_hands, .int v_wide, .long v_mask, .int v_paths, .ref z_seen, .ref z_work, .ref z_known, .ref z_next, .int v_come, .int v_isCounted, .ref z_counts, .ref z_acrosses, .ref z_failings, .int v_basis, .ref z_given, .int v_trace])), (z_sheetSize, .inl (cy 0, 4, .inl v_sheetSizec)), (z_sheetLane, .inl (cy 0, 4, .inl v_sheetLanec)), (z_sheet, .inl (cy 1, 160, .inr (.inl v_sheetc))), (z_seen, .inl (cy 0, 32, .inl v_seenc)), (z_known, .inl (cy 1, 64, .inr (.inl v_knownc))), (z_work, .inl (cy 0, 32, .inl v_workc)), (z_isGood, .inl (cy 2, 32, .inl v_isGoodc)), (z_frozen, .inl (cy 0, 32, .inl v_frozenc)), (z_next, .inl (cy 1, 130, .inr (.inl v_nextc)))] := hD
  refine lv_if_eq (tgt := 13) hx hb dX10_read_4 (by decide) (fun c_3 => ?_) (fun c_3 => ?_)
  · have h := gx_t c_3 h
    refine lv_iload_n hx hb dX10_read_13 rfl (lv_at hl 2 rfl) ?_
    refine lv_i2l (v := (Int32.toInt64 x2)) hx hb dX10_read_14 rfl ?_
    refine lv_lconst (v := 0) hx hb dX10_read_15 (by decide) ?_
    refine lv_ldc2 hx hb hown k93 dX10_read_16 ?_
    obtain ⟨r_4, hc_5, h⟩ := gx_b h
    refine gCalli (wr := [(z, .inr (9, [.int v_fault, .int v_size, .int v_upper, .int v_base, .ref z_isGood, .ref z_frozen, .ref z_sheetSize, .ref z_sheetLane, .ref z_sheet, .ref z_hands, .int v_wide, .long v_mask, .int v_paths, .ref z_seen, .ref z_work, .ref z_known, .ref z_next, .int v_come, .int v_isCounted, .ref z_counts, .ref z_acrosses, .ref z_failings, .int v_basis, .ref z_given, .int v_trace])), (z_sheetSize, .inl (cy 0, 4, .inl v_sheetSizec)), (z_sheetLane, .inl (cy 0, 4, .inl v_sheetLanec)), (z_sheet, .inl (cy 1, 160, .inr (.inl v_sheetc))), (z_seen, .inl (cy 0, 32, .inl v_seenc)), (z_known, .inl (cy 1, 64, .inr (.inl v_knownc))), (z_work, .inl (cy 0, 32, .inl v_workc)), (z_isGood, .inl (cy 2, 32, .inl v_isGoodc)), (z_frozen, .inl (cy 0, 32, .inl v_frozenc)), (z_next, .inl (cy 1, 130, .inr (.inl v_nextc)))]) (va_runS (As := [.long (Int32.toInt64 x2), .long 0, .long 2]) (rest := []) ⟨hx, hb, hml, hown, hts⟩ (c_X10_in l D cy t H.size K (Int32.toInt64 x2) 0 2 r_4 hc_5) (va_cwS 3 hts gX10_read_X10_in rfl rfl rfl (by decide +kernel) ⟨Nat.le_of_ble_eq_true rfl, Nat.le_of_ble_eq_true rfl⟩) ⟨gBlind, fun U hU hW => ⟨rfl, gPre.call hK hG hA hP hD hS [] (by decide) rfl U hU hW⟩⟩ rfl rfl hl.1 rfl (lv_room (Nat.le_of_ble_eq_true rfl)) dX10_read_19 ⟨Nat.le_of_ble_eq_true rfl, Nat.le_of_ble_eq_true rfl⟩) hA hP hD hS [] [0, 1, 2, 3, 4, 5, 6, 7, 8, 9] rfl rfl (by decide) (by decide) (fun H locs hP hD hS => ?_)
    have hP : va_P D vwCl [(z, .inr (9, [.int v_fault, .int v_size, .int v_upper, .int v_base, .ref z_isGood, .ref z_frozen, .ref z_sheetSize, .ref z_sheetLane, .ref z_sheet, .ref z_hands, .int v_wide, .long v_mask, .int v_paths, .ref z_seen, .ref z_work, .ref z_known, .ref z_next, .int v_come, .int v_isCounted, .ref z_counts, .ref z_acrosses, .ref z_failings, .int v_basis, .ref z_given, .int v_trace])), (z_sheetSize, .inl (cy 0, 4, .inl v_sheetSizec)), (z_sheetLane, .inl (cy 0, 4, .inl v_sheetLanec)), (z_sheet, .inl (cy 1, 160, .inr (.inl v_sheetc))), (z_seen, .inl (cy 0, 32, .inl v_seenc)), (z_known, .inl (cy 1, 64, .inr (.inl v_knownc))), (z_work, .inl (cy 0, 32, .inl v_workc)), (z_isGood, .inl (cy 2, 32, .inl v_isGoodc)), (z_frozen, .inl (cy 0, 32, .inl v_frozenc)), (z_next, .inl (cy 1, 130, .inr (.inl v_nextc)))] H := hP
    have hD : va_D A [(z, .inr (9, [.int v_fault, .int v_size, .int v_upper, .int v_base, .ref z_isGood, .ref z_frozen, .ref z_sheetSize, .ref z_sheetLane, .ref z_sheet, .ref z_hands, .int v_wide, .long v_mask, .int v_paths, .ref z_seen, .ref z_work, .ref z_known, .ref z_next, .int v_come, .int v_isCounted, .ref z_counts, .ref z_acrosses, .ref z_failings, .int v_basis, .ref z_given, .int v_trace])), (z_sheetSize, .inl (cy 0, 4, .inl v_sheetSizec)), (z_sheetLane, .inl (cy 0, 4, .inl v_sheetLanec)), (z_sheet, .inl (cy 1, 160, .inr (.inl v_sheetc))), (z_seen, .inl (cy 0, 32, .inl v_seenc)), (z_known, .inl (cy 1, 64, .inr (.inl v_knownc))), (z_work, .inl (cy 0, 32, .inl v_workc)), (z_isGood, .inl (cy 2, 32, .inl v_isGoodc)), (z_frozen, .inl (cy 0, 32, .inl v_frozenc)), (z_next, .inl (cy 1, 130, .inr (.inl v_nextc)))] := hD
    refine lv_if_ne (tgt := 32) hx hb dX10_read_22 (by decide) (fun c_6 => ?_) (fun c_6 => ?_)
    · have h := gx_f c_6 h
      refine lv_aload_n hx hb dX10_read_32 rfl (lv_at hl 0 rfl) ?_
      refine lv_iload_n hx hb dX10_read_33 rfl (lv_at hl 1 rfl) ?_
      refine lv_iload_n hx hb dX10_read_34 rfl (lv_at hl 2 rfl) ?_
      obtain ⟨r_7, hc_8, h⟩ := gx_b h
      refine gCalli (wr := [(z_sheet, .inl (cy 1, 160, .inr (.inl v_sheetc))), (z_seen, .inl (cy 0, 32, .inl v_seenc)), (z_known, .inl (cy 1, 64, .inr (.inl v_knownc))), (z_work, .inl (cy 0, 32, .inl v_workc)), (z_isGood, .inl (cy 2, 32, .inl v_isGoodc)), (z_frozen, .inl (cy 0, 32, .inl v_frozenc)), (z_next, .inl (cy 1, 130, .inr (.inl v_nextc)))]) (va_runV (As := [.int x1, .int x2]) (rest := []) ⟨hx, hb, hml, hown, hts⟩ (c_X10_faultOf l D cy t H.size K z z_sheetSize z_sheetLane z_isGood z_frozen z_sheet z_hands z_seen z_work z_known z_next z_counts z_acrosses z_failings z_given v_fault v_size v_upper v_base v_wide v_mask v_paths v_come v_isCounted v_basis v_trace v_sheetSizec v_sheetLanec x1 x2 r_7 hc_8) (cwV 2 hts gX10_read_X10_faultOf rfl rfl rfl (by decide +kernel) ⟨Nat.le_of_ble_eq_true rfl, Nat.le_of_ble_eq_true rfl⟩) ⟨gBlind, va_recv hK hP (ci := 9) (q0 := 0) rfl rfl, fun U hU hW => ⟨rfl, gPre.call hK hG hA hP hD hS [0, 1, 2] (by decide) rfl U hU hW⟩⟩ rfl rfl hl.1 rfl (lv_room (Nat.le_of_ble_eq_true rfl)) dX10_read_35 ⟨Nat.le_of_ble_eq_true rfl, Nat.le_of_ble_eq_true rfl⟩) hA hP hD hS [0, 1, 2] [3, 4, 5, 6, 7, 8, 9] rfl rfl (by decide) (by decide) (fun H locs hP hD hS => ?_)
      have hP := hP.sub (ws' := [(z, .inr (9, [.int v_fault, .int v_size, .int v_upper, .int v_base, .ref z_isGood, .ref z_frozen, .ref z_sheetSize, .ref z_sheetLane, .ref z_sheet, .ref z_hands, .int v_wide, .long v_mask, .int v_paths, .ref z_seen, .ref z_work, .ref z_known, .ref z_next, .int v_come, .int v_isCounted, .ref z_counts, .ref z_acrosses, .ref z_failings, .int v_basis, .ref z_given, .int v_trace])), (z_sheetSize, .inl (cy 0, 4, .inl v_sheetSizec)), (z_sheetLane, .inl (cy 0, 4, .inl v_sheetLanec)), (z_sheet, .inl (cy 1, 160, .inr (.inl v_sheetc))), (z_seen, .inl (cy 0, 32, .inl v_seenc)), (z_known, .inl (cy 1, 64, .inr (.inl v_knownc))), (z_work, .inl (cy 0, 32, .inl v_workc)), (z_isGood, .inl (cy 2, 32, .inl v_isGoodc)), (z_frozen, .inl (cy 0, 32, .inl v_frozenc)), (z_next, .inl (cy 1, 130, .inr (.inl v_nextc)))]) [7, 8, 9, 0, 1, 2, 3, 4, 5, 6] rfl
      have hD := hD.sub (ws' := [(z, .inr (9, [.int v_fault, .int v_size, .int v_upper, .int v_base, .ref z_isGood, .ref z_frozen, .ref z_sheetSize, .ref z_sheetLane, .ref z_sheet, .ref z_hands, .int v_wide, .long v_mask, .int v_paths, .ref z_seen, .ref z_work, .ref z_known, .ref z_next, .int v_come, .int v_isCounted, .ref z_counts, .ref z_acrosses, .ref z_failings, .int v_basis, .ref z_given, .int v_trace])), (z_sheetSize, .inl (cy 0, 4, .inl v_sheetSizec)), (z_sheetLane, .inl (cy 0, 4, .inl v_sheetLanec)), (z_sheet, .inl (cy 1, 160, .inr (.inl v_sheetc))), (z_seen, .inl (cy 0, 32, .inl v_seenc)), (z_known, .inl (cy 1, 64, .inr (.inl v_knownc))), (z_work, .inl (cy 0, 32, .inl v_workc)), (z_isGood, .inl (cy 2, 32, .inl v_isGoodc)), (z_frozen, .inl (cy 0, 32, .inl v_frozenc)), (z_next, .inl (cy 1, 130, .inr (.inl v_nextc)))]) [7, 8, 9, 0, 1, 2, 3, 4, 5, 6] (by decide) rfl
      refine lv_istore_n (lv' := [(3, .int r_7), (0, .ref z), (1, .int x1), (2, .int x2)]) hx hb dX10_read_38 rfl hl (by decide) rfl (fun ls hl => ?_)
      refine lv_iload_n hx hb dX10_read_39 rfl (lv_at hl 0 rfl) ?_
      refine lv_if_le (tgt := 49) hx hb dX10_read_40 (by decide) (fun c_9 => ?_) (fun c_9 => ?_)
      · have h := gx_t c_9 h
        refine lv_aload_n hx hb dX10_read_49 rfl (lv_at hl 1 rfl) ?_
        refine lv_iload_n hx hb dX10_read_50 rfl (lv_at hl 2 rfl) ?_
        obtain ⟨o_10, hc_11, h⟩ := gx_b h
        refine gCallv (wr := [(z_sheetSize, .inl (cy 0, 4, .inl v_sheetSizec)), (z_sheetLane, .inl (cy 0, 4, .inl v_sheetLanec)), (z_known, .inl (cy 1, 64, .inr (.inl v_knownc))), (z_work, .inl (cy 0, 32, .inl v_workc)), (z_isGood, .inl (cy 2, 32, .inl v_isGoodc)), (z_frozen, .inl (cy 0, 32, .inl v_frozenc)), (z_next, .inl (cy 1, 130, .inr (.inl v_nextc)))]) (va_runV (As := [.int x1]) (rest := []) ⟨hx, hb, hml, hown, hts⟩ (c_X10_laySeen l D cy t H.size K z z_sheet z_seen z_isGood z_frozen z_sheetSize z_sheetLane z_hands z_work z_known z_next z_counts z_acrosses z_failings z_given v_fault v_size v_upper v_base v_wide v_mask v_paths v_come v_isCounted v_basis v_trace v_sheetc v_seenc x1 o_10 hc_11) (cwV 1 hts gX10_read_X10_laySeen rfl rfl rfl (by decide +kernel) ⟨Nat.le_of_ble_eq_true rfl, Nat.le_of_ble_eq_true rfl⟩) ⟨gBlind, va_recv hK hP (ci := 9) (q0 := 0) rfl rfl, fun U hU hW => ⟨rfl, gPre.call hK hG hA hP hD hS [0, 3, 4] (by decide) rfl U hU hW⟩⟩ rfl rfl hl.1 rfl (lv_room (Nat.le_of_ble_eq_true rfl)) dX10_read_51 ⟨Nat.le_of_ble_eq_true rfl, Nat.le_of_ble_eq_true rfl⟩) hA hP hD hS [0, 3, 4] [1, 2, 5, 6, 7, 8, 9] rfl rfl (by decide) (by decide) (fun H locs hP hD hS => ?_)
        have hP := hP.sub (ws' := [(z, .inr (9, [.int v_fault, .int v_size, .int v_upper, .int v_base, .ref z_isGood, .ref z_frozen, .ref z_sheetSize, .ref z_sheetLane, .ref z_sheet, .ref z_hands, .int v_wide, .long v_mask, .int v_paths, .ref z_seen, .ref z_work, .ref z_known, .ref z_next, .int v_come, .int v_isCounted, .ref z_counts, .ref z_acrosses, .ref z_failings, .int v_basis, .ref z_given, .int v_trace])), (z_sheetSize, .inl (cy 0, 4, .inl v_sheetSizec)), (z_sheetLane, .inl (cy 0, 4, .inl v_sheetLanec)), (z_sheet, .inl (cy 1, 160, .inr (.inl v_sheetc))), (z_seen, .inl (cy 0, 32, .inl o_10)), (z_known, .inl (cy 1, 64, .inr (.inl v_knownc))), (z_work, .inl (cy 0, 32, .inl v_workc)), (z_isGood, .inl (cy 2, 32, .inl v_isGoodc)), (z_frozen, .inl (cy 0, 32, .inl v_frozenc)), (z_next, .inl (cy 1, 130, .inr (.inl v_nextc)))]) [7, 0, 1, 8, 9, 2, 3, 4, 5, 6] rfl
        have hD := hD.sub (ws' := [(z, .inr (9, [.int v_fault, .int v_size, .int v_upper, .int v_base, .ref z_isGood, .ref z_frozen, .ref z_sheetSize, .ref z_sheetLane, .ref z_sheet, .ref z_hands, .int v_wide, .long v_mask, .int v_paths, .ref z_seen, .ref z_work, .ref z_known, .ref z_next, .int v_come, .int v_isCounted, .ref z_counts, .ref z_acrosses, .ref z_failings, .int v_basis, .ref z_given, .int v_trace])), (z_sheetSize, .inl (cy 0, 4, .inl v_sheetSizec)), (z_sheetLane, .inl (cy 0, 4, .inl v_sheetLanec)), (z_sheet, .inl (cy 1, 160, .inr (.inl v_sheetc))), (z_seen, .inl (cy 0, 32, .inl o_10)), (z_known, .inl (cy 1, 64, .inr (.inl v_knownc))), (z_work, .inl (cy 0, 32, .inl v_workc)), (z_isGood, .inl (cy 2, 32, .inl v_isGoodc)), (z_frozen, .inl (cy 0, 32, .inl v_frozenc)), (z_next, .inl (cy 1, 130, .inr (.inl v_nextc)))]) [7, 0, 1, 8, 9, 2, 3, 4, 5, 6] (by decide) rfl
        refine lv_aload_n hx hb dX10_read_54 rfl (lv_at hl 1 rfl) ?_
        refine lv_iconst (v := 1) hx hb dX10_read_55 (by decide) ?_
        refine va_put (D := D) (ci := 9) (v := .int 1) (ty := .int) (C := RX10) (T := TX10) (N := 25) hx hb hts iX10 tyX10 tyX10_ok nmX10 hown hK hP hD hS 0 rfl rfl 12 (by decide) f67 (fun _ h9 => h9) rfl (by decide +kernel) rfl rfl (Nat.le_of_ble_eq_true rfl) dX10_read_56 (fun H locs hP hD hS => ?_)
        have hP : va_P D vwCl [(z, .inr (9, [.int v_fault, .int v_size, .int v_upper, .int v_base, .ref z_isGood, .ref z_frozen, .ref z_sheetSize, .ref z_sheetLane, .ref z_sheet, .ref z_hands, .int v_wide, .long v_mask, .int 1, .ref z_seen, .ref z_work, .ref z_known, .ref z_next, .int v_come, .int v_isCounted, .ref z_counts, .ref z_acrosses, .ref z_failings, .int v_basis, .ref z_given, .int v_trace])), (z_sheetSize, .inl (cy 0, 4, .inl v_sheetSizec)), (z_sheetLane, .inl (cy 0, 4, .inl v_sheetLanec)), (z_sheet, .inl (cy 1, 160, .inr (.inl v_sheetc))), (z_seen, .inl (cy 0, 32, .inl o_10)), (z_known, .inl (cy 1, 64, .inr (.inl v_knownc))), (z_work, .inl (cy 0, 32, .inl v_workc)), (z_isGood, .inl (cy 2, 32, .inl v_isGoodc)), (z_frozen, .inl (cy 0, 32, .inl v_frozenc)), (z_next, .inl (cy 1, 130, .inr (.inl v_nextc)))] H := hP
        have hD : va_D A [(z, .inr (9, [.int v_fault, .int v_size, .int v_upper, .int v_base, .ref z_isGood, .ref z_frozen, .ref z_sheetSize, .ref z_sheetLane, .ref z_sheet, .ref z_hands, .int v_wide, .long v_mask, .int 1, .ref z_seen, .ref z_work, .ref z_known, .ref z_next, .int v_come, .int v_isCounted, .ref z_counts, .ref z_acrosses, .ref z_failings, .int v_basis, .ref z_given, .int v_trace])), (z_sheetSize, .inl (cy 0, 4, .inl v_sheetSizec)), (z_sheetLane, .inl (cy 0, 4, .inl v_sheetLanec)), (z_sheet, .inl (cy 1, 160, .inr (.inl v_sheetc))), (z_seen, .inl (cy 0, 32, .inl o_10)), (z_known, .inl (cy 1, 64, .inr (.inl v_knownc))), (z_work, .inl (cy 0, 32, .inl v_workc)), (z_isGood, .inl (cy 2, 32, .inl v_isGoodc)), (z_frozen, .inl (cy 0, 32, .inl v_frozenc)), (z_next, .inl (cy 1, 130, .inr (.inl v_nextc)))] := hD
        refine lv_aload_n hx hb dX10_read_59 rfl (lv_at hl 1 rfl) ?_
        refine va_get (D := D) (ci := 9) (v := .ref z_known) (C := RX10) (T := TX10) (N := 25) hx hb hts iX10 hown hK hP 0 rfl rfl 15 (by decide) f36 (fun _ h9 => h9) rfl dX10_read_60 ?_
        refine lv_iconst (v := 0) hx hb dX10_read_63 (by decide) ?_
        refine lv_lconst (v := 0) hx hb dX10_read_64 (by decide) ?_
        obtain ⟨hi_, h⟩ := gx_ix h
        refine va_last hx hb hK hP hD hS 5 1 rfl rfl hi_ dX10_read_65 (fun H locs hP hD hS => ?_)
        obtain ⟨w_12, e_w_12⟩ : ∃ y : Nat → Int64, y = (vp_updL v_knownc (Int32.toNatClampNeg 0) 0) := ⟨_, rfl⟩
        have h := gx_let e_w_12 h
        have hP : va_P D vwCl [(z, .inr (9, [.int v_fault, .int v_size, .int v_upper, .int v_base, .ref z_isGood, .ref z_frozen, .ref z_sheetSize, .ref z_sheetLane, .ref z_sheet, .ref z_hands, .int v_wide, .long v_mask, .int 1, .ref z_seen, .ref z_work, .ref z_known, .ref z_next, .int v_come, .int v_isCounted, .ref z_counts, .ref z_acrosses, .ref z_failings, .int v_basis, .ref z_given, .int v_trace])), (z_sheetSize, .inl (cy 0, 4, .inl v_sheetSizec)), (z_sheetLane, .inl (cy 0, 4, .inl v_sheetLanec)), (z_sheet, .inl (cy 1, 160, .inr (.inl v_sheetc))), (z_seen, .inl (cy 0, 32, .inl o_10)), (z_known, .inl (cy 1, 64, .inr (.inl (vp_updL v_knownc (Int32.toNatClampNeg 0) 0)))), (z_work, .inl (cy 0, 32, .inl v_workc)), (z_isGood, .inl (cy 2, 32, .inl v_isGoodc)), (z_frozen, .inl (cy 0, 32, .inl v_frozenc)), (z_next, .inl (cy 1, 130, .inr (.inl v_nextc)))] H := hP
        have hD : va_D A [(z, .inr (9, [.int v_fault, .int v_size, .int v_upper, .int v_base, .ref z_isGood, .ref z_frozen, .ref z_sheetSize, .ref z_sheetLane, .ref z_sheet, .ref z_hands, .int v_wide, .long v_mask, .int 1, .ref z_seen, .ref z_work, .ref z_known, .ref z_next, .int v_come, .int v_isCounted, .ref z_counts, .ref z_acrosses, .ref z_failings, .int v_basis, .ref z_given, .int v_trace])), (z_sheetSize, .inl (cy 0, 4, .inl v_sheetSizec)), (z_sheetLane, .inl (cy 0, 4, .inl v_sheetLanec)), (z_sheet, .inl (cy 1, 160, .inr (.inl v_sheetc))), (z_seen, .inl (cy 0, 32, .inl o_10)), (z_known, .inl (cy 1, 64, .inr (.inl (vp_updL v_knownc (Int32.toNatClampNeg 0) 0)))), (z_work, .inl (cy 0, 32, .inl v_workc)), (z_isGood, .inl (cy 2, 32, .inl v_isGoodc)), (z_frozen, .inl (cy 0, 32, .inl v_frozenc)), (z_next, .inl (cy 1, 130, .inr (.inl v_nextc)))] := hD
        rw [← e_w_12] at hP hD
        refine lv_iconst (v := 0) hx hb dX10_read_66 (by decide) ?_
        refine lv_istore (lv' := [(4, .int 0), (3, .int r_7), (0, .ref z), (1, .int x1), (2, .int x2)]) hx hb dX10_read_67 hl (by decide) rfl (fun ls hl => ?_)
        obtain ⟨⟨o_13, o_14, o_15, o_16, o_17, o_18⟩, hL_19, h⟩ := gx_b h
        refine gJoin (Pj := fun H locs ls => va_P D vwCl [(z, .inr (9, [.int v_fault, .int v_size, .int v_upper, .int v_base, .ref z_isGood, .ref z_frozen, .ref z_sheetSize, .ref z_sheetLane, .ref z_sheet, .ref z_hands, .int v_wide, .long v_mask, .int o_14, .ref z_seen, .ref z_work, .ref z_known, .ref z_next, .int o_15, .int v_isCounted, .ref z_counts, .ref z_acrosses, .ref z_failings, .int v_basis, .ref z_given, .int v_trace])), (z_sheetSize, .inl (cy 0, 4, .inl v_sheetSizec)), (z_sheetLane, .inl (cy 0, 4, .inl v_sheetLanec)), (z_sheet, .inl (cy 1, 160, .inr (.inl v_sheetc))), (z_seen, .inl (cy 0, 32, .inl o_10)), (z_known, .inl (cy 1, 64, .inr (.inl o_16))), (z_work, .inl (cy 0, 32, .inl o_17)), (z_isGood, .inl (cy 2, 32, .inl v_isGoodc)), (z_frozen, .inl (cy 0, 32, .inl v_frozenc)), (z_next, .inl (cy 1, 130, .inr (.inl o_18)))] H ∧ va_D A [(z, .inr (9, [.int v_fault, .int v_size, .int v_upper, .int v_base, .ref z_isGood, .ref z_frozen, .ref z_sheetSize, .ref z_sheetLane, .ref z_sheet, .ref z_hands, .int v_wide, .long v_mask, .int o_14, .ref z_seen, .ref z_work, .ref z_known, .ref z_next, .int o_15, .int v_isCounted, .ref z_counts, .ref z_acrosses, .ref z_failings, .int v_basis, .ref z_given, .int v_trace])), (z_sheetSize, .inl (cy 0, 4, .inl v_sheetSizec)), (z_sheetLane, .inl (cy 0, 4, .inl v_sheetLanec)), (z_sheet, .inl (cy 1, 160, .inr (.inl v_sheetc))), (z_seen, .inl (cy 0, 32, .inl o_10)), (z_known, .inl (cy 1, 64, .inr (.inl o_16))), (z_work, .inl (cy 0, 32, .inl o_17)), (z_isGood, .inl (cy 2, 32, .inl v_isGoodc)), (z_frozen, .inl (cy 0, 32, .inl v_frozenc)), (z_next, .inl (cy 1, 130, .inr (.inl o_18)))] ∧ va_S A s.heap H locs ∧ lv_has ls 5 [(4, .int o_13), (3, .int r_7), (0, .ref z), (1, .int x1), (2, .int x2)]) (pcM := 90) (st := []) ?_ (fun hJ90 => ?_)
        · intro H locs ls hp_
          obtain ⟨hP, hD, hS, hl⟩ := hp_
          clear hL_19
          refine lv_aload_n hx hb dX10_read_90 rfl (lv_at hl 2 rfl) ?_
          refine lv_aload_n hx hb dX10_read_91 rfl (lv_at hl 2 rfl) ?_
          refine va_get (D := D) (ci := 9) (v := .int o_14) (C := RX10) (T := TX10) (N := 25) hx hb hts iX10 hown hK hP 0 rfl rfl 12 (by decide) f67 (fun _ h9 => h9) rfl dX10_read_92 ?_
          obtain ⟨⟨r_20, o_21⟩, hc_22, h⟩ := gx_b h
          refine gCalli (wr := [(z_sheetSize, .inl (cy 0, 4, .inl v_sheetSizec)), (z_sheetLane, .inl (cy 0, 4, .inl v_sheetLanec)), (z_sheet, .inl (cy 1, 160, .inr (.inl v_sheetc))), (z_seen, .inl (cy 0, 32, .inl o_10)), (z_known, .inl (cy 1, 64, .inr (.inl o_16))), (z_work, .inl (cy 0, 32, .inl o_17)), (z_isGood, .inl (cy 2, 32, .inl v_isGoodc)), (z_frozen, .inl (cy 0, 32, .inl v_frozenc)), (z_next, .inl (cy 1, 130, .inr (.inl o_18)))]) (va_runV (As := [.int o_14]) (rest := []) ⟨hx, hb, hml, hown, hts⟩ (c_X10_refused l D cy t H.size K z z_isGood z_frozen z_sheetSize z_sheetLane z_sheet z_hands z_seen z_work z_known z_next z_counts z_acrosses z_failings z_given v_fault v_size v_upper v_base v_wide v_mask o_14 o_15 v_isCounted v_basis v_trace o_14 r_20 o_21 hc_22) (cwV 1 hts gX10_read_X10_refused rfl rfl rfl (by decide +kernel) ⟨Nat.le_of_ble_eq_true rfl, Nat.le_of_ble_eq_true rfl⟩) ⟨gBlind, va_recv hK hP (ci := 9) (q0 := 0) rfl rfl, fun U hU hW => ⟨rfl, gPre.call hK hG hA hP hD hS [0] (by decide) rfl U hU hW⟩⟩ rfl rfl hl.1 rfl (lv_room (Nat.le_of_ble_eq_true rfl)) dX10_read_95 ⟨Nat.le_of_ble_eq_true rfl, Nat.le_of_ble_eq_true rfl⟩) hA hP hD hS [0] [1, 2, 3, 4, 5, 6, 7, 8, 9] rfl rfl (by decide) (by decide) (fun H locs hP hD hS => ?_)
          have hP := hP.sub (ws' := [(z, .inr (9, [.int o_21, .int v_size, .int v_upper, .int v_base, .ref z_isGood, .ref z_frozen, .ref z_sheetSize, .ref z_sheetLane, .ref z_sheet, .ref z_hands, .int v_wide, .long v_mask, .int o_14, .ref z_seen, .ref z_work, .ref z_known, .ref z_next, .int o_15, .int v_isCounted, .ref z_counts, .ref z_acrosses, .ref z_failings, .int v_basis, .ref z_given, .int v_trace])), (z_sheetSize, .inl (cy 0, 4, .inl v_sheetSizec)), (z_sheetLane, .inl (cy 0, 4, .inl v_sheetLanec)), (z_sheet, .inl (cy 1, 160, .inr (.inl v_sheetc))), (z_seen, .inl (cy 0, 32, .inl o_10)), (z_known, .inl (cy 1, 64, .inr (.inl o_16))), (z_work, .inl (cy 0, 32, .inl o_17)), (z_isGood, .inl (cy 2, 32, .inl v_isGoodc)), (z_frozen, .inl (cy 0, 32, .inl v_frozenc)), (z_next, .inl (cy 1, 130, .inr (.inl o_18)))]) [9, 0, 1, 2, 3, 4, 5, 6, 7, 8] rfl
          have hD := hD.sub (ws' := [(z, .inr (9, [.int o_21, .int v_size, .int v_upper, .int v_base, .ref z_isGood, .ref z_frozen, .ref z_sheetSize, .ref z_sheetLane, .ref z_sheet, .ref z_hands, .int v_wide, .long v_mask, .int o_14, .ref z_seen, .ref z_work, .ref z_known, .ref z_next, .int o_15, .int v_isCounted, .ref z_counts, .ref z_acrosses, .ref z_failings, .int v_basis, .ref z_given, .int v_trace])), (z_sheetSize, .inl (cy 0, 4, .inl v_sheetSizec)), (z_sheetLane, .inl (cy 0, 4, .inl v_sheetLanec)), (z_sheet, .inl (cy 1, 160, .inr (.inl v_sheetc))), (z_seen, .inl (cy 0, 32, .inl o_10)), (z_known, .inl (cy 1, 64, .inr (.inl o_16))), (z_work, .inl (cy 0, 32, .inl o_17)), (z_isGood, .inl (cy 2, 32, .inl v_isGoodc)), (z_frozen, .inl (cy 0, 32, .inl v_frozenc)), (z_next, .inl (cy 1, 130, .inr (.inl o_18)))]) [9, 0, 1, 2, 3, 4, 5, 6, 7, 8] (by decide) rfl
          cases h
          exact gRi hx hb hr hlocks hP hD hS dX10_read_98
        · refine gLoop (Hy := fun k_ v_ => fL_X10_read_69 K v_size v_wide o_10 v_isGoodc v_frozenc k_ v_ = some (o_13, o_14, o_15, o_16, o_17, o_18)) (Pl := fun (v_ : Int32 × Int32 × Int32 × (Nat → Int64) × (Nat → Int32) × (Nat → Int64)) H locs ls => match v_ with | (a_23, a_24, a_25, a_26, a_27, a_28) => va_P D vwCl [(z, .inr (9, [.int v_fault, .int v_size, .int v_upper, .int v_base, .ref z_isGood, .ref z_frozen, .ref z_sheetSize, .ref z_sheetLane, .ref z_sheet, .ref z_hands, .int v_wide, .long v_mask, .int a_24, .ref z_seen, .ref z_work, .ref z_known, .ref z_next, .int a_25, .int v_isCounted, .ref z_counts, .ref z_acrosses, .ref z_failings, .int v_basis, .ref z_given, .int v_trace])), (z_sheetSize, .inl (cy 0, 4, .inl v_sheetSizec)), (z_sheetLane, .inl (cy 0, 4, .inl v_sheetLanec)), (z_sheet, .inl (cy 1, 160, .inr (.inl v_sheetc))), (z_seen, .inl (cy 0, 32, .inl o_10)), (z_known, .inl (cy 1, 64, .inr (.inl a_26))), (z_work, .inl (cy 0, 32, .inl a_27)), (z_isGood, .inl (cy 2, 32, .inl v_isGoodc)), (z_frozen, .inl (cy 0, 32, .inl v_frozenc)), (z_next, .inl (cy 1, 130, .inr (.inl a_28)))] H ∧ va_D A [(z, .inr (9, [.int v_fault, .int v_size, .int v_upper, .int v_base, .ref z_isGood, .ref z_frozen, .ref z_sheetSize, .ref z_sheetLane, .ref z_sheet, .ref z_hands, .int v_wide, .long v_mask, .int a_24, .ref z_seen, .ref z_work, .ref z_known, .ref z_next, .int a_25, .int v_isCounted, .ref z_counts, .ref z_acrosses, .ref z_failings, .int v_basis, .ref z_given, .int v_trace])), (z_sheetSize, .inl (cy 0, 4, .inl v_sheetSizec)), (z_sheetLane, .inl (cy 0, 4, .inl v_sheetLanec)), (z_sheet, .inl (cy 1, 160, .inr (.inl v_sheetc))), (z_seen, .inl (cy 0, 32, .inl o_10)), (z_known, .inl (cy 1, 64, .inr (.inl a_26))), (z_work, .inl (cy 0, 32, .inl a_27)), (z_isGood, .inl (cy 2, 32, .inl v_isGoodc)), (z_frozen, .inl (cy 0, 32, .inl v_frozenc)), (z_next, .inl (cy 1, 130, .inr (.inl a_28)))] ∧ va_S A s.heap H locs ∧ lv_has ls 5 [(4, .int a_23), (3, .int r_7), (0, .ref z), (1, .int x1), (2, .int x2)]) (pcH := 69) (fun _ q_ => by cases q_) ?_ K (0, 1, v_come, w_12, v_workc, v_nextc) hL_19 ⟨hP, hD, hS, hl⟩
          clear hL_19 h hP hD hS hl
          intro k_ ih ⟨a_23, a_24, a_25, a_26, a_27, a_28⟩ H locs ls h hp_
          obtain ⟨hP, hD, hS, hl⟩ := hp_
          have hP : va_P D vwCl [(z, .inr (9, [.int v_fault, .int v_size, .int v_upper, .int v_base, .ref z_isGood, .ref z_frozen, .ref z_sheetSize, .ref z_sheetLane, .ref z_sheet, .ref z_hands, .int v_wide, .long v_mask, .int a_24, .ref z_seen, .ref z_work, .ref z_known, .ref z_next, .int a_25, .int v_isCounted, .ref z_counts, .ref z_acrosses, .ref z_failings, .int v_basis, .ref z_given, .int v_trace])), (z_sheetSize, .inl (cy 0, 4, .inl v_sheetSizec)), (z_sheetLane, .inl (cy 0, 4, .inl v_sheetLanec)), (z_sheet, .inl (cy 1, 160, .inr (.inl v_sheetc))), (z_seen, .inl (cy 0, 32, .inl o_10)), (z_known, .inl (cy 1, 64, .inr (.inl a_26))), (z_work, .inl (cy 0, 32, .inl a_27)), (z_isGood, .inl (cy 2, 32, .inl v_isGoodc)), (z_frozen, .inl (cy 0, 32, .inl v_frozenc)), (z_next, .inl (cy 1, 130, .inr (.inl a_28)))] H := hP
          have hD : va_D A [(z, .inr (9, [.int v_fault, .int v_size, .int v_upper, .int v_base, .ref z_isGood, .ref z_frozen, .ref z_sheetSize, .ref z_sheetLane, .ref z_sheet, .ref z_hands, .int v_wide, .long v_mask, .int a_24, .ref z_seen, .ref z_work, .ref z_known, .ref z_next, .int a_25, .int v_isCounted, .ref z_counts, .ref z_acrosses, .ref z_failings, .int v_basis, .ref z_given, .int v_trace])), (z_sheetSize, .inl (cy 0, 4, .inl v_sheetSizec)), (z_sheetLane, .inl (cy 0, 4, .inl v_sheetLanec)), (z_sheet, .inl (cy 1, 160, .inr (.inl v_sheetc))), (z_seen, .inl (cy 0, 32, .inl o_10)), (z_known, .inl (cy 1, 64, .inr (.inl a_26))), (z_work, .inl (cy 0, 32, .inl a_27)), (z_isGood, .inl (cy 2, 32, .inl v_isGoodc)), (z_frozen, .inl (cy 0, 32, .inl v_frozenc)), (z_next, .inl (cy 1, 130, .inr (.inl a_28)))] := hD
          have hl : lv_has ls 5 [(4, .int a_23), (3, .int r_7), (0, .ref z), (1, .int x1), (2, .int x2)] := hl
          change fL_X10_read_69 K v_size v_wide o_10 v_isGoodc v_frozenc (k_ + 1) (a_23, a_24, a_25, a_26, a_27, a_28) = _ at h
          rw [fL_X10_read_69] at h
          refine lv_iload hx hb dX10_read_69 (lv_at hl 0 rfl) ?_
          refine lv_aload_n hx hb dX10_read_71 rfl (lv_at hl 2 rfl) ?_
          refine va_get (D := D) (ci := 9) (v := .int v_size) (C := RX10) (T := TX10) (N := 25) hx hb hts iX10 hown hK hP 0 rfl rfl 1 (by decide) f54 (fun _ h9 => h9) rfl dX10_read_72 ?_
          refine lv_icmp_ge (tgt := 90) hx hb dX10_read_75 (by decide) (fun c_29 => ?_) (fun c_29 => ?_)
          · have h := gx_t c_29 h
            have hl := lv_sub (l' := [(4, .int a_23), (3, .int r_7), (0, .ref z), (1, .int x1), (2, .int x2)]) hl [0, 1, 2, 3, 4] rfl
            cases h
            exact hJ90 _ _ _ ⟨hP, hD, hS, hl⟩
          · have h := gx_f c_29 h
            refine lv_aload_n hx hb dX10_read_78 rfl (lv_at hl 2 rfl) ?_
            refine lv_iload hx hb dX10_read_79 (lv_at hl 0 rfl) ?_
            obtain ⟨⟨o_30, o_31, o_32, o_33, o_34⟩, hc_35, h⟩ := gx_b h
            refine gCallv (wr := [(z_sheetSize, .inl (cy 0, 4, .inl v_sheetSizec)), (z_sheetLane, .inl (cy 0, 4, .inl v_sheetLanec)), (z_sheet, .inl (cy 1, 160, .inr (.inl v_sheetc)))]) (va_runV (As := [.int a_23]) (rest := []) ⟨hx, hb, hml, hown, hts⟩ (c_X10_goPlace l D cy t H.size K z z_known z_seen z_work z_isGood z_frozen z_next z_sheetSize z_sheetLane z_sheet z_hands z_counts z_acrosses z_failings z_given v_fault v_size v_upper v_base v_wide v_mask a_24 a_25 v_isCounted v_basis v_trace a_26 o_10 a_27 v_isGoodc v_frozenc a_28 a_23 o_30 o_31 o_32 o_33 o_34 hc_35) (cwV 1 hts gX10_read_X10_goPlace rfl rfl rfl (by decide +kernel) ⟨Nat.le_of_ble_eq_true rfl, Nat.le_of_ble_eq_true rfl⟩) ⟨gBlind, va_recv hK hP (ci := 9) (q0 := 0) rfl rfl, fun U hU hW => ⟨rfl, gPre.call hK hG hA hP hD hS [0, 5, 4, 6, 7, 8, 9] (by decide) rfl U hU hW⟩⟩ rfl rfl hl.1 rfl (lv_room (Nat.le_of_ble_eq_true rfl)) dX10_read_81 ⟨Nat.le_of_ble_eq_true rfl, Nat.le_of_ble_eq_true rfl⟩) hA hP hD hS [0, 5, 4, 6, 7, 8, 9] [1, 2, 3] rfl rfl (by decide) (by decide) (fun H locs hP hD hS => ?_)
            have hP := hP.sub (ws' := [(z, .inr (9, [.int v_fault, .int v_size, .int v_upper, .int v_base, .ref z_isGood, .ref z_frozen, .ref z_sheetSize, .ref z_sheetLane, .ref z_sheet, .ref z_hands, .int v_wide, .long v_mask, .int o_30, .ref z_seen, .ref z_work, .ref z_known, .ref z_next, .int o_31, .int v_isCounted, .ref z_counts, .ref z_acrosses, .ref z_failings, .int v_basis, .ref z_given, .int v_trace])), (z_sheetSize, .inl (cy 0, 4, .inl v_sheetSizec)), (z_sheetLane, .inl (cy 0, 4, .inl v_sheetLanec)), (z_sheet, .inl (cy 1, 160, .inr (.inl v_sheetc))), (z_seen, .inl (cy 0, 32, .inl o_10)), (z_known, .inl (cy 1, 64, .inr (.inl o_32))), (z_work, .inl (cy 0, 32, .inl o_33)), (z_isGood, .inl (cy 2, 32, .inl v_isGoodc)), (z_frozen, .inl (cy 0, 32, .inl v_frozenc)), (z_next, .inl (cy 1, 130, .inr (.inl o_34)))]) [3, 0, 1, 2, 5, 4, 6, 7, 8, 9] rfl
            have hD := hD.sub (ws' := [(z, .inr (9, [.int v_fault, .int v_size, .int v_upper, .int v_base, .ref z_isGood, .ref z_frozen, .ref z_sheetSize, .ref z_sheetLane, .ref z_sheet, .ref z_hands, .int v_wide, .long v_mask, .int o_30, .ref z_seen, .ref z_work, .ref z_known, .ref z_next, .int o_31, .int v_isCounted, .ref z_counts, .ref z_acrosses, .ref z_failings, .int v_basis, .ref z_given, .int v_trace])), (z_sheetSize, .inl (cy 0, 4, .inl v_sheetSizec)), (z_sheetLane, .inl (cy 0, 4, .inl v_sheetLanec)), (z_sheet, .inl (cy 1, 160, .inr (.inl v_sheetc))), (z_seen, .inl (cy 0, 32, .inl o_10)), (z_known, .inl (cy 1, 64, .inr (.inl o_32))), (z_work, .inl (cy 0, 32, .inl o_33)), (z_isGood, .inl (cy 2, 32, .inl v_isGoodc)), (z_frozen, .inl (cy 0, 32, .inl v_frozenc)), (z_next, .inl (cy 1, 130, .inr (.inl o_34)))]) [3, 0, 1, 2, 5, 4, 6, 7, 8, 9] (by decide) rfl
            obtain ⟨y4_36, e_y4_36⟩ : ∃ y : Int32, y = (a_23 + 1) := ⟨_, rfl⟩
            have h := gx_let e_y4_36 h
            refine lv_iinc (v := y4_36) (lv' := [(4, .int y4_36), (3, .int r_7), (0, .ref z), (1, .int x1), (2, .int x2)]) hx hb dX10_read_84 hl (k := 0) rfl (by rw [e_y4_36]; rfl) (by decide) rfl (fun ls hl => ?_)
            refine lv_goto (tgt := 69) hx hb dX10_read_87 (by decide) ?_
            exact ih (y4_36, o_30, o_31, o_32, o_33, o_34) _ _ _ h ⟨hP, hD, hS, lv_sub (l' := [(4, .int y4_36), (3, .int r_7), (0, .ref z), (1, .int x1), (2, .int x2)]) hl [0, 1, 2, 3, 4] rfl⟩
      · have h := gx_f c_9 h
        refine lv_aload_n hx hb dX10_read_43 rfl (lv_at hl 1 rfl) ?_
        refine lv_iload_n hx hb dX10_read_44 rfl (lv_at hl 0 rfl) ?_
        obtain ⟨⟨r_37, o_38⟩, hc_39, h⟩ := gx_b h
        refine gCalli (wr := [(z_sheetSize, .inl (cy 0, 4, .inl v_sheetSizec)), (z_sheetLane, .inl (cy 0, 4, .inl v_sheetLanec)), (z_sheet, .inl (cy 1, 160, .inr (.inl v_sheetc))), (z_seen, .inl (cy 0, 32, .inl v_seenc)), (z_known, .inl (cy 1, 64, .inr (.inl v_knownc))), (z_work, .inl (cy 0, 32, .inl v_workc)), (z_isGood, .inl (cy 2, 32, .inl v_isGoodc)), (z_frozen, .inl (cy 0, 32, .inl v_frozenc)), (z_next, .inl (cy 1, 130, .inr (.inl v_nextc)))]) (va_runV (As := [.int r_7]) (rest := []) ⟨hx, hb, hml, hown, hts⟩ (c_X10_failed l D cy t H.size K z z_isGood z_frozen z_sheetSize z_sheetLane z_sheet z_hands z_seen z_work z_known z_next z_counts z_acrosses z_failings z_given v_fault v_size v_upper v_base v_wide v_mask v_paths v_come v_isCounted v_basis v_trace r_7 r_37 o_38 hc_39) (cwV 1 hts gX10_read_X10_failed rfl rfl rfl (by decide +kernel) ⟨Nat.le_of_ble_eq_true rfl, Nat.le_of_ble_eq_true rfl⟩) ⟨gBlind, va_recv hK hP (ci := 9) (q0 := 0) rfl rfl, fun U hU hW => ⟨rfl, gPre.call hK hG hA hP hD hS [0] (by decide) rfl U hU hW⟩⟩ rfl rfl hl.1 rfl (lv_room (Nat.le_of_ble_eq_true rfl)) dX10_read_45 ⟨Nat.le_of_ble_eq_true rfl, Nat.le_of_ble_eq_true rfl⟩) hA hP hD hS [0] [1, 2, 3, 4, 5, 6, 7, 8, 9] rfl rfl (by decide) (by decide) (fun H locs hP hD hS => ?_)
        have hP := hP.sub (ws' := [(z, .inr (9, [.int o_38, .int v_size, .int v_upper, .int v_base, .ref z_isGood, .ref z_frozen, .ref z_sheetSize, .ref z_sheetLane, .ref z_sheet, .ref z_hands, .int v_wide, .long v_mask, .int v_paths, .ref z_seen, .ref z_work, .ref z_known, .ref z_next, .int v_come, .int v_isCounted, .ref z_counts, .ref z_acrosses, .ref z_failings, .int v_basis, .ref z_given, .int v_trace])), (z_sheetSize, .inl (cy 0, 4, .inl v_sheetSizec)), (z_sheetLane, .inl (cy 0, 4, .inl v_sheetLanec)), (z_sheet, .inl (cy 1, 160, .inr (.inl v_sheetc))), (z_seen, .inl (cy 0, 32, .inl v_seenc)), (z_known, .inl (cy 1, 64, .inr (.inl v_knownc))), (z_work, .inl (cy 0, 32, .inl v_workc)), (z_isGood, .inl (cy 2, 32, .inl v_isGoodc)), (z_frozen, .inl (cy 0, 32, .inl v_frozenc)), (z_next, .inl (cy 1, 130, .inr (.inl v_nextc)))]) [9, 0, 1, 2, 3, 4, 5, 6, 7, 8] rfl
        have hD := hD.sub (ws' := [(z, .inr (9, [.int o_38, .int v_size, .int v_upper, .int v_base, .ref z_isGood, .ref z_frozen, .ref z_sheetSize, .ref z_sheetLane, .ref z_sheet, .ref z_hands, .int v_wide, .long v_mask, .int v_paths, .ref z_seen, .ref z_work, .ref z_known, .ref z_next, .int v_come, .int v_isCounted, .ref z_counts, .ref z_acrosses, .ref z_failings, .int v_basis, .ref z_given, .int v_trace])), (z_sheetSize, .inl (cy 0, 4, .inl v_sheetSizec)), (z_sheetLane, .inl (cy 0, 4, .inl v_sheetLanec)), (z_sheet, .inl (cy 1, 160, .inr (.inl v_sheetc))), (z_seen, .inl (cy 0, 32, .inl v_seenc)), (z_known, .inl (cy 1, 64, .inr (.inl v_knownc))), (z_work, .inl (cy 0, 32, .inl v_workc)), (z_isGood, .inl (cy 2, 32, .inl v_isGoodc)), (z_frozen, .inl (cy 0, 32, .inl v_frozenc)), (z_next, .inl (cy 1, 130, .inr (.inl v_nextc)))]) [9, 0, 1, 2, 3, 4, 5, 6, 7, 8] (by decide) rfl
        cases h
        exact gRi hx hb hr hlocks hP hD hS dX10_read_48
    · have h := gx_t c_6 h
      refine lv_aload_n hx hb dX10_read_25 rfl (lv_at hl 0 rfl) ?_
      refine lv_bipush (v := (-2)) hx hb dX10_read_26 (by decide) ?_
      obtain ⟨⟨r_40, o_41⟩, hc_42, h⟩ := gx_b h
      refine gCalli (wr := [(z_sheetSize, .inl (cy 0, 4, .inl v_sheetSizec)), (z_sheetLane, .inl (cy 0, 4, .inl v_sheetLanec)), (z_sheet, .inl (cy 1, 160, .inr (.inl v_sheetc))), (z_seen, .inl (cy 0, 32, .inl v_seenc)), (z_known, .inl (cy 1, 64, .inr (.inl v_knownc))), (z_work, .inl (cy 0, 32, .inl v_workc)), (z_isGood, .inl (cy 2, 32, .inl v_isGoodc)), (z_frozen, .inl (cy 0, 32, .inl v_frozenc)), (z_next, .inl (cy 1, 130, .inr (.inl v_nextc)))]) (va_runV (As := [.int (-2)]) (rest := []) ⟨hx, hb, hml, hown, hts⟩ (c_X10_refused l D cy t H.size K z z_isGood z_frozen z_sheetSize z_sheetLane z_sheet z_hands z_seen z_work z_known z_next z_counts z_acrosses z_failings z_given v_fault v_size v_upper v_base v_wide v_mask v_paths v_come v_isCounted v_basis v_trace (-2) r_40 o_41 hc_42) (cwV 1 hts gX10_read_X10_refused rfl rfl rfl (by decide +kernel) ⟨Nat.le_of_ble_eq_true rfl, Nat.le_of_ble_eq_true rfl⟩) ⟨gBlind, va_recv hK hP (ci := 9) (q0 := 0) rfl rfl, fun U hU hW => ⟨rfl, gPre.call hK hG hA hP hD hS [0] (by decide) rfl U hU hW⟩⟩ rfl rfl hl.1 rfl (lv_room (Nat.le_of_ble_eq_true rfl)) dX10_read_28 ⟨Nat.le_of_ble_eq_true rfl, Nat.le_of_ble_eq_true rfl⟩) hA hP hD hS [0] [1, 2, 3, 4, 5, 6, 7, 8, 9] rfl rfl (by decide) (by decide) (fun H locs hP hD hS => ?_)
      have hP := hP.sub (ws' := [(z, .inr (9, [.int o_41, .int v_size, .int v_upper, .int v_base, .ref z_isGood, .ref z_frozen, .ref z_sheetSize, .ref z_sheetLane, .ref z_sheet, .ref z_hands, .int v_wide, .long v_mask, .int v_paths, .ref z_seen, .ref z_work, .ref z_known, .ref z_next, .int v_come, .int v_isCounted, .ref z_counts, .ref z_acrosses, .ref z_failings, .int v_basis, .ref z_given, .int v_trace])), (z_sheetSize, .inl (cy 0, 4, .inl v_sheetSizec)), (z_sheetLane, .inl (cy 0, 4, .inl v_sheetLanec)), (z_sheet, .inl (cy 1, 160, .inr (.inl v_sheetc))), (z_seen, .inl (cy 0, 32, .inl v_seenc)), (z_known, .inl (cy 1, 64, .inr (.inl v_knownc))), (z_work, .inl (cy 0, 32, .inl v_workc)), (z_isGood, .inl (cy 2, 32, .inl v_isGoodc)), (z_frozen, .inl (cy 0, 32, .inl v_frozenc)), (z_next, .inl (cy 1, 130, .inr (.inl v_nextc)))]) [9, 0, 1, 2, 3, 4, 5, 6, 7, 8] rfl
      have hD := hD.sub (ws' := [(z, .inr (9, [.int o_41, .int v_size, .int v_upper, .int v_base, .ref z_isGood, .ref z_frozen, .ref z_sheetSize, .ref z_sheetLane, .ref z_sheet, .ref z_hands, .int v_wide, .long v_mask, .int v_paths, .ref z_seen, .ref z_work, .ref z_known, .ref z_next, .int v_come, .int v_isCounted, .ref z_counts, .ref z_acrosses, .ref z_failings, .int v_basis, .ref z_given, .int v_trace])), (z_sheetSize, .inl (cy 0, 4, .inl v_sheetSizec)), (z_sheetLane, .inl (cy 0, 4, .inl v_sheetLanec)), (z_sheet, .inl (cy 1, 160, .inr (.inl v_sheetc))), (z_seen, .inl (cy 0, 32, .inl v_seenc)), (z_known, .inl (cy 1, 64, .inr (.inl v_knownc))), (z_work, .inl (cy 0, 32, .inl v_workc)), (z_isGood, .inl (cy 2, 32, .inl v_isGoodc)), (z_frozen, .inl (cy 0, 32, .inl v_frozenc)), (z_next, .inl (cy 1, 130, .inr (.inl v_nextc)))]) [9, 0, 1, 2, 3, 4, 5, 6, 7, 8] (by decide) rfl
      cases h
      exact gRi hx hb hr hlocks hP hD hS dX10_read_31
  · have h := gx_f c_3 h
    refine lv_aload_n hx hb dX10_read_7 rfl (lv_at hl 0 rfl) ?_
    refine lv_iconst (v := (-1)) hx hb dX10_read_8 (by decide) ?_
    obtain ⟨⟨r_43, o_44⟩, hc_45, h⟩ := gx_b h
    refine gCalli (wr := [(z_sheetSize, .inl (cy 0, 4, .inl v_sheetSizec)), (z_sheetLane, .inl (cy 0, 4, .inl v_sheetLanec)), (z_sheet, .inl (cy 1, 160, .inr (.inl v_sheetc))), (z_seen, .inl (cy 0, 32, .inl v_seenc)), (z_known, .inl (cy 1, 64, .inr (.inl v_knownc))), (z_work, .inl (cy 0, 32, .inl v_workc)), (z_isGood, .inl (cy 2, 32, .inl v_isGoodc)), (z_frozen, .inl (cy 0, 32, .inl v_frozenc)), (z_next, .inl (cy 1, 130, .inr (.inl v_nextc)))]) (va_runV (As := [.int (-1)]) (rest := []) ⟨hx, hb, hml, hown, hts⟩ (c_X10_refused l D cy t H.size K z z_isGood z_frozen z_sheetSize z_sheetLane z_sheet z_hands z_seen z_work z_known z_next z_counts z_acrosses z_failings z_given v_fault v_size v_upper v_base v_wide v_mask v_paths v_come v_isCounted v_basis v_trace (-1) r_43 o_44 hc_45) (cwV 1 hts gX10_read_X10_refused rfl rfl rfl (by decide +kernel) ⟨Nat.le_of_ble_eq_true rfl, Nat.le_of_ble_eq_true rfl⟩) ⟨gBlind, va_recv hK hP (ci := 9) (q0 := 0) rfl rfl, fun U hU hW => ⟨rfl, gPre.call hK hG hA hP hD hS [0] (by decide) rfl U hU hW⟩⟩ rfl rfl hl.1 rfl (lv_room (Nat.le_of_ble_eq_true rfl)) dX10_read_9 ⟨Nat.le_of_ble_eq_true rfl, Nat.le_of_ble_eq_true rfl⟩) hA hP hD hS [0] [1, 2, 3, 4, 5, 6, 7, 8, 9] rfl rfl (by decide) (by decide) (fun H locs hP hD hS => ?_)
    have hP := hP.sub (ws' := [(z, .inr (9, [.int o_44, .int v_size, .int v_upper, .int v_base, .ref z_isGood, .ref z_frozen, .ref z_sheetSize, .ref z_sheetLane, .ref z_sheet, .ref z_hands, .int v_wide, .long v_mask, .int v_paths, .ref z_seen, .ref z_work, .ref z_known, .ref z_next, .int v_come, .int v_isCounted, .ref z_counts, .ref z_acrosses, .ref z_failings, .int v_basis, .ref z_given, .int v_trace])), (z_sheetSize, .inl (cy 0, 4, .inl v_sheetSizec)), (z_sheetLane, .inl (cy 0, 4, .inl v_sheetLanec)), (z_sheet, .inl (cy 1, 160, .inr (.inl v_sheetc))), (z_seen, .inl (cy 0, 32, .inl v_seenc)), (z_known, .inl (cy 1, 64, .inr (.inl v_knownc))), (z_work, .inl (cy 0, 32, .inl v_workc)), (z_isGood, .inl (cy 2, 32, .inl v_isGoodc)), (z_frozen, .inl (cy 0, 32, .inl v_frozenc)), (z_next, .inl (cy 1, 130, .inr (.inl v_nextc)))]) [9, 0, 1, 2, 3, 4, 5, 6, 7, 8] rfl
    have hD := hD.sub (ws' := [(z, .inr (9, [.int o_44, .int v_size, .int v_upper, .int v_base, .ref z_isGood, .ref z_frozen, .ref z_sheetSize, .ref z_sheetLane, .ref z_sheet, .ref z_hands, .int v_wide, .long v_mask, .int v_paths, .ref z_seen, .ref z_work, .ref z_known, .ref z_next, .int v_come, .int v_isCounted, .ref z_counts, .ref z_acrosses, .ref z_failings, .int v_basis, .ref z_given, .int v_trace])), (z_sheetSize, .inl (cy 0, 4, .inl v_sheetSizec)), (z_sheetLane, .inl (cy 0, 4, .inl v_sheetLanec)), (z_sheet, .inl (cy 1, 160, .inr (.inl v_sheetc))), (z_seen, .inl (cy 0, 32, .inl v_seenc)), (z_known, .inl (cy 1, 64, .inr (.inl v_knownc))), (z_work, .inl (cy 0, 32, .inl v_workc)), (z_isGood, .inl (cy 2, 32, .inl v_isGoodc)), (z_frozen, .inl (cy 0, 32, .inl v_frozenc)), (z_next, .inl (cy 1, 130, .inr (.inl v_nextc)))]) [9, 0, 1, 2, 3, 4, 5, 6, 7, 8] (by decide) rfl
    cases h
    exact gRi hx hb hr hlocks hP hD hS dX10_read_12

def fL_X10_messageOf_8 (K : Nat) (l1 : Int64) (u0_1 : Int32) (u1 : Nat → Int32) : Nat → Int32 × Int32 × Int64 → Option (Int32 × Int32 × Int64)
  | 0, _ => none
  | k + 1, (l6, l5, l3) =>
    if u0_1 ≤ l6 then
      some (l6, l5, l3)
    else
      gIx l6 32 <|
      if (u1 (Int32.toNatClampNeg l6)) = 0 then
        gLet (l6 + 1) fun y6_3 =>
        fL_X10_messageOf_8 K l1 u0_1 u1 k (y6_3, l5, l3)
      else
        gLet (l3 ||| (gLshl ((gLshr l1 l6) &&& 1) l5)) fun y3_4 =>
        gLet (l5 + 1) fun y5_5 =>
        gLet (l6 + 1) fun y6_6 =>
        fL_X10_messageOf_8 K l1 u0_1 u1 k (y6_6, y5_5, y3_4)
def f_X10_messageOf (K : Nat) (x1 : Int64) (v_size : Int32) (v_isGoodc : Nat → Int32) : Option (Int64) :=
  Option.bind (fL_X10_messageOf_8 K x1 v_size v_isGoodc K (0, 0, 0)) fun (o_7, o_8, o_9) =>
  some o_9
set_option maxHeartbeats 4000000 in
set_option maxRecDepth 100000 in
theorem c_X10_messageOf (l : Launch) (D : va_G) (cy : Nat → ClassId) (t sz K : Nat) (z : Nat) (z_isGood : Nat) (z_frozen : Nat) (z_sheetSize : Nat) (z_sheetLane : Nat) (z_sheet : Nat) (z_hands : Nat) (z_seen : Nat) (z_work : Nat) (z_known : Nat) (z_next : Nat) (z_counts : Nat) (z_acrosses : Nat) (z_failings : Nat) (z_given : Nat) (v_fault : Int32) (v_size : Int32) (v_upper : Int32) (v_base : Int32) (v_wide : Int32) (v_mask : Int64) (v_paths : Int32) (v_come : Int32) (v_isCounted : Int32) (v_basis : Int32) (v_trace : Int32) (v_isGoodc : Nat → Int32) (x1 : Int64) (r_ : Int64) (h : f_X10_messageOf K x1 v_size v_isGoodc = some r_) : gMl l D cy t sz yX10_messageOf wsX10_messageOf 0 0 [.ref z, .long x1] [(z, .inr (9, [.int v_fault, .int v_size, .int v_upper, .int v_base, .ref z_isGood, .ref z_frozen, .ref z_sheetSize, .ref z_sheetLane, .ref z_sheet, .ref z_hands, .int v_wide, .long v_mask, .int v_paths, .ref z_seen, .ref z_work, .ref z_known, .ref z_next, .int v_come, .int v_isCounted, .ref z_counts, .ref z_acrosses, .ref z_failings, .int v_basis, .ref z_given, .int v_trace])), (z_isGood, .inl (cy 2, 32, .inl v_isGoodc))] r_ [(z, .inr (9, [.int v_fault, .int v_size, .int v_upper, .int v_base, .ref z_isGood, .ref z_frozen, .ref z_sheetSize, .ref z_sheetLane, .ref z_sheet, .ref z_hands, .int v_wide, .long v_mask, .int v_paths, .ref z_seen, .ref z_work, .ref z_known, .ref z_next, .int v_come, .int v_isCounted, .ref z_counts, .ref z_acrosses, .ref z_failings, .int v_basis, .ref z_given, .int v_trace])), (z_isGood, .inl (cy 2, 32, .inl v_isGoodc))] := by
  refine gBl (cc := cX10_messageOf) (maxL := 7) (ret := (some .long)) (by decide) rfl (Nat.le_of_ble_eq_true rfl) ?_
  intro p e s m below meth c A ls hAt hl
  obtain ⟨hx, hb, hml, hr, hts, hown, hlocks, hin, hK, hG, hA, hP, hD⟩ := hAt
  have hS : va_S A s.heap s.heap [] := va_S.rf
  have hl : lv_has ls 7 [(0, .ref z), (1, .long x1)] := hl
  have f54 := hts (.fieldLink RX10 54 "PlainLinesModel" "size" "I") (by decide +kernel)
  have iX10 := (by decide +kernel : ∀ w ∈ u_ws RX10 TX10 25, w ∈ wsX10_messageOf)
  have f7 := hts (.fieldLink RX10 7 "PlainLinesModel" "isGood" "[Z") (by decide +kernel)
  rw [f_X10_messageOf] at h
  refine lv_lconst (v := 0) hx hb dX10_messageOf_0 (by decide) ?_
  refine lv_lstore_n (lv' := [(3, .long 0), (0, .ref z), (1, .long x1)]) hx hb dX10_messageOf_1 rfl hl (by decide) rfl (fun ls hl => ?_)
  refine lv_iconst (v := 0) hx hb dX10_messageOf_2 (by decide) ?_
  refine lv_istore (lv' := [(5, .int 0), (3, .long 0), (0, .ref z), (1, .long x1)]) hx hb dX10_messageOf_3 hl (by decide) rfl (fun ls hl => ?_)
  refine lv_iconst (v := 0) hx hb dX10_messageOf_5 (by decide) ?_
  refine lv_istore (lv' := [(6, .int 0), (5, .int 0), (3, .long 0), (0, .ref z), (1, .long x1)]) hx hb dX10_messageOf_6 hl (by decide) rfl (fun ls hl => ?_)
  obtain ⟨⟨o_1, o_2, o_3⟩, hL_4, h⟩ := gx_b h
  refine gJoin (Pj := fun H locs ls => va_P D vwCl [(z, .inr (9, [.int v_fault, .int v_size, .int v_upper, .int v_base, .ref z_isGood, .ref z_frozen, .ref z_sheetSize, .ref z_sheetLane, .ref z_sheet, .ref z_hands, .int v_wide, .long v_mask, .int v_paths, .ref z_seen, .ref z_work, .ref z_known, .ref z_next, .int v_come, .int v_isCounted, .ref z_counts, .ref z_acrosses, .ref z_failings, .int v_basis, .ref z_given, .int v_trace])), (z_isGood, .inl (cy 2, 32, .inl v_isGoodc))] H ∧ va_D A [(z, .inr (9, [.int v_fault, .int v_size, .int v_upper, .int v_base, .ref z_isGood, .ref z_frozen, .ref z_sheetSize, .ref z_sheetLane, .ref z_sheet, .ref z_hands, .int v_wide, .long v_mask, .int v_paths, .ref z_seen, .ref z_work, .ref z_known, .ref z_next, .int v_come, .int v_isCounted, .ref z_counts, .ref z_acrosses, .ref z_failings, .int v_basis, .ref z_given, .int v_trace])), (z_isGood, .inl (cy 2, 32, .inl v_isGoodc))] ∧ va_S A s.heap H locs ∧ lv_has ls 7 [(6, .int o_1), (5, .int o_2), (3, .long o_3), (0, .ref z), (1, .long x1)]) (pcM := 48) (st := []) ?_ (fun hJ48 => ?_)
  · intro H locs ls hp_
    obtain ⟨hP, hD, hS, hl⟩ := hp_
    clear hL_4
    refine lv_lload_n hx hb dX10_messageOf_48 rfl (lv_at hl 2 rfl) ?_
    cases h
    exact gRl hx hb hr hlocks hP hD hS dX10_messageOf_49
  · refine gLoop (Hy := fun k_ v_ => fL_X10_messageOf_8 K x1 v_size v_isGoodc k_ v_ = some (o_1, o_2, o_3)) (Pl := fun (v_ : Int32 × Int32 × Int64) H locs ls => match v_ with | (a_5, a_6, a_7) => va_P D vwCl [(z, .inr (9, [.int v_fault, .int v_size, .int v_upper, .int v_base, .ref z_isGood, .ref z_frozen, .ref z_sheetSize, .ref z_sheetLane, .ref z_sheet, .ref z_hands, .int v_wide, .long v_mask, .int v_paths, .ref z_seen, .ref z_work, .ref z_known, .ref z_next, .int v_come, .int v_isCounted, .ref z_counts, .ref z_acrosses, .ref z_failings, .int v_basis, .ref z_given, .int v_trace])), (z_isGood, .inl (cy 2, 32, .inl v_isGoodc))] H ∧ va_D A [(z, .inr (9, [.int v_fault, .int v_size, .int v_upper, .int v_base, .ref z_isGood, .ref z_frozen, .ref z_sheetSize, .ref z_sheetLane, .ref z_sheet, .ref z_hands, .int v_wide, .long v_mask, .int v_paths, .ref z_seen, .ref z_work, .ref z_known, .ref z_next, .int v_come, .int v_isCounted, .ref z_counts, .ref z_acrosses, .ref z_failings, .int v_basis, .ref z_given, .int v_trace])), (z_isGood, .inl (cy 2, 32, .inl v_isGoodc))] ∧ va_S A s.heap H locs ∧ lv_has ls 7 [(6, .int a_5), (5, .int a_6), (3, .long a_7), (0, .ref z), (1, .long x1)]) (pcH := 8) (fun _ q_ => by cases q_) ?_ K (0, 0, 0) hL_4 ⟨hP, hD, hS, hl⟩
    clear hL_4 h hP hD hS hl
    intro k_ ih ⟨a_5, a_6, a_7⟩ H locs ls h hp_
    obtain ⟨hP, hD, hS, hl⟩ := hp_
    have hP : va_P D vwCl [(z, .inr (9, [.int v_fault, .int v_size, .int v_upper, .int v_base, .ref z_isGood, .ref z_frozen, .ref z_sheetSize, .ref z_sheetLane, .ref z_sheet, .ref z_hands, .int v_wide, .long v_mask, .int v_paths, .ref z_seen, .ref z_work, .ref z_known, .ref z_next, .int v_come, .int v_isCounted, .ref z_counts, .ref z_acrosses, .ref z_failings, .int v_basis, .ref z_given, .int v_trace])), (z_isGood, .inl (cy 2, 32, .inl v_isGoodc))] H := hP
    have hD : va_D A [(z, .inr (9, [.int v_fault, .int v_size, .int v_upper, .int v_base, .ref z_isGood, .ref z_frozen, .ref z_sheetSize, .ref z_sheetLane, .ref z_sheet, .ref z_hands, .int v_wide, .long v_mask, .int v_paths, .ref z_seen, .ref z_work, .ref z_known, .ref z_next, .int v_come, .int v_isCounted, .ref z_counts, .ref z_acrosses, .ref z_failings, .int v_basis, .ref z_given, .int v_trace])), (z_isGood, .inl (cy 2, 32, .inl v_isGoodc))] := hD
    have hl : lv_has ls 7 [(6, .int a_5), (5, .int a_6), (3, .long a_7), (0, .ref z), (1, .long x1)] := hl
    change fL_X10_messageOf_8 K x1 v_size v_isGoodc (k_ + 1) (a_5, a_6, a_7) = _ at h
    rw [fL_X10_messageOf_8] at h
    refine lv_iload hx hb dX10_messageOf_8 (lv_at hl 0 rfl) ?_
    refine lv_aload_n hx hb dX10_messageOf_10 rfl (lv_at hl 3 rfl) ?_
    refine va_get (D := D) (ci := 9) (v := .int v_size) (C := RX10) (T := TX10) (N := 25) hx hb hts iX10 hown hK hP 0 rfl rfl 1 (by decide) f54 (fun _ h9 => h9) rfl dX10_messageOf_11 ?_
    refine lv_icmp_ge (tgt := 48) hx hb dX10_messageOf_14 (by decide) (fun c_8 => ?_) (fun c_8 => ?_)
    · have h := gx_t c_8 h
      have hl := lv_sub (l' := [(6, .int a_5), (5, .int a_6), (3, .long a_7), (0, .ref z), (1, .long x1)]) hl [0, 1, 2, 3, 4] rfl
      cases h
      exact hJ48 _ _ _ ⟨hP, hD, hS, hl⟩
    · have h := gx_f c_8 h
      refine lv_aload_n hx hb dX10_messageOf_17 rfl (lv_at hl 3 rfl) ?_
      refine va_get (D := D) (ci := 9) (v := .ref z_isGood) (C := RX10) (T := TX10) (N := 25) hx hb hts iX10 hown hK hP 0 rfl rfl 4 (by decide) f7 (fun _ h9 => h9) rfl dX10_messageOf_18 ?_
      refine lv_iload hx hb dX10_messageOf_21 (lv_at hl 0 rfl) ?_
      obtain ⟨hi_, h⟩ := gx_ix h
      refine va_zald hx hb hK hP 1 2 rfl rfl hi_ dX10_messageOf_23 ?_
      refine lv_if_eq (tgt := 42) hx hb dX10_messageOf_24 (by decide) (fun c_9 => ?_) (fun c_9 => ?_)
      · have h := gx_t c_9 h
        obtain ⟨y6_10, e_y6_10⟩ : ∃ y : Int32, y = (a_5 + 1) := ⟨_, rfl⟩
        have h := gx_let e_y6_10 h
        refine lv_iinc (v := y6_10) (lv' := [(6, .int y6_10), (5, .int a_6), (3, .long a_7), (0, .ref z), (1, .long x1)]) hx hb dX10_messageOf_42 hl (k := 0) rfl (by rw [e_y6_10]; rfl) (by decide) rfl (fun ls hl => ?_)
        refine lv_goto (tgt := 8) hx hb dX10_messageOf_45 (by decide) ?_
        exact ih (y6_10, a_6, a_7) _ _ _ h ⟨hP, hD, hS, lv_sub (l' := [(6, .int y6_10), (5, .int a_6), (3, .long a_7), (0, .ref z), (1, .long x1)]) hl [0, 1, 2, 3, 4] rfl⟩
      · have h := gx_f c_9 h
        refine lv_lload_n hx hb dX10_messageOf_27 rfl (lv_at hl 2 rfl) ?_
        refine lv_lload_n hx hb dX10_messageOf_28 rfl (lv_at hl 4 rfl) ?_
        refine lv_iload hx hb dX10_messageOf_29 (lv_at hl 0 rfl) ?_
        refine lv_lshr (v := (gLshr x1 a_5)) hx hb dX10_messageOf_31 rfl ?_
        refine lv_lconst (v := 1) hx hb dX10_messageOf_32 (by decide) ?_
        refine lv_land hx hb dX10_messageOf_33 ?_
        refine lv_iload hx hb dX10_messageOf_34 (lv_at hl 1 rfl) ?_
        refine lv_lshl (v := (gLshl ((gLshr x1 a_5) &&& 1) a_6)) hx hb dX10_messageOf_36 rfl ?_
        refine lv_lor hx hb dX10_messageOf_37 ?_
        refine lv_topl (fun y3_11 e_y3_11 => ?_)
        have h := gx_let e_y3_11 h
        refine lv_lstore_n (lv' := [(3, .long y3_11), (6, .int a_5), (5, .int a_6), (0, .ref z), (1, .long x1)]) hx hb dX10_messageOf_38 rfl hl (by decide) rfl (fun ls hl => ?_)
        obtain ⟨y5_12, e_y5_12⟩ : ∃ y : Int32, y = (a_6 + 1) := ⟨_, rfl⟩
        have h := gx_let e_y5_12 h
        refine lv_iinc (v := y5_12) (lv' := [(5, .int y5_12), (3, .long y3_11), (6, .int a_5), (0, .ref z), (1, .long x1)]) hx hb dX10_messageOf_39 hl (k := 2) rfl (by rw [e_y5_12]; rfl) (by decide) rfl (fun ls hl => ?_)
        obtain ⟨y6_13, e_y6_13⟩ : ∃ y : Int32, y = (a_5 + 1) := ⟨_, rfl⟩
        have h := gx_let e_y6_13 h
        refine lv_iinc (v := y6_13) (lv' := [(6, .int y6_13), (5, .int y5_12), (3, .long y3_11), (0, .ref z), (1, .long x1)]) hx hb dX10_messageOf_42 hl (k := 2) rfl (by rw [e_y6_13]; rfl) (by decide) rfl (fun ls hl => ?_)
        refine lv_goto (tgt := 8) hx hb dX10_messageOf_45 (by decide) ?_
        exact ih (y6_13, y5_12, y3_11) _ _ _ h ⟨hP, hD, hS, lv_sub (l' := [(6, .int y6_13), (5, .int y5_12), (3, .long y3_11), (0, .ref z), (1, .long x1)]) hl [0, 1, 2, 3, 4] rfl⟩

def f_X10_path (K : Nat) (x1 : Int32) (v_size : Int32) (v_paths : Int32) (v_knownc : Nat → Int64) (v_isGoodc : Nat → Int32) : Option (Int64) :=
  if v_paths < 0 then
    Option.bind (f_X10_lost K) fun r_2 =>
    some r_2
  else
    Option.bind (f_X10_in K (Int32.toInt64 x1) 0 ((Int32.toInt64 v_paths) - 1)) fun r_3 =>
    if r_3 = 0 then
      Option.bind (f_X10_lost K) fun r_6 =>
      some r_6
    else
      gIx x1 64 <|
      Option.bind (f_X10_messageOf K (v_knownc (Int32.toNatClampNeg x1)) v_size v_isGoodc) fun r_5 =>
      some r_5
set_option maxHeartbeats 4000000 in
set_option maxRecDepth 100000 in
theorem c_X10_path (l : Launch) (D : va_G) (cy : Nat → ClassId) (t sz K : Nat) (z : Nat) (z_known : Nat) (z_isGood : Nat) (z_frozen : Nat) (z_sheetSize : Nat) (z_sheetLane : Nat) (z_sheet : Nat) (z_hands : Nat) (z_seen : Nat) (z_work : Nat) (z_next : Nat) (z_counts : Nat) (z_acrosses : Nat) (z_failings : Nat) (z_given : Nat) (v_fault : Int32) (v_size : Int32) (v_upper : Int32) (v_base : Int32) (v_wide : Int32) (v_mask : Int64) (v_paths : Int32) (v_come : Int32) (v_isCounted : Int32) (v_basis : Int32) (v_trace : Int32) (v_knownc : Nat → Int64) (v_isGoodc : Nat → Int32) (x1 : Int32) (r_ : Int64) (h : f_X10_path K x1 v_size v_paths v_knownc v_isGoodc = some r_) : gMl l D cy t sz yX10_path wsX10_path 1 26 [.ref z, .int x1] [(z, .inr (9, [.int v_fault, .int v_size, .int v_upper, .int v_base, .ref z_isGood, .ref z_frozen, .ref z_sheetSize, .ref z_sheetLane, .ref z_sheet, .ref z_hands, .int v_wide, .long v_mask, .int v_paths, .ref z_seen, .ref z_work, .ref z_known, .ref z_next, .int v_come, .int v_isCounted, .ref z_counts, .ref z_acrosses, .ref z_failings, .int v_basis, .ref z_given, .int v_trace])), (z_known, .inl (cy 1, 64, .inr (.inl v_knownc))), (z_isGood, .inl (cy 2, 32, .inl v_isGoodc))] r_ [(z, .inr (9, [.int v_fault, .int v_size, .int v_upper, .int v_base, .ref z_isGood, .ref z_frozen, .ref z_sheetSize, .ref z_sheetLane, .ref z_sheet, .ref z_hands, .int v_wide, .long v_mask, .int v_paths, .ref z_seen, .ref z_work, .ref z_known, .ref z_next, .int v_come, .int v_isCounted, .ref z_counts, .ref z_acrosses, .ref z_failings, .int v_basis, .ref z_given, .int v_trace])), (z_known, .inl (cy 1, 64, .inr (.inl v_knownc))), (z_isGood, .inl (cy 2, 32, .inl v_isGoodc))] := by
  refine gBl (cc := cX10_path) (maxL := 2) (ret := (some .long)) (by decide) rfl (Nat.le_of_ble_eq_true rfl) ?_
  intro p e s m below meth c A ls hAt hl
  obtain ⟨hx, hb, hml, hr, hts, hown, hlocks, hin, hK, hG, hA, hP, hD⟩ := hAt
  have hS : va_S A s.heap s.heap [] := va_S.rf
  have hl : lv_has ls 2 [(0, .ref z), (1, .int x1)] := hl
  have f67 := hts (.fieldLink RX10 67 "PlainLinesModel" "paths" "I") (by decide +kernel)
  have iX10 := (by decide +kernel : ∀ w ∈ u_ws RX10 TX10 25, w ∈ wsX10_path)
  have f36 := hts (.fieldLink RX10 36 "PlainLinesModel" "known" "[J") (by decide +kernel)
  rw [f_X10_path] at h
  refine lv_aload_n hx hb dX10_path_0 rfl (lv_at hl 0 rfl) ?_
  refine va_get (D := D) (ci := 9) (v := .int v_paths) (C := RX10) (T := TX10) (N := 25) hx hb hts iX10 hown hK hP 0 rfl rfl 12 (by decide) f67 (fun _ h9 => h9) rfl dX10_path_1 ?_
  refine lv_if_lt (tgt := 23) hx hb dX10_path_4 (by decide) (fun c_1 => ?_) (fun c_1 => ?_)
  · have h := gx_t c_1 h
    obtain ⟨r_2, hc_3, h⟩ := gx_b h
    refine gCalll (wr := [(z, .inr (9, [.int v_fault, .int v_size, .int v_upper, .int v_base, .ref z_isGood, .ref z_frozen, .ref z_sheetSize, .ref z_sheetLane, .ref z_sheet, .ref z_hands, .int v_wide, .long v_mask, .int v_paths, .ref z_seen, .ref z_work, .ref z_known, .ref z_next, .int v_come, .int v_isCounted, .ref z_counts, .ref z_acrosses, .ref z_failings, .int v_basis, .ref z_given, .int v_trace])), (z_known, .inl (cy 1, 64, .inr (.inl v_knownc))), (z_isGood, .inl (cy 2, 32, .inl v_isGoodc))]) (va_runS (As := []) (rest := []) ⟨hx, hb, hml, hown, hts⟩ (c_X10_lost l D cy t s.heap.size K r_2 hc_3) (va_cwS 0 hts gX10_path_X10_lost rfl rfl rfl (by decide +kernel) ⟨Nat.le_of_ble_eq_true rfl, Nat.le_of_ble_eq_true rfl⟩) ⟨gBlind, fun U hU hW => ⟨rfl, gPre.call hK hG hA hP hD hS [] (by decide) rfl U hU hW⟩⟩ rfl rfl hl.1 rfl (lv_room (Nat.le_of_ble_eq_true rfl)) dX10_path_23 ⟨Nat.le_of_ble_eq_true rfl, Nat.le_of_ble_eq_true rfl⟩) hA hP hD hS [] [0, 1, 2] rfl rfl (by decide) (by decide) (fun H locs hP hD hS => ?_)
    have hP : va_P D vwCl [(z, .inr (9, [.int v_fault, .int v_size, .int v_upper, .int v_base, .ref z_isGood, .ref z_frozen, .ref z_sheetSize, .ref z_sheetLane, .ref z_sheet, .ref z_hands, .int v_wide, .long v_mask, .int v_paths, .ref z_seen, .ref z_work, .ref z_known, .ref z_next, .int v_come, .int v_isCounted, .ref z_counts, .ref z_acrosses, .ref z_failings, .int v_basis, .ref z_given, .int v_trace])), (z_known, .inl (cy 1, 64, .inr (.inl v_knownc))), (z_isGood, .inl (cy 2, 32, .inl v_isGoodc))] H := hP
    have hD : va_D A [(z, .inr (9, [.int v_fault, .int v_size, .int v_upper, .int v_base, .ref z_isGood, .ref z_frozen, .ref z_sheetSize, .ref z_sheetLane, .ref z_sheet, .ref z_hands, .int v_wide, .long v_mask, .int v_paths, .ref z_seen, .ref z_work, .ref z_known, .ref z_next, .int v_come, .int v_isCounted, .ref z_counts, .ref z_acrosses, .ref z_failings, .int v_basis, .ref z_given, .int v_trace])), (z_known, .inl (cy 1, 64, .inr (.inl v_knownc))), (z_isGood, .inl (cy 2, 32, .inl v_isGoodc))] := hD
    refine lv_goto (tgt := 39) hx hb dX10_path_26 (by decide) ?_
    cases h
    exact gRl hx hb hr hlocks hP hD hS dX10_path_39
  · have h := gx_f c_1 h
    refine lv_iload_n hx hb dX10_path_7 rfl (lv_at hl 1 rfl) ?_
    refine lv_i2l (v := (Int32.toInt64 x1)) hx hb dX10_path_8 rfl ?_
    refine lv_lconst (v := 0) hx hb dX10_path_9 (by decide) ?_
    refine lv_aload_n hx hb dX10_path_10 rfl (lv_at hl 0 rfl) ?_
    refine va_get (D := D) (ci := 9) (v := .int v_paths) (C := RX10) (T := TX10) (N := 25) hx hb hts iX10 hown hK hP 0 rfl rfl 12 (by decide) f67 (fun _ h9 => h9) rfl dX10_path_11 ?_
    refine lv_i2l (v := (Int32.toInt64 v_paths)) hx hb dX10_path_14 rfl ?_
    refine lv_lconst (v := 1) hx hb dX10_path_15 (by decide) ?_
    refine lv_lsub hx hb dX10_path_16 ?_
    obtain ⟨r_4, hc_5, h⟩ := gx_b h
    refine gCalli (wr := [(z, .inr (9, [.int v_fault, .int v_size, .int v_upper, .int v_base, .ref z_isGood, .ref z_frozen, .ref z_sheetSize, .ref z_sheetLane, .ref z_sheet, .ref z_hands, .int v_wide, .long v_mask, .int v_paths, .ref z_seen, .ref z_work, .ref z_known, .ref z_next, .int v_come, .int v_isCounted, .ref z_counts, .ref z_acrosses, .ref z_failings, .int v_basis, .ref z_given, .int v_trace])), (z_known, .inl (cy 1, 64, .inr (.inl v_knownc))), (z_isGood, .inl (cy 2, 32, .inl v_isGoodc))]) (va_runS (As := [.long (Int32.toInt64 x1), .long 0, .long ((Int32.toInt64 v_paths) - 1)]) (rest := []) ⟨hx, hb, hml, hown, hts⟩ (c_X10_in l D cy t s.heap.size K (Int32.toInt64 x1) 0 ((Int32.toInt64 v_paths) - 1) r_4 hc_5) (va_cwS 3 hts gX10_path_X10_in rfl rfl rfl (by decide +kernel) ⟨Nat.le_of_ble_eq_true rfl, Nat.le_of_ble_eq_true rfl⟩) ⟨gBlind, fun U hU hW => ⟨rfl, gPre.call hK hG hA hP hD hS [] (by decide) rfl U hU hW⟩⟩ rfl rfl hl.1 rfl (lv_room (Nat.le_of_ble_eq_true rfl)) dX10_path_17 ⟨Nat.le_of_ble_eq_true rfl, Nat.le_of_ble_eq_true rfl⟩) hA hP hD hS [] [0, 1, 2] rfl rfl (by decide) (by decide) (fun H locs hP hD hS => ?_)
    have hP : va_P D vwCl [(z, .inr (9, [.int v_fault, .int v_size, .int v_upper, .int v_base, .ref z_isGood, .ref z_frozen, .ref z_sheetSize, .ref z_sheetLane, .ref z_sheet, .ref z_hands, .int v_wide, .long v_mask, .int v_paths, .ref z_seen, .ref z_work, .ref z_known, .ref z_next, .int v_come, .int v_isCounted, .ref z_counts, .ref z_acrosses, .ref z_failings, .int v_basis, .ref z_given, .int v_trace])), (z_known, .inl (cy 1, 64, .inr (.inl v_knownc))), (z_isGood, .inl (cy 2, 32, .inl v_isGoodc))] H := hP
    have hD : va_D A [(z, .inr (9, [.int v_fault, .int v_size, .int v_upper, .int v_base, .ref z_isGood, .ref z_frozen, .ref z_sheetSize, .ref z_sheetLane, .ref z_sheet, .ref z_hands, .int v_wide, .long v_mask, .int v_paths, .ref z_seen, .ref z_work, .ref z_known, .ref z_next, .int v_come, .int v_isCounted, .ref z_counts, .ref z_acrosses, .ref z_failings, .int v_basis, .ref z_given, .int v_trace])), (z_known, .inl (cy 1, 64, .inr (.inl v_knownc))), (z_isGood, .inl (cy 2, 32, .inl v_isGoodc))] := hD
    refine lv_if_ne (tgt := 29) hx hb dX10_path_20 (by decide) (fun c_6 => ?_) (fun c_6 => ?_)
    · have h := gx_f c_6 h
      refine lv_aload_n hx hb dX10_path_29 rfl (lv_at hl 0 rfl) ?_
      refine lv_aload_n hx hb dX10_path_30 rfl (lv_at hl 0 rfl) ?_
      refine va_get (D := D) (ci := 9) (v := .ref z_known) (C := RX10) (T := TX10) (N := 25) hx hb hts iX10 hown hK hP 0 rfl rfl 15 (by decide) f36 (fun _ h9 => h9) rfl dX10_path_31 ?_
      refine lv_iload_n hx hb dX10_path_34 rfl (lv_at hl 1 rfl) ?_
      obtain ⟨hi_, h⟩ := gx_ix h
      refine va_lald hx hb hK hP 1 1 rfl rfl hi_ dX10_path_35 ?_
      obtain ⟨r_7, hc_8, h⟩ := gx_b h
      refine gCalll (wr := [(z_known, .inl (cy 1, 64, .inr (.inl v_knownc)))]) (va_runV (As := [.long (v_knownc (Int32.toNatClampNeg x1))]) (rest := []) ⟨hx, hb, hml, hown, hts⟩ (c_X10_messageOf l D cy t H.size K z z_isGood z_frozen z_sheetSize z_sheetLane z_sheet z_hands z_seen z_work z_known z_next z_counts z_acrosses z_failings z_given v_fault v_size v_upper v_base v_wide v_mask v_paths v_come v_isCounted v_basis v_trace v_isGoodc (v_knownc (Int32.toNatClampNeg x1)) r_7 hc_8) (cwV 1 hts gX10_path_X10_messageOf rfl rfl rfl (by decide +kernel) ⟨Nat.le_of_ble_eq_true rfl, Nat.le_of_ble_eq_true rfl⟩) ⟨gBlind, va_recv hK hP (ci := 9) (q0 := 0) rfl rfl, fun U hU hW => ⟨rfl, gPre.call hK hG hA hP hD hS [0, 2] (by decide) rfl U hU hW⟩⟩ rfl rfl hl.1 rfl (lv_room (Nat.le_of_ble_eq_true rfl)) dX10_path_36 ⟨Nat.le_of_ble_eq_true rfl, Nat.le_of_ble_eq_true rfl⟩) hA hP hD hS [0, 2] [1] rfl rfl (by decide) (by decide) (fun H locs hP hD hS => ?_)
      have hP := hP.sub (ws' := [(z, .inr (9, [.int v_fault, .int v_size, .int v_upper, .int v_base, .ref z_isGood, .ref z_frozen, .ref z_sheetSize, .ref z_sheetLane, .ref z_sheet, .ref z_hands, .int v_wide, .long v_mask, .int v_paths, .ref z_seen, .ref z_work, .ref z_known, .ref z_next, .int v_come, .int v_isCounted, .ref z_counts, .ref z_acrosses, .ref z_failings, .int v_basis, .ref z_given, .int v_trace])), (z_known, .inl (cy 1, 64, .inr (.inl v_knownc))), (z_isGood, .inl (cy 2, 32, .inl v_isGoodc))]) [1, 0, 2] rfl
      have hD := hD.sub (ws' := [(z, .inr (9, [.int v_fault, .int v_size, .int v_upper, .int v_base, .ref z_isGood, .ref z_frozen, .ref z_sheetSize, .ref z_sheetLane, .ref z_sheet, .ref z_hands, .int v_wide, .long v_mask, .int v_paths, .ref z_seen, .ref z_work, .ref z_known, .ref z_next, .int v_come, .int v_isCounted, .ref z_counts, .ref z_acrosses, .ref z_failings, .int v_basis, .ref z_given, .int v_trace])), (z_known, .inl (cy 1, 64, .inr (.inl v_knownc))), (z_isGood, .inl (cy 2, 32, .inl v_isGoodc))]) [1, 0, 2] (by decide) rfl
      cases h
      exact gRl hx hb hr hlocks hP hD hS dX10_path_39
    · have h := gx_t c_6 h
      obtain ⟨r_9, hc_10, h⟩ := gx_b h
      refine gCalll (wr := [(z, .inr (9, [.int v_fault, .int v_size, .int v_upper, .int v_base, .ref z_isGood, .ref z_frozen, .ref z_sheetSize, .ref z_sheetLane, .ref z_sheet, .ref z_hands, .int v_wide, .long v_mask, .int v_paths, .ref z_seen, .ref z_work, .ref z_known, .ref z_next, .int v_come, .int v_isCounted, .ref z_counts, .ref z_acrosses, .ref z_failings, .int v_basis, .ref z_given, .int v_trace])), (z_known, .inl (cy 1, 64, .inr (.inl v_knownc))), (z_isGood, .inl (cy 2, 32, .inl v_isGoodc))]) (va_runS (As := []) (rest := []) ⟨hx, hb, hml, hown, hts⟩ (c_X10_lost l D cy t H.size K r_9 hc_10) (va_cwS 0 hts gX10_path_X10_lost rfl rfl rfl (by decide +kernel) ⟨Nat.le_of_ble_eq_true rfl, Nat.le_of_ble_eq_true rfl⟩) ⟨gBlind, fun U hU hW => ⟨rfl, gPre.call hK hG hA hP hD hS [] (by decide) rfl U hU hW⟩⟩ rfl rfl hl.1 rfl (lv_room (Nat.le_of_ble_eq_true rfl)) dX10_path_23 ⟨Nat.le_of_ble_eq_true rfl, Nat.le_of_ble_eq_true rfl⟩) hA hP hD hS [] [0, 1, 2] rfl rfl (by decide) (by decide) (fun H locs hP hD hS => ?_)
      have hP : va_P D vwCl [(z, .inr (9, [.int v_fault, .int v_size, .int v_upper, .int v_base, .ref z_isGood, .ref z_frozen, .ref z_sheetSize, .ref z_sheetLane, .ref z_sheet, .ref z_hands, .int v_wide, .long v_mask, .int v_paths, .ref z_seen, .ref z_work, .ref z_known, .ref z_next, .int v_come, .int v_isCounted, .ref z_counts, .ref z_acrosses, .ref z_failings, .int v_basis, .ref z_given, .int v_trace])), (z_known, .inl (cy 1, 64, .inr (.inl v_knownc))), (z_isGood, .inl (cy 2, 32, .inl v_isGoodc))] H := hP
      have hD : va_D A [(z, .inr (9, [.int v_fault, .int v_size, .int v_upper, .int v_base, .ref z_isGood, .ref z_frozen, .ref z_sheetSize, .ref z_sheetLane, .ref z_sheet, .ref z_hands, .int v_wide, .long v_mask, .int v_paths, .ref z_seen, .ref z_work, .ref z_known, .ref z_next, .int v_come, .int v_isCounted, .ref z_counts, .ref z_acrosses, .ref z_failings, .int v_basis, .ref z_given, .int v_trace])), (z_known, .inl (cy 1, 64, .inr (.inl v_knownc))), (z_isGood, .inl (cy 2, 32, .inl v_isGoodc))] := hD
      refine lv_goto (tgt := 39) hx hb dX10_path_26 (by decide) ?_
      cases h
      exact gRl hx hb hr hlocks hP hD hS dX10_path_39

def fL_X10_ones_4 (K : Nat) (l0 : Int64) : Nat → Int32 × Int32 → Option (Int32 × Int32)
  | 0, _ => none
  | k + 1, (l3, l2) =>
    if 33 ≤ l3 then
      some (l3, l2)
    else
      gLet (l2 + (Int64.toInt32 ((gLshr l0 l3) &&& 1))) fun y2_2 =>
      gLet (l3 + 1) fun y3_3 =>
      fL_X10_ones_4 K l0 k (y3_3, y2_2)
def f_X10_ones (K : Nat) (x1 : Int64) : Option (Int32) :=
  Option.bind (fL_X10_ones_4 K x1 K (0, 0)) fun (o_4, o_5) =>
  some o_5
set_option maxHeartbeats 4000000 in
set_option maxRecDepth 100000 in
theorem c_X10_ones (l : Launch) (D : va_G) (cy : Nat → ClassId) (t sz K : Nat) (x1 : Int64) (r_ : Int32) (h : f_X10_ones K x1 = some r_) : gMi l D cy t sz yX10_ones wsX10_ones 0 0 [.long x1] [] r_ [] := by
  refine gBi (cc := cX10_ones) (maxL := 4) (ret := (some .int)) (by decide) rfl (Nat.le_of_ble_eq_true rfl) ?_
  intro p e s m below meth c A ls hAt hl
  obtain ⟨hx, hb, hml, hr, hts, hown, hlocks, hin, hK, hG, hA, hP, hD⟩ := hAt
  have hS : va_S A s.heap s.heap [] := va_S.rf
  have hl : lv_has ls 4 [(0, .long x1)] := hl
  rw [f_X10_ones] at h
  refine lv_iconst (v := 0) hx hb dX10_ones_0 (by decide) ?_
  refine lv_istore_n (lv' := [(2, .int 0), (0, .long x1)]) hx hb dX10_ones_1 rfl hl (by decide) rfl (fun ls hl => ?_)
  refine lv_iconst (v := 0) hx hb dX10_ones_2 (by decide) ?_
  refine lv_istore_n (lv' := [(3, .int 0), (2, .int 0), (0, .long x1)]) hx hb dX10_ones_3 rfl hl (by decide) rfl (fun ls hl => ?_)
  obtain ⟨⟨o_1, o_2⟩, hL_3, h⟩ := gx_b h
  refine gJoin (Pj := fun H locs ls => va_P D vwCl [] H ∧ va_D A [] ∧ va_S A s.heap H locs ∧ lv_has ls 4 [(3, .int o_1), (2, .int o_2), (0, .long x1)]) (pcM := 25) (st := []) ?_ (fun hJ25 => ?_)
  · intro H locs ls hp_
    obtain ⟨hP, hD, hS, hl⟩ := hp_
    clear hL_3
    refine lv_iload_n hx hb dX10_ones_25 rfl (lv_at hl 1 rfl) ?_
    cases h
    exact gRi hx hb hr hlocks hP hD hS dX10_ones_26
  · refine gLoop (Hy := fun k_ v_ => fL_X10_ones_4 K x1 k_ v_ = some (o_1, o_2)) (Pl := fun (v_ : Int32 × Int32) H locs ls => match v_ with | (a_4, a_5) => va_P D vwCl [] H ∧ va_D A [] ∧ va_S A s.heap H locs ∧ lv_has ls 4 [(3, .int a_4), (2, .int a_5), (0, .long x1)]) (pcH := 4) (fun _ q_ => by cases q_) ?_ K (0, 0) hL_3 ⟨hP, hD, hS, hl⟩
    clear hL_3 h hP hD hS hl
    intro k_ ih ⟨a_4, a_5⟩ H locs ls h hp_
    obtain ⟨hP, hD, hS, hl⟩ := hp_
    have hP : va_P D vwCl [] H := hP
    have hD : va_D A [] := hD
    have hl : lv_has ls 4 [(3, .int a_4), (2, .int a_5), (0, .long x1)] := hl
    change fL_X10_ones_4 K x1 (k_ + 1) (a_4, a_5) = _ at h
    rw [fL_X10_ones_4] at h
    refine lv_iload_n hx hb dX10_ones_4 rfl (lv_at hl 0 rfl) ?_
    refine lv_bipush (v := 33) hx hb dX10_ones_5 (by decide) ?_
    refine lv_icmp_ge (tgt := 25) hx hb dX10_ones_7 (by decide) (fun c_6 => ?_) (fun c_6 => ?_)
    · have h := gx_t c_6 h
      have hl := lv_sub (l' := [(3, .int a_4), (2, .int a_5), (0, .long x1)]) hl [0, 1, 2] rfl
      cases h
      exact hJ25 _ _ _ ⟨hP, hD, hS, hl⟩
    · have h := gx_f c_6 h
      refine lv_iload_n hx hb dX10_ones_10 rfl (lv_at hl 1 rfl) ?_
      refine lv_lload_n hx hb dX10_ones_11 rfl (lv_at hl 2 rfl) ?_
      refine lv_iload_n hx hb dX10_ones_12 rfl (lv_at hl 0 rfl) ?_
      refine lv_lshr (v := (gLshr x1 a_4)) hx hb dX10_ones_13 rfl ?_
      refine lv_lconst (v := 1) hx hb dX10_ones_14 (by decide) ?_
      refine lv_land hx hb dX10_ones_15 ?_
      refine lv_l2i (v := (Int64.toInt32 ((gLshr x1 a_4) &&& 1))) hx hb dX10_ones_16 rfl ?_
      refine lv_iadd hx hb dX10_ones_17 ?_
      refine lv_topi (fun y2_7 e_y2_7 => ?_)
      have h := gx_let e_y2_7 h
      refine lv_istore_n (lv' := [(2, .int y2_7), (3, .int a_4), (0, .long x1)]) hx hb dX10_ones_18 rfl hl (by decide) rfl (fun ls hl => ?_)
      obtain ⟨y3_8, e_y3_8⟩ : ∃ y : Int32, y = (a_4 + 1) := ⟨_, rfl⟩
      have h := gx_let e_y3_8 h
      refine lv_iinc (v := y3_8) (lv' := [(3, .int y3_8), (2, .int y2_7), (0, .long x1)]) hx hb dX10_ones_19 hl (k := 1) rfl (by rw [e_y3_8]; rfl) (by decide) rfl (fun ls hl => ?_)
      refine lv_goto (tgt := 4) hx hb dX10_ones_22 (by decide) ?_
      exact ih (y3_8, y2_7) _ _ _ h ⟨hP, hD, hS, lv_sub (l' := [(3, .int y3_8), (2, .int y2_7), (0, .long x1)]) hl [0, 1, 2] rfl⟩

def fL_X10_passed_12 (K : Nat) (u0_1 : Int32) (u0_11 : Int64) (u0_12 : Int32) (u1 : Nat → Int64) (u2 : Nat → Int32) : Nat → Int32 → Option (Int32)
  | 0, _ => none
  | k + 1, l1 =>
    if u0_12 ≤ l1 then
      some (-9)
    else
      gIx l1 64 <|
      Option.bind (f_X10_messageOf K (u1 (Int32.toNatClampNeg l1)) u0_1 u2) fun r_3 =>
      Option.bind (f_X10_ones K (r_3 &&& u0_11)) fun r_4 =>
      if (r_4 - r_4 / 2 * 2) = 0 then
        some l1
      else
        gLet (l1 + 1) fun y1_6 =>
        fL_X10_passed_12 K u0_1 u0_11 u0_12 u1 u2 k y1_6
def f_X10_passed (K : Nat) (v_size : Int32) (v_mask : Int64) (v_paths : Int32) (v_knownc : Nat → Int64) (v_isGoodc : Nat → Int32) : Option (Int32) :=
  if 0 ≤ v_paths then
    fL_X10_passed_12 K v_size v_mask v_paths v_knownc v_isGoodc K 0
  else
    some (-3)
set_option maxHeartbeats 4000000 in
set_option maxRecDepth 100000 in
theorem c_X10_passed (l : Launch) (D : va_G) (cy : Nat → ClassId) (t sz K : Nat) (z : Nat) (z_known : Nat) (z_isGood : Nat) (z_frozen : Nat) (z_sheetSize : Nat) (z_sheetLane : Nat) (z_sheet : Nat) (z_hands : Nat) (z_seen : Nat) (z_work : Nat) (z_next : Nat) (z_counts : Nat) (z_acrosses : Nat) (z_failings : Nat) (z_given : Nat) (v_fault : Int32) (v_size : Int32) (v_upper : Int32) (v_base : Int32) (v_wide : Int32) (v_mask : Int64) (v_paths : Int32) (v_come : Int32) (v_isCounted : Int32) (v_basis : Int32) (v_trace : Int32) (v_knownc : Nat → Int64) (v_isGoodc : Nat → Int32) (r_ : Int32) (h : f_X10_passed K v_size v_mask v_paths v_knownc v_isGoodc = some r_) : gMi l D cy t sz yX10_passed wsX10_passed 1 26 [.ref z] [(z, .inr (9, [.int v_fault, .int v_size, .int v_upper, .int v_base, .ref z_isGood, .ref z_frozen, .ref z_sheetSize, .ref z_sheetLane, .ref z_sheet, .ref z_hands, .int v_wide, .long v_mask, .int v_paths, .ref z_seen, .ref z_work, .ref z_known, .ref z_next, .int v_come, .int v_isCounted, .ref z_counts, .ref z_acrosses, .ref z_failings, .int v_basis, .ref z_given, .int v_trace])), (z_known, .inl (cy 1, 64, .inr (.inl v_knownc))), (z_isGood, .inl (cy 2, 32, .inl v_isGoodc))] r_ [(z, .inr (9, [.int v_fault, .int v_size, .int v_upper, .int v_base, .ref z_isGood, .ref z_frozen, .ref z_sheetSize, .ref z_sheetLane, .ref z_sheet, .ref z_hands, .int v_wide, .long v_mask, .int v_paths, .ref z_seen, .ref z_work, .ref z_known, .ref z_next, .int v_come, .int v_isCounted, .ref z_counts, .ref z_acrosses, .ref z_failings, .int v_basis, .ref z_given, .int v_trace])), (z_known, .inl (cy 1, 64, .inr (.inl v_knownc))), (z_isGood, .inl (cy 2, 32, .inl v_isGoodc))] := by
  refine gBi (cc := cX10_passed) (maxL := 2) (ret := (some .int)) (by decide) rfl (Nat.le_of_ble_eq_true rfl) ?_
  intro p e s m below meth c A ls hAt hl
  obtain ⟨hx, hb, hml, hr, hts, hown, hlocks, hin, hK, hG, hA, hP, hD⟩ := hAt
  have hS : va_S A s.heap s.heap [] := va_S.rf
  have hl : lv_has ls 2 [(0, .ref z)] := hl
  have f67 := hts (.fieldLink RX10 67 "PlainLinesModel" "paths" "I") (by decide +kernel)
  have iX10 := (by decide +kernel : ∀ w ∈ u_ws RX10 TX10 25, w ∈ wsX10_passed)
  have f36 := hts (.fieldLink RX10 36 "PlainLinesModel" "known" "[J") (by decide +kernel)
  have f167 := hts (.fieldLink RX10 167 "PlainLinesModel" "mask" "J") (by decide +kernel)
  rw [f_X10_passed] at h
  refine lv_aload_n hx hb dX10_passed_0 rfl (lv_at hl 0 rfl) ?_
  refine va_get (D := D) (ci := 9) (v := .int v_paths) (C := RX10) (T := TX10) (N := 25) hx hb hts iX10 hown hK hP 0 rfl rfl 12 (by decide) f67 (fun _ h9 => h9) rfl dX10_passed_1 ?_
  refine lv_if_ge (tgt := 10) hx hb dX10_passed_4 (by decide) (fun c_1 => ?_) (fun c_1 => ?_)
  · have h := gx_t c_1 h
    refine lv_iconst (v := 0) hx hb dX10_passed_10 (by decide) ?_
    refine lv_istore_n (lv' := [(1, .int 0), (0, .ref z)]) hx hb dX10_passed_11 rfl hl (by decide) rfl (fun ls hl => ?_)
    have hL_2 := h
    refine gLoop (Hy := fun k_ v_ => fL_X10_passed_12 K v_size v_mask v_paths v_knownc v_isGoodc k_ v_ = some r_) (Pl := fun (v_ : Int32) H locs ls => match v_ with | a_3 => va_P D vwCl [(z, .inr (9, [.int v_fault, .int v_size, .int v_upper, .int v_base, .ref z_isGood, .ref z_frozen, .ref z_sheetSize, .ref z_sheetLane, .ref z_sheet, .ref z_hands, .int v_wide, .long v_mask, .int v_paths, .ref z_seen, .ref z_work, .ref z_known, .ref z_next, .int v_come, .int v_isCounted, .ref z_counts, .ref z_acrosses, .ref z_failings, .int v_basis, .ref z_given, .int v_trace])), (z_known, .inl (cy 1, 64, .inr (.inl v_knownc))), (z_isGood, .inl (cy 2, 32, .inl v_isGoodc))] H ∧ va_D A [(z, .inr (9, [.int v_fault, .int v_size, .int v_upper, .int v_base, .ref z_isGood, .ref z_frozen, .ref z_sheetSize, .ref z_sheetLane, .ref z_sheet, .ref z_hands, .int v_wide, .long v_mask, .int v_paths, .ref z_seen, .ref z_work, .ref z_known, .ref z_next, .int v_come, .int v_isCounted, .ref z_counts, .ref z_acrosses, .ref z_failings, .int v_basis, .ref z_given, .int v_trace])), (z_known, .inl (cy 1, 64, .inr (.inl v_knownc))), (z_isGood, .inl (cy 2, 32, .inl v_isGoodc))] ∧ va_S A s.heap H locs ∧ lv_has ls 2 [(1, .int a_3), (0, .ref z)]) (pcH := 12) (fun _ q_ => by cases q_) ?_ K 0 hL_2 ⟨hP, hD, hS, hl⟩
    clear hL_2 h hP hD hS hl
    intro k_ ih a_3 H locs ls h hp_
    obtain ⟨hP, hD, hS, hl⟩ := hp_
    have hP : va_P D vwCl [(z, .inr (9, [.int v_fault, .int v_size, .int v_upper, .int v_base, .ref z_isGood, .ref z_frozen, .ref z_sheetSize, .ref z_sheetLane, .ref z_sheet, .ref z_hands, .int v_wide, .long v_mask, .int v_paths, .ref z_seen, .ref z_work, .ref z_known, .ref z_next, .int v_come, .int v_isCounted, .ref z_counts, .ref z_acrosses, .ref z_failings, .int v_basis, .ref z_given, .int v_trace])), (z_known, .inl (cy 1, 64, .inr (.inl v_knownc))), (z_isGood, .inl (cy 2, 32, .inl v_isGoodc))] H := hP
    have hD : va_D A [(z, .inr (9, [.int v_fault, .int v_size, .int v_upper, .int v_base, .ref z_isGood, .ref z_frozen, .ref z_sheetSize, .ref z_sheetLane, .ref z_sheet, .ref z_hands, .int v_wide, .long v_mask, .int v_paths, .ref z_seen, .ref z_work, .ref z_known, .ref z_next, .int v_come, .int v_isCounted, .ref z_counts, .ref z_acrosses, .ref z_failings, .int v_basis, .ref z_given, .int v_trace])), (z_known, .inl (cy 1, 64, .inr (.inl v_knownc))), (z_isGood, .inl (cy 2, 32, .inl v_isGoodc))] := hD
    have hl : lv_has ls 2 [(1, .int a_3), (0, .ref z)] := hl
    change fL_X10_passed_12 K v_size v_mask v_paths v_knownc v_isGoodc (k_ + 1) a_3 = _ at h
    rw [fL_X10_passed_12] at h
    refine lv_iload_n hx hb dX10_passed_12 rfl (lv_at hl 0 rfl) ?_
    refine lv_aload_n hx hb dX10_passed_13 rfl (lv_at hl 1 rfl) ?_
    refine va_get (D := D) (ci := 9) (v := .int v_paths) (C := RX10) (T := TX10) (N := 25) hx hb hts iX10 hown hK hP 0 rfl rfl 12 (by decide) f67 (fun _ h9 => h9) rfl dX10_passed_14 ?_
    refine lv_icmp_ge (tgt := 51) hx hb dX10_passed_17 (by decide) (fun c_4 => ?_) (fun c_4 => ?_)
    · have h := gx_t c_4 h
      refine lv_bipush (v := (-9)) hx hb dX10_passed_51 (by decide) ?_
      cases h
      exact gRi hx hb hr hlocks hP hD hS dX10_passed_53
    · have h := gx_f c_4 h
      refine lv_aload_n hx hb dX10_passed_20 rfl (lv_at hl 1 rfl) ?_
      refine lv_aload_n hx hb dX10_passed_21 rfl (lv_at hl 1 rfl) ?_
      refine va_get (D := D) (ci := 9) (v := .ref z_known) (C := RX10) (T := TX10) (N := 25) hx hb hts iX10 hown hK hP 0 rfl rfl 15 (by decide) f36 (fun _ h9 => h9) rfl dX10_passed_22 ?_
      refine lv_iload_n hx hb dX10_passed_25 rfl (lv_at hl 0 rfl) ?_
      obtain ⟨hi_, h⟩ := gx_ix h
      refine va_lald hx hb hK hP 1 1 rfl rfl hi_ dX10_passed_26 ?_
      obtain ⟨r_5, hc_6, h⟩ := gx_b h
      refine gCalll (wr := [(z_known, .inl (cy 1, 64, .inr (.inl v_knownc)))]) (va_runV (As := [.long (v_knownc (Int32.toNatClampNeg a_3))]) (rest := []) ⟨hx, hb, hml, hown, hts⟩ (c_X10_messageOf l D cy t H.size K z z_isGood z_frozen z_sheetSize z_sheetLane z_sheet z_hands z_seen z_work z_known z_next z_counts z_acrosses z_failings z_given v_fault v_size v_upper v_base v_wide v_mask v_paths v_come v_isCounted v_basis v_trace v_isGoodc (v_knownc (Int32.toNatClampNeg a_3)) r_5 hc_6) (cwV 1 hts gX10_passed_X10_messageOf rfl rfl rfl (by decide +kernel) ⟨Nat.le_of_ble_eq_true rfl, Nat.le_of_ble_eq_true rfl⟩) ⟨gBlind, va_recv hK hP (ci := 9) (q0 := 0) rfl rfl, fun U hU hW => ⟨rfl, gPre.call hK hG hA hP hD hS [0, 2] (by decide) rfl U hU hW⟩⟩ rfl rfl hl.1 rfl (lv_room (Nat.le_of_ble_eq_true rfl)) dX10_passed_27 ⟨Nat.le_of_ble_eq_true rfl, Nat.le_of_ble_eq_true rfl⟩) hA hP hD hS [0, 2] [1] rfl rfl (by decide) (by decide) (fun H locs hP hD hS => ?_)
      have hP := hP.sub (ws' := [(z, .inr (9, [.int v_fault, .int v_size, .int v_upper, .int v_base, .ref z_isGood, .ref z_frozen, .ref z_sheetSize, .ref z_sheetLane, .ref z_sheet, .ref z_hands, .int v_wide, .long v_mask, .int v_paths, .ref z_seen, .ref z_work, .ref z_known, .ref z_next, .int v_come, .int v_isCounted, .ref z_counts, .ref z_acrosses, .ref z_failings, .int v_basis, .ref z_given, .int v_trace])), (z_known, .inl (cy 1, 64, .inr (.inl v_knownc))), (z_isGood, .inl (cy 2, 32, .inl v_isGoodc))]) [1, 0, 2] rfl
      have hD := hD.sub (ws' := [(z, .inr (9, [.int v_fault, .int v_size, .int v_upper, .int v_base, .ref z_isGood, .ref z_frozen, .ref z_sheetSize, .ref z_sheetLane, .ref z_sheet, .ref z_hands, .int v_wide, .long v_mask, .int v_paths, .ref z_seen, .ref z_work, .ref z_known, .ref z_next, .int v_come, .int v_isCounted, .ref z_counts, .ref z_acrosses, .ref z_failings, .int v_basis, .ref z_given, .int v_trace])), (z_known, .inl (cy 1, 64, .inr (.inl v_knownc))), (z_isGood, .inl (cy 2, 32, .inl v_isGoodc))]) [1, 0, 2] (by decide) rfl
      refine lv_aload_n hx hb dX10_passed_30 rfl (lv_at hl 1 rfl) ?_
      refine va_get (D := D) (ci := 9) (v := .long v_mask) (C := RX10) (T := TX10) (N := 25) hx hb hts iX10 hown hK hP 0 rfl rfl 11 (by decide) f167 (fun _ h9 => h9) rfl dX10_passed_31 ?_
      refine lv_land hx hb dX10_passed_34 ?_
      obtain ⟨r_7, hc_8, h⟩ := gx_b h
      refine gCalli (wr := [(z, .inr (9, [.int v_fault, .int v_size, .int v_upper, .int v_base, .ref z_isGood, .ref z_frozen, .ref z_sheetSize, .ref z_sheetLane, .ref z_sheet, .ref z_hands, .int v_wide, .long v_mask, .int v_paths, .ref z_seen, .ref z_work, .ref z_known, .ref z_next, .int v_come, .int v_isCounted, .ref z_counts, .ref z_acrosses, .ref z_failings, .int v_basis, .ref z_given, .int v_trace])), (z_known, .inl (cy 1, 64, .inr (.inl v_knownc))), (z_isGood, .inl (cy 2, 32, .inl v_isGoodc))]) (va_runS (As := [.long (r_5 &&& v_mask)]) (rest := []) ⟨hx, hb, hml, hown, hts⟩ (c_X10_ones l D cy t H.size K (r_5 &&& v_mask) r_7 hc_8) (va_cwS 1 hts gX10_passed_X10_ones rfl rfl rfl (by decide +kernel) ⟨Nat.le_of_ble_eq_true rfl, Nat.le_of_ble_eq_true rfl⟩) ⟨gBlind, fun U hU hW => ⟨rfl, gPre.call hK hG hA hP hD hS [] (by decide) rfl U hU hW⟩⟩ rfl rfl hl.1 rfl (lv_room (Nat.le_of_ble_eq_true rfl)) dX10_passed_35 ⟨Nat.le_of_ble_eq_true rfl, Nat.le_of_ble_eq_true rfl⟩) hA hP hD hS [] [0, 1, 2] rfl rfl (by decide) (by decide) (fun H locs hP hD hS => ?_)
      have hP : va_P D vwCl [(z, .inr (9, [.int v_fault, .int v_size, .int v_upper, .int v_base, .ref z_isGood, .ref z_frozen, .ref z_sheetSize, .ref z_sheetLane, .ref z_sheet, .ref z_hands, .int v_wide, .long v_mask, .int v_paths, .ref z_seen, .ref z_work, .ref z_known, .ref z_next, .int v_come, .int v_isCounted, .ref z_counts, .ref z_acrosses, .ref z_failings, .int v_basis, .ref z_given, .int v_trace])), (z_known, .inl (cy 1, 64, .inr (.inl v_knownc))), (z_isGood, .inl (cy 2, 32, .inl v_isGoodc))] H := hP
      have hD : va_D A [(z, .inr (9, [.int v_fault, .int v_size, .int v_upper, .int v_base, .ref z_isGood, .ref z_frozen, .ref z_sheetSize, .ref z_sheetLane, .ref z_sheet, .ref z_hands, .int v_wide, .long v_mask, .int v_paths, .ref z_seen, .ref z_work, .ref z_known, .ref z_next, .int v_come, .int v_isCounted, .ref z_counts, .ref z_acrosses, .ref z_failings, .int v_basis, .ref z_given, .int v_trace])), (z_known, .inl (cy 1, 64, .inr (.inl v_knownc))), (z_isGood, .inl (cy 2, 32, .inl v_isGoodc))] := hD
      refine lv_iconst (v := 2) hx hb dX10_passed_38 (by decide) ?_
      refine lv_irem hx hb dX10_passed_39 (by decide) ?_
      refine lv_if_ne (tgt := 45) hx hb dX10_passed_40 (by decide) (fun c_9 => ?_) (fun c_9 => ?_)
      · have h := gx_f c_9 h
        obtain ⟨y1_10, e_y1_10⟩ : ∃ y : Int32, y = (a_3 + 1) := ⟨_, rfl⟩
        have h := gx_let e_y1_10 h
        refine lv_iinc (v := y1_10) (lv' := [(1, .int y1_10), (0, .ref z)]) hx hb dX10_passed_45 hl (k := 0) rfl (by rw [e_y1_10]; rfl) (by decide) rfl (fun ls hl => ?_)
        refine lv_goto (tgt := 12) hx hb dX10_passed_48 (by decide) ?_
        exact ih y1_10 _ _ _ h ⟨hP, hD, hS, lv_sub (l' := [(1, .int y1_10), (0, .ref z)]) hl [0, 1] rfl⟩
      · have h := gx_t c_9 h
        refine lv_iload_n hx hb dX10_passed_43 rfl (lv_at hl 0 rfl) ?_
        cases h
        exact gRi hx hb hr hlocks hP hD hS dX10_passed_44
  · have h := gx_f c_1 h
    refine lv_bipush (v := (-3)) hx hb dX10_passed_7 (by decide) ?_
    cases h
    exact gRi hx hb hr hlocks hP hD hS dX10_passed_9
