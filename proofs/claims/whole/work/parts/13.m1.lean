def fL_X10_about_68 (K : Nat) (l1 : Int32) (u1 : Nat → Int32) : Nat → Int32 × Int32 → Option (Int32 × Int32)
  | 0, _ => none
  | k + 1, (l4, l3) =>
    if l1 ≤ l4 then
      some (l4, l3)
    else
      gIx l4 32 <|
      Option.bind (α := Int32) (
        if (u1 (Int32.toNatClampNeg l4)) = 0 then
          some 0
        else
          some 1) fun ms_7 =>
      gLet (l3 + ms_7) fun y3_9 =>
      gLet (l4 + 1) fun y4_10 =>
      fL_X10_about_68 K l1 u1 k (y4_10, y3_9)
def f_X10_about (K : Nat) (x1 : Int32) (x2 : Int32) (v_size : Int32) (v_isGoodc : Nat → Int32) (v_frozenc : Nat → Int32) : Option (Int32) :=
  Option.bind (f_X10_noPlace K x1 v_size) fun r_1 =>
  if r_1 = 0 then
    if x2 = 0 then
      gIx x1 32 <|
      if (v_isGoodc (Int32.toNatClampNeg x1)) = 0 then
        some 0
      else
        some 1
    else
      if x2 = 1 then
        gIx x1 32 <|
        if (v_isGoodc (Int32.toNatClampNeg x1)) = 0 then
          gIx x1 32 <|
          some (v_frozenc (Int32.toNatClampNeg x1))
        else
          some (-9)
      else
        if x2 = 2 then
          Option.bind (fL_X10_about_68 K x1 v_isGoodc K (0, 0)) fun (o_11, o_12) =>
          gIx x1 32 <|
          if (v_isGoodc (Int32.toNatClampNeg x1)) = 0 then
            some (-9)
          else
            some o_12
        else
          some (-2)
  else
    some (-1)
set_option maxHeartbeats 4000000 in
set_option maxRecDepth 100000 in
theorem c_X10_about (l : Launch) (D : va_G) (cy : Nat → ClassId) (t sz K : Nat) (z : Nat) (z_isGood : Nat) (z_frozen : Nat) (z_sheetSize : Nat) (z_sheetLane : Nat) (z_sheet : Nat) (z_hands : Nat) (z_seen : Nat) (z_work : Nat) (z_known : Nat) (z_next : Nat) (z_counts : Nat) (z_acrosses : Nat) (z_failings : Nat) (z_given : Nat) (v_fault : Int32) (v_size : Int32) (v_upper : Int32) (v_base : Int32) (v_wide : Int32) (v_mask : Int64) (v_paths : Int32) (v_come : Int32) (v_isCounted : Int32) (v_basis : Int32) (v_trace : Int32) (v_isGoodc : Nat → Int32) (v_frozenc : Nat → Int32) (x1 : Int32) (x2 : Int32) (r_ : Int32) (h : f_X10_about K x1 x2 v_size v_isGoodc v_frozenc = some r_) : gMi l D cy t sz yX10_about wsX10_about 2 46 [.ref z, .int x1, .int x2] [(z, .inr (9, [.int v_fault, .int v_size, .int v_upper, .int v_base, .ref z_isGood, .ref z_frozen, .ref z_sheetSize, .ref z_sheetLane, .ref z_sheet, .ref z_hands, .int v_wide, .long v_mask, .int v_paths, .ref z_seen, .ref z_work, .ref z_known, .ref z_next, .int v_come, .int v_isCounted, .ref z_counts, .ref z_acrosses, .ref z_failings, .int v_basis, .ref z_given, .int v_trace])), (z_isGood, .inl (cy 2, 32, .inl v_isGoodc)), (z_frozen, .inl (cy 0, 32, .inl v_frozenc))] r_ [(z, .inr (9, [.int v_fault, .int v_size, .int v_upper, .int v_base, .ref z_isGood, .ref z_frozen, .ref z_sheetSize, .ref z_sheetLane, .ref z_sheet, .ref z_hands, .int v_wide, .long v_mask, .int v_paths, .ref z_seen, .ref z_work, .ref z_known, .ref z_next, .int v_come, .int v_isCounted, .ref z_counts, .ref z_acrosses, .ref z_failings, .int v_basis, .ref z_given, .int v_trace])), (z_isGood, .inl (cy 2, 32, .inl v_isGoodc)), (z_frozen, .inl (cy 0, 32, .inl v_frozenc))] := by
  refine gBi (cc := cX10_about) (maxL := 5) (ret := (some .int)) (by decide) rfl (Nat.le_of_ble_eq_true rfl) ?_
  intro p e s m below meth c A ls hAt hl
  obtain ⟨hx, hb, hml, hr, hts, hown, hlocks, hin, hK, hG, hA, hP, hD⟩ := hAt
  have hS : va_S A s.heap s.heap [] := va_S.rf
  have hl : lv_has ls 5 [(0, .ref z), (1, .int x1), (2, .int x2)] := hl
  have f7 := hts (.fieldLink RX10 7 "PlainLinesModel" "isGood" "[Z") (by decide +kernel)
  have iX10 := (by decide +kernel : ∀ w ∈ u_ws RX10 TX10 25, w ∈ wsX10_about)
  have f13 := hts (.fieldLink RX10 13 "PlainLinesModel" "frozen" "[I") (by decide +kernel)
  rw [f_X10_about] at h
  refine lv_aload_n hx hb dX10_about_0 rfl (lv_at hl 0 rfl) ?_
  refine lv_iload_n hx hb dX10_about_1 rfl (lv_at hl 1 rfl) ?_
  obtain ⟨r_1, hc_2, h⟩ := gx_b h
  refine gCalli (wr := [(z_isGood, .inl (cy 2, 32, .inl v_isGoodc)), (z_frozen, .inl (cy 0, 32, .inl v_frozenc))]) (va_runV (As := [.int x1]) (rest := []) ⟨hx, hb, hml, hown, hts⟩ (c_X10_noPlace l D cy t s.heap.size K z z_isGood z_frozen z_sheetSize z_sheetLane z_sheet z_hands z_seen z_work z_known z_next z_counts z_acrosses z_failings z_given v_fault v_size v_upper v_base v_wide v_mask v_paths v_come v_isCounted v_basis v_trace x1 r_1 hc_2) (cwV 1 hts gX10_about_X10_noPlace rfl rfl rfl (by decide +kernel) ⟨Nat.le_of_ble_eq_true rfl, Nat.le_of_ble_eq_true rfl⟩) ⟨gBlind, va_recv hK hP (ci := 9) (q0 := 0) rfl rfl, fun U hU hW => ⟨rfl, gPre.call hK hG hA hP hD hS [0] (by decide) rfl U hU hW⟩⟩ rfl rfl hl.1 rfl (lv_room (Nat.le_of_ble_eq_true rfl)) dX10_about_2 ⟨Nat.le_of_ble_eq_true rfl, Nat.le_of_ble_eq_true rfl⟩) hA hP hD hS [0] [1, 2] rfl rfl (by decide) (by decide) (fun H locs hP hD hS => ?_)
  have hP := hP.sub (ws' := [(z, .inr (9, [.int v_fault, .int v_size, .int v_upper, .int v_base, .ref z_isGood, .ref z_frozen, .ref z_sheetSize, .ref z_sheetLane, .ref z_sheet, .ref z_hands, .int v_wide, .long v_mask, .int v_paths, .ref z_seen, .ref z_work, .ref z_known, .ref z_next, .int v_come, .int v_isCounted, .ref z_counts, .ref z_acrosses, .ref z_failings, .int v_basis, .ref z_given, .int v_trace])), (z_isGood, .inl (cy 2, 32, .inl v_isGoodc)), (z_frozen, .inl (cy 0, 32, .inl v_frozenc))]) [2, 0, 1] rfl
  have hD := hD.sub (ws' := [(z, .inr (9, [.int v_fault, .int v_size, .int v_upper, .int v_base, .ref z_isGood, .ref z_frozen, .ref z_sheetSize, .ref z_sheetLane, .ref z_sheet, .ref z_hands, .int v_wide, .long v_mask, .int v_paths, .ref z_seen, .ref z_work, .ref z_known, .ref z_next, .int v_come, .int v_isCounted, .ref z_counts, .ref z_acrosses, .ref z_failings, .int v_basis, .ref z_given, .int v_trace])), (z_isGood, .inl (cy 2, 32, .inl v_isGoodc)), (z_frozen, .inl (cy 0, 32, .inl v_frozenc))]) [2, 0, 1] (by decide) rfl
  refine lv_if_eq (tgt := 10) hx hb dX10_about_5 (by decide) (fun c_3 => ?_) (fun c_3 => ?_)
  · have h := gx_t c_3 h
    refine lv_iload_n hx hb dX10_about_10 rfl (lv_at hl 2 rfl) ?_
    refine lv_if_ne (tgt := 29) hx hb dX10_about_11 (by decide) (fun c_4 => ?_) (fun c_4 => ?_)
    · have h := gx_f c_4 h
      refine lv_iload_n hx hb dX10_about_29 rfl (lv_at hl 2 rfl) ?_
      refine lv_iconst (v := 1) hx hb dX10_about_30 (by decide) ?_
      refine lv_icmp_ne (tgt := 55) hx hb dX10_about_31 (by decide) (fun c_5 => ?_) (fun c_5 => ?_)
      · have h := gx_f c_5 h
        refine lv_iload_n hx hb dX10_about_55 rfl (lv_at hl 2 rfl) ?_
        refine lv_iconst (v := 2) hx hb dX10_about_56 (by decide) ?_
        refine lv_icmp_eq (tgt := 63) hx hb dX10_about_57 (by decide) (fun c_6 => ?_) (fun c_6 => ?_)
        · have h := gx_t c_6 h
          refine lv_iconst (v := 0) hx hb dX10_about_63 (by decide) ?_
          refine lv_istore_n (lv' := [(3, .int 0), (0, .ref z), (1, .int x1), (2, .int x2)]) hx hb dX10_about_64 rfl hl (by decide) rfl (fun ls hl => ?_)
          refine lv_iconst (v := 0) hx hb dX10_about_65 (by decide) ?_
          refine lv_istore (lv' := [(4, .int 0), (3, .int 0), (0, .ref z), (1, .int x1), (2, .int x2)]) hx hb dX10_about_66 hl (by decide) rfl (fun ls hl => ?_)
          obtain ⟨⟨o_7, o_8⟩, hL_9, h⟩ := gx_b h
          refine gJoin (Pj := fun H locs ls => va_P D vwCl [(z, .inr (9, [.int v_fault, .int v_size, .int v_upper, .int v_base, .ref z_isGood, .ref z_frozen, .ref z_sheetSize, .ref z_sheetLane, .ref z_sheet, .ref z_hands, .int v_wide, .long v_mask, .int v_paths, .ref z_seen, .ref z_work, .ref z_known, .ref z_next, .int v_come, .int v_isCounted, .ref z_counts, .ref z_acrosses, .ref z_failings, .int v_basis, .ref z_given, .int v_trace])), (z_isGood, .inl (cy 2, 32, .inl v_isGoodc)), (z_frozen, .inl (cy 0, 32, .inl v_frozenc))] H ∧ va_D A [(z, .inr (9, [.int v_fault, .int v_size, .int v_upper, .int v_base, .ref z_isGood, .ref z_frozen, .ref z_sheetSize, .ref z_sheetLane, .ref z_sheet, .ref z_hands, .int v_wide, .long v_mask, .int v_paths, .ref z_seen, .ref z_work, .ref z_known, .ref z_next, .int v_come, .int v_isCounted, .ref z_counts, .ref z_acrosses, .ref z_failings, .int v_basis, .ref z_given, .int v_trace])), (z_isGood, .inl (cy 2, 32, .inl v_isGoodc)), (z_frozen, .inl (cy 0, 32, .inl v_frozenc))] ∧ va_S A s.heap H locs ∧ lv_has ls 5 [(4, .int o_7), (3, .int o_8), (0, .ref z), (1, .int x1), (2, .int x2)]) (pcM := 98) (st := []) ?_ (fun hJ98 => ?_)
          · intro H locs ls hp_
            obtain ⟨hP, hD, hS, hl⟩ := hp_
            clear hL_9
            refine lv_aload_n hx hb dX10_about_98 rfl (lv_at hl 2 rfl) ?_
            refine va_get (D := D) (ci := 9) (v := .ref z_isGood) (C := RX10) (T := TX10) (N := 25) hx hb hts iX10 hown hK hP 0 rfl rfl 4 (by decide) f7 (fun _ h9 => h9) rfl dX10_about_99 ?_
            refine lv_iload_n hx hb dX10_about_102 rfl (lv_at hl 3 rfl) ?_
            obtain ⟨hi_, h⟩ := gx_ix h
            refine va_zald hx hb hK hP 1 2 rfl rfl hi_ dX10_about_103 ?_
            refine lv_if_eq (tgt := 111) hx hb dX10_about_104 (by decide) (fun c_10 => ?_) (fun c_10 => ?_)
            · have h := gx_t c_10 h
              refine lv_bipush (v := (-9)) hx hb dX10_about_111 (by decide) ?_
              cases h
              exact gRi hx hb hr hlocks hP hD hS dX10_about_113
            · have h := gx_f c_10 h
              refine lv_iload_n hx hb dX10_about_107 rfl (lv_at hl 1 rfl) ?_
              refine lv_goto (tgt := 113) hx hb dX10_about_108 (by decide) ?_
              cases h
              exact gRi hx hb hr hlocks hP hD hS dX10_about_113
          · refine gLoop (Hy := fun k_ v_ => fL_X10_about_68 K x1 v_isGoodc k_ v_ = some (o_7, o_8)) (Pl := fun (v_ : Int32 × Int32) H locs ls => match v_ with | (a_11, a_12) => va_P D vwCl [(z, .inr (9, [.int v_fault, .int v_size, .int v_upper, .int v_base, .ref z_isGood, .ref z_frozen, .ref z_sheetSize, .ref z_sheetLane, .ref z_sheet, .ref z_hands, .int v_wide, .long v_mask, .int v_paths, .ref z_seen, .ref z_work, .ref z_known, .ref z_next, .int v_come, .int v_isCounted, .ref z_counts, .ref z_acrosses, .ref z_failings, .int v_basis, .ref z_given, .int v_trace])), (z_isGood, .inl (cy 2, 32, .inl v_isGoodc)), (z_frozen, .inl (cy 0, 32, .inl v_frozenc))] H ∧ va_D A [(z, .inr (9, [.int v_fault, .int v_size, .int v_upper, .int v_base, .ref z_isGood, .ref z_frozen, .ref z_sheetSize, .ref z_sheetLane, .ref z_sheet, .ref z_hands, .int v_wide, .long v_mask, .int v_paths, .ref z_seen, .ref z_work, .ref z_known, .ref z_next, .int v_come, .int v_isCounted, .ref z_counts, .ref z_acrosses, .ref z_failings, .int v_basis, .ref z_given, .int v_trace])), (z_isGood, .inl (cy 2, 32, .inl v_isGoodc)), (z_frozen, .inl (cy 0, 32, .inl v_frozenc))] ∧ va_S A s.heap H locs ∧ lv_has ls 5 [(4, .int a_11), (3, .int a_12), (0, .ref z), (1, .int x1), (2, .int x2)]) (pcH := 68) (fun _ q_ => by cases q_) ?_ K (0, 0) hL_9 ⟨hP, hD, hS, hl⟩
            clear hL_9 h hP hD hS hl
            intro k_ ih ⟨a_11, a_12⟩ H locs ls h hp_
            obtain ⟨hP, hD, hS, hl⟩ := hp_
            have hP : va_P D vwCl [(z, .inr (9, [.int v_fault, .int v_size, .int v_upper, .int v_base, .ref z_isGood, .ref z_frozen, .ref z_sheetSize, .ref z_sheetLane, .ref z_sheet, .ref z_hands, .int v_wide, .long v_mask, .int v_paths, .ref z_seen, .ref z_work, .ref z_known, .ref z_next, .int v_come, .int v_isCounted, .ref z_counts, .ref z_acrosses, .ref z_failings, .int v_basis, .ref z_given, .int v_trace])), (z_isGood, .inl (cy 2, 32, .inl v_isGoodc)), (z_frozen, .inl (cy 0, 32, .inl v_frozenc))] H := hP
            have hD : va_D A [(z, .inr (9, [.int v_fault, .int v_size, .int v_upper, .int v_base, .ref z_isGood, .ref z_frozen, .ref z_sheetSize, .ref z_sheetLane, .ref z_sheet, .ref z_hands, .int v_wide, .long v_mask, .int v_paths, .ref z_seen, .ref z_work, .ref z_known, .ref z_next, .int v_come, .int v_isCounted, .ref z_counts, .ref z_acrosses, .ref z_failings, .int v_basis, .ref z_given, .int v_trace])), (z_isGood, .inl (cy 2, 32, .inl v_isGoodc)), (z_frozen, .inl (cy 0, 32, .inl v_frozenc))] := hD
            have hl : lv_has ls 5 [(4, .int a_11), (3, .int a_12), (0, .ref z), (1, .int x1), (2, .int x2)] := hl
            change fL_X10_about_68 K x1 v_isGoodc (k_ + 1) (a_11, a_12) = _ at h
            rw [fL_X10_about_68] at h
            refine lv_iload hx hb dX10_about_68 (lv_at hl 0 rfl) ?_
            refine lv_iload_n hx hb dX10_about_70 rfl (lv_at hl 3 rfl) ?_
            refine lv_icmp_ge (tgt := 98) hx hb dX10_about_71 (by decide) (fun c_13 => ?_) (fun c_13 => ?_)
            · have h := gx_t c_13 h
              have hl := lv_sub (l' := [(4, .int a_11), (3, .int a_12), (0, .ref z), (1, .int x1), (2, .int x2)]) hl [0, 1, 2, 3, 4] rfl
              cases h
              exact hJ98 _ _ _ ⟨hP, hD, hS, hl⟩
            · have h := gx_f c_13 h
              refine lv_iload_n hx hb dX10_about_74 rfl (lv_at hl 1 rfl) ?_
              refine lv_aload_n hx hb dX10_about_75 rfl (lv_at hl 2 rfl) ?_
              refine va_get (D := D) (ci := 9) (v := .ref z_isGood) (C := RX10) (T := TX10) (N := 25) hx hb hts iX10 hown hK hP 0 rfl rfl 4 (by decide) f7 (fun _ h9 => h9) rfl dX10_about_76 ?_
              refine lv_iload hx hb dX10_about_79 (lv_at hl 0 rfl) ?_
              obtain ⟨hi_, h⟩ := gx_ix h
              refine va_zald hx hb hK hP 1 2 rfl rfl hi_ dX10_about_81 ?_
              obtain ⟨ms_14, hR_15, h⟩ := gx_b h
              refine gJoin (Pj := fun H locs ls => va_P D vwCl [(z, .inr (9, [.int v_fault, .int v_size, .int v_upper, .int v_base, .ref z_isGood, .ref z_frozen, .ref z_sheetSize, .ref z_sheetLane, .ref z_sheet, .ref z_hands, .int v_wide, .long v_mask, .int v_paths, .ref z_seen, .ref z_work, .ref z_known, .ref z_next, .int v_come, .int v_isCounted, .ref z_counts, .ref z_acrosses, .ref z_failings, .int v_basis, .ref z_given, .int v_trace])), (z_isGood, .inl (cy 2, 32, .inl v_isGoodc)), (z_frozen, .inl (cy 0, 32, .inl v_frozenc))] H ∧ va_D A [(z, .inr (9, [.int v_fault, .int v_size, .int v_upper, .int v_base, .ref z_isGood, .ref z_frozen, .ref z_sheetSize, .ref z_sheetLane, .ref z_sheet, .ref z_hands, .int v_wide, .long v_mask, .int v_paths, .ref z_seen, .ref z_work, .ref z_known, .ref z_next, .int v_come, .int v_isCounted, .ref z_counts, .ref z_acrosses, .ref z_failings, .int v_basis, .ref z_given, .int v_trace])), (z_isGood, .inl (cy 2, 32, .inl v_isGoodc)), (z_frozen, .inl (cy 0, 32, .inl v_frozenc))] ∧ va_S A s.heap H locs ∧ lv_has ls 5 [(4, .int a_11), (3, .int a_12), (0, .ref z), (1, .int x1), (2, .int x2)]) (pcM := 90) (st := [.int ms_14, .int a_12]) ?_ (fun hJ90 => ?_)
              · intro H locs ls hp_
                obtain ⟨hP, hD, hS, hl⟩ := hp_
                clear hR_15
                refine lv_iadd hx hb dX10_about_90 ?_
                refine lv_topi (fun y3_16 e_y3_16 => ?_)
                have h := gx_let e_y3_16 h
                refine lv_istore_n (lv' := [(3, .int y3_16), (4, .int a_11), (0, .ref z), (1, .int x1), (2, .int x2)]) hx hb dX10_about_91 rfl hl (by decide) rfl (fun ls hl => ?_)
                obtain ⟨y4_17, e_y4_17⟩ : ∃ y : Int32, y = (a_11 + 1) := ⟨_, rfl⟩
                have h := gx_let e_y4_17 h
                refine lv_iinc (v := y4_17) (lv' := [(4, .int y4_17), (3, .int y3_16), (0, .ref z), (1, .int x1), (2, .int x2)]) hx hb dX10_about_92 hl (k := 1) rfl (by rw [e_y4_17]; rfl) (by decide) rfl (fun ls hl => ?_)
                refine lv_goto (tgt := 68) hx hb dX10_about_95 (by decide) ?_
                exact ih (y4_17, y3_16) _ _ _ h ⟨hP, hD, hS, lv_sub (l' := [(4, .int y4_17), (3, .int y3_16), (0, .ref z), (1, .int x1), (2, .int x2)]) hl [0, 1, 2, 3, 4] rfl⟩
              · have h := hR_15
                refine lv_if_eq (tgt := 89) hx hb dX10_about_82 (by decide) (fun c_18 => ?_) (fun c_18 => ?_)
                · have h := gx_t c_18 h
                  refine lv_iconst (v := 0) hx hb dX10_about_89 (by decide) ?_
                  have hl := lv_sub (l' := [(4, .int a_11), (3, .int a_12), (0, .ref z), (1, .int x1), (2, .int x2)]) hl [0, 1, 2, 3, 4] rfl
                  cases h
                  exact hJ90 _ _ _ ⟨hP, hD, hS, hl⟩
                · have h := gx_f c_18 h
                  refine lv_iconst (v := 1) hx hb dX10_about_85 (by decide) ?_
                  refine lv_goto (tgt := 90) hx hb dX10_about_86 (by decide) ?_
                  have hl := lv_sub (l' := [(4, .int a_11), (3, .int a_12), (0, .ref z), (1, .int x1), (2, .int x2)]) hl [0, 1, 2, 3, 4] rfl
                  cases h
                  exact hJ90 _ _ _ ⟨hP, hD, hS, hl⟩
        · have h := gx_f c_6 h
          refine lv_bipush (v := (-2)) hx hb dX10_about_60 (by decide) ?_
          cases h
          exact gRi hx hb hr hlocks hP hD hS dX10_about_62
      · have h := gx_t c_5 h
        refine lv_aload_n hx hb dX10_about_34 rfl (lv_at hl 0 rfl) ?_
        refine va_get (D := D) (ci := 9) (v := .ref z_isGood) (C := RX10) (T := TX10) (N := 25) hx hb hts iX10 hown hK hP 0 rfl rfl 4 (by decide) f7 (fun _ h9 => h9) rfl dX10_about_35 ?_
        refine lv_iload_n hx hb dX10_about_38 rfl (lv_at hl 1 rfl) ?_
        obtain ⟨hi_, h⟩ := gx_ix h
        refine va_zald hx hb hK hP 1 2 rfl rfl hi_ dX10_about_39 ?_
        refine lv_if_eq (tgt := 48) hx hb dX10_about_40 (by decide) (fun c_19 => ?_) (fun c_19 => ?_)
        · have h := gx_t c_19 h
          refine lv_aload_n hx hb dX10_about_48 rfl (lv_at hl 0 rfl) ?_
          refine va_get (D := D) (ci := 9) (v := .ref z_frozen) (C := RX10) (T := TX10) (N := 25) hx hb hts iX10 hown hK hP 0 rfl rfl 5 (by decide) f13 (fun _ h9 => h9) rfl dX10_about_49 ?_
          refine lv_iload_n hx hb dX10_about_52 rfl (lv_at hl 1 rfl) ?_
          obtain ⟨hi_, h⟩ := gx_ix h
          refine va_iald hx hb hK hP 2 0 rfl rfl hi_ dX10_about_53 ?_
          cases h
          exact gRi hx hb hr hlocks hP hD hS dX10_about_54
        · have h := gx_f c_19 h
          refine lv_bipush (v := (-9)) hx hb dX10_about_43 (by decide) ?_
          refine lv_goto (tgt := 54) hx hb dX10_about_45 (by decide) ?_
          cases h
          exact gRi hx hb hr hlocks hP hD hS dX10_about_54
    · have h := gx_t c_4 h
      refine lv_aload_n hx hb dX10_about_14 rfl (lv_at hl 0 rfl) ?_
      refine va_get (D := D) (ci := 9) (v := .ref z_isGood) (C := RX10) (T := TX10) (N := 25) hx hb hts iX10 hown hK hP 0 rfl rfl 4 (by decide) f7 (fun _ h9 => h9) rfl dX10_about_15 ?_
      refine lv_iload_n hx hb dX10_about_18 rfl (lv_at hl 1 rfl) ?_
      obtain ⟨hi_, h⟩ := gx_ix h
      refine va_zald hx hb hK hP 1 2 rfl rfl hi_ dX10_about_19 ?_
      refine lv_if_eq (tgt := 27) hx hb dX10_about_20 (by decide) (fun c_20 => ?_) (fun c_20 => ?_)
      · have h := gx_t c_20 h
        refine lv_iconst (v := 0) hx hb dX10_about_27 (by decide) ?_
        cases h
        exact gRi hx hb hr hlocks hP hD hS dX10_about_28
      · have h := gx_f c_20 h
        refine lv_iconst (v := 1) hx hb dX10_about_23 (by decide) ?_
        refine lv_goto (tgt := 28) hx hb dX10_about_24 (by decide) ?_
        cases h
        exact gRi hx hb hr hlocks hP hD hS dX10_about_28
  · have h := gx_f c_3 h
    refine lv_iconst (v := (-1)) hx hb dX10_about_8 (by decide) ?_
    cases h
    exact gRi hx hb hr hlocks hP hD hS dX10_about_9

def fL_X10_folded_14 (K : Nat) (l5 : Int32) (l2 : Int32) : Nat → Int32 × Int64 → Option (Int32 × Int64)
  | 0, _ => none
  | k + 1, (l6, l3) =>
    if l2 ≤ l6 then
      some (l6, l3)
    else
      gLet ((gLshr l3 (l6 + l5)) &&& ((gLshl 1 l5) - 1)) fun y7_3 =>
      gLet (l3 ^^^ (gLshl y7_3 l6)) fun y3_4 =>
      gLet (l6 + (2 * l5)) fun y6_5 =>
      fL_X10_folded_14 K l5 l2 k (y6_5, y3_4)
def fL_X10_folded_5 (K : Nat) (l2 : Int32) : Nat → Int32 × Int64 → Option (Int32 × Int64)
  | 0, _ => none
  | k + 1, (l5, l3) =>
    if l2 ≤ l5 then
      some (l5, l3)
    else
      Option.bind (fL_X10_folded_14 K l5 l2 K (0, l3)) fun (o_6, o_7) =>
      gLet (l5 * 2) fun y5_8 =>
      fL_X10_folded_5 K l2 k (y5_8, o_7)
def f_X10_folded (K : Nat) (x1 : Int64) (x2 : Int32) : Option (Int64) :=
  Option.bind (fL_X10_folded_5 K x2 K (1, x1)) fun (o_9, o_10) =>
  some o_10
set_option maxHeartbeats 4000000 in
set_option maxRecDepth 100000 in
theorem c_X10_folded (l : Launch) (D : va_G) (cy : Nat → ClassId) (t sz K : Nat) (x1 : Int64) (x2 : Int32) (r_ : Int64) (h : f_X10_folded K x1 x2 = some r_) : gMl l D cy t sz yX10_folded wsX10_folded 0 0 [.long x1, .int x2] [] r_ [] := by
  refine gBl (cc := cX10_folded) (maxL := 9) (ret := (some .long)) (by decide) rfl (Nat.le_of_ble_eq_true rfl) ?_
  intro p e s m below meth c A ls hAt hl
  obtain ⟨hx, hb, hml, hr, hts, hown, hlocks, hin, hK, hG, hA, hP, hD⟩ := hAt
  have hS : va_S A s.heap s.heap [] := va_S.rf
  have hl : lv_has ls 9 [(0, .long x1), (2, .int x2)] := hl
  rw [f_X10_folded] at h
  refine lv_lload_n hx hb dX10_folded_0 rfl (lv_at hl 0 rfl) ?_
  refine lv_lstore_n (lv' := [(3, .long x1), (0, .long x1), (2, .int x2)]) hx hb dX10_folded_1 rfl hl (by decide) rfl (fun ls hl => ?_)
  refine lv_iconst (v := 1) hx hb dX10_folded_2 (by decide) ?_
  refine lv_istore (lv' := [(5, .int 1), (3, .long x1), (0, .long x1), (2, .int x2)]) hx hb dX10_folded_3 hl (by decide) rfl (fun ls hl => ?_)
  obtain ⟨⟨o_1, o_2⟩, hL_3, h⟩ := gx_b h
  refine gJoin (Pj := fun H locs ls => va_P D vwCl [] H ∧ va_D A [] ∧ va_S A s.heap H locs ∧ lv_has ls 9 [(5, .int o_1), (3, .long o_2), (0, .long x1), (2, .int x2)]) (pcM := 65) (st := []) ?_ (fun hJ65 => ?_)
  · intro H locs ls hp_
    obtain ⟨hP, hD, hS, hl⟩ := hp_
    clear hL_3
    refine lv_lload_n hx hb dX10_folded_65 rfl (lv_at hl 1 rfl) ?_
    cases h
    exact gRl hx hb hr hlocks hP hD hS dX10_folded_66
  · refine gLoop (Hy := fun k_ v_ => fL_X10_folded_5 K x2 k_ v_ = some (o_1, o_2)) (Pl := fun (v_ : Int32 × Int64) H locs ls => match v_ with | (a_4, a_5) => va_P D vwCl [] H ∧ va_D A [] ∧ va_S A s.heap H locs ∧ lv_has ls 9 [(5, .int a_4), (3, .long a_5), (0, .long x1), (2, .int x2)]) (pcH := 5) (fun _ q_ => by cases q_) ?_ K (1, x1) hL_3 ⟨hP, hD, hS, hl⟩
    clear hL_3 h hP hD hS hl
    intro k_ ih ⟨a_4, a_5⟩ H locs ls h hp_
    obtain ⟨hP, hD, hS, hl⟩ := hp_
    have hP : va_P D vwCl [] H := hP
    have hD : va_D A [] := hD
    have hl : lv_has ls 9 [(5, .int a_4), (3, .long a_5), (0, .long x1), (2, .int x2)] := hl
    change fL_X10_folded_5 K x2 (k_ + 1) (a_4, a_5) = _ at h
    rw [fL_X10_folded_5] at h
    refine lv_iload hx hb dX10_folded_5 (lv_at hl 0 rfl) ?_
    refine lv_iload_n hx hb dX10_folded_7 rfl (lv_at hl 3 rfl) ?_
    refine lv_icmp_ge (tgt := 65) hx hb dX10_folded_8 (by decide) (fun c_6 => ?_) (fun c_6 => ?_)
    · have h := gx_t c_6 h
      have hl := lv_sub (l' := [(5, .int a_4), (3, .long a_5), (0, .long x1), (2, .int x2)]) hl [0, 1, 2, 3] rfl
      cases h
      exact hJ65 _ _ _ ⟨hP, hD, hS, hl⟩
    · have h := gx_f c_6 h
      refine lv_iconst (v := 0) hx hb dX10_folded_11 (by decide) ?_
      refine lv_istore (lv' := [(6, .int 0), (5, .int a_4), (3, .long a_5), (0, .long x1), (2, .int x2)]) hx hb dX10_folded_12 hl (by decide) rfl (fun ls hl => ?_)
      obtain ⟨⟨o_7, o_8⟩, hL_9, h⟩ := gx_b h
      refine gJoin (Pj := fun H locs ls => va_P D vwCl [] H ∧ va_D A [] ∧ va_S A s.heap H locs ∧ lv_has ls 9 [(6, .int o_7), (5, .int a_4), (3, .long o_8), (0, .long x1), (2, .int x2)]) (pcM := 56) (st := []) ?_ (fun hJ56 => ?_)
      · intro H locs ls hp_
        obtain ⟨hP, hD, hS, hl⟩ := hp_
        clear hL_9
        refine lv_iload hx hb dX10_folded_56 (lv_at hl 1 rfl) ?_
        refine lv_iconst (v := 2) hx hb dX10_folded_58 (by decide) ?_
        refine lv_imul hx hb dX10_folded_59 ?_
        refine lv_topi (fun y5_10 e_y5_10 => ?_)
        have h := gx_let e_y5_10 h
        refine lv_istore (lv' := [(5, .int y5_10), (6, .int o_7), (3, .long o_8), (0, .long x1), (2, .int x2)]) hx hb dX10_folded_60 hl (by decide) rfl (fun ls hl => ?_)
        refine lv_goto (tgt := 5) hx hb dX10_folded_62 (by decide) ?_
        exact ih (y5_10, o_8) _ _ _ h ⟨hP, hD, hS, lv_sub (l' := [(5, .int y5_10), (3, .long o_8), (0, .long x1), (2, .int x2)]) hl [0, 2, 3, 4] rfl⟩
      · refine gLoop (Hy := fun k_ v_ => fL_X10_folded_14 K a_4 x2 k_ v_ = some (o_7, o_8)) (Pl := fun (v_ : Int32 × Int64) H locs ls => match v_ with | (a_11, a_12) => va_P D vwCl [] H ∧ va_D A [] ∧ va_S A s.heap H locs ∧ lv_has ls 9 [(6, .int a_11), (5, .int a_4), (3, .long a_12), (0, .long x1), (2, .int x2)]) (pcH := 14) (fun _ q_ => by cases q_) ?_ K (0, a_5) hL_9 ⟨hP, hD, hS, hl⟩
        clear hL_9 h hP hD hS hl
        intro k_ ih ⟨a_11, a_12⟩ H locs ls h hp_
        obtain ⟨hP, hD, hS, hl⟩ := hp_
        have hP : va_P D vwCl [] H := hP
        have hD : va_D A [] := hD
        have hl : lv_has ls 9 [(6, .int a_11), (5, .int a_4), (3, .long a_12), (0, .long x1), (2, .int x2)] := hl
        change fL_X10_folded_14 K a_4 x2 (k_ + 1) (a_11, a_12) = _ at h
        rw [fL_X10_folded_14] at h
        refine lv_iload hx hb dX10_folded_14 (lv_at hl 0 rfl) ?_
        refine lv_iload_n hx hb dX10_folded_16 rfl (lv_at hl 4 rfl) ?_
        refine lv_icmp_ge (tgt := 56) hx hb dX10_folded_17 (by decide) (fun c_13 => ?_) (fun c_13 => ?_)
        · have h := gx_t c_13 h
          have hl := lv_sub (l' := [(6, .int a_11), (5, .int a_4), (3, .long a_12), (0, .long x1), (2, .int x2)]) hl [0, 1, 2, 3, 4] rfl
          cases h
          exact hJ56 _ _ _ ⟨hP, hD, hS, hl⟩
        · have h := gx_f c_13 h
          refine lv_lload_n hx hb dX10_folded_20 rfl (lv_at hl 2 rfl) ?_
          refine lv_iload hx hb dX10_folded_21 (lv_at hl 0 rfl) ?_
          refine lv_iload hx hb dX10_folded_23 (lv_at hl 1 rfl) ?_
          refine lv_iadd hx hb dX10_folded_25 ?_
          refine lv_lshr (v := (gLshr a_12 (a_11 + a_4))) hx hb dX10_folded_26 rfl ?_
          refine lv_lconst (v := 1) hx hb dX10_folded_27 (by decide) ?_
          refine lv_iload hx hb dX10_folded_28 (lv_at hl 1 rfl) ?_
          refine lv_lshl (v := (gLshl 1 a_4)) hx hb dX10_folded_30 rfl ?_
          refine lv_lconst (v := 1) hx hb dX10_folded_31 (by decide) ?_
          refine lv_lsub hx hb dX10_folded_32 ?_
          refine lv_land hx hb dX10_folded_33 ?_
          refine lv_topl (fun y7_14 e_y7_14 => ?_)
          have h := gx_let e_y7_14 h
          refine lv_lstore (lv' := [(7, .long y7_14), (6, .int a_11), (5, .int a_4), (3, .long a_12), (0, .long x1), (2, .int x2)]) hx hb dX10_folded_34 hl (by decide) rfl (fun ls hl => ?_)
          refine lv_lload_n hx hb dX10_folded_36 rfl (lv_at hl 3 rfl) ?_
          refine lv_lload hx hb dX10_folded_37 (lv_at hl 0 rfl) ?_
          refine lv_iload hx hb dX10_folded_39 (lv_at hl 1 rfl) ?_
          refine lv_lshl (v := (gLshl y7_14 a_11)) hx hb dX10_folded_41 rfl ?_
          refine lv_lxor hx hb dX10_folded_42 ?_
          refine lv_topl (fun y3_15 e_y3_15 => ?_)
          have h := gx_let e_y3_15 h
          refine lv_lstore_n (lv' := [(3, .long y3_15), (7, .long y7_14), (6, .int a_11), (5, .int a_4), (0, .long x1), (2, .int x2)]) hx hb dX10_folded_43 rfl hl (by decide) rfl (fun ls hl => ?_)
          refine lv_iload hx hb dX10_folded_44 (lv_at hl 2 rfl) ?_
          refine lv_iconst (v := 2) hx hb dX10_folded_46 (by decide) ?_
          refine lv_iload hx hb dX10_folded_47 (lv_at hl 3 rfl) ?_
          refine lv_imul hx hb dX10_folded_49 ?_
          refine lv_iadd hx hb dX10_folded_50 ?_
          refine lv_topi (fun y6_16 e_y6_16 => ?_)
          have h := gx_let e_y6_16 h
          refine lv_istore (lv' := [(6, .int y6_16), (3, .long y3_15), (7, .long y7_14), (5, .int a_4), (0, .long x1), (2, .int x2)]) hx hb dX10_folded_51 hl (by decide) rfl (fun ls hl => ?_)
          refine lv_goto (tgt := 14) hx hb dX10_folded_53 (by decide) ?_
          exact ih (y6_16, y3_15) _ _ _ h ⟨hP, hD, hS, lv_sub (l' := [(6, .int y6_16), (5, .int a_4), (3, .long y3_15), (0, .long x1), (2, .int x2)]) hl [0, 3, 1, 4, 5] rfl⟩

def f_X10_isMessage (K : Nat) (x1 : Int64) (v_size : Int32) (v_isGoodc : Nat → Int32) : Option (Int32) :=
  Option.bind (f_X10_goods K v_size v_isGoodc) fun r_1 =>
  Option.bind (f_X10_in K x1 0 ((gLshl 1 r_1) - 1)) fun r_2 =>
  gBool r_2 <|
  some r_2
set_option maxHeartbeats 4000000 in
set_option maxRecDepth 100000 in
theorem c_X10_isMessage (l : Launch) (D : va_G) (cy : Nat → ClassId) (t sz K : Nat) (z : Nat) (z_isGood : Nat) (z_frozen : Nat) (z_sheetSize : Nat) (z_sheetLane : Nat) (z_sheet : Nat) (z_hands : Nat) (z_seen : Nat) (z_work : Nat) (z_known : Nat) (z_next : Nat) (z_counts : Nat) (z_acrosses : Nat) (z_failings : Nat) (z_given : Nat) (v_fault : Int32) (v_size : Int32) (v_upper : Int32) (v_base : Int32) (v_wide : Int32) (v_mask : Int64) (v_paths : Int32) (v_come : Int32) (v_isCounted : Int32) (v_basis : Int32) (v_trace : Int32) (v_isGoodc : Nat → Int32) (x1 : Int64) (r_ : Int32) (h : f_X10_isMessage K x1 v_size v_isGoodc = some r_) : gMi l D cy t sz yX10_isMessage wsX10_isMessage 1 25 [.ref z, .long x1] [(z, .inr (9, [.int v_fault, .int v_size, .int v_upper, .int v_base, .ref z_isGood, .ref z_frozen, .ref z_sheetSize, .ref z_sheetLane, .ref z_sheet, .ref z_hands, .int v_wide, .long v_mask, .int v_paths, .ref z_seen, .ref z_work, .ref z_known, .ref z_next, .int v_come, .int v_isCounted, .ref z_counts, .ref z_acrosses, .ref z_failings, .int v_basis, .ref z_given, .int v_trace])), (z_isGood, .inl (cy 2, 32, .inl v_isGoodc))] r_ [(z, .inr (9, [.int v_fault, .int v_size, .int v_upper, .int v_base, .ref z_isGood, .ref z_frozen, .ref z_sheetSize, .ref z_sheetLane, .ref z_sheet, .ref z_hands, .int v_wide, .long v_mask, .int v_paths, .ref z_seen, .ref z_work, .ref z_known, .ref z_next, .int v_come, .int v_isCounted, .ref z_counts, .ref z_acrosses, .ref z_failings, .int v_basis, .ref z_given, .int v_trace])), (z_isGood, .inl (cy 2, 32, .inl v_isGoodc))] := by
  refine gBi (cc := cX10_isMessage) (maxL := 3) (ret := (some .boolean)) (by decide) rfl (Nat.le_of_ble_eq_true rfl) ?_
  intro p e s m below meth c A ls hAt hl
  obtain ⟨hx, hb, hml, hr, hts, hown, hlocks, hin, hK, hG, hA, hP, hD⟩ := hAt
  have hS : va_S A s.heap s.heap [] := va_S.rf
  have hl : lv_has ls 3 [(0, .ref z), (1, .long x1)] := hl
  rw [f_X10_isMessage] at h
  refine lv_lload_n hx hb dX10_isMessage_0 rfl (lv_at hl 1 rfl) ?_
  refine lv_lconst (v := 0) hx hb dX10_isMessage_1 (by decide) ?_
  refine lv_lconst (v := 1) hx hb dX10_isMessage_2 (by decide) ?_
  refine lv_aload_n hx hb dX10_isMessage_3 rfl (lv_at hl 0 rfl) ?_
  obtain ⟨r_1, hc_2, h⟩ := gx_b h
  refine gCalli (wr := []) (va_runV (As := []) (rest := [.long 1, .long 0, .long x1]) ⟨hx, hb, hml, hown, hts⟩ (c_X10_goods l D cy t s.heap.size K z z_isGood z_frozen z_sheetSize z_sheetLane z_sheet z_hands z_seen z_work z_known z_next z_counts z_acrosses z_failings z_given v_fault v_size v_upper v_base v_wide v_mask v_paths v_come v_isCounted v_basis v_trace v_isGoodc r_1 hc_2) (cwV 0 hts gX10_isMessage_X10_goods rfl rfl rfl (by decide +kernel) ⟨Nat.le_of_ble_eq_true rfl, Nat.le_of_ble_eq_true rfl⟩) ⟨gBlind, va_recv hK hP (ci := 9) (q0 := 0) rfl rfl, fun U hU hW => ⟨rfl, gPre.call hK hG hA hP hD hS [0, 1] (by decide) rfl U hU hW⟩⟩ rfl rfl hl.1 rfl (lv_room (Nat.le_of_ble_eq_true rfl)) dX10_isMessage_4 ⟨Nat.le_of_ble_eq_true rfl, Nat.le_of_ble_eq_true rfl⟩) hA hP hD hS [0, 1] [] rfl rfl (by decide) (by decide) (fun H locs hP hD hS => ?_)
  have hP : va_P D vwCl [(z, .inr (9, [.int v_fault, .int v_size, .int v_upper, .int v_base, .ref z_isGood, .ref z_frozen, .ref z_sheetSize, .ref z_sheetLane, .ref z_sheet, .ref z_hands, .int v_wide, .long v_mask, .int v_paths, .ref z_seen, .ref z_work, .ref z_known, .ref z_next, .int v_come, .int v_isCounted, .ref z_counts, .ref z_acrosses, .ref z_failings, .int v_basis, .ref z_given, .int v_trace])), (z_isGood, .inl (cy 2, 32, .inl v_isGoodc))] H := hP
  have hD : va_D A [(z, .inr (9, [.int v_fault, .int v_size, .int v_upper, .int v_base, .ref z_isGood, .ref z_frozen, .ref z_sheetSize, .ref z_sheetLane, .ref z_sheet, .ref z_hands, .int v_wide, .long v_mask, .int v_paths, .ref z_seen, .ref z_work, .ref z_known, .ref z_next, .int v_come, .int v_isCounted, .ref z_counts, .ref z_acrosses, .ref z_failings, .int v_basis, .ref z_given, .int v_trace])), (z_isGood, .inl (cy 2, 32, .inl v_isGoodc))] := hD
  refine lv_lshl (v := (gLshl 1 r_1)) hx hb dX10_isMessage_7 rfl ?_
  refine lv_lconst (v := 1) hx hb dX10_isMessage_8 (by decide) ?_
  refine lv_lsub hx hb dX10_isMessage_9 ?_
  obtain ⟨r_3, hc_4, h⟩ := gx_b h
  refine gCalli (wr := [(z, .inr (9, [.int v_fault, .int v_size, .int v_upper, .int v_base, .ref z_isGood, .ref z_frozen, .ref z_sheetSize, .ref z_sheetLane, .ref z_sheet, .ref z_hands, .int v_wide, .long v_mask, .int v_paths, .ref z_seen, .ref z_work, .ref z_known, .ref z_next, .int v_come, .int v_isCounted, .ref z_counts, .ref z_acrosses, .ref z_failings, .int v_basis, .ref z_given, .int v_trace])), (z_isGood, .inl (cy 2, 32, .inl v_isGoodc))]) (va_runS (As := [.long x1, .long 0, .long ((gLshl 1 r_1) - 1)]) (rest := []) ⟨hx, hb, hml, hown, hts⟩ (c_X10_in l D cy t H.size K x1 0 ((gLshl 1 r_1) - 1) r_3 hc_4) (va_cwS 3 hts gX10_isMessage_X10_in rfl rfl rfl (by decide +kernel) ⟨Nat.le_of_ble_eq_true rfl, Nat.le_of_ble_eq_true rfl⟩) ⟨gBlind, fun U hU hW => ⟨rfl, gPre.call hK hG hA hP hD hS [] (by decide) rfl U hU hW⟩⟩ rfl rfl hl.1 rfl (lv_room (Nat.le_of_ble_eq_true rfl)) dX10_isMessage_10 ⟨Nat.le_of_ble_eq_true rfl, Nat.le_of_ble_eq_true rfl⟩) hA hP hD hS [] [0, 1] rfl rfl (by decide) (by decide) (fun H locs hP hD hS => ?_)
  have hP : va_P D vwCl [(z, .inr (9, [.int v_fault, .int v_size, .int v_upper, .int v_base, .ref z_isGood, .ref z_frozen, .ref z_sheetSize, .ref z_sheetLane, .ref z_sheet, .ref z_hands, .int v_wide, .long v_mask, .int v_paths, .ref z_seen, .ref z_work, .ref z_known, .ref z_next, .int v_come, .int v_isCounted, .ref z_counts, .ref z_acrosses, .ref z_failings, .int v_basis, .ref z_given, .int v_trace])), (z_isGood, .inl (cy 2, 32, .inl v_isGoodc))] H := hP
  have hD : va_D A [(z, .inr (9, [.int v_fault, .int v_size, .int v_upper, .int v_base, .ref z_isGood, .ref z_frozen, .ref z_sheetSize, .ref z_sheetLane, .ref z_sheet, .ref z_hands, .int v_wide, .long v_mask, .int v_paths, .ref z_seen, .ref z_work, .ref z_known, .ref z_next, .int v_come, .int v_isCounted, .ref z_counts, .ref z_acrosses, .ref z_failings, .int v_basis, .ref z_given, .int v_trace])), (z_isGood, .inl (cy 2, 32, .inl v_isGoodc))] := hD
  obtain ⟨hn_, h⟩ := gx_bool h
  cases h
  exact gRz hx hb hr hlocks hn_ hP hD hS dX10_isMessage_13

def fL_X10_rowOf_8 (K : Nat) (u0_1 : Int32) (u1 : Nat → Int32) (u2 : Nat → Int32) : Nat → Int32 × Int64 × Int64 → Option (Int32 × Int64 × Int64)
  | 0, _ => none
  | k + 1, (l7, l5, l3) =>
    if u0_1 ≤ l7 then
      some (l7, l5, l3)
    else
      gIx l7 32 <|
      Option.bind (α := Int64) (
        if (u1 (Int32.toNatClampNeg l7)) = 0 then
          gIx l7 32 <|
          some (Int32.toInt64 (u2 (Int32.toNatClampNeg l7)))
        else
          some (l5 &&& 1)) fun ms_2 =>
      gLet (l3 ||| (gLshl ms_2 l7)) fun y3_4 =>
      gIx l7 32 <|
      Option.bind (α := Int64) (
        if (u1 (Int32.toNatClampNeg l7)) = 0 then
          some l5
        else
          some (gLshr l5 1)) fun ms_5 =>
      gLet (l7 + 1) fun y7_7 =>
      fL_X10_rowOf_8 K u0_1 u1 u2 k (y7_7, ms_5, y3_4)
def f_X10_rowOf (K : Nat) (x1 : Int64) (v_size : Int32) (v_isGoodc : Nat → Int32) (v_frozenc : Nat → Int32) : Option (Int64) :=
  Option.bind (fL_X10_rowOf_8 K v_size v_isGoodc v_frozenc K (0, x1, 0)) fun (o_8, o_9, o_10) =>
  some o_10
set_option maxHeartbeats 4000000 in
set_option maxRecDepth 100000 in
theorem c_X10_rowOf (l : Launch) (D : va_G) (cy : Nat → ClassId) (t sz K : Nat) (z : Nat) (z_isGood : Nat) (z_frozen : Nat) (z_sheetSize : Nat) (z_sheetLane : Nat) (z_sheet : Nat) (z_hands : Nat) (z_seen : Nat) (z_work : Nat) (z_known : Nat) (z_next : Nat) (z_counts : Nat) (z_acrosses : Nat) (z_failings : Nat) (z_given : Nat) (v_fault : Int32) (v_size : Int32) (v_upper : Int32) (v_base : Int32) (v_wide : Int32) (v_mask : Int64) (v_paths : Int32) (v_come : Int32) (v_isCounted : Int32) (v_basis : Int32) (v_trace : Int32) (v_isGoodc : Nat → Int32) (v_frozenc : Nat → Int32) (x1 : Int64) (r_ : Int64) (h : f_X10_rowOf K x1 v_size v_isGoodc v_frozenc = some r_) : gMl l D cy t sz yX10_rowOf wsX10_rowOf 0 0 [.ref z, .long x1] [(z, .inr (9, [.int v_fault, .int v_size, .int v_upper, .int v_base, .ref z_isGood, .ref z_frozen, .ref z_sheetSize, .ref z_sheetLane, .ref z_sheet, .ref z_hands, .int v_wide, .long v_mask, .int v_paths, .ref z_seen, .ref z_work, .ref z_known, .ref z_next, .int v_come, .int v_isCounted, .ref z_counts, .ref z_acrosses, .ref z_failings, .int v_basis, .ref z_given, .int v_trace])), (z_isGood, .inl (cy 2, 32, .inl v_isGoodc)), (z_frozen, .inl (cy 0, 32, .inl v_frozenc))] r_ [(z, .inr (9, [.int v_fault, .int v_size, .int v_upper, .int v_base, .ref z_isGood, .ref z_frozen, .ref z_sheetSize, .ref z_sheetLane, .ref z_sheet, .ref z_hands, .int v_wide, .long v_mask, .int v_paths, .ref z_seen, .ref z_work, .ref z_known, .ref z_next, .int v_come, .int v_isCounted, .ref z_counts, .ref z_acrosses, .ref z_failings, .int v_basis, .ref z_given, .int v_trace])), (z_isGood, .inl (cy 2, 32, .inl v_isGoodc)), (z_frozen, .inl (cy 0, 32, .inl v_frozenc))] := by
  refine gBl (cc := cX10_rowOf) (maxL := 8) (ret := (some .long)) (by decide) rfl (Nat.le_of_ble_eq_true rfl) ?_
  intro p e s m below meth c A ls hAt hl
  obtain ⟨hx, hb, hml, hr, hts, hown, hlocks, hin, hK, hG, hA, hP, hD⟩ := hAt
  have hS : va_S A s.heap s.heap [] := va_S.rf
  have hl : lv_has ls 8 [(0, .ref z), (1, .long x1)] := hl
  have f54 := hts (.fieldLink RX10 54 "PlainLinesModel" "size" "I") (by decide +kernel)
  have iX10 := (by decide +kernel : ∀ w ∈ u_ws RX10 TX10 25, w ∈ wsX10_rowOf)
  have f7 := hts (.fieldLink RX10 7 "PlainLinesModel" "isGood" "[Z") (by decide +kernel)
  have f13 := hts (.fieldLink RX10 13 "PlainLinesModel" "frozen" "[I") (by decide +kernel)
  rw [f_X10_rowOf] at h
  refine lv_lconst (v := 0) hx hb dX10_rowOf_0 (by decide) ?_
  refine lv_lstore_n (lv' := [(3, .long 0), (0, .ref z), (1, .long x1)]) hx hb dX10_rowOf_1 rfl hl (by decide) rfl (fun ls hl => ?_)
  refine lv_lload_n hx hb dX10_rowOf_2 rfl (lv_at hl 2 rfl) ?_
  refine lv_lstore (lv' := [(5, .long x1), (3, .long 0), (0, .ref z), (1, .long x1)]) hx hb dX10_rowOf_3 hl (by decide) rfl (fun ls hl => ?_)
  refine lv_iconst (v := 0) hx hb dX10_rowOf_5 (by decide) ?_
  refine lv_istore (lv' := [(7, .int 0), (5, .long x1), (3, .long 0), (0, .ref z), (1, .long x1)]) hx hb dX10_rowOf_6 hl (by decide) rfl (fun ls hl => ?_)
  obtain ⟨⟨o_1, o_2, o_3⟩, hL_4, h⟩ := gx_b h
  refine gJoin (Pj := fun H locs ls => va_P D vwCl [(z, .inr (9, [.int v_fault, .int v_size, .int v_upper, .int v_base, .ref z_isGood, .ref z_frozen, .ref z_sheetSize, .ref z_sheetLane, .ref z_sheet, .ref z_hands, .int v_wide, .long v_mask, .int v_paths, .ref z_seen, .ref z_work, .ref z_known, .ref z_next, .int v_come, .int v_isCounted, .ref z_counts, .ref z_acrosses, .ref z_failings, .int v_basis, .ref z_given, .int v_trace])), (z_isGood, .inl (cy 2, 32, .inl v_isGoodc)), (z_frozen, .inl (cy 0, 32, .inl v_frozenc))] H ∧ va_D A [(z, .inr (9, [.int v_fault, .int v_size, .int v_upper, .int v_base, .ref z_isGood, .ref z_frozen, .ref z_sheetSize, .ref z_sheetLane, .ref z_sheet, .ref z_hands, .int v_wide, .long v_mask, .int v_paths, .ref z_seen, .ref z_work, .ref z_known, .ref z_next, .int v_come, .int v_isCounted, .ref z_counts, .ref z_acrosses, .ref z_failings, .int v_basis, .ref z_given, .int v_trace])), (z_isGood, .inl (cy 2, 32, .inl v_isGoodc)), (z_frozen, .inl (cy 0, 32, .inl v_frozenc))] ∧ va_S A s.heap H locs ∧ lv_has ls 8 [(7, .int o_1), (5, .long o_2), (3, .long o_3), (0, .ref z), (1, .long x1)]) (pcM := 75) (st := []) ?_ (fun hJ75 => ?_)
  · intro H locs ls hp_
    obtain ⟨hP, hD, hS, hl⟩ := hp_
    clear hL_4
    refine lv_lload_n hx hb dX10_rowOf_75 rfl (lv_at hl 2 rfl) ?_
    cases h
    exact gRl hx hb hr hlocks hP hD hS dX10_rowOf_76
  · refine gLoop (Hy := fun k_ v_ => fL_X10_rowOf_8 K v_size v_isGoodc v_frozenc k_ v_ = some (o_1, o_2, o_3)) (Pl := fun (v_ : Int32 × Int64 × Int64) H locs ls => match v_ with | (a_5, a_6, a_7) => va_P D vwCl [(z, .inr (9, [.int v_fault, .int v_size, .int v_upper, .int v_base, .ref z_isGood, .ref z_frozen, .ref z_sheetSize, .ref z_sheetLane, .ref z_sheet, .ref z_hands, .int v_wide, .long v_mask, .int v_paths, .ref z_seen, .ref z_work, .ref z_known, .ref z_next, .int v_come, .int v_isCounted, .ref z_counts, .ref z_acrosses, .ref z_failings, .int v_basis, .ref z_given, .int v_trace])), (z_isGood, .inl (cy 2, 32, .inl v_isGoodc)), (z_frozen, .inl (cy 0, 32, .inl v_frozenc))] H ∧ va_D A [(z, .inr (9, [.int v_fault, .int v_size, .int v_upper, .int v_base, .ref z_isGood, .ref z_frozen, .ref z_sheetSize, .ref z_sheetLane, .ref z_sheet, .ref z_hands, .int v_wide, .long v_mask, .int v_paths, .ref z_seen, .ref z_work, .ref z_known, .ref z_next, .int v_come, .int v_isCounted, .ref z_counts, .ref z_acrosses, .ref z_failings, .int v_basis, .ref z_given, .int v_trace])), (z_isGood, .inl (cy 2, 32, .inl v_isGoodc)), (z_frozen, .inl (cy 0, 32, .inl v_frozenc))] ∧ va_S A s.heap H locs ∧ lv_has ls 8 [(7, .int a_5), (5, .long a_6), (3, .long a_7), (0, .ref z), (1, .long x1)]) (pcH := 8) (fun _ q_ => by cases q_) ?_ K (0, x1, 0) hL_4 ⟨hP, hD, hS, hl⟩
    clear hL_4 h hP hD hS hl
    intro k_ ih ⟨a_5, a_6, a_7⟩ H locs ls h hp_
    obtain ⟨hP, hD, hS, hl⟩ := hp_
    have hP : va_P D vwCl [(z, .inr (9, [.int v_fault, .int v_size, .int v_upper, .int v_base, .ref z_isGood, .ref z_frozen, .ref z_sheetSize, .ref z_sheetLane, .ref z_sheet, .ref z_hands, .int v_wide, .long v_mask, .int v_paths, .ref z_seen, .ref z_work, .ref z_known, .ref z_next, .int v_come, .int v_isCounted, .ref z_counts, .ref z_acrosses, .ref z_failings, .int v_basis, .ref z_given, .int v_trace])), (z_isGood, .inl (cy 2, 32, .inl v_isGoodc)), (z_frozen, .inl (cy 0, 32, .inl v_frozenc))] H := hP
    have hD : va_D A [(z, .inr (9, [.int v_fault, .int v_size, .int v_upper, .int v_base, .ref z_isGood, .ref z_frozen, .ref z_sheetSize, .ref z_sheetLane, .ref z_sheet, .ref z_hands, .int v_wide, .long v_mask, .int v_paths, .ref z_seen, .ref z_work, .ref z_known, .ref z_next, .int v_come, .int v_isCounted, .ref z_counts, .ref z_acrosses, .ref z_failings, .int v_basis, .ref z_given, .int v_trace])), (z_isGood, .inl (cy 2, 32, .inl v_isGoodc)), (z_frozen, .inl (cy 0, 32, .inl v_frozenc))] := hD
    have hl : lv_has ls 8 [(7, .int a_5), (5, .long a_6), (3, .long a_7), (0, .ref z), (1, .long x1)] := hl
    change fL_X10_rowOf_8 K v_size v_isGoodc v_frozenc (k_ + 1) (a_5, a_6, a_7) = _ at h
    rw [fL_X10_rowOf_8] at h
    refine lv_iload hx hb dX10_rowOf_8 (lv_at hl 0 rfl) ?_
    refine lv_aload_n hx hb dX10_rowOf_10 rfl (lv_at hl 3 rfl) ?_
    refine va_get (D := D) (ci := 9) (v := .int v_size) (C := RX10) (T := TX10) (N := 25) hx hb hts iX10 hown hK hP 0 rfl rfl 1 (by decide) f54 (fun _ h9 => h9) rfl dX10_rowOf_11 ?_
    refine lv_icmp_ge (tgt := 75) hx hb dX10_rowOf_14 (by decide) (fun c_8 => ?_) (fun c_8 => ?_)
    · have h := gx_t c_8 h
      have hl := lv_sub (l' := [(7, .int a_5), (5, .long a_6), (3, .long a_7), (0, .ref z), (1, .long x1)]) hl [0, 1, 2, 3, 4] rfl
      cases h
      exact hJ75 _ _ _ ⟨hP, hD, hS, hl⟩
    · have h := gx_f c_8 h
      refine lv_lload_n hx hb dX10_rowOf_17 rfl (lv_at hl 2 rfl) ?_
      refine lv_aload_n hx hb dX10_rowOf_18 rfl (lv_at hl 3 rfl) ?_
      refine va_get (D := D) (ci := 9) (v := .ref z_isGood) (C := RX10) (T := TX10) (N := 25) hx hb hts iX10 hown hK hP 0 rfl rfl 4 (by decide) f7 (fun _ h9 => h9) rfl dX10_rowOf_19 ?_
      refine lv_iload hx hb dX10_rowOf_22 (lv_at hl 0 rfl) ?_
      obtain ⟨hi_, h⟩ := gx_ix h
      refine va_zald hx hb hK hP 1 2 rfl rfl hi_ dX10_rowOf_24 ?_
      obtain ⟨ms_9, hR_10, h⟩ := gx_b h
      refine gJoin (Pj := fun H locs ls => va_P D vwCl [(z, .inr (9, [.int v_fault, .int v_size, .int v_upper, .int v_base, .ref z_isGood, .ref z_frozen, .ref z_sheetSize, .ref z_sheetLane, .ref z_sheet, .ref z_hands, .int v_wide, .long v_mask, .int v_paths, .ref z_seen, .ref z_work, .ref z_known, .ref z_next, .int v_come, .int v_isCounted, .ref z_counts, .ref z_acrosses, .ref z_failings, .int v_basis, .ref z_given, .int v_trace])), (z_isGood, .inl (cy 2, 32, .inl v_isGoodc)), (z_frozen, .inl (cy 0, 32, .inl v_frozenc))] H ∧ va_D A [(z, .inr (9, [.int v_fault, .int v_size, .int v_upper, .int v_base, .ref z_isGood, .ref z_frozen, .ref z_sheetSize, .ref z_sheetLane, .ref z_sheet, .ref z_hands, .int v_wide, .long v_mask, .int v_paths, .ref z_seen, .ref z_work, .ref z_known, .ref z_next, .int v_come, .int v_isCounted, .ref z_counts, .ref z_acrosses, .ref z_failings, .int v_basis, .ref z_given, .int v_trace])), (z_isGood, .inl (cy 2, 32, .inl v_isGoodc)), (z_frozen, .inl (cy 0, 32, .inl v_frozenc))] ∧ va_S A s.heap H locs ∧ lv_has ls 8 [(7, .int a_5), (5, .long a_6), (3, .long a_7), (0, .ref z), (1, .long x1)]) (pcM := 43) (st := [.long ms_9, .long a_7]) ?_ (fun hJ43 => ?_)
      · intro H locs ls hp_
        obtain ⟨hP, hD, hS, hl⟩ := hp_
        clear hR_10
        refine lv_iload hx hb dX10_rowOf_43 (lv_at hl 0 rfl) ?_
        refine lv_lshl (v := (gLshl ms_9 a_5)) hx hb dX10_rowOf_45 rfl ?_
        refine lv_lor hx hb dX10_rowOf_46 ?_
        refine lv_topl (fun y3_11 e_y3_11 => ?_)
        have h := gx_let e_y3_11 h
        refine lv_lstore_n (lv' := [(3, .long y3_11), (7, .int a_5), (5, .long a_6), (0, .ref z), (1, .long x1)]) hx hb dX10_rowOf_47 rfl hl (by decide) rfl (fun ls hl => ?_)
        refine lv_aload_n hx hb dX10_rowOf_48 rfl (lv_at hl 3 rfl) ?_
        refine va_get (D := D) (ci := 9) (v := .ref z_isGood) (C := RX10) (T := TX10) (N := 25) hx hb hts iX10 hown hK hP 0 rfl rfl 4 (by decide) f7 (fun _ h9 => h9) rfl dX10_rowOf_49 ?_
        refine lv_iload hx hb dX10_rowOf_52 (lv_at hl 1 rfl) ?_
        obtain ⟨hi_, h⟩ := gx_ix h
        refine va_zald hx hb hK hP 1 2 rfl rfl hi_ dX10_rowOf_54 ?_
        obtain ⟨ms_12, hR_13, h⟩ := gx_b h
        refine gJoin (Pj := fun H locs ls => va_P D vwCl [(z, .inr (9, [.int v_fault, .int v_size, .int v_upper, .int v_base, .ref z_isGood, .ref z_frozen, .ref z_sheetSize, .ref z_sheetLane, .ref z_sheet, .ref z_hands, .int v_wide, .long v_mask, .int v_paths, .ref z_seen, .ref z_work, .ref z_known, .ref z_next, .int v_come, .int v_isCounted, .ref z_counts, .ref z_acrosses, .ref z_failings, .int v_basis, .ref z_given, .int v_trace])), (z_isGood, .inl (cy 2, 32, .inl v_isGoodc)), (z_frozen, .inl (cy 0, 32, .inl v_frozenc))] H ∧ va_D A [(z, .inr (9, [.int v_fault, .int v_size, .int v_upper, .int v_base, .ref z_isGood, .ref z_frozen, .ref z_sheetSize, .ref z_sheetLane, .ref z_sheet, .ref z_hands, .int v_wide, .long v_mask, .int v_paths, .ref z_seen, .ref z_work, .ref z_known, .ref z_next, .int v_come, .int v_isCounted, .ref z_counts, .ref z_acrosses, .ref z_failings, .int v_basis, .ref z_given, .int v_trace])), (z_isGood, .inl (cy 2, 32, .inl v_isGoodc)), (z_frozen, .inl (cy 0, 32, .inl v_frozenc))] ∧ va_S A s.heap H locs ∧ lv_has ls 8 [(3, .long y3_11), (7, .int a_5), (5, .long a_6), (0, .ref z), (1, .long x1)]) (pcM := 67) (st := [.long ms_12]) ?_ (fun hJ67 => ?_)
        · intro H locs ls hp_
          obtain ⟨hP, hD, hS, hl⟩ := hp_
          clear hR_13
          refine lv_lstore (lv' := [(5, .long ms_12), (3, .long y3_11), (7, .int a_5), (0, .ref z), (1, .long x1)]) hx hb dX10_rowOf_67 hl (by decide) rfl (fun ls hl => ?_)
          obtain ⟨y7_14, e_y7_14⟩ : ∃ y : Int32, y = (a_5 + 1) := ⟨_, rfl⟩
          have h := gx_let e_y7_14 h
          refine lv_iinc (v := y7_14) (lv' := [(7, .int y7_14), (5, .long ms_12), (3, .long y3_11), (0, .ref z), (1, .long x1)]) hx hb dX10_rowOf_69 hl (k := 2) rfl (by rw [e_y7_14]; rfl) (by decide) rfl (fun ls hl => ?_)
          refine lv_goto (tgt := 8) hx hb dX10_rowOf_72 (by decide) ?_
          exact ih (y7_14, ms_12, y3_11) _ _ _ h ⟨hP, hD, hS, lv_sub (l' := [(7, .int y7_14), (5, .long ms_12), (3, .long y3_11), (0, .ref z), (1, .long x1)]) hl [0, 1, 2, 3, 4] rfl⟩
        · have h := hR_13
          refine lv_if_eq (tgt := 65) hx hb dX10_rowOf_55 (by decide) (fun c_15 => ?_) (fun c_15 => ?_)
          · have h := gx_t c_15 h
            refine lv_lload hx hb dX10_rowOf_65 (lv_at hl 2 rfl) ?_
            have hl := lv_sub (l' := [(3, .long y3_11), (7, .int a_5), (5, .long a_6), (0, .ref z), (1, .long x1)]) hl [0, 1, 2, 3, 4] rfl
            cases h
            exact hJ67 _ _ _ ⟨hP, hD, hS, hl⟩
          · have h := gx_f c_15 h
            refine lv_lload hx hb dX10_rowOf_58 (lv_at hl 2 rfl) ?_
            refine lv_iconst (v := 1) hx hb dX10_rowOf_60 (by decide) ?_
            refine lv_lshr (v := (gLshr a_6 1)) hx hb dX10_rowOf_61 rfl ?_
            refine lv_goto (tgt := 67) hx hb dX10_rowOf_62 (by decide) ?_
            have hl := lv_sub (l' := [(3, .long y3_11), (7, .int a_5), (5, .long a_6), (0, .ref z), (1, .long x1)]) hl [0, 1, 2, 3, 4] rfl
            cases h
            exact hJ67 _ _ _ ⟨hP, hD, hS, hl⟩
      · have h := hR_10
        refine lv_if_eq (tgt := 35) hx hb dX10_rowOf_25 (by decide) (fun c_16 => ?_) (fun c_16 => ?_)
        · have h := gx_t c_16 h
          refine lv_aload_n hx hb dX10_rowOf_35 rfl (lv_at hl 3 rfl) ?_
          refine va_get (D := D) (ci := 9) (v := .ref z_frozen) (C := RX10) (T := TX10) (N := 25) hx hb hts iX10 hown hK hP 0 rfl rfl 5 (by decide) f13 (fun _ h9 => h9) rfl dX10_rowOf_36 ?_
          refine lv_iload hx hb dX10_rowOf_39 (lv_at hl 0 rfl) ?_
          obtain ⟨hi_, h⟩ := gx_ix h
          refine va_iald hx hb hK hP 2 0 rfl rfl hi_ dX10_rowOf_41 ?_
          refine lv_i2l (v := (Int32.toInt64 (v_frozenc (Int32.toNatClampNeg a_5)))) hx hb dX10_rowOf_42 rfl ?_
          have hl := lv_sub (l' := [(7, .int a_5), (5, .long a_6), (3, .long a_7), (0, .ref z), (1, .long x1)]) hl [0, 1, 2, 3, 4] rfl
          cases h
          exact hJ43 _ _ _ ⟨hP, hD, hS, hl⟩
        · have h := gx_f c_16 h
          refine lv_lload hx hb dX10_rowOf_28 (lv_at hl 1 rfl) ?_
          refine lv_lconst (v := 1) hx hb dX10_rowOf_30 (by decide) ?_
          refine lv_land hx hb dX10_rowOf_31 ?_
          refine lv_goto (tgt := 43) hx hb dX10_rowOf_32 (by decide) ?_
          have hl := lv_sub (l' := [(7, .int a_5), (5, .long a_6), (3, .long a_7), (0, .ref z), (1, .long x1)]) hl [0, 1, 2, 3, 4] rfl
          cases h
          exact hJ43 _ _ _ ⟨hP, hD, hS, hl⟩

def f_X10_word (K : Nat) (x1 : Int64) (v_size : Int32) (v_isGoodc : Nat → Int32) (v_frozenc : Nat → Int32) : Option (Int64) :=
  Option.bind (f_X10_isMessage K x1 v_size v_isGoodc) fun r_1 =>
  if r_1 = 0 then
    Option.bind (f_X10_lost K) fun r_3 =>
    some r_3
  else
    Option.bind (f_X10_rowOf K x1 v_size v_isGoodc v_frozenc) fun r_4 =>
    Option.bind (f_X10_folded K r_4 v_size) fun r_5 =>
    some r_5
set_option maxHeartbeats 4000000 in
set_option maxRecDepth 100000 in
theorem c_X10_word (l : Launch) (D : va_G) (cy : Nat → ClassId) (t sz K : Nat) (z : Nat) (z_isGood : Nat) (z_frozen : Nat) (z_sheetSize : Nat) (z_sheetLane : Nat) (z_sheet : Nat) (z_hands : Nat) (z_seen : Nat) (z_work : Nat) (z_known : Nat) (z_next : Nat) (z_counts : Nat) (z_acrosses : Nat) (z_failings : Nat) (z_given : Nat) (v_fault : Int32) (v_size : Int32) (v_upper : Int32) (v_base : Int32) (v_wide : Int32) (v_mask : Int64) (v_paths : Int32) (v_come : Int32) (v_isCounted : Int32) (v_basis : Int32) (v_trace : Int32) (v_isGoodc : Nat → Int32) (v_frozenc : Nat → Int32) (x1 : Int64) (r_ : Int64) (h : f_X10_word K x1 v_size v_isGoodc v_frozenc = some r_) : gMl l D cy t sz yX10_word wsX10_word 2 47 [.ref z, .long x1] [(z, .inr (9, [.int v_fault, .int v_size, .int v_upper, .int v_base, .ref z_isGood, .ref z_frozen, .ref z_sheetSize, .ref z_sheetLane, .ref z_sheet, .ref z_hands, .int v_wide, .long v_mask, .int v_paths, .ref z_seen, .ref z_work, .ref z_known, .ref z_next, .int v_come, .int v_isCounted, .ref z_counts, .ref z_acrosses, .ref z_failings, .int v_basis, .ref z_given, .int v_trace])), (z_isGood, .inl (cy 2, 32, .inl v_isGoodc)), (z_frozen, .inl (cy 0, 32, .inl v_frozenc))] r_ [(z, .inr (9, [.int v_fault, .int v_size, .int v_upper, .int v_base, .ref z_isGood, .ref z_frozen, .ref z_sheetSize, .ref z_sheetLane, .ref z_sheet, .ref z_hands, .int v_wide, .long v_mask, .int v_paths, .ref z_seen, .ref z_work, .ref z_known, .ref z_next, .int v_come, .int v_isCounted, .ref z_counts, .ref z_acrosses, .ref z_failings, .int v_basis, .ref z_given, .int v_trace])), (z_isGood, .inl (cy 2, 32, .inl v_isGoodc)), (z_frozen, .inl (cy 0, 32, .inl v_frozenc))] := by
  refine gBl (cc := cX10_word) (maxL := 3) (ret := (some .long)) (by decide) rfl (Nat.le_of_ble_eq_true rfl) ?_
  intro p e s m below meth c A ls hAt hl
  obtain ⟨hx, hb, hml, hr, hts, hown, hlocks, hin, hK, hG, hA, hP, hD⟩ := hAt
  have hS : va_S A s.heap s.heap [] := va_S.rf
  have hl : lv_has ls 3 [(0, .ref z), (1, .long x1)] := hl
  have f54 := hts (.fieldLink RX10 54 "PlainLinesModel" "size" "I") (by decide +kernel)
  have iX10 := (by decide +kernel : ∀ w ∈ u_ws RX10 TX10 25, w ∈ wsX10_word)
  rw [f_X10_word] at h
  refine lv_aload_n hx hb dX10_word_0 rfl (lv_at hl 0 rfl) ?_
  refine lv_lload_n hx hb dX10_word_1 rfl (lv_at hl 1 rfl) ?_
  obtain ⟨r_1, hc_2, h⟩ := gx_b h
  refine gCalli (wr := [(z_frozen, .inl (cy 0, 32, .inl v_frozenc))]) (va_runV (As := [.long x1]) (rest := []) ⟨hx, hb, hml, hown, hts⟩ (c_X10_isMessage l D cy t s.heap.size K z z_isGood z_frozen z_sheetSize z_sheetLane z_sheet z_hands z_seen z_work z_known z_next z_counts z_acrosses z_failings z_given v_fault v_size v_upper v_base v_wide v_mask v_paths v_come v_isCounted v_basis v_trace v_isGoodc x1 r_1 hc_2) (cwV 1 hts gX10_word_X10_isMessage rfl rfl rfl (by decide +kernel) ⟨Nat.le_of_ble_eq_true rfl, Nat.le_of_ble_eq_true rfl⟩) ⟨gBlind, va_recv hK hP (ci := 9) (q0 := 0) rfl rfl, fun U hU hW => ⟨rfl, gPre.call hK hG hA hP hD hS [0, 1] (by decide) rfl U hU hW⟩⟩ rfl rfl hl.1 rfl (lv_room (Nat.le_of_ble_eq_true rfl)) dX10_word_2 ⟨Nat.le_of_ble_eq_true rfl, Nat.le_of_ble_eq_true rfl⟩) hA hP hD hS [0, 1] [2] rfl rfl (by decide) (by decide) (fun H locs hP hD hS => ?_)
  have hP := hP.sub (ws' := [(z, .inr (9, [.int v_fault, .int v_size, .int v_upper, .int v_base, .ref z_isGood, .ref z_frozen, .ref z_sheetSize, .ref z_sheetLane, .ref z_sheet, .ref z_hands, .int v_wide, .long v_mask, .int v_paths, .ref z_seen, .ref z_work, .ref z_known, .ref z_next, .int v_come, .int v_isCounted, .ref z_counts, .ref z_acrosses, .ref z_failings, .int v_basis, .ref z_given, .int v_trace])), (z_isGood, .inl (cy 2, 32, .inl v_isGoodc)), (z_frozen, .inl (cy 0, 32, .inl v_frozenc))]) [1, 2, 0] rfl
  have hD := hD.sub (ws' := [(z, .inr (9, [.int v_fault, .int v_size, .int v_upper, .int v_base, .ref z_isGood, .ref z_frozen, .ref z_sheetSize, .ref z_sheetLane, .ref z_sheet, .ref z_hands, .int v_wide, .long v_mask, .int v_paths, .ref z_seen, .ref z_work, .ref z_known, .ref z_next, .int v_come, .int v_isCounted, .ref z_counts, .ref z_acrosses, .ref z_failings, .int v_basis, .ref z_given, .int v_trace])), (z_isGood, .inl (cy 2, 32, .inl v_isGoodc)), (z_frozen, .inl (cy 0, 32, .inl v_frozenc))]) [1, 2, 0] (by decide) rfl
  refine lv_if_eq (tgt := 23) hx hb dX10_word_5 (by decide) (fun c_3 => ?_) (fun c_3 => ?_)
  · have h := gx_t c_3 h
    obtain ⟨r_4, hc_5, h⟩ := gx_b h
    refine gCalll (wr := [(z, .inr (9, [.int v_fault, .int v_size, .int v_upper, .int v_base, .ref z_isGood, .ref z_frozen, .ref z_sheetSize, .ref z_sheetLane, .ref z_sheet, .ref z_hands, .int v_wide, .long v_mask, .int v_paths, .ref z_seen, .ref z_work, .ref z_known, .ref z_next, .int v_come, .int v_isCounted, .ref z_counts, .ref z_acrosses, .ref z_failings, .int v_basis, .ref z_given, .int v_trace])), (z_isGood, .inl (cy 2, 32, .inl v_isGoodc)), (z_frozen, .inl (cy 0, 32, .inl v_frozenc))]) (va_runS (As := []) (rest := []) ⟨hx, hb, hml, hown, hts⟩ (c_X10_lost l D cy t H.size K r_4 hc_5) (va_cwS 0 hts gX10_word_X10_lost rfl rfl rfl (by decide +kernel) ⟨Nat.le_of_ble_eq_true rfl, Nat.le_of_ble_eq_true rfl⟩) ⟨gBlind, fun U hU hW => ⟨rfl, gPre.call hK hG hA hP hD hS [] (by decide) rfl U hU hW⟩⟩ rfl rfl hl.1 rfl (lv_room (Nat.le_of_ble_eq_true rfl)) dX10_word_23 ⟨Nat.le_of_ble_eq_true rfl, Nat.le_of_ble_eq_true rfl⟩) hA hP hD hS [] [0, 1, 2] rfl rfl (by decide) (by decide) (fun H locs hP hD hS => ?_)
    have hP : va_P D vwCl [(z, .inr (9, [.int v_fault, .int v_size, .int v_upper, .int v_base, .ref z_isGood, .ref z_frozen, .ref z_sheetSize, .ref z_sheetLane, .ref z_sheet, .ref z_hands, .int v_wide, .long v_mask, .int v_paths, .ref z_seen, .ref z_work, .ref z_known, .ref z_next, .int v_come, .int v_isCounted, .ref z_counts, .ref z_acrosses, .ref z_failings, .int v_basis, .ref z_given, .int v_trace])), (z_isGood, .inl (cy 2, 32, .inl v_isGoodc)), (z_frozen, .inl (cy 0, 32, .inl v_frozenc))] H := hP
    have hD : va_D A [(z, .inr (9, [.int v_fault, .int v_size, .int v_upper, .int v_base, .ref z_isGood, .ref z_frozen, .ref z_sheetSize, .ref z_sheetLane, .ref z_sheet, .ref z_hands, .int v_wide, .long v_mask, .int v_paths, .ref z_seen, .ref z_work, .ref z_known, .ref z_next, .int v_come, .int v_isCounted, .ref z_counts, .ref z_acrosses, .ref z_failings, .int v_basis, .ref z_given, .int v_trace])), (z_isGood, .inl (cy 2, 32, .inl v_isGoodc)), (z_frozen, .inl (cy 0, 32, .inl v_frozenc))] := hD
    cases h
    exact gRl hx hb hr hlocks hP hD hS dX10_word_26
  · have h := gx_f c_3 h
    refine lv_aload_n hx hb dX10_word_8 rfl (lv_at hl 0 rfl) ?_
    refine lv_lload_n hx hb dX10_word_9 rfl (lv_at hl 1 rfl) ?_
    obtain ⟨r_6, hc_7, h⟩ := gx_b h
    refine gCalll (wr := []) (va_runV (As := [.long x1]) (rest := []) ⟨hx, hb, hml, hown, hts⟩ (c_X10_rowOf l D cy t H.size K z z_isGood z_frozen z_sheetSize z_sheetLane z_sheet z_hands z_seen z_work z_known z_next z_counts z_acrosses z_failings z_given v_fault v_size v_upper v_base v_wide v_mask v_paths v_come v_isCounted v_basis v_trace v_isGoodc v_frozenc x1 r_6 hc_7) (cwV 1 hts gX10_word_X10_rowOf rfl rfl rfl (by decide +kernel) ⟨Nat.le_of_ble_eq_true rfl, Nat.le_of_ble_eq_true rfl⟩) ⟨gBlind, va_recv hK hP (ci := 9) (q0 := 0) rfl rfl, fun U hU hW => ⟨rfl, gPre.call hK hG hA hP hD hS [0, 1, 2] (by decide) rfl U hU hW⟩⟩ rfl rfl hl.1 rfl (lv_room (Nat.le_of_ble_eq_true rfl)) dX10_word_10 ⟨Nat.le_of_ble_eq_true rfl, Nat.le_of_ble_eq_true rfl⟩) hA hP hD hS [0, 1, 2] [] rfl rfl (by decide) (by decide) (fun H locs hP hD hS => ?_)
    have hP : va_P D vwCl [(z, .inr (9, [.int v_fault, .int v_size, .int v_upper, .int v_base, .ref z_isGood, .ref z_frozen, .ref z_sheetSize, .ref z_sheetLane, .ref z_sheet, .ref z_hands, .int v_wide, .long v_mask, .int v_paths, .ref z_seen, .ref z_work, .ref z_known, .ref z_next, .int v_come, .int v_isCounted, .ref z_counts, .ref z_acrosses, .ref z_failings, .int v_basis, .ref z_given, .int v_trace])), (z_isGood, .inl (cy 2, 32, .inl v_isGoodc)), (z_frozen, .inl (cy 0, 32, .inl v_frozenc))] H := hP
    have hD : va_D A [(z, .inr (9, [.int v_fault, .int v_size, .int v_upper, .int v_base, .ref z_isGood, .ref z_frozen, .ref z_sheetSize, .ref z_sheetLane, .ref z_sheet, .ref z_hands, .int v_wide, .long v_mask, .int v_paths, .ref z_seen, .ref z_work, .ref z_known, .ref z_next, .int v_come, .int v_isCounted, .ref z_counts, .ref z_acrosses, .ref z_failings, .int v_basis, .ref z_given, .int v_trace])), (z_isGood, .inl (cy 2, 32, .inl v_isGoodc)), (z_frozen, .inl (cy 0, 32, .inl v_frozenc))] := hD
    refine lv_aload_n hx hb dX10_word_13 rfl (lv_at hl 0 rfl) ?_
    refine va_get (D := D) (ci := 9) (v := .int v_size) (C := RX10) (T := TX10) (N := 25) hx hb hts iX10 hown hK hP 0 rfl rfl 1 (by decide) f54 (fun _ h9 => h9) rfl dX10_word_14 ?_
    obtain ⟨r_8, hc_9, h⟩ := gx_b h
    refine gCalll (wr := [(z, .inr (9, [.int v_fault, .int v_size, .int v_upper, .int v_base, .ref z_isGood, .ref z_frozen, .ref z_sheetSize, .ref z_sheetLane, .ref z_sheet, .ref z_hands, .int v_wide, .long v_mask, .int v_paths, .ref z_seen, .ref z_work, .ref z_known, .ref z_next, .int v_come, .int v_isCounted, .ref z_counts, .ref z_acrosses, .ref z_failings, .int v_basis, .ref z_given, .int v_trace])), (z_isGood, .inl (cy 2, 32, .inl v_isGoodc)), (z_frozen, .inl (cy 0, 32, .inl v_frozenc))]) (va_runS (As := [.long r_6, .int v_size]) (rest := []) ⟨hx, hb, hml, hown, hts⟩ (c_X10_folded l D cy t H.size K r_6 v_size r_8 hc_9) (va_cwS 2 hts gX10_word_X10_folded rfl rfl rfl (by decide +kernel) ⟨Nat.le_of_ble_eq_true rfl, Nat.le_of_ble_eq_true rfl⟩) ⟨gBlind, fun U hU hW => ⟨rfl, gPre.call hK hG hA hP hD hS [] (by decide) rfl U hU hW⟩⟩ rfl rfl hl.1 rfl (lv_room (Nat.le_of_ble_eq_true rfl)) dX10_word_17 ⟨Nat.le_of_ble_eq_true rfl, Nat.le_of_ble_eq_true rfl⟩) hA hP hD hS [] [0, 1, 2] rfl rfl (by decide) (by decide) (fun H locs hP hD hS => ?_)
    have hP : va_P D vwCl [(z, .inr (9, [.int v_fault, .int v_size, .int v_upper, .int v_base, .ref z_isGood, .ref z_frozen, .ref z_sheetSize, .ref z_sheetLane, .ref z_sheet, .ref z_hands, .int v_wide, .long v_mask, .int v_paths, .ref z_seen, .ref z_work, .ref z_known, .ref z_next, .int v_come, .int v_isCounted, .ref z_counts, .ref z_acrosses, .ref z_failings, .int v_basis, .ref z_given, .int v_trace])), (z_isGood, .inl (cy 2, 32, .inl v_isGoodc)), (z_frozen, .inl (cy 0, 32, .inl v_frozenc))] H := hP
    have hD : va_D A [(z, .inr (9, [.int v_fault, .int v_size, .int v_upper, .int v_base, .ref z_isGood, .ref z_frozen, .ref z_sheetSize, .ref z_sheetLane, .ref z_sheet, .ref z_hands, .int v_wide, .long v_mask, .int v_paths, .ref z_seen, .ref z_work, .ref z_known, .ref z_next, .int v_come, .int v_isCounted, .ref z_counts, .ref z_acrosses, .ref z_failings, .int v_basis, .ref z_given, .int v_trace])), (z_isGood, .inl (cy 2, 32, .inl v_isGoodc)), (z_frozen, .inl (cy 0, 32, .inl v_frozenc))] := hD
    refine lv_goto (tgt := 26) hx hb dX10_word_20 (by decide) ?_
    cases h
    exact gRl hx hb hr hlocks hP hD hS dX10_word_26

def f_X10_fold (K : Nat) (x1 : Int64) (v_size : Int32) : Option (Int64) :=
  Option.bind (f_X10_all K v_size) fun r_1 =>
  Option.bind (f_X10_in K x1 0 r_1) fun r_2 =>
  if r_2 = 0 then
    Option.bind (f_X10_lost K) fun r_4 =>
    some r_4
  else
    Option.bind (f_X10_folded K x1 v_size) fun r_5 =>
    some r_5
set_option maxHeartbeats 4000000 in
set_option maxRecDepth 100000 in
theorem c_X10_fold (l : Launch) (D : va_G) (cy : Nat → ClassId) (t sz K : Nat) (z : Nat) (z_isGood : Nat) (z_frozen : Nat) (z_sheetSize : Nat) (z_sheetLane : Nat) (z_sheet : Nat) (z_hands : Nat) (z_seen : Nat) (z_work : Nat) (z_known : Nat) (z_next : Nat) (z_counts : Nat) (z_acrosses : Nat) (z_failings : Nat) (z_given : Nat) (v_fault : Int32) (v_size : Int32) (v_upper : Int32) (v_base : Int32) (v_wide : Int32) (v_mask : Int64) (v_paths : Int32) (v_come : Int32) (v_isCounted : Int32) (v_basis : Int32) (v_trace : Int32) (x1 : Int64) (r_ : Int64) (h : f_X10_fold K x1 v_size = some r_) : gMl l D cy t sz yX10_fold wsX10_fold 1 28 [.ref z, .long x1] [(z, .inr (9, [.int v_fault, .int v_size, .int v_upper, .int v_base, .ref z_isGood, .ref z_frozen, .ref z_sheetSize, .ref z_sheetLane, .ref z_sheet, .ref z_hands, .int v_wide, .long v_mask, .int v_paths, .ref z_seen, .ref z_work, .ref z_known, .ref z_next, .int v_come, .int v_isCounted, .ref z_counts, .ref z_acrosses, .ref z_failings, .int v_basis, .ref z_given, .int v_trace]))] r_ [(z, .inr (9, [.int v_fault, .int v_size, .int v_upper, .int v_base, .ref z_isGood, .ref z_frozen, .ref z_sheetSize, .ref z_sheetLane, .ref z_sheet, .ref z_hands, .int v_wide, .long v_mask, .int v_paths, .ref z_seen, .ref z_work, .ref z_known, .ref z_next, .int v_come, .int v_isCounted, .ref z_counts, .ref z_acrosses, .ref z_failings, .int v_basis, .ref z_given, .int v_trace]))] := by
  refine gBl (cc := cX10_fold) (maxL := 3) (ret := (some .long)) (by decide) rfl (Nat.le_of_ble_eq_true rfl) ?_
  intro p e s m below meth c A ls hAt hl
  obtain ⟨hx, hb, hml, hr, hts, hown, hlocks, hin, hK, hG, hA, hP, hD⟩ := hAt
  have hS : va_S A s.heap s.heap [] := va_S.rf
  have hl : lv_has ls 3 [(0, .ref z), (1, .long x1)] := hl
  have f54 := hts (.fieldLink RX10 54 "PlainLinesModel" "size" "I") (by decide +kernel)
  have iX10 := (by decide +kernel : ∀ w ∈ u_ws RX10 TX10 25, w ∈ wsX10_fold)
  rw [f_X10_fold] at h
  refine lv_lload_n hx hb dX10_fold_0 rfl (lv_at hl 1 rfl) ?_
  refine lv_lconst (v := 0) hx hb dX10_fold_1 (by decide) ?_
  refine lv_aload_n hx hb dX10_fold_2 rfl (lv_at hl 0 rfl) ?_
  obtain ⟨r_1, hc_2, h⟩ := gx_b h
  refine gCalll (wr := []) (va_runV (As := []) (rest := [.long 0, .long x1]) ⟨hx, hb, hml, hown, hts⟩ (c_X10_all l D cy t s.heap.size K z z_isGood z_frozen z_sheetSize z_sheetLane z_sheet z_hands z_seen z_work z_known z_next z_counts z_acrosses z_failings z_given v_fault v_size v_upper v_base v_wide v_mask v_paths v_come v_isCounted v_basis v_trace r_1 hc_2) (cwV 0 hts gX10_fold_X10_all rfl rfl rfl (by decide +kernel) ⟨Nat.le_of_ble_eq_true rfl, Nat.le_of_ble_eq_true rfl⟩) ⟨gBlind, va_recv hK hP (ci := 9) (q0 := 0) rfl rfl, fun U hU hW => ⟨rfl, gPre.call hK hG hA hP hD hS [0] (by decide) rfl U hU hW⟩⟩ rfl rfl hl.1 rfl (lv_room (Nat.le_of_ble_eq_true rfl)) dX10_fold_3 ⟨Nat.le_of_ble_eq_true rfl, Nat.le_of_ble_eq_true rfl⟩) hA hP hD hS [0] [] rfl rfl (by decide) (by decide) (fun H locs hP hD hS => ?_)
  have hP : va_P D vwCl [(z, .inr (9, [.int v_fault, .int v_size, .int v_upper, .int v_base, .ref z_isGood, .ref z_frozen, .ref z_sheetSize, .ref z_sheetLane, .ref z_sheet, .ref z_hands, .int v_wide, .long v_mask, .int v_paths, .ref z_seen, .ref z_work, .ref z_known, .ref z_next, .int v_come, .int v_isCounted, .ref z_counts, .ref z_acrosses, .ref z_failings, .int v_basis, .ref z_given, .int v_trace]))] H := hP
  have hD : va_D A [(z, .inr (9, [.int v_fault, .int v_size, .int v_upper, .int v_base, .ref z_isGood, .ref z_frozen, .ref z_sheetSize, .ref z_sheetLane, .ref z_sheet, .ref z_hands, .int v_wide, .long v_mask, .int v_paths, .ref z_seen, .ref z_work, .ref z_known, .ref z_next, .int v_come, .int v_isCounted, .ref z_counts, .ref z_acrosses, .ref z_failings, .int v_basis, .ref z_given, .int v_trace]))] := hD
  obtain ⟨r_3, hc_4, h⟩ := gx_b h
  refine gCalli (wr := [(z, .inr (9, [.int v_fault, .int v_size, .int v_upper, .int v_base, .ref z_isGood, .ref z_frozen, .ref z_sheetSize, .ref z_sheetLane, .ref z_sheet, .ref z_hands, .int v_wide, .long v_mask, .int v_paths, .ref z_seen, .ref z_work, .ref z_known, .ref z_next, .int v_come, .int v_isCounted, .ref z_counts, .ref z_acrosses, .ref z_failings, .int v_basis, .ref z_given, .int v_trace]))]) (va_runS (As := [.long x1, .long 0, .long r_1]) (rest := []) ⟨hx, hb, hml, hown, hts⟩ (c_X10_in l D cy t H.size K x1 0 r_1 r_3 hc_4) (va_cwS 3 hts gX10_fold_X10_in rfl rfl rfl (by decide +kernel) ⟨Nat.le_of_ble_eq_true rfl, Nat.le_of_ble_eq_true rfl⟩) ⟨gBlind, fun U hU hW => ⟨rfl, gPre.call hK hG hA hP hD hS [] (by decide) rfl U hU hW⟩⟩ rfl rfl hl.1 rfl (lv_room (Nat.le_of_ble_eq_true rfl)) dX10_fold_6 ⟨Nat.le_of_ble_eq_true rfl, Nat.le_of_ble_eq_true rfl⟩) hA hP hD hS [] [0] rfl rfl (by decide) (by decide) (fun H locs hP hD hS => ?_)
  have hP : va_P D vwCl [(z, .inr (9, [.int v_fault, .int v_size, .int v_upper, .int v_base, .ref z_isGood, .ref z_frozen, .ref z_sheetSize, .ref z_sheetLane, .ref z_sheet, .ref z_hands, .int v_wide, .long v_mask, .int v_paths, .ref z_seen, .ref z_work, .ref z_known, .ref z_next, .int v_come, .int v_isCounted, .ref z_counts, .ref z_acrosses, .ref z_failings, .int v_basis, .ref z_given, .int v_trace]))] H := hP
  have hD : va_D A [(z, .inr (9, [.int v_fault, .int v_size, .int v_upper, .int v_base, .ref z_isGood, .ref z_frozen, .ref z_sheetSize, .ref z_sheetLane, .ref z_sheet, .ref z_hands, .int v_wide, .long v_mask, .int v_paths, .ref z_seen, .ref z_work, .ref z_known, .ref z_next, .int v_come, .int v_isCounted, .ref z_counts, .ref z_acrosses, .ref z_failings, .int v_basis, .ref z_given, .int v_trace]))] := hD
  refine lv_if_eq (tgt := 23) hx hb dX10_fold_9 (by decide) (fun c_5 => ?_) (fun c_5 => ?_)
  · have h := gx_t c_5 h
    obtain ⟨r_6, hc_7, h⟩ := gx_b h
    refine gCalll (wr := [(z, .inr (9, [.int v_fault, .int v_size, .int v_upper, .int v_base, .ref z_isGood, .ref z_frozen, .ref z_sheetSize, .ref z_sheetLane, .ref z_sheet, .ref z_hands, .int v_wide, .long v_mask, .int v_paths, .ref z_seen, .ref z_work, .ref z_known, .ref z_next, .int v_come, .int v_isCounted, .ref z_counts, .ref z_acrosses, .ref z_failings, .int v_basis, .ref z_given, .int v_trace]))]) (va_runS (As := []) (rest := []) ⟨hx, hb, hml, hown, hts⟩ (c_X10_lost l D cy t H.size K r_6 hc_7) (va_cwS 0 hts gX10_fold_X10_lost rfl rfl rfl (by decide +kernel) ⟨Nat.le_of_ble_eq_true rfl, Nat.le_of_ble_eq_true rfl⟩) ⟨gBlind, fun U hU hW => ⟨rfl, gPre.call hK hG hA hP hD hS [] (by decide) rfl U hU hW⟩⟩ rfl rfl hl.1 rfl (lv_room (Nat.le_of_ble_eq_true rfl)) dX10_fold_23 ⟨Nat.le_of_ble_eq_true rfl, Nat.le_of_ble_eq_true rfl⟩) hA hP hD hS [] [0] rfl rfl (by decide) (by decide) (fun H locs hP hD hS => ?_)
    have hP : va_P D vwCl [(z, .inr (9, [.int v_fault, .int v_size, .int v_upper, .int v_base, .ref z_isGood, .ref z_frozen, .ref z_sheetSize, .ref z_sheetLane, .ref z_sheet, .ref z_hands, .int v_wide, .long v_mask, .int v_paths, .ref z_seen, .ref z_work, .ref z_known, .ref z_next, .int v_come, .int v_isCounted, .ref z_counts, .ref z_acrosses, .ref z_failings, .int v_basis, .ref z_given, .int v_trace]))] H := hP
    have hD : va_D A [(z, .inr (9, [.int v_fault, .int v_size, .int v_upper, .int v_base, .ref z_isGood, .ref z_frozen, .ref z_sheetSize, .ref z_sheetLane, .ref z_sheet, .ref z_hands, .int v_wide, .long v_mask, .int v_paths, .ref z_seen, .ref z_work, .ref z_known, .ref z_next, .int v_come, .int v_isCounted, .ref z_counts, .ref z_acrosses, .ref z_failings, .int v_basis, .ref z_given, .int v_trace]))] := hD
    cases h
    exact gRl hx hb hr hlocks hP hD hS dX10_fold_26
  · have h := gx_f c_5 h
    refine lv_lload_n hx hb dX10_fold_12 rfl (lv_at hl 1 rfl) ?_
    refine lv_aload_n hx hb dX10_fold_13 rfl (lv_at hl 0 rfl) ?_
    refine va_get (D := D) (ci := 9) (v := .int v_size) (C := RX10) (T := TX10) (N := 25) hx hb hts iX10 hown hK hP 0 rfl rfl 1 (by decide) f54 (fun _ h9 => h9) rfl dX10_fold_14 ?_
    obtain ⟨r_8, hc_9, h⟩ := gx_b h
    refine gCalll (wr := [(z, .inr (9, [.int v_fault, .int v_size, .int v_upper, .int v_base, .ref z_isGood, .ref z_frozen, .ref z_sheetSize, .ref z_sheetLane, .ref z_sheet, .ref z_hands, .int v_wide, .long v_mask, .int v_paths, .ref z_seen, .ref z_work, .ref z_known, .ref z_next, .int v_come, .int v_isCounted, .ref z_counts, .ref z_acrosses, .ref z_failings, .int v_basis, .ref z_given, .int v_trace]))]) (va_runS (As := [.long x1, .int v_size]) (rest := []) ⟨hx, hb, hml, hown, hts⟩ (c_X10_folded l D cy t H.size K x1 v_size r_8 hc_9) (va_cwS 2 hts gX10_fold_X10_folded rfl rfl rfl (by decide +kernel) ⟨Nat.le_of_ble_eq_true rfl, Nat.le_of_ble_eq_true rfl⟩) ⟨gBlind, fun U hU hW => ⟨rfl, gPre.call hK hG hA hP hD hS [] (by decide) rfl U hU hW⟩⟩ rfl rfl hl.1 rfl (lv_room (Nat.le_of_ble_eq_true rfl)) dX10_fold_17 ⟨Nat.le_of_ble_eq_true rfl, Nat.le_of_ble_eq_true rfl⟩) hA hP hD hS [] [0] rfl rfl (by decide) (by decide) (fun H locs hP hD hS => ?_)
    have hP : va_P D vwCl [(z, .inr (9, [.int v_fault, .int v_size, .int v_upper, .int v_base, .ref z_isGood, .ref z_frozen, .ref z_sheetSize, .ref z_sheetLane, .ref z_sheet, .ref z_hands, .int v_wide, .long v_mask, .int v_paths, .ref z_seen, .ref z_work, .ref z_known, .ref z_next, .int v_come, .int v_isCounted, .ref z_counts, .ref z_acrosses, .ref z_failings, .int v_basis, .ref z_given, .int v_trace]))] H := hP
    have hD : va_D A [(z, .inr (9, [.int v_fault, .int v_size, .int v_upper, .int v_base, .ref z_isGood, .ref z_frozen, .ref z_sheetSize, .ref z_sheetLane, .ref z_sheet, .ref z_hands, .int v_wide, .long v_mask, .int v_paths, .ref z_seen, .ref z_work, .ref z_known, .ref z_next, .int v_come, .int v_isCounted, .ref z_counts, .ref z_acrosses, .ref z_failings, .int v_basis, .ref z_given, .int v_trace]))] := hD
    refine lv_goto (tgt := 26) hx hb dX10_fold_20 (by decide) ?_
    cases h
    exact gRl hx hb hr hlocks hP hD hS dX10_fold_26

def f_X10_noSheet (K : Nat) (x1 : Int32) : Option (Int32) :=
  Option.bind (f_X10_in K (Int32.toInt64 x1) 0 3) fun r_1 =>
  if r_1 = 0 then
    some 1
  else
    some 0
set_option maxHeartbeats 4000000 in
set_option maxRecDepth 100000 in
theorem c_X10_noSheet (l : Launch) (D : va_G) (cy : Nat → ClassId) (t sz K : Nat) (x1 : Int32) (r_ : Int32) (h : f_X10_noSheet K x1 = some r_) : gMi l D cy t sz yX10_noSheet wsX10_noSheet 1 25 [.int x1] [] r_ [] := by
  refine gBi (cc := cX10_noSheet) (maxL := 1) (ret := (some .boolean)) (by decide) rfl (Nat.le_of_ble_eq_true rfl) ?_
  intro p e s m below meth c A ls hAt hl
  obtain ⟨hx, hb, hml, hr, hts, hown, hlocks, hin, hK, hG, hA, hP, hD⟩ := hAt
  have hS : va_S A s.heap s.heap [] := va_S.rf
  have hl : lv_has ls 1 [(0, .int x1)] := hl
  have k129 := hts (.constantLong RX10 129 (3)) (by decide +kernel)
  rw [f_X10_noSheet] at h
  refine lv_iload_n hx hb dX10_noSheet_0 rfl (lv_at hl 0 rfl) ?_
  refine lv_i2l (v := (Int32.toInt64 x1)) hx hb dX10_noSheet_1 rfl ?_
  refine lv_lconst (v := 0) hx hb dX10_noSheet_2 (by decide) ?_
  refine lv_ldc2 hx hb hown k129 dX10_noSheet_3 ?_
  obtain ⟨r_1, hc_2, h⟩ := gx_b h
  refine gCalli (wr := []) (va_runS (As := [.long (Int32.toInt64 x1), .long 0, .long 3]) (rest := []) ⟨hx, hb, hml, hown, hts⟩ (c_X10_in l D cy t s.heap.size K (Int32.toInt64 x1) 0 3 r_1 hc_2) (va_cwS 3 hts gX10_noSheet_X10_in rfl rfl rfl (by decide +kernel) ⟨Nat.le_of_ble_eq_true rfl, Nat.le_of_ble_eq_true rfl⟩) ⟨gBlind, fun U hU hW => ⟨rfl, gPre.call hK hG hA hP hD hS [] (by decide) rfl U hU hW⟩⟩ rfl rfl hl.1 rfl (lv_room (Nat.le_of_ble_eq_true rfl)) dX10_noSheet_6 ⟨Nat.le_of_ble_eq_true rfl, Nat.le_of_ble_eq_true rfl⟩) hA hP hD hS [] [] rfl rfl (by decide) (by decide) (fun H locs hP hD hS => ?_)
  have hP : va_P D vwCl [] H := hP
  have hD : va_D A [] := hD
  refine lv_if_ne (tgt := 16) hx hb dX10_noSheet_9 (by decide) (fun c_3 => ?_) (fun c_3 => ?_)
  · have h := gx_f c_3 h
    refine lv_iconst (v := 0) hx hb dX10_noSheet_16 (by decide) ?_
    cases h
    exact gRz hx hb hr hlocks rfl hP hD hS dX10_noSheet_17
  · have h := gx_t c_3 h
    refine lv_iconst (v := 1) hx hb dX10_noSheet_12 (by decide) ?_
    refine lv_goto (tgt := 17) hx hb dX10_noSheet_13 (by decide) ?_
    cases h
    exact gRz hx hb hr hlocks rfl hP hD hS dX10_noSheet_17

def fL_X10_sheet_65 (K : Nat) (l1 : Int32) (l3 : Int32) : Nat → Int32 × (Nat → Int64) → Option (Int32 × (Nat → Int64))
  | 0, _ => none
  | k + 1, (l4, u3) =>
    if l3 ≤ l4 then
      some (l4, u3)
    else
      gIx ((40 * l1) + l4) 160 <|
      gLet (vp_updL u3 (Int32.toNatClampNeg ((40 * l1) + l4)) 0) fun w_15 =>
      gLet (l4 + 1) fun y4_16 =>
      fL_X10_sheet_65 K l1 l3 k (y4_16, w_15)
def f_X10_sheet (K : Nat) (x1 : Int32) (x2 : Int32) (x3 : Int32) (v_sheetSizec : Nat → Int32) (v_sheetLanec : Nat → Int32) (v_sheetc : Nat → Int64) : Option (Int32 × Int32 × (Nat → Int32) × (Nat → Int32) × (Nat → Int64)) :=
  Option.bind (f_X10_noSheet K x1) fun r_1 =>
  if r_1 = 0 then
    Option.bind (f_X10_in K (Int32.toInt64 x2) 0 2) fun r_3 =>
    if r_3 = 0 then
      Option.bind (f_X10_refused K (-2)) fun (r_5, o_6) =>
      some (r_5, o_6, v_sheetSizec, v_sheetLanec, v_sheetc)
    else
      if x3 ≤ 40 then
        if 0 ≤ x3 then
          gIx x1 4 <|
          gLet (upd v_sheetSizec (Int32.toNatClampNeg x1) x3) fun w_9 =>
          gIx x1 4 <|
          gLet (upd v_sheetLanec (Int32.toNatClampNeg x1) x2) fun w_10 =>
          Option.bind (fL_X10_sheet_65 K x1 x3 K (0, v_sheetc)) fun (o_17, o_18) =>
          Option.bind (f_X10_refused K 1) fun (r_19, o_20) =>
          some (r_19, o_20, w_9, w_10, o_18)
        else
          Option.bind (f_X10_failed K 4) fun (r_21, o_22) =>
          some (r_21, o_22, v_sheetSizec, v_sheetLanec, v_sheetc)
      else
        Option.bind (f_X10_refused K (-2)) fun (r_23, o_24) =>
        some (r_23, o_24, v_sheetSizec, v_sheetLanec, v_sheetc)
  else
    Option.bind (f_X10_refused K (-1)) fun (r_25, o_26) =>
    some (r_25, o_26, v_sheetSizec, v_sheetLanec, v_sheetc)
set_option maxHeartbeats 4000000 in
set_option maxRecDepth 100000 in
theorem c_X10_sheet (l : Launch) (D : va_G) (cy : Nat → ClassId) (t sz K : Nat) (z : Nat) (z_sheetSize : Nat) (z_sheetLane : Nat) (z_sheet : Nat) (z_isGood : Nat) (z_frozen : Nat) (z_hands : Nat) (z_seen : Nat) (z_work : Nat) (z_known : Nat) (z_next : Nat) (z_counts : Nat) (z_acrosses : Nat) (z_failings : Nat) (z_given : Nat) (v_fault : Int32) (v_size : Int32) (v_upper : Int32) (v_base : Int32) (v_wide : Int32) (v_mask : Int64) (v_paths : Int32) (v_come : Int32) (v_isCounted : Int32) (v_basis : Int32) (v_trace : Int32) (v_sheetSizec : Nat → Int32) (v_sheetLanec : Nat → Int32) (v_sheetc : Nat → Int64) (x1 : Int32) (x2 : Int32) (x3 : Int32) (r_ : Int32) (o_v_fault : Int32) (o_v_sheetSizec : Nat → Int32) (o_v_sheetLanec : Nat → Int32) (o_v_sheetc : Nat → Int64) (h : f_X10_sheet K x1 x2 x3 v_sheetSizec v_sheetLanec v_sheetc = some (r_, o_v_fault, o_v_sheetSizec, o_v_sheetLanec, o_v_sheetc)) : gMi l D cy t sz yX10_sheet wsX10_sheet 2 45 [.ref z, .int x1, .int x2, .int x3] [(z, .inr (9, [.int v_fault, .int v_size, .int v_upper, .int v_base, .ref z_isGood, .ref z_frozen, .ref z_sheetSize, .ref z_sheetLane, .ref z_sheet, .ref z_hands, .int v_wide, .long v_mask, .int v_paths, .ref z_seen, .ref z_work, .ref z_known, .ref z_next, .int v_come, .int v_isCounted, .ref z_counts, .ref z_acrosses, .ref z_failings, .int v_basis, .ref z_given, .int v_trace])), (z_sheetSize, .inl (cy 0, 4, .inl v_sheetSizec)), (z_sheetLane, .inl (cy 0, 4, .inl v_sheetLanec)), (z_sheet, .inl (cy 1, 160, .inr (.inl v_sheetc)))] r_ [(z, .inr (9, [.int o_v_fault, .int v_size, .int v_upper, .int v_base, .ref z_isGood, .ref z_frozen, .ref z_sheetSize, .ref z_sheetLane, .ref z_sheet, .ref z_hands, .int v_wide, .long v_mask, .int v_paths, .ref z_seen, .ref z_work, .ref z_known, .ref z_next, .int v_come, .int v_isCounted, .ref z_counts, .ref z_acrosses, .ref z_failings, .int v_basis, .ref z_given, .int v_trace])), (z_sheetSize, .inl (cy 0, 4, .inl o_v_sheetSizec)), (z_sheetLane, .inl (cy 0, 4, .inl o_v_sheetLanec)), (z_sheet, .inl (cy 1, 160, .inr (.inl o_v_sheetc)))] := by
  refine gBi (cc := cX10_sheet) (maxL := 5) (ret := (some .int)) (by decide) rfl (Nat.le_of_ble_eq_true rfl) ?_
  intro p e s m below meth c A ls hAt hl
  obtain ⟨hx, hb, hml, hr, hts, hown, hlocks, hin, hK, hG, hA, hP, hD⟩ := hAt
  have hS : va_S A s.heap s.heap [] := va_S.rf
  have hl : lv_has ls 5 [(0, .ref z), (1, .int x1), (2, .int x2), (3, .int x3)] := hl
  have k93 := hts (.constantLong RX10 93 (2)) (by decide +kernel)
  have f17 := hts (.fieldLink RX10 17 "PlainLinesModel" "sheetSize" "[I") (by decide +kernel)
  have iX10 := (by decide +kernel : ∀ w ∈ u_ws RX10 TX10 25, w ∈ wsX10_sheet)
  have f20 := hts (.fieldLink RX10 20 "PlainLinesModel" "sheetLane" "[I") (by decide +kernel)
  have f23 := hts (.fieldLink RX10 23 "PlainLinesModel" "sheet" "[J") (by decide +kernel)
  rw [f_X10_sheet] at h
  refine lv_iload_n hx hb dX10_sheet_0 rfl (lv_at hl 1 rfl) ?_
  obtain ⟨r_1, hc_2, h⟩ := gx_b h
  refine gCalli (wr := [(z, .inr (9, [.int v_fault, .int v_size, .int v_upper, .int v_base, .ref z_isGood, .ref z_frozen, .ref z_sheetSize, .ref z_sheetLane, .ref z_sheet, .ref z_hands, .int v_wide, .long v_mask, .int v_paths, .ref z_seen, .ref z_work, .ref z_known, .ref z_next, .int v_come, .int v_isCounted, .ref z_counts, .ref z_acrosses, .ref z_failings, .int v_basis, .ref z_given, .int v_trace])), (z_sheetSize, .inl (cy 0, 4, .inl v_sheetSizec)), (z_sheetLane, .inl (cy 0, 4, .inl v_sheetLanec)), (z_sheet, .inl (cy 1, 160, .inr (.inl v_sheetc)))]) (va_runS (As := [.int x1]) (rest := []) ⟨hx, hb, hml, hown, hts⟩ (c_X10_noSheet l D cy t s.heap.size K x1 r_1 hc_2) (va_cwS 1 hts gX10_sheet_X10_noSheet rfl rfl rfl (by decide +kernel) ⟨Nat.le_of_ble_eq_true rfl, Nat.le_of_ble_eq_true rfl⟩) ⟨gBlind, fun U hU hW => ⟨rfl, gPre.call hK hG hA hP hD hS [] (by decide) rfl U hU hW⟩⟩ rfl rfl hl.1 rfl (lv_room (Nat.le_of_ble_eq_true rfl)) dX10_sheet_1 ⟨Nat.le_of_ble_eq_true rfl, Nat.le_of_ble_eq_true rfl⟩) hA hP hD hS [] [0, 1, 2, 3] rfl rfl (by decide) (by decide) (fun H locs hP hD hS => ?_)
  have hP : va_P D vwCl [(z, .inr (9, [.int v_fault, .int v_size, .int v_upper, .int v_base, .ref z_isGood, .ref z_frozen, .ref z_sheetSize, .ref z_sheetLane, .ref z_sheet, .ref z_hands, .int v_wide, .long v_mask, .int v_paths, .ref z_seen, .ref z_work, .ref z_known, .ref z_next, .int v_come, .int v_isCounted, .ref z_counts, .ref z_acrosses, .ref z_failings, .int v_basis, .ref z_given, .int v_trace])), (z_sheetSize, .inl (cy 0, 4, .inl v_sheetSizec)), (z_sheetLane, .inl (cy 0, 4, .inl v_sheetLanec)), (z_sheet, .inl (cy 1, 160, .inr (.inl v_sheetc)))] H := hP
  have hD : va_D A [(z, .inr (9, [.int v_fault, .int v_size, .int v_upper, .int v_base, .ref z_isGood, .ref z_frozen, .ref z_sheetSize, .ref z_sheetLane, .ref z_sheet, .ref z_hands, .int v_wide, .long v_mask, .int v_paths, .ref z_seen, .ref z_work, .ref z_known, .ref z_next, .int v_come, .int v_isCounted, .ref z_counts, .ref z_acrosses, .ref z_failings, .int v_basis, .ref z_given, .int v_trace])), (z_sheetSize, .inl (cy 0, 4, .inl v_sheetSizec)), (z_sheetLane, .inl (cy 0, 4, .inl v_sheetLanec)), (z_sheet, .inl (cy 1, 160, .inr (.inl v_sheetc)))] := hD
  refine lv_if_eq (tgt := 13) hx hb dX10_sheet_4 (by decide) (fun c_3 => ?_) (fun c_3 => ?_)
  · have h := gx_t c_3 h
    refine lv_iload_n hx hb dX10_sheet_13 rfl (lv_at hl 2 rfl) ?_
    refine lv_i2l (v := (Int32.toInt64 x2)) hx hb dX10_sheet_14 rfl ?_
    refine lv_lconst (v := 0) hx hb dX10_sheet_15 (by decide) ?_
    refine lv_ldc2 hx hb hown k93 dX10_sheet_16 ?_
    obtain ⟨r_4, hc_5, h⟩ := gx_b h
    refine gCalli (wr := [(z, .inr (9, [.int v_fault, .int v_size, .int v_upper, .int v_base, .ref z_isGood, .ref z_frozen, .ref z_sheetSize, .ref z_sheetLane, .ref z_sheet, .ref z_hands, .int v_wide, .long v_mask, .int v_paths, .ref z_seen, .ref z_work, .ref z_known, .ref z_next, .int v_come, .int v_isCounted, .ref z_counts, .ref z_acrosses, .ref z_failings, .int v_basis, .ref z_given, .int v_trace])), (z_sheetSize, .inl (cy 0, 4, .inl v_sheetSizec)), (z_sheetLane, .inl (cy 0, 4, .inl v_sheetLanec)), (z_sheet, .inl (cy 1, 160, .inr (.inl v_sheetc)))]) (va_runS (As := [.long (Int32.toInt64 x2), .long 0, .long 2]) (rest := []) ⟨hx, hb, hml, hown, hts⟩ (c_X10_in l D cy t H.size K (Int32.toInt64 x2) 0 2 r_4 hc_5) (va_cwS 3 hts gX10_sheet_X10_in rfl rfl rfl (by decide +kernel) ⟨Nat.le_of_ble_eq_true rfl, Nat.le_of_ble_eq_true rfl⟩) ⟨gBlind, fun U hU hW => ⟨rfl, gPre.call hK hG hA hP hD hS [] (by decide) rfl U hU hW⟩⟩ rfl rfl hl.1 rfl (lv_room (Nat.le_of_ble_eq_true rfl)) dX10_sheet_19 ⟨Nat.le_of_ble_eq_true rfl, Nat.le_of_ble_eq_true rfl⟩) hA hP hD hS [] [0, 1, 2, 3] rfl rfl (by decide) (by decide) (fun H locs hP hD hS => ?_)
    have hP : va_P D vwCl [(z, .inr (9, [.int v_fault, .int v_size, .int v_upper, .int v_base, .ref z_isGood, .ref z_frozen, .ref z_sheetSize, .ref z_sheetLane, .ref z_sheet, .ref z_hands, .int v_wide, .long v_mask, .int v_paths, .ref z_seen, .ref z_work, .ref z_known, .ref z_next, .int v_come, .int v_isCounted, .ref z_counts, .ref z_acrosses, .ref z_failings, .int v_basis, .ref z_given, .int v_trace])), (z_sheetSize, .inl (cy 0, 4, .inl v_sheetSizec)), (z_sheetLane, .inl (cy 0, 4, .inl v_sheetLanec)), (z_sheet, .inl (cy 1, 160, .inr (.inl v_sheetc)))] H := hP
    have hD : va_D A [(z, .inr (9, [.int v_fault, .int v_size, .int v_upper, .int v_base, .ref z_isGood, .ref z_frozen, .ref z_sheetSize, .ref z_sheetLane, .ref z_sheet, .ref z_hands, .int v_wide, .long v_mask, .int v_paths, .ref z_seen, .ref z_work, .ref z_known, .ref z_next, .int v_come, .int v_isCounted, .ref z_counts, .ref z_acrosses, .ref z_failings, .int v_basis, .ref z_given, .int v_trace])), (z_sheetSize, .inl (cy 0, 4, .inl v_sheetSizec)), (z_sheetLane, .inl (cy 0, 4, .inl v_sheetLanec)), (z_sheet, .inl (cy 1, 160, .inr (.inl v_sheetc)))] := hD
    refine lv_if_eq (tgt := 31) hx hb dX10_sheet_22 (by decide) (fun c_6 => ?_) (fun c_6 => ?_)
    · have h := gx_t c_6 h
      refine lv_aload_n hx hb dX10_sheet_31 rfl (lv_at hl 0 rfl) ?_
      refine lv_bipush (v := (-2)) hx hb dX10_sheet_32 (by decide) ?_
      obtain ⟨⟨r_7, o_8⟩, hc_9, h⟩ := gx_b h
      refine gCalli (wr := [(z_sheetSize, .inl (cy 0, 4, .inl v_sheetSizec)), (z_sheetLane, .inl (cy 0, 4, .inl v_sheetLanec)), (z_sheet, .inl (cy 1, 160, .inr (.inl v_sheetc)))]) (va_runV (As := [.int (-2)]) (rest := []) ⟨hx, hb, hml, hown, hts⟩ (c_X10_refused l D cy t H.size K z z_isGood z_frozen z_sheetSize z_sheetLane z_sheet z_hands z_seen z_work z_known z_next z_counts z_acrosses z_failings z_given v_fault v_size v_upper v_base v_wide v_mask v_paths v_come v_isCounted v_basis v_trace (-2) r_7 o_8 hc_9) (cwV 1 hts gX10_sheet_X10_refused rfl rfl rfl (by decide +kernel) ⟨Nat.le_of_ble_eq_true rfl, Nat.le_of_ble_eq_true rfl⟩) ⟨gBlind, va_recv hK hP (ci := 9) (q0 := 0) rfl rfl, fun U hU hW => ⟨rfl, gPre.call hK hG hA hP hD hS [0] (by decide) rfl U hU hW⟩⟩ rfl rfl hl.1 rfl (lv_room (Nat.le_of_ble_eq_true rfl)) dX10_sheet_34 ⟨Nat.le_of_ble_eq_true rfl, Nat.le_of_ble_eq_true rfl⟩) hA hP hD hS [0] [1, 2, 3] rfl rfl (by decide) (by decide) (fun H locs hP hD hS => ?_)
      have hP := hP.sub (ws' := [(z, .inr (9, [.int o_8, .int v_size, .int v_upper, .int v_base, .ref z_isGood, .ref z_frozen, .ref z_sheetSize, .ref z_sheetLane, .ref z_sheet, .ref z_hands, .int v_wide, .long v_mask, .int v_paths, .ref z_seen, .ref z_work, .ref z_known, .ref z_next, .int v_come, .int v_isCounted, .ref z_counts, .ref z_acrosses, .ref z_failings, .int v_basis, .ref z_given, .int v_trace])), (z_sheetSize, .inl (cy 0, 4, .inl v_sheetSizec)), (z_sheetLane, .inl (cy 0, 4, .inl v_sheetLanec)), (z_sheet, .inl (cy 1, 160, .inr (.inl v_sheetc)))]) [3, 0, 1, 2] rfl
      have hD := hD.sub (ws' := [(z, .inr (9, [.int o_8, .int v_size, .int v_upper, .int v_base, .ref z_isGood, .ref z_frozen, .ref z_sheetSize, .ref z_sheetLane, .ref z_sheet, .ref z_hands, .int v_wide, .long v_mask, .int v_paths, .ref z_seen, .ref z_work, .ref z_known, .ref z_next, .int v_come, .int v_isCounted, .ref z_counts, .ref z_acrosses, .ref z_failings, .int v_basis, .ref z_given, .int v_trace])), (z_sheetSize, .inl (cy 0, 4, .inl v_sheetSizec)), (z_sheetLane, .inl (cy 0, 4, .inl v_sheetLanec)), (z_sheet, .inl (cy 1, 160, .inr (.inl v_sheetc)))]) [3, 0, 1, 2] (by decide) rfl
      cases h
      exact gRi hx hb hr hlocks hP hD hS dX10_sheet_37
    · have h := gx_f c_6 h
      refine lv_iload_n hx hb dX10_sheet_25 rfl (lv_at hl 3 rfl) ?_
      refine lv_bipush (v := 40) hx hb dX10_sheet_26 (by decide) ?_
      refine lv_icmp_le (tgt := 38) hx hb dX10_sheet_28 (by decide) (fun c_10 => ?_) (fun c_10 => ?_)
      · have h := gx_t c_10 h
        refine lv_iload_n hx hb dX10_sheet_38 rfl (lv_at hl 3 rfl) ?_
        refine lv_if_ge (tgt := 48) hx hb dX10_sheet_39 (by decide) (fun c_11 => ?_) (fun c_11 => ?_)
        · have h := gx_t c_11 h
          refine lv_aload_n hx hb dX10_sheet_48 rfl (lv_at hl 0 rfl) ?_
          refine va_get (D := D) (ci := 9) (v := .ref z_sheetSize) (C := RX10) (T := TX10) (N := 25) hx hb hts iX10 hown hK hP 0 rfl rfl 6 (by decide) f17 (fun _ h9 => h9) rfl dX10_sheet_49 ?_
          refine lv_iload_n hx hb dX10_sheet_52 rfl (lv_at hl 1 rfl) ?_
          refine lv_iload_n hx hb dX10_sheet_53 rfl (lv_at hl 3 rfl) ?_
          obtain ⟨hi_, h⟩ := gx_ix h
          refine va_iast hx hb hK hP hD hS 1 0 rfl rfl hi_ dX10_sheet_54 (fun H locs hP hD hS => ?_)
          obtain ⟨w_12, e_w_12⟩ : ∃ y : Nat → Int32, y = (upd v_sheetSizec (Int32.toNatClampNeg x1) x3) := ⟨_, rfl⟩
          have h := gx_let e_w_12 h
          have hP : va_P D vwCl [(z, .inr (9, [.int v_fault, .int v_size, .int v_upper, .int v_base, .ref z_isGood, .ref z_frozen, .ref z_sheetSize, .ref z_sheetLane, .ref z_sheet, .ref z_hands, .int v_wide, .long v_mask, .int v_paths, .ref z_seen, .ref z_work, .ref z_known, .ref z_next, .int v_come, .int v_isCounted, .ref z_counts, .ref z_acrosses, .ref z_failings, .int v_basis, .ref z_given, .int v_trace])), (z_sheetSize, .inl (cy 0, 4, .inl (upd v_sheetSizec (Int32.toNatClampNeg x1) x3))), (z_sheetLane, .inl (cy 0, 4, .inl v_sheetLanec)), (z_sheet, .inl (cy 1, 160, .inr (.inl v_sheetc)))] H := hP
          have hD : va_D A [(z, .inr (9, [.int v_fault, .int v_size, .int v_upper, .int v_base, .ref z_isGood, .ref z_frozen, .ref z_sheetSize, .ref z_sheetLane, .ref z_sheet, .ref z_hands, .int v_wide, .long v_mask, .int v_paths, .ref z_seen, .ref z_work, .ref z_known, .ref z_next, .int v_come, .int v_isCounted, .ref z_counts, .ref z_acrosses, .ref z_failings, .int v_basis, .ref z_given, .int v_trace])), (z_sheetSize, .inl (cy 0, 4, .inl (upd v_sheetSizec (Int32.toNatClampNeg x1) x3))), (z_sheetLane, .inl (cy 0, 4, .inl v_sheetLanec)), (z_sheet, .inl (cy 1, 160, .inr (.inl v_sheetc)))] := hD
          rw [← e_w_12] at hP hD
          refine lv_aload_n hx hb dX10_sheet_55 rfl (lv_at hl 0 rfl) ?_
          refine va_get (D := D) (ci := 9) (v := .ref z_sheetLane) (C := RX10) (T := TX10) (N := 25) hx hb hts iX10 hown hK hP 0 rfl rfl 7 (by decide) f20 (fun _ h9 => h9) rfl dX10_sheet_56 ?_
          refine lv_iload_n hx hb dX10_sheet_59 rfl (lv_at hl 1 rfl) ?_
          refine lv_iload_n hx hb dX10_sheet_60 rfl (lv_at hl 2 rfl) ?_
          obtain ⟨hi_, h⟩ := gx_ix h
          refine va_iast hx hb hK hP hD hS 2 0 rfl rfl hi_ dX10_sheet_61 (fun H locs hP hD hS => ?_)
          obtain ⟨w_13, e_w_13⟩ : ∃ y : Nat → Int32, y = (upd v_sheetLanec (Int32.toNatClampNeg x1) x2) := ⟨_, rfl⟩
          have h := gx_let e_w_13 h
          have hP : va_P D vwCl [(z, .inr (9, [.int v_fault, .int v_size, .int v_upper, .int v_base, .ref z_isGood, .ref z_frozen, .ref z_sheetSize, .ref z_sheetLane, .ref z_sheet, .ref z_hands, .int v_wide, .long v_mask, .int v_paths, .ref z_seen, .ref z_work, .ref z_known, .ref z_next, .int v_come, .int v_isCounted, .ref z_counts, .ref z_acrosses, .ref z_failings, .int v_basis, .ref z_given, .int v_trace])), (z_sheetSize, .inl (cy 0, 4, .inl w_12)), (z_sheetLane, .inl (cy 0, 4, .inl (upd v_sheetLanec (Int32.toNatClampNeg x1) x2))), (z_sheet, .inl (cy 1, 160, .inr (.inl v_sheetc)))] H := hP
          have hD : va_D A [(z, .inr (9, [.int v_fault, .int v_size, .int v_upper, .int v_base, .ref z_isGood, .ref z_frozen, .ref z_sheetSize, .ref z_sheetLane, .ref z_sheet, .ref z_hands, .int v_wide, .long v_mask, .int v_paths, .ref z_seen, .ref z_work, .ref z_known, .ref z_next, .int v_come, .int v_isCounted, .ref z_counts, .ref z_acrosses, .ref z_failings, .int v_basis, .ref z_given, .int v_trace])), (z_sheetSize, .inl (cy 0, 4, .inl w_12)), (z_sheetLane, .inl (cy 0, 4, .inl (upd v_sheetLanec (Int32.toNatClampNeg x1) x2))), (z_sheet, .inl (cy 1, 160, .inr (.inl v_sheetc)))] := hD
          rw [← e_w_13] at hP hD
          refine lv_iconst (v := 0) hx hb dX10_sheet_62 (by decide) ?_
          refine lv_istore (lv' := [(4, .int 0), (0, .ref z), (1, .int x1), (2, .int x2), (3, .int x3)]) hx hb dX10_sheet_63 hl (by decide) rfl (fun ls hl => ?_)
          obtain ⟨⟨o_14, o_15⟩, hL_16, h⟩ := gx_b h
          refine gJoin (Pj := fun H locs ls => va_P D vwCl [(z, .inr (9, [.int v_fault, .int v_size, .int v_upper, .int v_base, .ref z_isGood, .ref z_frozen, .ref z_sheetSize, .ref z_sheetLane, .ref z_sheet, .ref z_hands, .int v_wide, .long v_mask, .int v_paths, .ref z_seen, .ref z_work, .ref z_known, .ref z_next, .int v_come, .int v_isCounted, .ref z_counts, .ref z_acrosses, .ref z_failings, .int v_basis, .ref z_given, .int v_trace])), (z_sheetSize, .inl (cy 0, 4, .inl w_12)), (z_sheetLane, .inl (cy 0, 4, .inl w_13)), (z_sheet, .inl (cy 1, 160, .inr (.inl o_15)))] H ∧ va_D A [(z, .inr (9, [.int v_fault, .int v_size, .int v_upper, .int v_base, .ref z_isGood, .ref z_frozen, .ref z_sheetSize, .ref z_sheetLane, .ref z_sheet, .ref z_hands, .int v_wide, .long v_mask, .int v_paths, .ref z_seen, .ref z_work, .ref z_known, .ref z_next, .int v_come, .int v_isCounted, .ref z_counts, .ref z_acrosses, .ref z_failings, .int v_basis, .ref z_given, .int v_trace])), (z_sheetSize, .inl (cy 0, 4, .inl w_12)), (z_sheetLane, .inl (cy 0, 4, .inl w_13)), (z_sheet, .inl (cy 1, 160, .inr (.inl o_15)))] ∧ va_S A s.heap H locs ∧ lv_has ls 5 [(4, .int o_14), (0, .ref z), (1, .int x1), (2, .int x2), (3, .int x3)]) (pcM := 90) (st := []) ?_ (fun hJ90 => ?_)
          · intro H locs ls hp_
            obtain ⟨hP, hD, hS, hl⟩ := hp_
            clear hL_16
            refine lv_aload_n hx hb dX10_sheet_90 rfl (lv_at hl 1 rfl) ?_
            refine lv_iconst (v := 1) hx hb dX10_sheet_91 (by decide) ?_
            obtain ⟨⟨r_17, o_18⟩, hc_19, h⟩ := gx_b h
            refine gCalli (wr := [(z_sheetSize, .inl (cy 0, 4, .inl w_12)), (z_sheetLane, .inl (cy 0, 4, .inl w_13)), (z_sheet, .inl (cy 1, 160, .inr (.inl o_15)))]) (va_runV (As := [.int 1]) (rest := []) ⟨hx, hb, hml, hown, hts⟩ (c_X10_refused l D cy t H.size K z z_isGood z_frozen z_sheetSize z_sheetLane z_sheet z_hands z_seen z_work z_known z_next z_counts z_acrosses z_failings z_given v_fault v_size v_upper v_base v_wide v_mask v_paths v_come v_isCounted v_basis v_trace 1 r_17 o_18 hc_19) (cwV 1 hts gX10_sheet_X10_refused rfl rfl rfl (by decide +kernel) ⟨Nat.le_of_ble_eq_true rfl, Nat.le_of_ble_eq_true rfl⟩) ⟨gBlind, va_recv hK hP (ci := 9) (q0 := 0) rfl rfl, fun U hU hW => ⟨rfl, gPre.call hK hG hA hP hD hS [0] (by decide) rfl U hU hW⟩⟩ rfl rfl hl.1 rfl (lv_room (Nat.le_of_ble_eq_true rfl)) dX10_sheet_92 ⟨Nat.le_of_ble_eq_true rfl, Nat.le_of_ble_eq_true rfl⟩) hA hP hD hS [0] [1, 2, 3] rfl rfl (by decide) (by decide) (fun H locs hP hD hS => ?_)
            have hP := hP.sub (ws' := [(z, .inr (9, [.int o_18, .int v_size, .int v_upper, .int v_base, .ref z_isGood, .ref z_frozen, .ref z_sheetSize, .ref z_sheetLane, .ref z_sheet, .ref z_hands, .int v_wide, .long v_mask, .int v_paths, .ref z_seen, .ref z_work, .ref z_known, .ref z_next, .int v_come, .int v_isCounted, .ref z_counts, .ref z_acrosses, .ref z_failings, .int v_basis, .ref z_given, .int v_trace])), (z_sheetSize, .inl (cy 0, 4, .inl w_12)), (z_sheetLane, .inl (cy 0, 4, .inl w_13)), (z_sheet, .inl (cy 1, 160, .inr (.inl o_15)))]) [3, 0, 1, 2] rfl
            have hD := hD.sub (ws' := [(z, .inr (9, [.int o_18, .int v_size, .int v_upper, .int v_base, .ref z_isGood, .ref z_frozen, .ref z_sheetSize, .ref z_sheetLane, .ref z_sheet, .ref z_hands, .int v_wide, .long v_mask, .int v_paths, .ref z_seen, .ref z_work, .ref z_known, .ref z_next, .int v_come, .int v_isCounted, .ref z_counts, .ref z_acrosses, .ref z_failings, .int v_basis, .ref z_given, .int v_trace])), (z_sheetSize, .inl (cy 0, 4, .inl w_12)), (z_sheetLane, .inl (cy 0, 4, .inl w_13)), (z_sheet, .inl (cy 1, 160, .inr (.inl o_15)))]) [3, 0, 1, 2] (by decide) rfl
            cases h
            exact gRi hx hb hr hlocks hP hD hS dX10_sheet_95
          · refine gLoop (Hy := fun k_ v_ => fL_X10_sheet_65 K x1 x3 k_ v_ = some (o_14, o_15)) (Pl := fun (v_ : Int32 × (Nat → Int64)) H locs ls => match v_ with | (a_20, a_21) => va_P D vwCl [(z, .inr (9, [.int v_fault, .int v_size, .int v_upper, .int v_base, .ref z_isGood, .ref z_frozen, .ref z_sheetSize, .ref z_sheetLane, .ref z_sheet, .ref z_hands, .int v_wide, .long v_mask, .int v_paths, .ref z_seen, .ref z_work, .ref z_known, .ref z_next, .int v_come, .int v_isCounted, .ref z_counts, .ref z_acrosses, .ref z_failings, .int v_basis, .ref z_given, .int v_trace])), (z_sheetSize, .inl (cy 0, 4, .inl w_12)), (z_sheetLane, .inl (cy 0, 4, .inl w_13)), (z_sheet, .inl (cy 1, 160, .inr (.inl a_21)))] H ∧ va_D A [(z, .inr (9, [.int v_fault, .int v_size, .int v_upper, .int v_base, .ref z_isGood, .ref z_frozen, .ref z_sheetSize, .ref z_sheetLane, .ref z_sheet, .ref z_hands, .int v_wide, .long v_mask, .int v_paths, .ref z_seen, .ref z_work, .ref z_known, .ref z_next, .int v_come, .int v_isCounted, .ref z_counts, .ref z_acrosses, .ref z_failings, .int v_basis, .ref z_given, .int v_trace])), (z_sheetSize, .inl (cy 0, 4, .inl w_12)), (z_sheetLane, .inl (cy 0, 4, .inl w_13)), (z_sheet, .inl (cy 1, 160, .inr (.inl a_21)))] ∧ va_S A s.heap H locs ∧ lv_has ls 5 [(4, .int a_20), (0, .ref z), (1, .int x1), (2, .int x2), (3, .int x3)]) (pcH := 65) (fun _ q_ => by cases q_) ?_ K (0, v_sheetc) hL_16 ⟨hP, hD, hS, hl⟩
            clear hL_16 h hP hD hS hl
            intro k_ ih ⟨a_20, a_21⟩ H locs ls h hp_
            obtain ⟨hP, hD, hS, hl⟩ := hp_
            have hP : va_P D vwCl [(z, .inr (9, [.int v_fault, .int v_size, .int v_upper, .int v_base, .ref z_isGood, .ref z_frozen, .ref z_sheetSize, .ref z_sheetLane, .ref z_sheet, .ref z_hands, .int v_wide, .long v_mask, .int v_paths, .ref z_seen, .ref z_work, .ref z_known, .ref z_next, .int v_come, .int v_isCounted, .ref z_counts, .ref z_acrosses, .ref z_failings, .int v_basis, .ref z_given, .int v_trace])), (z_sheetSize, .inl (cy 0, 4, .inl w_12)), (z_sheetLane, .inl (cy 0, 4, .inl w_13)), (z_sheet, .inl (cy 1, 160, .inr (.inl a_21)))] H := hP
            have hD : va_D A [(z, .inr (9, [.int v_fault, .int v_size, .int v_upper, .int v_base, .ref z_isGood, .ref z_frozen, .ref z_sheetSize, .ref z_sheetLane, .ref z_sheet, .ref z_hands, .int v_wide, .long v_mask, .int v_paths, .ref z_seen, .ref z_work, .ref z_known, .ref z_next, .int v_come, .int v_isCounted, .ref z_counts, .ref z_acrosses, .ref z_failings, .int v_basis, .ref z_given, .int v_trace])), (z_sheetSize, .inl (cy 0, 4, .inl w_12)), (z_sheetLane, .inl (cy 0, 4, .inl w_13)), (z_sheet, .inl (cy 1, 160, .inr (.inl a_21)))] := hD
            have hl : lv_has ls 5 [(4, .int a_20), (0, .ref z), (1, .int x1), (2, .int x2), (3, .int x3)] := hl
            change fL_X10_sheet_65 K x1 x3 (k_ + 1) (a_20, a_21) = _ at h
            rw [fL_X10_sheet_65] at h
            refine lv_iload hx hb dX10_sheet_65 (lv_at hl 0 rfl) ?_
            refine lv_iload_n hx hb dX10_sheet_67 rfl (lv_at hl 4 rfl) ?_
            refine lv_icmp_ge (tgt := 90) hx hb dX10_sheet_68 (by decide) (fun c_22 => ?_) (fun c_22 => ?_)
            · have h := gx_t c_22 h
              have hl := lv_sub (l' := [(4, .int a_20), (0, .ref z), (1, .int x1), (2, .int x2), (3, .int x3)]) hl [0, 1, 2, 3, 4] rfl
              cases h
              exact hJ90 _ _ _ ⟨hP, hD, hS, hl⟩
            · have h := gx_f c_22 h
              refine lv_aload_n hx hb dX10_sheet_71 rfl (lv_at hl 1 rfl) ?_
              refine va_get (D := D) (ci := 9) (v := .ref z_sheet) (C := RX10) (T := TX10) (N := 25) hx hb hts iX10 hown hK hP 0 rfl rfl 8 (by decide) f23 (fun _ h9 => h9) rfl dX10_sheet_72 ?_
              refine lv_bipush (v := 40) hx hb dX10_sheet_75 (by decide) ?_
              refine lv_iload_n hx hb dX10_sheet_77 rfl (lv_at hl 2 rfl) ?_
              refine lv_imul hx hb dX10_sheet_78 ?_
              refine lv_iload hx hb dX10_sheet_79 (lv_at hl 0 rfl) ?_
              refine lv_iadd hx hb dX10_sheet_81 ?_
              refine lv_lconst (v := 0) hx hb dX10_sheet_82 (by decide) ?_
              obtain ⟨hi_, h⟩ := gx_ix h
              refine va_last hx hb hK hP hD hS 3 1 rfl rfl hi_ dX10_sheet_83 (fun H locs hP hD hS => ?_)
              obtain ⟨w_23, e_w_23⟩ : ∃ y : Nat → Int64, y = (vp_updL a_21 (Int32.toNatClampNeg ((40 * x1) + a_20)) 0) := ⟨_, rfl⟩
              have h := gx_let e_w_23 h
              have hP : va_P D vwCl [(z, .inr (9, [.int v_fault, .int v_size, .int v_upper, .int v_base, .ref z_isGood, .ref z_frozen, .ref z_sheetSize, .ref z_sheetLane, .ref z_sheet, .ref z_hands, .int v_wide, .long v_mask, .int v_paths, .ref z_seen, .ref z_work, .ref z_known, .ref z_next, .int v_come, .int v_isCounted, .ref z_counts, .ref z_acrosses, .ref z_failings, .int v_basis, .ref z_given, .int v_trace])), (z_sheetSize, .inl (cy 0, 4, .inl w_12)), (z_sheetLane, .inl (cy 0, 4, .inl w_13)), (z_sheet, .inl (cy 1, 160, .inr (.inl (vp_updL a_21 (Int32.toNatClampNeg ((40 * x1) + a_20)) 0))))] H := hP
              have hD : va_D A [(z, .inr (9, [.int v_fault, .int v_size, .int v_upper, .int v_base, .ref z_isGood, .ref z_frozen, .ref z_sheetSize, .ref z_sheetLane, .ref z_sheet, .ref z_hands, .int v_wide, .long v_mask, .int v_paths, .ref z_seen, .ref z_work, .ref z_known, .ref z_next, .int v_come, .int v_isCounted, .ref z_counts, .ref z_acrosses, .ref z_failings, .int v_basis, .ref z_given, .int v_trace])), (z_sheetSize, .inl (cy 0, 4, .inl w_12)), (z_sheetLane, .inl (cy 0, 4, .inl w_13)), (z_sheet, .inl (cy 1, 160, .inr (.inl (vp_updL a_21 (Int32.toNatClampNeg ((40 * x1) + a_20)) 0))))] := hD
              rw [← e_w_23] at hP hD
              obtain ⟨y4_24, e_y4_24⟩ : ∃ y : Int32, y = (a_20 + 1) := ⟨_, rfl⟩
              have h := gx_let e_y4_24 h
              refine lv_iinc (v := y4_24) (lv' := [(4, .int y4_24), (0, .ref z), (1, .int x1), (2, .int x2), (3, .int x3)]) hx hb dX10_sheet_84 hl (k := 0) rfl (by rw [e_y4_24]; rfl) (by decide) rfl (fun ls hl => ?_)
              refine lv_goto (tgt := 65) hx hb dX10_sheet_87 (by decide) ?_
              exact ih (y4_24, w_23) _ _ _ h ⟨hP, hD, hS, lv_sub (l' := [(4, .int y4_24), (0, .ref z), (1, .int x1), (2, .int x2), (3, .int x3)]) hl [0, 1, 2, 3, 4] rfl⟩
        · have h := gx_f c_11 h
          refine lv_aload_n hx hb dX10_sheet_42 rfl (lv_at hl 0 rfl) ?_
          refine lv_iconst (v := 4) hx hb dX10_sheet_43 (by decide) ?_
          obtain ⟨⟨r_25, o_26⟩, hc_27, h⟩ := gx_b h
          refine gCalli (wr := [(z_sheetSize, .inl (cy 0, 4, .inl v_sheetSizec)), (z_sheetLane, .inl (cy 0, 4, .inl v_sheetLanec)), (z_sheet, .inl (cy 1, 160, .inr (.inl v_sheetc)))]) (va_runV (As := [.int 4]) (rest := []) ⟨hx, hb, hml, hown, hts⟩ (c_X10_failed l D cy t H.size K z z_isGood z_frozen z_sheetSize z_sheetLane z_sheet z_hands z_seen z_work z_known z_next z_counts z_acrosses z_failings z_given v_fault v_size v_upper v_base v_wide v_mask v_paths v_come v_isCounted v_basis v_trace 4 r_25 o_26 hc_27) (cwV 1 hts gX10_sheet_X10_failed rfl rfl rfl (by decide +kernel) ⟨Nat.le_of_ble_eq_true rfl, Nat.le_of_ble_eq_true rfl⟩) ⟨gBlind, va_recv hK hP (ci := 9) (q0 := 0) rfl rfl, fun U hU hW => ⟨rfl, gPre.call hK hG hA hP hD hS [0] (by decide) rfl U hU hW⟩⟩ rfl rfl hl.1 rfl (lv_room (Nat.le_of_ble_eq_true rfl)) dX10_sheet_44 ⟨Nat.le_of_ble_eq_true rfl, Nat.le_of_ble_eq_true rfl⟩) hA hP hD hS [0] [1, 2, 3] rfl rfl (by decide) (by decide) (fun H locs hP hD hS => ?_)
          have hP := hP.sub (ws' := [(z, .inr (9, [.int o_26, .int v_size, .int v_upper, .int v_base, .ref z_isGood, .ref z_frozen, .ref z_sheetSize, .ref z_sheetLane, .ref z_sheet, .ref z_hands, .int v_wide, .long v_mask, .int v_paths, .ref z_seen, .ref z_work, .ref z_known, .ref z_next, .int v_come, .int v_isCounted, .ref z_counts, .ref z_acrosses, .ref z_failings, .int v_basis, .ref z_given, .int v_trace])), (z_sheetSize, .inl (cy 0, 4, .inl v_sheetSizec)), (z_sheetLane, .inl (cy 0, 4, .inl v_sheetLanec)), (z_sheet, .inl (cy 1, 160, .inr (.inl v_sheetc)))]) [3, 0, 1, 2] rfl
          have hD := hD.sub (ws' := [(z, .inr (9, [.int o_26, .int v_size, .int v_upper, .int v_base, .ref z_isGood, .ref z_frozen, .ref z_sheetSize, .ref z_sheetLane, .ref z_sheet, .ref z_hands, .int v_wide, .long v_mask, .int v_paths, .ref z_seen, .ref z_work, .ref z_known, .ref z_next, .int v_come, .int v_isCounted, .ref z_counts, .ref z_acrosses, .ref z_failings, .int v_basis, .ref z_given, .int v_trace])), (z_sheetSize, .inl (cy 0, 4, .inl v_sheetSizec)), (z_sheetLane, .inl (cy 0, 4, .inl v_sheetLanec)), (z_sheet, .inl (cy 1, 160, .inr (.inl v_sheetc)))]) [3, 0, 1, 2] (by decide) rfl
          cases h
          exact gRi hx hb hr hlocks hP hD hS dX10_sheet_47
      · have h := gx_f c_10 h
        refine lv_aload_n hx hb dX10_sheet_31 rfl (lv_at hl 0 rfl) ?_
        refine lv_bipush (v := (-2)) hx hb dX10_sheet_32 (by decide) ?_
        obtain ⟨⟨r_28, o_29⟩, hc_30, h⟩ := gx_b h
        refine gCalli (wr := [(z_sheetSize, .inl (cy 0, 4, .inl v_sheetSizec)), (z_sheetLane, .inl (cy 0, 4, .inl v_sheetLanec)), (z_sheet, .inl (cy 1, 160, .inr (.inl v_sheetc)))]) (va_runV (As := [.int (-2)]) (rest := []) ⟨hx, hb, hml, hown, hts⟩ (c_X10_refused l D cy t H.size K z z_isGood z_frozen z_sheetSize z_sheetLane z_sheet z_hands z_seen z_work z_known z_next z_counts z_acrosses z_failings z_given v_fault v_size v_upper v_base v_wide v_mask v_paths v_come v_isCounted v_basis v_trace (-2) r_28 o_29 hc_30) (cwV 1 hts gX10_sheet_X10_refused rfl rfl rfl (by decide +kernel) ⟨Nat.le_of_ble_eq_true rfl, Nat.le_of_ble_eq_true rfl⟩) ⟨gBlind, va_recv hK hP (ci := 9) (q0 := 0) rfl rfl, fun U hU hW => ⟨rfl, gPre.call hK hG hA hP hD hS [0] (by decide) rfl U hU hW⟩⟩ rfl rfl hl.1 rfl (lv_room (Nat.le_of_ble_eq_true rfl)) dX10_sheet_34 ⟨Nat.le_of_ble_eq_true rfl, Nat.le_of_ble_eq_true rfl⟩) hA hP hD hS [0] [1, 2, 3] rfl rfl (by decide) (by decide) (fun H locs hP hD hS => ?_)
        have hP := hP.sub (ws' := [(z, .inr (9, [.int o_29, .int v_size, .int v_upper, .int v_base, .ref z_isGood, .ref z_frozen, .ref z_sheetSize, .ref z_sheetLane, .ref z_sheet, .ref z_hands, .int v_wide, .long v_mask, .int v_paths, .ref z_seen, .ref z_work, .ref z_known, .ref z_next, .int v_come, .int v_isCounted, .ref z_counts, .ref z_acrosses, .ref z_failings, .int v_basis, .ref z_given, .int v_trace])), (z_sheetSize, .inl (cy 0, 4, .inl v_sheetSizec)), (z_sheetLane, .inl (cy 0, 4, .inl v_sheetLanec)), (z_sheet, .inl (cy 1, 160, .inr (.inl v_sheetc)))]) [3, 0, 1, 2] rfl
        have hD := hD.sub (ws' := [(z, .inr (9, [.int o_29, .int v_size, .int v_upper, .int v_base, .ref z_isGood, .ref z_frozen, .ref z_sheetSize, .ref z_sheetLane, .ref z_sheet, .ref z_hands, .int v_wide, .long v_mask, .int v_paths, .ref z_seen, .ref z_work, .ref z_known, .ref z_next, .int v_come, .int v_isCounted, .ref z_counts, .ref z_acrosses, .ref z_failings, .int v_basis, .ref z_given, .int v_trace])), (z_sheetSize, .inl (cy 0, 4, .inl v_sheetSizec)), (z_sheetLane, .inl (cy 0, 4, .inl v_sheetLanec)), (z_sheet, .inl (cy 1, 160, .inr (.inl v_sheetc)))]) [3, 0, 1, 2] (by decide) rfl
        cases h
        exact gRi hx hb hr hlocks hP hD hS dX10_sheet_37
  · have h := gx_f c_3 h
    refine lv_aload_n hx hb dX10_sheet_7 rfl (lv_at hl 0 rfl) ?_
    refine lv_iconst (v := (-1)) hx hb dX10_sheet_8 (by decide) ?_
    obtain ⟨⟨r_31, o_32⟩, hc_33, h⟩ := gx_b h
    refine gCalli (wr := [(z_sheetSize, .inl (cy 0, 4, .inl v_sheetSizec)), (z_sheetLane, .inl (cy 0, 4, .inl v_sheetLanec)), (z_sheet, .inl (cy 1, 160, .inr (.inl v_sheetc)))]) (va_runV (As := [.int (-1)]) (rest := []) ⟨hx, hb, hml, hown, hts⟩ (c_X10_refused l D cy t H.size K z z_isGood z_frozen z_sheetSize z_sheetLane z_sheet z_hands z_seen z_work z_known z_next z_counts z_acrosses z_failings z_given v_fault v_size v_upper v_base v_wide v_mask v_paths v_come v_isCounted v_basis v_trace (-1) r_31 o_32 hc_33) (cwV 1 hts gX10_sheet_X10_refused rfl rfl rfl (by decide +kernel) ⟨Nat.le_of_ble_eq_true rfl, Nat.le_of_ble_eq_true rfl⟩) ⟨gBlind, va_recv hK hP (ci := 9) (q0 := 0) rfl rfl, fun U hU hW => ⟨rfl, gPre.call hK hG hA hP hD hS [0] (by decide) rfl U hU hW⟩⟩ rfl rfl hl.1 rfl (lv_room (Nat.le_of_ble_eq_true rfl)) dX10_sheet_9 ⟨Nat.le_of_ble_eq_true rfl, Nat.le_of_ble_eq_true rfl⟩) hA hP hD hS [0] [1, 2, 3] rfl rfl (by decide) (by decide) (fun H locs hP hD hS => ?_)
    have hP := hP.sub (ws' := [(z, .inr (9, [.int o_32, .int v_size, .int v_upper, .int v_base, .ref z_isGood, .ref z_frozen, .ref z_sheetSize, .ref z_sheetLane, .ref z_sheet, .ref z_hands, .int v_wide, .long v_mask, .int v_paths, .ref z_seen, .ref z_work, .ref z_known, .ref z_next, .int v_come, .int v_isCounted, .ref z_counts, .ref z_acrosses, .ref z_failings, .int v_basis, .ref z_given, .int v_trace])), (z_sheetSize, .inl (cy 0, 4, .inl v_sheetSizec)), (z_sheetLane, .inl (cy 0, 4, .inl v_sheetLanec)), (z_sheet, .inl (cy 1, 160, .inr (.inl v_sheetc)))]) [3, 0, 1, 2] rfl
    have hD := hD.sub (ws' := [(z, .inr (9, [.int o_32, .int v_size, .int v_upper, .int v_base, .ref z_isGood, .ref z_frozen, .ref z_sheetSize, .ref z_sheetLane, .ref z_sheet, .ref z_hands, .int v_wide, .long v_mask, .int v_paths, .ref z_seen, .ref z_work, .ref z_known, .ref z_next, .int v_come, .int v_isCounted, .ref z_counts, .ref z_acrosses, .ref z_failings, .int v_basis, .ref z_given, .int v_trace])), (z_sheetSize, .inl (cy 0, 4, .inl v_sheetSizec)), (z_sheetLane, .inl (cy 0, 4, .inl v_sheetLanec)), (z_sheet, .inl (cy 1, 160, .inr (.inl v_sheetc)))]) [3, 0, 1, 2] (by decide) rfl
    cases h
    exact gRi hx hb hr hlocks hP hD hS dX10_sheet_12

def f_X10_lose (K : Nat) (x1 : Int32) (v_sheetSizec : Nat → Int32) : Option (Int32 × (Nat → Int32)) :=
  Option.bind (f_X10_noSheet K x1) fun r_1 =>
  if r_1 = 0 then
    gIx x1 4 <|
    Option.bind (α := Int32) (
      if 0 ≤ (v_sheetSizec (Int32.toNatClampNeg x1)) then
        some 1
      else
        some 0) fun ms_3 =>
    gIx x1 4 <|
    gLet (upd v_sheetSizec (Int32.toNatClampNeg x1) (-1)) fun w_5 =>
    some (ms_3, w_5)
  else
    some ((-1), v_sheetSizec)
set_option maxHeartbeats 4000000 in
set_option maxRecDepth 100000 in
theorem c_X10_lose (l : Launch) (D : va_G) (cy : Nat → ClassId) (t sz K : Nat) (z : Nat) (z_sheetSize : Nat) (z_isGood : Nat) (z_frozen : Nat) (z_sheetLane : Nat) (z_sheet : Nat) (z_hands : Nat) (z_seen : Nat) (z_work : Nat) (z_known : Nat) (z_next : Nat) (z_counts : Nat) (z_acrosses : Nat) (z_failings : Nat) (z_given : Nat) (v_fault : Int32) (v_size : Int32) (v_upper : Int32) (v_base : Int32) (v_wide : Int32) (v_mask : Int64) (v_paths : Int32) (v_come : Int32) (v_isCounted : Int32) (v_basis : Int32) (v_trace : Int32) (v_sheetSizec : Nat → Int32) (x1 : Int32) (r_ : Int32) (o_v_sheetSizec : Nat → Int32) (h : f_X10_lose K x1 v_sheetSizec = some (r_, o_v_sheetSizec)) : gMi l D cy t sz yX10_lose wsX10_lose 2 45 [.ref z, .int x1] [(z, .inr (9, [.int v_fault, .int v_size, .int v_upper, .int v_base, .ref z_isGood, .ref z_frozen, .ref z_sheetSize, .ref z_sheetLane, .ref z_sheet, .ref z_hands, .int v_wide, .long v_mask, .int v_paths, .ref z_seen, .ref z_work, .ref z_known, .ref z_next, .int v_come, .int v_isCounted, .ref z_counts, .ref z_acrosses, .ref z_failings, .int v_basis, .ref z_given, .int v_trace])), (z_sheetSize, .inl (cy 0, 4, .inl v_sheetSizec))] r_ [(z, .inr (9, [.int v_fault, .int v_size, .int v_upper, .int v_base, .ref z_isGood, .ref z_frozen, .ref z_sheetSize, .ref z_sheetLane, .ref z_sheet, .ref z_hands, .int v_wide, .long v_mask, .int v_paths, .ref z_seen, .ref z_work, .ref z_known, .ref z_next, .int v_come, .int v_isCounted, .ref z_counts, .ref z_acrosses, .ref z_failings, .int v_basis, .ref z_given, .int v_trace])), (z_sheetSize, .inl (cy 0, 4, .inl o_v_sheetSizec))] := by
  refine gBi (cc := cX10_lose) (maxL := 3) (ret := (some .int)) (by decide) rfl (Nat.le_of_ble_eq_true rfl) ?_
  intro p e s m below meth c A ls hAt hl
  obtain ⟨hx, hb, hml, hr, hts, hown, hlocks, hin, hK, hG, hA, hP, hD⟩ := hAt
  have hS : va_S A s.heap s.heap [] := va_S.rf
  have hl : lv_has ls 3 [(0, .ref z), (1, .int x1)] := hl
  have f17 := hts (.fieldLink RX10 17 "PlainLinesModel" "sheetSize" "[I") (by decide +kernel)
  have iX10 := (by decide +kernel : ∀ w ∈ u_ws RX10 TX10 25, w ∈ wsX10_lose)
  rw [f_X10_lose] at h
  refine lv_iload_n hx hb dX10_lose_0 rfl (lv_at hl 1 rfl) ?_
  obtain ⟨r_1, hc_2, h⟩ := gx_b h
  refine gCalli (wr := [(z, .inr (9, [.int v_fault, .int v_size, .int v_upper, .int v_base, .ref z_isGood, .ref z_frozen, .ref z_sheetSize, .ref z_sheetLane, .ref z_sheet, .ref z_hands, .int v_wide, .long v_mask, .int v_paths, .ref z_seen, .ref z_work, .ref z_known, .ref z_next, .int v_come, .int v_isCounted, .ref z_counts, .ref z_acrosses, .ref z_failings, .int v_basis, .ref z_given, .int v_trace])), (z_sheetSize, .inl (cy 0, 4, .inl v_sheetSizec))]) (va_runS (As := [.int x1]) (rest := []) ⟨hx, hb, hml, hown, hts⟩ (c_X10_noSheet l D cy t s.heap.size K x1 r_1 hc_2) (va_cwS 1 hts gX10_lose_X10_noSheet rfl rfl rfl (by decide +kernel) ⟨Nat.le_of_ble_eq_true rfl, Nat.le_of_ble_eq_true rfl⟩) ⟨gBlind, fun U hU hW => ⟨rfl, gPre.call hK hG hA hP hD hS [] (by decide) rfl U hU hW⟩⟩ rfl rfl hl.1 rfl (lv_room (Nat.le_of_ble_eq_true rfl)) dX10_lose_1 ⟨Nat.le_of_ble_eq_true rfl, Nat.le_of_ble_eq_true rfl⟩) hA hP hD hS [] [0, 1] rfl rfl (by decide) (by decide) (fun H locs hP hD hS => ?_)
  have hP : va_P D vwCl [(z, .inr (9, [.int v_fault, .int v_size, .int v_upper, .int v_base, .ref z_isGood, .ref z_frozen, .ref z_sheetSize, .ref z_sheetLane, .ref z_sheet, .ref z_hands, .int v_wide, .long v_mask, .int v_paths, .ref z_seen, .ref z_work, .ref z_known, .ref z_next, .int v_come, .int v_isCounted, .ref z_counts, .ref z_acrosses, .ref z_failings, .int v_basis, .ref z_given, .int v_trace])), (z_sheetSize, .inl (cy 0, 4, .inl v_sheetSizec))] H := hP
  have hD : va_D A [(z, .inr (9, [.int v_fault, .int v_size, .int v_upper, .int v_base, .ref z_isGood, .ref z_frozen, .ref z_sheetSize, .ref z_sheetLane, .ref z_sheet, .ref z_hands, .int v_wide, .long v_mask, .int v_paths, .ref z_seen, .ref z_work, .ref z_known, .ref z_next, .int v_come, .int v_isCounted, .ref z_counts, .ref z_acrosses, .ref z_failings, .int v_basis, .ref z_given, .int v_trace])), (z_sheetSize, .inl (cy 0, 4, .inl v_sheetSizec))] := hD
  refine lv_if_eq (tgt := 9) hx hb dX10_lose_4 (by decide) (fun c_3 => ?_) (fun c_3 => ?_)
  · have h := gx_t c_3 h
    refine lv_aload_n hx hb dX10_lose_9 rfl (lv_at hl 0 rfl) ?_
    refine va_get (D := D) (ci := 9) (v := .ref z_sheetSize) (C := RX10) (T := TX10) (N := 25) hx hb hts iX10 hown hK hP 0 rfl rfl 6 (by decide) f17 (fun _ h9 => h9) rfl dX10_lose_10 ?_
    refine lv_iload_n hx hb dX10_lose_13 rfl (lv_at hl 1 rfl) ?_
    obtain ⟨hi_, h⟩ := gx_ix h
    refine va_iald hx hb hK hP 1 0 rfl rfl hi_ dX10_lose_14 ?_
    obtain ⟨ms_4, hR_5, h⟩ := gx_b h
    refine gJoin (Pj := fun H locs ls => va_P D vwCl [(z, .inr (9, [.int v_fault, .int v_size, .int v_upper, .int v_base, .ref z_isGood, .ref z_frozen, .ref z_sheetSize, .ref z_sheetLane, .ref z_sheet, .ref z_hands, .int v_wide, .long v_mask, .int v_paths, .ref z_seen, .ref z_work, .ref z_known, .ref z_next, .int v_come, .int v_isCounted, .ref z_counts, .ref z_acrosses, .ref z_failings, .int v_basis, .ref z_given, .int v_trace])), (z_sheetSize, .inl (cy 0, 4, .inl v_sheetSizec))] H ∧ va_D A [(z, .inr (9, [.int v_fault, .int v_size, .int v_upper, .int v_base, .ref z_isGood, .ref z_frozen, .ref z_sheetSize, .ref z_sheetLane, .ref z_sheet, .ref z_hands, .int v_wide, .long v_mask, .int v_paths, .ref z_seen, .ref z_work, .ref z_known, .ref z_next, .int v_come, .int v_isCounted, .ref z_counts, .ref z_acrosses, .ref z_failings, .int v_basis, .ref z_given, .int v_trace])), (z_sheetSize, .inl (cy 0, 4, .inl v_sheetSizec))] ∧ va_S A s.heap H locs ∧ lv_has ls 3 [(0, .ref z), (1, .int x1)]) (pcM := 23) (st := [.int ms_4]) ?_ (fun hJ23 => ?_)
    · intro H locs ls hp_
      obtain ⟨hP, hD, hS, hl⟩ := hp_
      clear hR_5
      refine lv_istore_n (lv' := [(2, .int ms_4), (0, .ref z), (1, .int x1)]) hx hb dX10_lose_23 rfl hl (by decide) rfl (fun ls hl => ?_)
      refine lv_aload_n hx hb dX10_lose_24 rfl (lv_at hl 1 rfl) ?_
      refine va_get (D := D) (ci := 9) (v := .ref z_sheetSize) (C := RX10) (T := TX10) (N := 25) hx hb hts iX10 hown hK hP 0 rfl rfl 6 (by decide) f17 (fun _ h9 => h9) rfl dX10_lose_25 ?_
      refine lv_iload_n hx hb dX10_lose_28 rfl (lv_at hl 2 rfl) ?_
      refine lv_iconst (v := (-1)) hx hb dX10_lose_29 (by decide) ?_
      obtain ⟨hi_, h⟩ := gx_ix h
      refine va_iast hx hb hK hP hD hS 1 0 rfl rfl hi_ dX10_lose_30 (fun H locs hP hD hS => ?_)
      obtain ⟨w_6, e_w_6⟩ : ∃ y : Nat → Int32, y = (upd v_sheetSizec (Int32.toNatClampNeg x1) (-1)) := ⟨_, rfl⟩
      have h := gx_let e_w_6 h
      have hP : va_P D vwCl [(z, .inr (9, [.int v_fault, .int v_size, .int v_upper, .int v_base, .ref z_isGood, .ref z_frozen, .ref z_sheetSize, .ref z_sheetLane, .ref z_sheet, .ref z_hands, .int v_wide, .long v_mask, .int v_paths, .ref z_seen, .ref z_work, .ref z_known, .ref z_next, .int v_come, .int v_isCounted, .ref z_counts, .ref z_acrosses, .ref z_failings, .int v_basis, .ref z_given, .int v_trace])), (z_sheetSize, .inl (cy 0, 4, .inl (upd v_sheetSizec (Int32.toNatClampNeg x1) (-1))))] H := hP
      have hD : va_D A [(z, .inr (9, [.int v_fault, .int v_size, .int v_upper, .int v_base, .ref z_isGood, .ref z_frozen, .ref z_sheetSize, .ref z_sheetLane, .ref z_sheet, .ref z_hands, .int v_wide, .long v_mask, .int v_paths, .ref z_seen, .ref z_work, .ref z_known, .ref z_next, .int v_come, .int v_isCounted, .ref z_counts, .ref z_acrosses, .ref z_failings, .int v_basis, .ref z_given, .int v_trace])), (z_sheetSize, .inl (cy 0, 4, .inl (upd v_sheetSizec (Int32.toNatClampNeg x1) (-1))))] := hD
      rw [← e_w_6] at hP hD
      refine lv_iload_n hx hb dX10_lose_31 rfl (lv_at hl 0 rfl) ?_
      cases h
      exact gRi hx hb hr hlocks hP hD hS dX10_lose_32
    · have h := hR_5
      refine lv_if_ge (tgt := 22) hx hb dX10_lose_15 (by decide) (fun c_7 => ?_) (fun c_7 => ?_)
      · have h := gx_t c_7 h
        refine lv_iconst (v := 1) hx hb dX10_lose_22 (by decide) ?_
        have hl := lv_sub (l' := [(0, .ref z), (1, .int x1)]) hl [0, 1] rfl
        cases h
        exact hJ23 _ _ _ ⟨hP, hD, hS, hl⟩
      · have h := gx_f c_7 h
        refine lv_iconst (v := 0) hx hb dX10_lose_18 (by decide) ?_
        refine lv_goto (tgt := 23) hx hb dX10_lose_19 (by decide) ?_
        have hl := lv_sub (l' := [(0, .ref z), (1, .int x1)]) hl [0, 1] rfl
        cases h
        exact hJ23 _ _ _ ⟨hP, hD, hS, hl⟩
  · have h := gx_f c_3 h
    refine lv_iconst (v := (-1)) hx hb dX10_lose_7 (by decide) ?_
    cases h
    exact gRi hx hb hr hlocks hP hD hS dX10_lose_8

def f_X10_noCell (K : Nat) (x1 : Int32) (x2 : Int32) (v_sheetSizec : Nat → Int32) : Option (Int32) :=
  gIx x1 4 <|
  if 0 ≤ (v_sheetSizec (Int32.toNatClampNeg x1)) then
    gIx x1 4 <|
    Option.bind (f_X10_in K (Int32.toInt64 x2) 0 ((Int32.toInt64 (v_sheetSizec (Int32.toNatClampNeg x1))) - 1)) fun r_2 =>
    if r_2 = 0 then
      some 3
    else
      some 0
  else
    some 1
set_option maxHeartbeats 4000000 in
set_option maxRecDepth 100000 in
theorem c_X10_noCell (l : Launch) (D : va_G) (cy : Nat → ClassId) (t sz K : Nat) (z : Nat) (z_sheetSize : Nat) (z_isGood : Nat) (z_frozen : Nat) (z_sheetLane : Nat) (z_sheet : Nat) (z_hands : Nat) (z_seen : Nat) (z_work : Nat) (z_known : Nat) (z_next : Nat) (z_counts : Nat) (z_acrosses : Nat) (z_failings : Nat) (z_given : Nat) (v_fault : Int32) (v_size : Int32) (v_upper : Int32) (v_base : Int32) (v_wide : Int32) (v_mask : Int64) (v_paths : Int32) (v_come : Int32) (v_isCounted : Int32) (v_basis : Int32) (v_trace : Int32) (v_sheetSizec : Nat → Int32) (x1 : Int32) (x2 : Int32) (r_ : Int32) (h : f_X10_noCell K x1 x2 v_sheetSizec = some r_) : gMi l D cy t sz yX10_noCell wsX10_noCell 1 25 [.ref z, .int x1, .int x2] [(z, .inr (9, [.int v_fault, .int v_size, .int v_upper, .int v_base, .ref z_isGood, .ref z_frozen, .ref z_sheetSize, .ref z_sheetLane, .ref z_sheet, .ref z_hands, .int v_wide, .long v_mask, .int v_paths, .ref z_seen, .ref z_work, .ref z_known, .ref z_next, .int v_come, .int v_isCounted, .ref z_counts, .ref z_acrosses, .ref z_failings, .int v_basis, .ref z_given, .int v_trace])), (z_sheetSize, .inl (cy 0, 4, .inl v_sheetSizec))] r_ [(z, .inr (9, [.int v_fault, .int v_size, .int v_upper, .int v_base, .ref z_isGood, .ref z_frozen, .ref z_sheetSize, .ref z_sheetLane, .ref z_sheet, .ref z_hands, .int v_wide, .long v_mask, .int v_paths, .ref z_seen, .ref z_work, .ref z_known, .ref z_next, .int v_come, .int v_isCounted, .ref z_counts, .ref z_acrosses, .ref z_failings, .int v_basis, .ref z_given, .int v_trace])), (z_sheetSize, .inl (cy 0, 4, .inl v_sheetSizec))] := by
  refine gBi (cc := cX10_noCell) (maxL := 3) (ret := (some .int)) (by decide) rfl (Nat.le_of_ble_eq_true rfl) ?_
  intro p e s m below meth c A ls hAt hl
  obtain ⟨hx, hb, hml, hr, hts, hown, hlocks, hin, hK, hG, hA, hP, hD⟩ := hAt
  have hS : va_S A s.heap s.heap [] := va_S.rf
  have hl : lv_has ls 3 [(0, .ref z), (1, .int x1), (2, .int x2)] := hl
  have f17 := hts (.fieldLink RX10 17 "PlainLinesModel" "sheetSize" "[I") (by decide +kernel)
  have iX10 := (by decide +kernel : ∀ w ∈ u_ws RX10 TX10 25, w ∈ wsX10_noCell)
  rw [f_X10_noCell] at h
  refine lv_aload_n hx hb dX10_noCell_0 rfl (lv_at hl 0 rfl) ?_
  refine va_get (D := D) (ci := 9) (v := .ref z_sheetSize) (C := RX10) (T := TX10) (N := 25) hx hb hts iX10 hown hK hP 0 rfl rfl 6 (by decide) f17 (fun _ h9 => h9) rfl dX10_noCell_1 ?_
  refine lv_iload_n hx hb dX10_noCell_4 rfl (lv_at hl 1 rfl) ?_
  obtain ⟨hi_, h⟩ := gx_ix h
  refine va_iald hx hb hK hP 1 0 rfl rfl hi_ dX10_noCell_5 ?_
  refine lv_if_ge (tgt := 13) hx hb dX10_noCell_6 (by decide) (fun c_1 => ?_) (fun c_1 => ?_)
  · have h := gx_t c_1 h
    refine lv_iload_n hx hb dX10_noCell_13 rfl (lv_at hl 2 rfl) ?_
    refine lv_i2l (v := (Int32.toInt64 x2)) hx hb dX10_noCell_14 rfl ?_
    refine lv_lconst (v := 0) hx hb dX10_noCell_15 (by decide) ?_
    refine lv_aload_n hx hb dX10_noCell_16 rfl (lv_at hl 0 rfl) ?_
    refine va_get (D := D) (ci := 9) (v := .ref z_sheetSize) (C := RX10) (T := TX10) (N := 25) hx hb hts iX10 hown hK hP 0 rfl rfl 6 (by decide) f17 (fun _ h9 => h9) rfl dX10_noCell_17 ?_
    refine lv_iload_n hx hb dX10_noCell_20 rfl (lv_at hl 1 rfl) ?_
    obtain ⟨hi_, h⟩ := gx_ix h
    refine va_iald hx hb hK hP 1 0 rfl rfl hi_ dX10_noCell_21 ?_
    refine lv_i2l (v := (Int32.toInt64 (v_sheetSizec (Int32.toNatClampNeg x1)))) hx hb dX10_noCell_22 rfl ?_
    refine lv_lconst (v := 1) hx hb dX10_noCell_23 (by decide) ?_
    refine lv_lsub hx hb dX10_noCell_24 ?_
    obtain ⟨r_2, hc_3, h⟩ := gx_b h
    refine gCalli (wr := [(z, .inr (9, [.int v_fault, .int v_size, .int v_upper, .int v_base, .ref z_isGood, .ref z_frozen, .ref z_sheetSize, .ref z_sheetLane, .ref z_sheet, .ref z_hands, .int v_wide, .long v_mask, .int v_paths, .ref z_seen, .ref z_work, .ref z_known, .ref z_next, .int v_come, .int v_isCounted, .ref z_counts, .ref z_acrosses, .ref z_failings, .int v_basis, .ref z_given, .int v_trace])), (z_sheetSize, .inl (cy 0, 4, .inl v_sheetSizec))]) (va_runS (As := [.long (Int32.toInt64 x2), .long 0, .long ((Int32.toInt64 (v_sheetSizec (Int32.toNatClampNeg x1))) - 1)]) (rest := []) ⟨hx, hb, hml, hown, hts⟩ (c_X10_in l D cy t s.heap.size K (Int32.toInt64 x2) 0 ((Int32.toInt64 (v_sheetSizec (Int32.toNatClampNeg x1))) - 1) r_2 hc_3) (va_cwS 3 hts gX10_noCell_X10_in rfl rfl rfl (by decide +kernel) ⟨Nat.le_of_ble_eq_true rfl, Nat.le_of_ble_eq_true rfl⟩) ⟨gBlind, fun U hU hW => ⟨rfl, gPre.call hK hG hA hP hD hS [] (by decide) rfl U hU hW⟩⟩ rfl rfl hl.1 rfl (lv_room (Nat.le_of_ble_eq_true rfl)) dX10_noCell_25 ⟨Nat.le_of_ble_eq_true rfl, Nat.le_of_ble_eq_true rfl⟩) hA hP hD hS [] [0, 1] rfl rfl (by decide) (by decide) (fun H locs hP hD hS => ?_)
    have hP : va_P D vwCl [(z, .inr (9, [.int v_fault, .int v_size, .int v_upper, .int v_base, .ref z_isGood, .ref z_frozen, .ref z_sheetSize, .ref z_sheetLane, .ref z_sheet, .ref z_hands, .int v_wide, .long v_mask, .int v_paths, .ref z_seen, .ref z_work, .ref z_known, .ref z_next, .int v_come, .int v_isCounted, .ref z_counts, .ref z_acrosses, .ref z_failings, .int v_basis, .ref z_given, .int v_trace])), (z_sheetSize, .inl (cy 0, 4, .inl v_sheetSizec))] H := hP
    have hD : va_D A [(z, .inr (9, [.int v_fault, .int v_size, .int v_upper, .int v_base, .ref z_isGood, .ref z_frozen, .ref z_sheetSize, .ref z_sheetLane, .ref z_sheet, .ref z_hands, .int v_wide, .long v_mask, .int v_paths, .ref z_seen, .ref z_work, .ref z_known, .ref z_next, .int v_come, .int v_isCounted, .ref z_counts, .ref z_acrosses, .ref z_failings, .int v_basis, .ref z_given, .int v_trace])), (z_sheetSize, .inl (cy 0, 4, .inl v_sheetSizec))] := hD
    refine lv_if_eq (tgt := 35) hx hb dX10_noCell_28 (by decide) (fun c_4 => ?_) (fun c_4 => ?_)
    · have h := gx_t c_4 h
      refine lv_iconst (v := 3) hx hb dX10_noCell_35 (by decide) ?_
      cases h
      exact gRi hx hb hr hlocks hP hD hS dX10_noCell_36
    · have h := gx_f c_4 h
      refine lv_iconst (v := 0) hx hb dX10_noCell_31 (by decide) ?_
      refine lv_goto (tgt := 36) hx hb dX10_noCell_32 (by decide) ?_
      cases h
      exact gRi hx hb hr hlocks hP hD hS dX10_noCell_36
  · have h := gx_f c_1 h
    refine lv_iconst (v := 1) hx hb dX10_noCell_9 (by decide) ?_
    refine lv_goto (tgt := 36) hx hb dX10_noCell_10 (by decide) ?_
    cases h
    exact gRi hx hb hr hlocks hP hD hS dX10_noCell_36

def f_X10_put (K : Nat) (x1 : Int32) (x2 : Int32) (x3 : Int64) (v_sheetSizec : Nat → Int32) (v_sheetLanec : Nat → Int32) (v_sheetc : Nat → Int64) : Option (Int32 × Int32 × (Nat → Int64)) :=
  Option.bind (f_X10_noSheet K x1) fun r_1 =>
  if r_1 = 0 then
    Option.bind (f_X10_noCell K x1 x2 v_sheetSizec) fun r_3 =>
    if r_3 ≤ 0 then
      gIx x1 4 <|
      Option.bind (α := Int64) (
        if (v_sheetLanec (Int32.toNatClampNeg x1)) = 0 then
          some (Int32.toInt64 (Int8.toInt32 (Int32.toInt8 (Int64.toInt32 x3))))
        else
          gIx x1 4 <|
          if (v_sheetLanec (Int32.toNatClampNeg x1)) = 1 then
            some (Int32.toInt64 (Int64.toInt32 x3))
          else
            some x3) fun ms_5 =>
      gIx ((40 * x1) + x2) 160 <|
      gLet (vp_updL v_sheetc (Int32.toNatClampNeg ((40 * x1) + x2)) ms_5) fun w_8 =>
      Option.bind (f_X10_refused K 1) fun (r_9, o_10) =>
      some (r_9, o_10, w_8)
    else
      Option.bind (f_X10_noCell K x1 x2 v_sheetSizec) fun r_11 =>
      Option.bind (f_X10_failed K r_11) fun (r_12, o_13) =>
      some (r_12, o_13, v_sheetc)
  else
    Option.bind (f_X10_refused K (-1)) fun (r_14, o_15) =>
    some (r_14, o_15, v_sheetc)
set_option maxHeartbeats 4000000 in
set_option maxRecDepth 100000 in
theorem c_X10_put (l : Launch) (D : va_G) (cy : Nat → ClassId) (t sz K : Nat) (z : Nat) (z_sheetSize : Nat) (z_sheetLane : Nat) (z_sheet : Nat) (z_isGood : Nat) (z_frozen : Nat) (z_hands : Nat) (z_seen : Nat) (z_work : Nat) (z_known : Nat) (z_next : Nat) (z_counts : Nat) (z_acrosses : Nat) (z_failings : Nat) (z_given : Nat) (v_fault : Int32) (v_size : Int32) (v_upper : Int32) (v_base : Int32) (v_wide : Int32) (v_mask : Int64) (v_paths : Int32) (v_come : Int32) (v_isCounted : Int32) (v_basis : Int32) (v_trace : Int32) (v_sheetSizec : Nat → Int32) (v_sheetLanec : Nat → Int32) (v_sheetc : Nat → Int64) (x1 : Int32) (x2 : Int32) (x3 : Int64) (r_ : Int32) (o_v_fault : Int32) (o_v_sheetc : Nat → Int64) (h : f_X10_put K x1 x2 x3 v_sheetSizec v_sheetLanec v_sheetc = some (r_, o_v_fault, o_v_sheetc)) : gMi l D cy t sz yX10_put wsX10_put 2 47 [.ref z, .int x1, .int x2, .long x3] [(z, .inr (9, [.int v_fault, .int v_size, .int v_upper, .int v_base, .ref z_isGood, .ref z_frozen, .ref z_sheetSize, .ref z_sheetLane, .ref z_sheet, .ref z_hands, .int v_wide, .long v_mask, .int v_paths, .ref z_seen, .ref z_work, .ref z_known, .ref z_next, .int v_come, .int v_isCounted, .ref z_counts, .ref z_acrosses, .ref z_failings, .int v_basis, .ref z_given, .int v_trace])), (z_sheetSize, .inl (cy 0, 4, .inl v_sheetSizec)), (z_sheetLane, .inl (cy 0, 4, .inl v_sheetLanec)), (z_sheet, .inl (cy 1, 160, .inr (.inl v_sheetc)))] r_ [(z, .inr (9, [.int o_v_fault, .int v_size, .int v_upper, .int v_base, .ref z_isGood, .ref z_frozen, .ref z_sheetSize, .ref z_sheetLane, .ref z_sheet, .ref z_hands, .int v_wide, .long v_mask, .int v_paths, .ref z_seen, .ref z_work, .ref z_known, .ref z_next, .int v_come, .int v_isCounted, .ref z_counts, .ref z_acrosses, .ref z_failings, .int v_basis, .ref z_given, .int v_trace])), (z_sheetSize, .inl (cy 0, 4, .inl v_sheetSizec)), (z_sheetLane, .inl (cy 0, 4, .inl v_sheetLanec)), (z_sheet, .inl (cy 1, 160, .inr (.inl o_v_sheetc)))] := by
  refine gBi (cc := cX10_put) (maxL := 5) (ret := (some .int)) (by decide) rfl (Nat.le_of_ble_eq_true rfl) ?_
  intro p e s m below meth c A ls hAt hl
  obtain ⟨hx, hb, hml, hr, hts, hown, hlocks, hin, hK, hG, hA, hP, hD⟩ := hAt
  have hS : va_S A s.heap s.heap [] := va_S.rf
  have hl : lv_has ls 5 [(0, .ref z), (1, .int x1), (2, .int x2), (3, .long x3)] := hl
  have f23 := hts (.fieldLink RX10 23 "PlainLinesModel" "sheet" "[J") (by decide +kernel)
  have iX10 := (by decide +kernel : ∀ w ∈ u_ws RX10 TX10 25, w ∈ wsX10_put)
  have f20 := hts (.fieldLink RX10 20 "PlainLinesModel" "sheetLane" "[I") (by decide +kernel)
  rw [f_X10_put] at h
  refine lv_iload_n hx hb dX10_put_0 rfl (lv_at hl 1 rfl) ?_
  obtain ⟨r_1, hc_2, h⟩ := gx_b h
  refine gCalli (wr := [(z, .inr (9, [.int v_fault, .int v_size, .int v_upper, .int v_base, .ref z_isGood, .ref z_frozen, .ref z_sheetSize, .ref z_sheetLane, .ref z_sheet, .ref z_hands, .int v_wide, .long v_mask, .int v_paths, .ref z_seen, .ref z_work, .ref z_known, .ref z_next, .int v_come, .int v_isCounted, .ref z_counts, .ref z_acrosses, .ref z_failings, .int v_basis, .ref z_given, .int v_trace])), (z_sheetSize, .inl (cy 0, 4, .inl v_sheetSizec)), (z_sheetLane, .inl (cy 0, 4, .inl v_sheetLanec)), (z_sheet, .inl (cy 1, 160, .inr (.inl v_sheetc)))]) (va_runS (As := [.int x1]) (rest := []) ⟨hx, hb, hml, hown, hts⟩ (c_X10_noSheet l D cy t s.heap.size K x1 r_1 hc_2) (va_cwS 1 hts gX10_put_X10_noSheet rfl rfl rfl (by decide +kernel) ⟨Nat.le_of_ble_eq_true rfl, Nat.le_of_ble_eq_true rfl⟩) ⟨gBlind, fun U hU hW => ⟨rfl, gPre.call hK hG hA hP hD hS [] (by decide) rfl U hU hW⟩⟩ rfl rfl hl.1 rfl (lv_room (Nat.le_of_ble_eq_true rfl)) dX10_put_1 ⟨Nat.le_of_ble_eq_true rfl, Nat.le_of_ble_eq_true rfl⟩) hA hP hD hS [] [0, 1, 2, 3] rfl rfl (by decide) (by decide) (fun H locs hP hD hS => ?_)
  have hP : va_P D vwCl [(z, .inr (9, [.int v_fault, .int v_size, .int v_upper, .int v_base, .ref z_isGood, .ref z_frozen, .ref z_sheetSize, .ref z_sheetLane, .ref z_sheet, .ref z_hands, .int v_wide, .long v_mask, .int v_paths, .ref z_seen, .ref z_work, .ref z_known, .ref z_next, .int v_come, .int v_isCounted, .ref z_counts, .ref z_acrosses, .ref z_failings, .int v_basis, .ref z_given, .int v_trace])), (z_sheetSize, .inl (cy 0, 4, .inl v_sheetSizec)), (z_sheetLane, .inl (cy 0, 4, .inl v_sheetLanec)), (z_sheet, .inl (cy 1, 160, .inr (.inl v_sheetc)))] H := hP
  have hD : va_D A [(z, .inr (9, [.int v_fault, .int v_size, .int v_upper, .int v_base, .ref z_isGood, .ref z_frozen, .ref z_sheetSize, .ref z_sheetLane, .ref z_sheet, .ref z_hands, .int v_wide, .long v_mask, .int v_paths, .ref z_seen, .ref z_work, .ref z_known, .ref z_next, .int v_come, .int v_isCounted, .ref z_counts, .ref z_acrosses, .ref z_failings, .int v_basis, .ref z_given, .int v_trace])), (z_sheetSize, .inl (cy 0, 4, .inl v_sheetSizec)), (z_sheetLane, .inl (cy 0, 4, .inl v_sheetLanec)), (z_sheet, .inl (cy 1, 160, .inr (.inl v_sheetc)))] := hD
  refine lv_if_eq (tgt := 13) hx hb dX10_put_4 (by decide) (fun c_3 => ?_) (fun c_3 => ?_)
  · have h := gx_t c_3 h
    refine lv_aload_n hx hb dX10_put_13 rfl (lv_at hl 0 rfl) ?_
    refine lv_iload_n hx hb dX10_put_14 rfl (lv_at hl 1 rfl) ?_
    refine lv_iload_n hx hb dX10_put_15 rfl (lv_at hl 2 rfl) ?_
    obtain ⟨r_4, hc_5, h⟩ := gx_b h
    refine gCalli (wr := [(z_sheetLane, .inl (cy 0, 4, .inl v_sheetLanec)), (z_sheet, .inl (cy 1, 160, .inr (.inl v_sheetc)))]) (va_runV (As := [.int x1, .int x2]) (rest := []) ⟨hx, hb, hml, hown, hts⟩ (c_X10_noCell l D cy t H.size K z z_sheetSize z_isGood z_frozen z_sheetLane z_sheet z_hands z_seen z_work z_known z_next z_counts z_acrosses z_failings z_given v_fault v_size v_upper v_base v_wide v_mask v_paths v_come v_isCounted v_basis v_trace v_sheetSizec x1 x2 r_4 hc_5) (cwV 2 hts gX10_put_X10_noCell rfl rfl rfl (by decide +kernel) ⟨Nat.le_of_ble_eq_true rfl, Nat.le_of_ble_eq_true rfl⟩) ⟨gBlind, va_recv hK hP (ci := 9) (q0 := 0) rfl rfl, fun U hU hW => ⟨rfl, gPre.call hK hG hA hP hD hS [0, 1] (by decide) rfl U hU hW⟩⟩ rfl rfl hl.1 rfl (lv_room (Nat.le_of_ble_eq_true rfl)) dX10_put_16 ⟨Nat.le_of_ble_eq_true rfl, Nat.le_of_ble_eq_true rfl⟩) hA hP hD hS [0, 1] [2, 3] rfl rfl (by decide) (by decide) (fun H locs hP hD hS => ?_)
    have hP := hP.sub (ws' := [(z, .inr (9, [.int v_fault, .int v_size, .int v_upper, .int v_base, .ref z_isGood, .ref z_frozen, .ref z_sheetSize, .ref z_sheetLane, .ref z_sheet, .ref z_hands, .int v_wide, .long v_mask, .int v_paths, .ref z_seen, .ref z_work, .ref z_known, .ref z_next, .int v_come, .int v_isCounted, .ref z_counts, .ref z_acrosses, .ref z_failings, .int v_basis, .ref z_given, .int v_trace])), (z_sheetSize, .inl (cy 0, 4, .inl v_sheetSizec)), (z_sheetLane, .inl (cy 0, 4, .inl v_sheetLanec)), (z_sheet, .inl (cy 1, 160, .inr (.inl v_sheetc)))]) [2, 3, 0, 1] rfl
    have hD := hD.sub (ws' := [(z, .inr (9, [.int v_fault, .int v_size, .int v_upper, .int v_base, .ref z_isGood, .ref z_frozen, .ref z_sheetSize, .ref z_sheetLane, .ref z_sheet, .ref z_hands, .int v_wide, .long v_mask, .int v_paths, .ref z_seen, .ref z_work, .ref z_known, .ref z_next, .int v_come, .int v_isCounted, .ref z_counts, .ref z_acrosses, .ref z_failings, .int v_basis, .ref z_given, .int v_trace])), (z_sheetSize, .inl (cy 0, 4, .inl v_sheetSizec)), (z_sheetLane, .inl (cy 0, 4, .inl v_sheetLanec)), (z_sheet, .inl (cy 1, 160, .inr (.inl v_sheetc)))]) [2, 3, 0, 1] (by decide) rfl
    refine lv_if_le (tgt := 33) hx hb dX10_put_19 (by decide) (fun c_6 => ?_) (fun c_6 => ?_)
    · have h := gx_t c_6 h
      refine lv_aload_n hx hb dX10_put_33 rfl (lv_at hl 0 rfl) ?_
      refine va_get (D := D) (ci := 9) (v := .ref z_sheet) (C := RX10) (T := TX10) (N := 25) hx hb hts iX10 hown hK hP 0 rfl rfl 8 (by decide) f23 (fun _ h9 => h9) rfl dX10_put_34 ?_
      refine lv_bipush (v := 40) hx hb dX10_put_37 (by decide) ?_
      refine lv_iload_n hx hb dX10_put_39 rfl (lv_at hl 1 rfl) ?_
      refine lv_imul hx hb dX10_put_40 ?_
      refine lv_iload_n hx hb dX10_put_41 rfl (lv_at hl 2 rfl) ?_
      refine lv_iadd hx hb dX10_put_42 ?_
      refine lv_aload_n hx hb dX10_put_43 rfl (lv_at hl 0 rfl) ?_
      refine va_get (D := D) (ci := 9) (v := .ref z_sheetLane) (C := RX10) (T := TX10) (N := 25) hx hb hts iX10 hown hK hP 0 rfl rfl 7 (by decide) f20 (fun _ h9 => h9) rfl dX10_put_44 ?_
      refine lv_iload_n hx hb dX10_put_47 rfl (lv_at hl 1 rfl) ?_
      obtain ⟨hi_, h⟩ := gx_ix h
      refine va_iald hx hb hK hP 2 0 rfl rfl hi_ dX10_put_48 ?_
      obtain ⟨ms_7, hR_8, h⟩ := gx_b h
      refine gJoin (Pj := fun H locs ls => va_P D vwCl [(z, .inr (9, [.int v_fault, .int v_size, .int v_upper, .int v_base, .ref z_isGood, .ref z_frozen, .ref z_sheetSize, .ref z_sheetLane, .ref z_sheet, .ref z_hands, .int v_wide, .long v_mask, .int v_paths, .ref z_seen, .ref z_work, .ref z_known, .ref z_next, .int v_come, .int v_isCounted, .ref z_counts, .ref z_acrosses, .ref z_failings, .int v_basis, .ref z_given, .int v_trace])), (z_sheetSize, .inl (cy 0, 4, .inl v_sheetSizec)), (z_sheetLane, .inl (cy 0, 4, .inl v_sheetLanec)), (z_sheet, .inl (cy 1, 160, .inr (.inl v_sheetc)))] H ∧ va_D A [(z, .inr (9, [.int v_fault, .int v_size, .int v_upper, .int v_base, .ref z_isGood, .ref z_frozen, .ref z_sheetSize, .ref z_sheetLane, .ref z_sheet, .ref z_hands, .int v_wide, .long v_mask, .int v_paths, .ref z_seen, .ref z_work, .ref z_known, .ref z_next, .int v_come, .int v_isCounted, .ref z_counts, .ref z_acrosses, .ref z_failings, .int v_basis, .ref z_given, .int v_trace])), (z_sheetSize, .inl (cy 0, 4, .inl v_sheetSizec)), (z_sheetLane, .inl (cy 0, 4, .inl v_sheetLanec)), (z_sheet, .inl (cy 1, 160, .inr (.inl v_sheetc)))] ∧ va_S A s.heap H locs ∧ lv_has ls 5 [(0, .ref z), (1, .int x1), (2, .int x2), (3, .long x3)]) (pcM := 76) (st := [.long ms_7, .int ((40 * x1) + x2), .ref z_sheet]) ?_ (fun hJ76 => ?_)
      · intro H locs ls hp_
        obtain ⟨hP, hD, hS, hl⟩ := hp_
        clear hR_8
        obtain ⟨hi_, h⟩ := gx_ix h
        refine va_last hx hb hK hP hD hS 3 1 rfl rfl hi_ dX10_put_76 (fun H locs hP hD hS => ?_)
        obtain ⟨w_9, e_w_9⟩ : ∃ y : Nat → Int64, y = (vp_updL v_sheetc (Int32.toNatClampNeg ((40 * x1) + x2)) ms_7) := ⟨_, rfl⟩
        have h := gx_let e_w_9 h
        have hP : va_P D vwCl [(z, .inr (9, [.int v_fault, .int v_size, .int v_upper, .int v_base, .ref z_isGood, .ref z_frozen, .ref z_sheetSize, .ref z_sheetLane, .ref z_sheet, .ref z_hands, .int v_wide, .long v_mask, .int v_paths, .ref z_seen, .ref z_work, .ref z_known, .ref z_next, .int v_come, .int v_isCounted, .ref z_counts, .ref z_acrosses, .ref z_failings, .int v_basis, .ref z_given, .int v_trace])), (z_sheetSize, .inl (cy 0, 4, .inl v_sheetSizec)), (z_sheetLane, .inl (cy 0, 4, .inl v_sheetLanec)), (z_sheet, .inl (cy 1, 160, .inr (.inl (vp_updL v_sheetc (Int32.toNatClampNeg ((40 * x1) + x2)) ms_7))))] H := hP
        have hD : va_D A [(z, .inr (9, [.int v_fault, .int v_size, .int v_upper, .int v_base, .ref z_isGood, .ref z_frozen, .ref z_sheetSize, .ref z_sheetLane, .ref z_sheet, .ref z_hands, .int v_wide, .long v_mask, .int v_paths, .ref z_seen, .ref z_work, .ref z_known, .ref z_next, .int v_come, .int v_isCounted, .ref z_counts, .ref z_acrosses, .ref z_failings, .int v_basis, .ref z_given, .int v_trace])), (z_sheetSize, .inl (cy 0, 4, .inl v_sheetSizec)), (z_sheetLane, .inl (cy 0, 4, .inl v_sheetLanec)), (z_sheet, .inl (cy 1, 160, .inr (.inl (vp_updL v_sheetc (Int32.toNatClampNeg ((40 * x1) + x2)) ms_7))))] := hD
        rw [← e_w_9] at hP hD
        refine lv_aload_n hx hb dX10_put_77 rfl (lv_at hl 0 rfl) ?_
        refine lv_iconst (v := 1) hx hb dX10_put_78 (by decide) ?_
        obtain ⟨⟨r_10, o_11⟩, hc_12, h⟩ := gx_b h
        refine gCalli (wr := [(z_sheetSize, .inl (cy 0, 4, .inl v_sheetSizec)), (z_sheetLane, .inl (cy 0, 4, .inl v_sheetLanec)), (z_sheet, .inl (cy 1, 160, .inr (.inl w_9)))]) (va_runV (As := [.int 1]) (rest := []) ⟨hx, hb, hml, hown, hts⟩ (c_X10_refused l D cy t H.size K z z_isGood z_frozen z_sheetSize z_sheetLane z_sheet z_hands z_seen z_work z_known z_next z_counts z_acrosses z_failings z_given v_fault v_size v_upper v_base v_wide v_mask v_paths v_come v_isCounted v_basis v_trace 1 r_10 o_11 hc_12) (cwV 1 hts gX10_put_X10_refused rfl rfl rfl (by decide +kernel) ⟨Nat.le_of_ble_eq_true rfl, Nat.le_of_ble_eq_true rfl⟩) ⟨gBlind, va_recv hK hP (ci := 9) (q0 := 0) rfl rfl, fun U hU hW => ⟨rfl, gPre.call hK hG hA hP hD hS [0] (by decide) rfl U hU hW⟩⟩ rfl rfl hl.1 rfl (lv_room (Nat.le_of_ble_eq_true rfl)) dX10_put_79 ⟨Nat.le_of_ble_eq_true rfl, Nat.le_of_ble_eq_true rfl⟩) hA hP hD hS [0] [1, 2, 3] rfl rfl (by decide) (by decide) (fun H locs hP hD hS => ?_)
        have hP := hP.sub (ws' := [(z, .inr (9, [.int o_11, .int v_size, .int v_upper, .int v_base, .ref z_isGood, .ref z_frozen, .ref z_sheetSize, .ref z_sheetLane, .ref z_sheet, .ref z_hands, .int v_wide, .long v_mask, .int v_paths, .ref z_seen, .ref z_work, .ref z_known, .ref z_next, .int v_come, .int v_isCounted, .ref z_counts, .ref z_acrosses, .ref z_failings, .int v_basis, .ref z_given, .int v_trace])), (z_sheetSize, .inl (cy 0, 4, .inl v_sheetSizec)), (z_sheetLane, .inl (cy 0, 4, .inl v_sheetLanec)), (z_sheet, .inl (cy 1, 160, .inr (.inl w_9)))]) [3, 0, 1, 2] rfl
        have hD := hD.sub (ws' := [(z, .inr (9, [.int o_11, .int v_size, .int v_upper, .int v_base, .ref z_isGood, .ref z_frozen, .ref z_sheetSize, .ref z_sheetLane, .ref z_sheet, .ref z_hands, .int v_wide, .long v_mask, .int v_paths, .ref z_seen, .ref z_work, .ref z_known, .ref z_next, .int v_come, .int v_isCounted, .ref z_counts, .ref z_acrosses, .ref z_failings, .int v_basis, .ref z_given, .int v_trace])), (z_sheetSize, .inl (cy 0, 4, .inl v_sheetSizec)), (z_sheetLane, .inl (cy 0, 4, .inl v_sheetLanec)), (z_sheet, .inl (cy 1, 160, .inr (.inl w_9)))]) [3, 0, 1, 2] (by decide) rfl
        cases h
        exact gRi hx hb hr hlocks hP hD hS dX10_put_82
      · have h := hR_8
        refine lv_if_ne (tgt := 59) hx hb dX10_put_49 (by decide) (fun c_13 => ?_) (fun c_13 => ?_)
        · have h := gx_f c_13 h
          refine lv_aload_n hx hb dX10_put_59 rfl (lv_at hl 0 rfl) ?_
          refine va_get (D := D) (ci := 9) (v := .ref z_sheetLane) (C := RX10) (T := TX10) (N := 25) hx hb hts iX10 hown hK hP 0 rfl rfl 7 (by decide) f20 (fun _ h9 => h9) rfl dX10_put_60 ?_
          refine lv_iload_n hx hb dX10_put_63 rfl (lv_at hl 1 rfl) ?_
          obtain ⟨hi_, h⟩ := gx_ix h
          refine va_iald hx hb hK hP 2 0 rfl rfl hi_ dX10_put_64 ?_
          refine lv_iconst (v := 1) hx hb dX10_put_65 (by decide) ?_
          refine lv_icmp_ne (tgt := 75) hx hb dX10_put_66 (by decide) (fun c_14 => ?_) (fun c_14 => ?_)
          · have h := gx_f c_14 h
            refine lv_lload_n hx hb dX10_put_75 rfl (lv_at hl 3 rfl) ?_
            have hl := lv_sub (l' := [(0, .ref z), (1, .int x1), (2, .int x2), (3, .long x3)]) hl [0, 1, 2, 3] rfl
            cases h
            exact hJ76 _ _ _ ⟨hP, hD, hS, hl⟩
          · have h := gx_t c_14 h
            refine lv_lload_n hx hb dX10_put_69 rfl (lv_at hl 3 rfl) ?_
            refine lv_l2i (v := (Int64.toInt32 x3)) hx hb dX10_put_70 rfl ?_
            refine lv_i2l (v := (Int32.toInt64 (Int64.toInt32 x3))) hx hb dX10_put_71 rfl ?_
            refine lv_goto (tgt := 76) hx hb dX10_put_72 (by decide) ?_
            have hl := lv_sub (l' := [(0, .ref z), (1, .int x1), (2, .int x2), (3, .long x3)]) hl [0, 1, 2, 3] rfl
            cases h
            exact hJ76 _ _ _ ⟨hP, hD, hS, hl⟩
        · have h := gx_t c_13 h
          refine lv_lload_n hx hb dX10_put_52 rfl (lv_at hl 3 rfl) ?_
          refine lv_l2i (v := (Int64.toInt32 x3)) hx hb dX10_put_53 rfl ?_
          refine lv_i2b (v := (Int8.toInt32 (Int32.toInt8 (Int64.toInt32 x3)))) hx hb dX10_put_54 rfl ?_
          refine lv_i2l (v := (Int32.toInt64 (Int8.toInt32 (Int32.toInt8 (Int64.toInt32 x3))))) hx hb dX10_put_55 rfl ?_
          refine lv_goto (tgt := 76) hx hb dX10_put_56 (by decide) ?_
          have hl := lv_sub (l' := [(0, .ref z), (1, .int x1), (2, .int x2), (3, .long x3)]) hl [0, 1, 2, 3] rfl
          cases h
          exact hJ76 _ _ _ ⟨hP, hD, hS, hl⟩
    · have h := gx_f c_6 h
      refine lv_aload_n hx hb dX10_put_22 rfl (lv_at hl 0 rfl) ?_
      refine lv_aload_n hx hb dX10_put_23 rfl (lv_at hl 0 rfl) ?_
      refine lv_iload_n hx hb dX10_put_24 rfl (lv_at hl 1 rfl) ?_
      refine lv_iload_n hx hb dX10_put_25 rfl (lv_at hl 2 rfl) ?_
      obtain ⟨r_15, hc_16, h⟩ := gx_b h
      refine gCalli (wr := [(z_sheetLane, .inl (cy 0, 4, .inl v_sheetLanec)), (z_sheet, .inl (cy 1, 160, .inr (.inl v_sheetc)))]) (va_runV (As := [.int x1, .int x2]) (rest := [.ref z]) ⟨hx, hb, hml, hown, hts⟩ (c_X10_noCell l D cy t H.size K z z_sheetSize z_isGood z_frozen z_sheetLane z_sheet z_hands z_seen z_work z_known z_next z_counts z_acrosses z_failings z_given v_fault v_size v_upper v_base v_wide v_mask v_paths v_come v_isCounted v_basis v_trace v_sheetSizec x1 x2 r_15 hc_16) (cwV 2 hts gX10_put_X10_noCell rfl rfl rfl (by decide +kernel) ⟨Nat.le_of_ble_eq_true rfl, Nat.le_of_ble_eq_true rfl⟩) ⟨gBlind, va_recv hK hP (ci := 9) (q0 := 0) rfl rfl, fun U hU hW => ⟨rfl, gPre.call hK hG hA hP hD hS [0, 1] (by decide) rfl U hU hW⟩⟩ rfl rfl hl.1 rfl (lv_room (Nat.le_of_ble_eq_true rfl)) dX10_put_26 ⟨Nat.le_of_ble_eq_true rfl, Nat.le_of_ble_eq_true rfl⟩) hA hP hD hS [0, 1] [2, 3] rfl rfl (by decide) (by decide) (fun H locs hP hD hS => ?_)
      have hP := hP.sub (ws' := [(z, .inr (9, [.int v_fault, .int v_size, .int v_upper, .int v_base, .ref z_isGood, .ref z_frozen, .ref z_sheetSize, .ref z_sheetLane, .ref z_sheet, .ref z_hands, .int v_wide, .long v_mask, .int v_paths, .ref z_seen, .ref z_work, .ref z_known, .ref z_next, .int v_come, .int v_isCounted, .ref z_counts, .ref z_acrosses, .ref z_failings, .int v_basis, .ref z_given, .int v_trace])), (z_sheetSize, .inl (cy 0, 4, .inl v_sheetSizec)), (z_sheetLane, .inl (cy 0, 4, .inl v_sheetLanec)), (z_sheet, .inl (cy 1, 160, .inr (.inl v_sheetc)))]) [2, 3, 0, 1] rfl
      have hD := hD.sub (ws' := [(z, .inr (9, [.int v_fault, .int v_size, .int v_upper, .int v_base, .ref z_isGood, .ref z_frozen, .ref z_sheetSize, .ref z_sheetLane, .ref z_sheet, .ref z_hands, .int v_wide, .long v_mask, .int v_paths, .ref z_seen, .ref z_work, .ref z_known, .ref z_next, .int v_come, .int v_isCounted, .ref z_counts, .ref z_acrosses, .ref z_failings, .int v_basis, .ref z_given, .int v_trace])), (z_sheetSize, .inl (cy 0, 4, .inl v_sheetSizec)), (z_sheetLane, .inl (cy 0, 4, .inl v_sheetLanec)), (z_sheet, .inl (cy 1, 160, .inr (.inl v_sheetc)))]) [2, 3, 0, 1] (by decide) rfl
      obtain ⟨⟨r_17, o_18⟩, hc_19, h⟩ := gx_b h
      refine gCalli (wr := [(z_sheetSize, .inl (cy 0, 4, .inl v_sheetSizec)), (z_sheetLane, .inl (cy 0, 4, .inl v_sheetLanec)), (z_sheet, .inl (cy 1, 160, .inr (.inl v_sheetc)))]) (va_runV (As := [.int r_15]) (rest := []) ⟨hx, hb, hml, hown, hts⟩ (c_X10_failed l D cy t H.size K z z_isGood z_frozen z_sheetSize z_sheetLane z_sheet z_hands z_seen z_work z_known z_next z_counts z_acrosses z_failings z_given v_fault v_size v_upper v_base v_wide v_mask v_paths v_come v_isCounted v_basis v_trace r_15 r_17 o_18 hc_19) (cwV 1 hts gX10_put_X10_failed rfl rfl rfl (by decide +kernel) ⟨Nat.le_of_ble_eq_true rfl, Nat.le_of_ble_eq_true rfl⟩) ⟨gBlind, va_recv hK hP (ci := 9) (q0 := 0) rfl rfl, fun U hU hW => ⟨rfl, gPre.call hK hG hA hP hD hS [0] (by decide) rfl U hU hW⟩⟩ rfl rfl hl.1 rfl (lv_room (Nat.le_of_ble_eq_true rfl)) dX10_put_29 ⟨Nat.le_of_ble_eq_true rfl, Nat.le_of_ble_eq_true rfl⟩) hA hP hD hS [0] [1, 2, 3] rfl rfl (by decide) (by decide) (fun H locs hP hD hS => ?_)
      have hP := hP.sub (ws' := [(z, .inr (9, [.int o_18, .int v_size, .int v_upper, .int v_base, .ref z_isGood, .ref z_frozen, .ref z_sheetSize, .ref z_sheetLane, .ref z_sheet, .ref z_hands, .int v_wide, .long v_mask, .int v_paths, .ref z_seen, .ref z_work, .ref z_known, .ref z_next, .int v_come, .int v_isCounted, .ref z_counts, .ref z_acrosses, .ref z_failings, .int v_basis, .ref z_given, .int v_trace])), (z_sheetSize, .inl (cy 0, 4, .inl v_sheetSizec)), (z_sheetLane, .inl (cy 0, 4, .inl v_sheetLanec)), (z_sheet, .inl (cy 1, 160, .inr (.inl v_sheetc)))]) [3, 0, 1, 2] rfl
      have hD := hD.sub (ws' := [(z, .inr (9, [.int o_18, .int v_size, .int v_upper, .int v_base, .ref z_isGood, .ref z_frozen, .ref z_sheetSize, .ref z_sheetLane, .ref z_sheet, .ref z_hands, .int v_wide, .long v_mask, .int v_paths, .ref z_seen, .ref z_work, .ref z_known, .ref z_next, .int v_come, .int v_isCounted, .ref z_counts, .ref z_acrosses, .ref z_failings, .int v_basis, .ref z_given, .int v_trace])), (z_sheetSize, .inl (cy 0, 4, .inl v_sheetSizec)), (z_sheetLane, .inl (cy 0, 4, .inl v_sheetLanec)), (z_sheet, .inl (cy 1, 160, .inr (.inl v_sheetc)))]) [3, 0, 1, 2] (by decide) rfl
      cases h
      exact gRi hx hb hr hlocks hP hD hS dX10_put_32
  · have h := gx_f c_3 h
    refine lv_aload_n hx hb dX10_put_7 rfl (lv_at hl 0 rfl) ?_
    refine lv_iconst (v := (-1)) hx hb dX10_put_8 (by decide) ?_
    obtain ⟨⟨r_20, o_21⟩, hc_22, h⟩ := gx_b h
    refine gCalli (wr := [(z_sheetSize, .inl (cy 0, 4, .inl v_sheetSizec)), (z_sheetLane, .inl (cy 0, 4, .inl v_sheetLanec)), (z_sheet, .inl (cy 1, 160, .inr (.inl v_sheetc)))]) (va_runV (As := [.int (-1)]) (rest := []) ⟨hx, hb, hml, hown, hts⟩ (c_X10_refused l D cy t H.size K z z_isGood z_frozen z_sheetSize z_sheetLane z_sheet z_hands z_seen z_work z_known z_next z_counts z_acrosses z_failings z_given v_fault v_size v_upper v_base v_wide v_mask v_paths v_come v_isCounted v_basis v_trace (-1) r_20 o_21 hc_22) (cwV 1 hts gX10_put_X10_refused rfl rfl rfl (by decide +kernel) ⟨Nat.le_of_ble_eq_true rfl, Nat.le_of_ble_eq_true rfl⟩) ⟨gBlind, va_recv hK hP (ci := 9) (q0 := 0) rfl rfl, fun U hU hW => ⟨rfl, gPre.call hK hG hA hP hD hS [0] (by decide) rfl U hU hW⟩⟩ rfl rfl hl.1 rfl (lv_room (Nat.le_of_ble_eq_true rfl)) dX10_put_9 ⟨Nat.le_of_ble_eq_true rfl, Nat.le_of_ble_eq_true rfl⟩) hA hP hD hS [0] [1, 2, 3] rfl rfl (by decide) (by decide) (fun H locs hP hD hS => ?_)
    have hP := hP.sub (ws' := [(z, .inr (9, [.int o_21, .int v_size, .int v_upper, .int v_base, .ref z_isGood, .ref z_frozen, .ref z_sheetSize, .ref z_sheetLane, .ref z_sheet, .ref z_hands, .int v_wide, .long v_mask, .int v_paths, .ref z_seen, .ref z_work, .ref z_known, .ref z_next, .int v_come, .int v_isCounted, .ref z_counts, .ref z_acrosses, .ref z_failings, .int v_basis, .ref z_given, .int v_trace])), (z_sheetSize, .inl (cy 0, 4, .inl v_sheetSizec)), (z_sheetLane, .inl (cy 0, 4, .inl v_sheetLanec)), (z_sheet, .inl (cy 1, 160, .inr (.inl v_sheetc)))]) [3, 0, 1, 2] rfl
    have hD := hD.sub (ws' := [(z, .inr (9, [.int o_21, .int v_size, .int v_upper, .int v_base, .ref z_isGood, .ref z_frozen, .ref z_sheetSize, .ref z_sheetLane, .ref z_sheet, .ref z_hands, .int v_wide, .long v_mask, .int v_paths, .ref z_seen, .ref z_work, .ref z_known, .ref z_next, .int v_come, .int v_isCounted, .ref z_counts, .ref z_acrosses, .ref z_failings, .int v_basis, .ref z_given, .int v_trace])), (z_sheetSize, .inl (cy 0, 4, .inl v_sheetSizec)), (z_sheetLane, .inl (cy 0, 4, .inl v_sheetLanec)), (z_sheet, .inl (cy 1, 160, .inr (.inl v_sheetc)))]) [3, 0, 1, 2] (by decide) rfl
    cases h
    exact gRi hx hb hr hlocks hP hD hS dX10_put_12

def f_X10_cell (K : Nat) (x1 : Int32) (x2 : Int32) (x3 : Int32) (v_sheetSizec : Nat → Int32) (v_sheetc : Nat → Int64) (v_sheetLanec : Nat → Int32) : Option (Int64 × Int32) :=
  Option.bind (f_X10_noSheet K x1) fun r_1 =>
  if r_1 = 0 then
    Option.bind (f_X10_in K (Int32.toInt64 x3) 0 2) fun r_4 =>
    if r_4 = 0 then
      Option.bind (f_X10_lost K) fun r_20 =>
      some (r_20, 0)
    else
      gIx x1 4 <|
      if (v_sheetSizec (Int32.toNatClampNeg x1)) < 0 then
        Option.bind (f_X10_noCell K x1 x2 v_sheetSizec) fun r_7 =>
        if r_7 ≤ 0 then
          gIx ((40 * x1) + x2) 160 <|
          some ((v_sheetc (Int32.toNatClampNeg ((40 * x1) + x2))), 0)
        else
          Option.bind (f_X10_noCell K x1 x2 v_sheetSizec) fun r_9 =>
          Option.bind (f_X10_failedLong K r_9) fun (r_10, o_11) =>
          some (r_10, o_11)
      else
        gIx x1 4 <|
        if (v_sheetLanec (Int32.toNatClampNeg x1)) = x3 then
          Option.bind (f_X10_noCell K x1 x2 v_sheetSizec) fun r_13 =>
          if r_13 ≤ 0 then
            gIx ((40 * x1) + x2) 160 <|
            some ((v_sheetc (Int32.toNatClampNeg ((40 * x1) + x2))), 0)
          else
            Option.bind (f_X10_noCell K x1 x2 v_sheetSizec) fun r_15 =>
            Option.bind (f_X10_failedLong K r_15) fun (r_16, o_17) =>
            some (r_16, o_17)
        else
          Option.bind (f_X10_failedLong K 2) fun (r_18, o_19) =>
          some (r_18, o_19)
  else
    Option.bind (f_X10_lost K) fun r_3 =>
    some (r_3, 0)
set_option maxHeartbeats 4000000 in
set_option maxRecDepth 100000 in
theorem c_X10_cell (l : Launch) (D : va_G) (cy : Nat → ClassId) (t sz K : Nat) (z : Nat) (z_sheetSize : Nat) (z_sheet : Nat) (z_sheetLane : Nat) (z_isGood : Nat) (z_frozen : Nat) (z_hands : Nat) (z_seen : Nat) (z_work : Nat) (z_known : Nat) (z_next : Nat) (z_counts : Nat) (z_acrosses : Nat) (z_failings : Nat) (z_given : Nat) (v_fault : Int32) (v_size : Int32) (v_upper : Int32) (v_base : Int32) (v_wide : Int32) (v_mask : Int64) (v_paths : Int32) (v_come : Int32) (v_isCounted : Int32) (v_basis : Int32) (v_trace : Int32) (v_sheetSizec : Nat → Int32) (v_sheetc : Nat → Int64) (v_sheetLanec : Nat → Int32) (x1 : Int32) (x2 : Int32) (x3 : Int32) (r_ : Int64) (o_v_fault : Int32) (h : f_X10_cell K x1 x2 x3 v_sheetSizec v_sheetc v_sheetLanec = some (r_, o_v_fault)) : gMl l D cy t sz yX10_cell wsX10_cell 2 47 [.ref z, .int x1, .int x2, .int x3] [(z, .inr (9, [.int v_fault, .int v_size, .int v_upper, .int v_base, .ref z_isGood, .ref z_frozen, .ref z_sheetSize, .ref z_sheetLane, .ref z_sheet, .ref z_hands, .int v_wide, .long v_mask, .int v_paths, .ref z_seen, .ref z_work, .ref z_known, .ref z_next, .int v_come, .int v_isCounted, .ref z_counts, .ref z_acrosses, .ref z_failings, .int v_basis, .ref z_given, .int v_trace])), (z_sheetSize, .inl (cy 0, 4, .inl v_sheetSizec)), (z_sheet, .inl (cy 1, 160, .inr (.inl v_sheetc))), (z_sheetLane, .inl (cy 0, 4, .inl v_sheetLanec))] r_ [(z, .inr (9, [.int o_v_fault, .int v_size, .int v_upper, .int v_base, .ref z_isGood, .ref z_frozen, .ref z_sheetSize, .ref z_sheetLane, .ref z_sheet, .ref z_hands, .int v_wide, .long v_mask, .int v_paths, .ref z_seen, .ref z_work, .ref z_known, .ref z_next, .int v_come, .int v_isCounted, .ref z_counts, .ref z_acrosses, .ref z_failings, .int v_basis, .ref z_given, .int v_trace])), (z_sheetSize, .inl (cy 0, 4, .inl v_sheetSizec)), (z_sheet, .inl (cy 1, 160, .inr (.inl v_sheetc))), (z_sheetLane, .inl (cy 0, 4, .inl v_sheetLanec))] := by
  refine gBl (cc := cX10_cell) (maxL := 4) (ret := (some .long)) (by decide) rfl (Nat.le_of_ble_eq_true rfl) ?_
  intro p e s m below meth c A ls hAt hl
  obtain ⟨hx, hb, hml, hr, hts, hown, hlocks, hin, hK, hG, hA, hP, hD⟩ := hAt
  have hS : va_S A s.heap s.heap [] := va_S.rf
  have hl : lv_has ls 4 [(0, .ref z), (1, .int x1), (2, .int x2), (3, .int x3)] := hl
  have f72 := hts (.fieldLink RX10 72 "PlainLinesModel" "fault" "I") (by decide +kernel)
  have iX10 := (by decide +kernel : ∀ w ∈ u_ws RX10 TX10 25, w ∈ wsX10_cell)
  have k93 := hts (.constantLong RX10 93 (2)) (by decide +kernel)
  have f17 := hts (.fieldLink RX10 17 "PlainLinesModel" "sheetSize" "[I") (by decide +kernel)
  have f23 := hts (.fieldLink RX10 23 "PlainLinesModel" "sheet" "[J") (by decide +kernel)
  have f20 := hts (.fieldLink RX10 20 "PlainLinesModel" "sheetLane" "[I") (by decide +kernel)
  rw [f_X10_cell] at h
  refine lv_aload_n hx hb dX10_cell_0 rfl (lv_at hl 0 rfl) ?_
  refine lv_iconst (v := 0) hx hb dX10_cell_1 (by decide) ?_
  refine va_put (D := D) (ci := 9) (v := .int 0) (ty := .int) (C := RX10) (T := TX10) (N := 25) hx hb hts iX10 tyX10 tyX10_ok nmX10 hown hK hP hD hS 0 rfl rfl 0 (by decide) f72 (fun _ h9 => h9) rfl (by decide +kernel) rfl rfl (Nat.le_of_ble_eq_true rfl) dX10_cell_2 (fun H locs hP hD hS => ?_)
  have hP : va_P D vwCl [(z, .inr (9, [.int 0, .int v_size, .int v_upper, .int v_base, .ref z_isGood, .ref z_frozen, .ref z_sheetSize, .ref z_sheetLane, .ref z_sheet, .ref z_hands, .int v_wide, .long v_mask, .int v_paths, .ref z_seen, .ref z_work, .ref z_known, .ref z_next, .int v_come, .int v_isCounted, .ref z_counts, .ref z_acrosses, .ref z_failings, .int v_basis, .ref z_given, .int v_trace])), (z_sheetSize, .inl (cy 0, 4, .inl v_sheetSizec)), (z_sheet, .inl (cy 1, 160, .inr (.inl v_sheetc))), (z_sheetLane, .inl (cy 0, 4, .inl v_sheetLanec))] H := hP
  have hD : va_D A [(z, .inr (9, [.int 0, .int v_size, .int v_upper, .int v_base, .ref z_isGood, .ref z_frozen, .ref z_sheetSize, .ref z_sheetLane, .ref z_sheet, .ref z_hands, .int v_wide, .long v_mask, .int v_paths, .ref z_seen, .ref z_work, .ref z_known, .ref z_next, .int v_come, .int v_isCounted, .ref z_counts, .ref z_acrosses, .ref z_failings, .int v_basis, .ref z_given, .int v_trace])), (z_sheetSize, .inl (cy 0, 4, .inl v_sheetSizec)), (z_sheet, .inl (cy 1, 160, .inr (.inl v_sheetc))), (z_sheetLane, .inl (cy 0, 4, .inl v_sheetLanec))] := hD
  refine lv_iload_n hx hb dX10_cell_5 rfl (lv_at hl 1 rfl) ?_
  obtain ⟨r_1, hc_2, h⟩ := gx_b h
  refine gCalli (wr := [(z, .inr (9, [.int 0, .int v_size, .int v_upper, .int v_base, .ref z_isGood, .ref z_frozen, .ref z_sheetSize, .ref z_sheetLane, .ref z_sheet, .ref z_hands, .int v_wide, .long v_mask, .int v_paths, .ref z_seen, .ref z_work, .ref z_known, .ref z_next, .int v_come, .int v_isCounted, .ref z_counts, .ref z_acrosses, .ref z_failings, .int v_basis, .ref z_given, .int v_trace])), (z_sheetSize, .inl (cy 0, 4, .inl v_sheetSizec)), (z_sheet, .inl (cy 1, 160, .inr (.inl v_sheetc))), (z_sheetLane, .inl (cy 0, 4, .inl v_sheetLanec))]) (va_runS (As := [.int x1]) (rest := []) ⟨hx, hb, hml, hown, hts⟩ (c_X10_noSheet l D cy t H.size K x1 r_1 hc_2) (va_cwS 1 hts gX10_cell_X10_noSheet rfl rfl rfl (by decide +kernel) ⟨Nat.le_of_ble_eq_true rfl, Nat.le_of_ble_eq_true rfl⟩) ⟨gBlind, fun U hU hW => ⟨rfl, gPre.call hK hG hA hP hD hS [] (by decide) rfl U hU hW⟩⟩ rfl rfl hl.1 rfl (lv_room (Nat.le_of_ble_eq_true rfl)) dX10_cell_6 ⟨Nat.le_of_ble_eq_true rfl, Nat.le_of_ble_eq_true rfl⟩) hA hP hD hS [] [0, 1, 2, 3] rfl rfl (by decide) (by decide) (fun H locs hP hD hS => ?_)
  have hP : va_P D vwCl [(z, .inr (9, [.int 0, .int v_size, .int v_upper, .int v_base, .ref z_isGood, .ref z_frozen, .ref z_sheetSize, .ref z_sheetLane, .ref z_sheet, .ref z_hands, .int v_wide, .long v_mask, .int v_paths, .ref z_seen, .ref z_work, .ref z_known, .ref z_next, .int v_come, .int v_isCounted, .ref z_counts, .ref z_acrosses, .ref z_failings, .int v_basis, .ref z_given, .int v_trace])), (z_sheetSize, .inl (cy 0, 4, .inl v_sheetSizec)), (z_sheet, .inl (cy 1, 160, .inr (.inl v_sheetc))), (z_sheetLane, .inl (cy 0, 4, .inl v_sheetLanec))] H := hP
  have hD : va_D A [(z, .inr (9, [.int 0, .int v_size, .int v_upper, .int v_base, .ref z_isGood, .ref z_frozen, .ref z_sheetSize, .ref z_sheetLane, .ref z_sheet, .ref z_hands, .int v_wide, .long v_mask, .int v_paths, .ref z_seen, .ref z_work, .ref z_known, .ref z_next, .int v_come, .int v_isCounted, .ref z_counts, .ref z_acrosses, .ref z_failings, .int v_basis, .ref z_given, .int v_trace])), (z_sheetSize, .inl (cy 0, 4, .inl v_sheetSizec)), (z_sheet, .inl (cy 1, 160, .inr (.inl v_sheetc))), (z_sheetLane, .inl (cy 0, 4, .inl v_sheetLanec))] := hD
  refine lv_if_ne (tgt := 24) hx hb dX10_cell_9 (by decide) (fun c_3 => ?_) (fun c_3 => ?_)
  · have h := gx_f c_3 h
    obtain ⟨r_4, hc_5, h⟩ := gx_b h
    refine gCalll (wr := [(z, .inr (9, [.int 0, .int v_size, .int v_upper, .int v_base, .ref z_isGood, .ref z_frozen, .ref z_sheetSize, .ref z_sheetLane, .ref z_sheet, .ref z_hands, .int v_wide, .long v_mask, .int v_paths, .ref z_seen, .ref z_work, .ref z_known, .ref z_next, .int v_come, .int v_isCounted, .ref z_counts, .ref z_acrosses, .ref z_failings, .int v_basis, .ref z_given, .int v_trace])), (z_sheetSize, .inl (cy 0, 4, .inl v_sheetSizec)), (z_sheet, .inl (cy 1, 160, .inr (.inl v_sheetc))), (z_sheetLane, .inl (cy 0, 4, .inl v_sheetLanec))]) (va_runS (As := []) (rest := []) ⟨hx, hb, hml, hown, hts⟩ (c_X10_lost l D cy t H.size K r_4 hc_5) (va_cwS 0 hts gX10_cell_X10_lost rfl rfl rfl (by decide +kernel) ⟨Nat.le_of_ble_eq_true rfl, Nat.le_of_ble_eq_true rfl⟩) ⟨gBlind, fun U hU hW => ⟨rfl, gPre.call hK hG hA hP hD hS [] (by decide) rfl U hU hW⟩⟩ rfl rfl hl.1 rfl (lv_room (Nat.le_of_ble_eq_true rfl)) dX10_cell_24 ⟨Nat.le_of_ble_eq_true rfl, Nat.le_of_ble_eq_true rfl⟩) hA hP hD hS [] [0, 1, 2, 3] rfl rfl (by decide) (by decide) (fun H locs hP hD hS => ?_)
    have hP : va_P D vwCl [(z, .inr (9, [.int 0, .int v_size, .int v_upper, .int v_base, .ref z_isGood, .ref z_frozen, .ref z_sheetSize, .ref z_sheetLane, .ref z_sheet, .ref z_hands, .int v_wide, .long v_mask, .int v_paths, .ref z_seen, .ref z_work, .ref z_known, .ref z_next, .int v_come, .int v_isCounted, .ref z_counts, .ref z_acrosses, .ref z_failings, .int v_basis, .ref z_given, .int v_trace])), (z_sheetSize, .inl (cy 0, 4, .inl v_sheetSizec)), (z_sheet, .inl (cy 1, 160, .inr (.inl v_sheetc))), (z_sheetLane, .inl (cy 0, 4, .inl v_sheetLanec))] H := hP
    have hD : va_D A [(z, .inr (9, [.int 0, .int v_size, .int v_upper, .int v_base, .ref z_isGood, .ref z_frozen, .ref z_sheetSize, .ref z_sheetLane, .ref z_sheet, .ref z_hands, .int v_wide, .long v_mask, .int v_paths, .ref z_seen, .ref z_work, .ref z_known, .ref z_next, .int v_come, .int v_isCounted, .ref z_counts, .ref z_acrosses, .ref z_failings, .int v_basis, .ref z_given, .int v_trace])), (z_sheetSize, .inl (cy 0, 4, .inl v_sheetSizec)), (z_sheet, .inl (cy 1, 160, .inr (.inl v_sheetc))), (z_sheetLane, .inl (cy 0, 4, .inl v_sheetLanec))] := hD
    cases h
    exact gRl hx hb hr hlocks hP hD hS dX10_cell_27
  · have h := gx_t c_3 h
    refine lv_iload_n hx hb dX10_cell_12 rfl (lv_at hl 3 rfl) ?_
    refine lv_i2l (v := (Int32.toInt64 x3)) hx hb dX10_cell_13 rfl ?_
    refine lv_lconst (v := 0) hx hb dX10_cell_14 (by decide) ?_
    refine lv_ldc2 hx hb hown k93 dX10_cell_15 ?_
    obtain ⟨r_6, hc_7, h⟩ := gx_b h
    refine gCalli (wr := [(z, .inr (9, [.int 0, .int v_size, .int v_upper, .int v_base, .ref z_isGood, .ref z_frozen, .ref z_sheetSize, .ref z_sheetLane, .ref z_sheet, .ref z_hands, .int v_wide, .long v_mask, .int v_paths, .ref z_seen, .ref z_work, .ref z_known, .ref z_next, .int v_come, .int v_isCounted, .ref z_counts, .ref z_acrosses, .ref z_failings, .int v_basis, .ref z_given, .int v_trace])), (z_sheetSize, .inl (cy 0, 4, .inl v_sheetSizec)), (z_sheet, .inl (cy 1, 160, .inr (.inl v_sheetc))), (z_sheetLane, .inl (cy 0, 4, .inl v_sheetLanec))]) (va_runS (As := [.long (Int32.toInt64 x3), .long 0, .long 2]) (rest := []) ⟨hx, hb, hml, hown, hts⟩ (c_X10_in l D cy t H.size K (Int32.toInt64 x3) 0 2 r_6 hc_7) (va_cwS 3 hts gX10_cell_X10_in rfl rfl rfl (by decide +kernel) ⟨Nat.le_of_ble_eq_true rfl, Nat.le_of_ble_eq_true rfl⟩) ⟨gBlind, fun U hU hW => ⟨rfl, gPre.call hK hG hA hP hD hS [] (by decide) rfl U hU hW⟩⟩ rfl rfl hl.1 rfl (lv_room (Nat.le_of_ble_eq_true rfl)) dX10_cell_18 ⟨Nat.le_of_ble_eq_true rfl, Nat.le_of_ble_eq_true rfl⟩) hA hP hD hS [] [0, 1, 2, 3] rfl rfl (by decide) (by decide) (fun H locs hP hD hS => ?_)
    have hP : va_P D vwCl [(z, .inr (9, [.int 0, .int v_size, .int v_upper, .int v_base, .ref z_isGood, .ref z_frozen, .ref z_sheetSize, .ref z_sheetLane, .ref z_sheet, .ref z_hands, .int v_wide, .long v_mask, .int v_paths, .ref z_seen, .ref z_work, .ref z_known, .ref z_next, .int v_come, .int v_isCounted, .ref z_counts, .ref z_acrosses, .ref z_failings, .int v_basis, .ref z_given, .int v_trace])), (z_sheetSize, .inl (cy 0, 4, .inl v_sheetSizec)), (z_sheet, .inl (cy 1, 160, .inr (.inl v_sheetc))), (z_sheetLane, .inl (cy 0, 4, .inl v_sheetLanec))] H := hP
    have hD : va_D A [(z, .inr (9, [.int 0, .int v_size, .int v_upper, .int v_base, .ref z_isGood, .ref z_frozen, .ref z_sheetSize, .ref z_sheetLane, .ref z_sheet, .ref z_hands, .int v_wide, .long v_mask, .int v_paths, .ref z_seen, .ref z_work, .ref z_known, .ref z_next, .int v_come, .int v_isCounted, .ref z_counts, .ref z_acrosses, .ref z_failings, .int v_basis, .ref z_given, .int v_trace])), (z_sheetSize, .inl (cy 0, 4, .inl v_sheetSizec)), (z_sheet, .inl (cy 1, 160, .inr (.inl v_sheetc))), (z_sheetLane, .inl (cy 0, 4, .inl v_sheetLanec))] := hD
    refine lv_if_ne (tgt := 28) hx hb dX10_cell_21 (by decide) (fun c_8 => ?_) (fun c_8 => ?_)
    · have h := gx_f c_8 h
      refine lv_aload_n hx hb dX10_cell_28 rfl (lv_at hl 0 rfl) ?_
      refine va_get (D := D) (ci := 9) (v := .ref z_sheetSize) (C := RX10) (T := TX10) (N := 25) hx hb hts iX10 hown hK hP 0 rfl rfl 6 (by decide) f17 (fun _ h9 => h9) rfl dX10_cell_29 ?_
      refine lv_iload_n hx hb dX10_cell_32 rfl (lv_at hl 1 rfl) ?_
      obtain ⟨hi_, h⟩ := gx_ix h
      refine va_iald hx hb hK hP 1 0 rfl rfl hi_ dX10_cell_33 ?_
      refine lv_if_lt (tgt := 53) hx hb dX10_cell_34 (by decide) (fun c_9 => ?_) (fun c_9 => ?_)
      · have h := gx_t c_9 h
        refine lv_aload_n hx hb dX10_cell_53 rfl (lv_at hl 0 rfl) ?_
        refine lv_iload_n hx hb dX10_cell_54 rfl (lv_at hl 1 rfl) ?_
        refine lv_iload_n hx hb dX10_cell_55 rfl (lv_at hl 2 rfl) ?_
        obtain ⟨r_10, hc_11, h⟩ := gx_b h
        refine gCalli (wr := [(z_sheet, .inl (cy 1, 160, .inr (.inl v_sheetc))), (z_sheetLane, .inl (cy 0, 4, .inl v_sheetLanec))]) (va_runV (As := [.int x1, .int x2]) (rest := []) ⟨hx, hb, hml, hown, hts⟩ (c_X10_noCell l D cy t H.size K z z_sheetSize z_isGood z_frozen z_sheetLane z_sheet z_hands z_seen z_work z_known z_next z_counts z_acrosses z_failings z_given 0 v_size v_upper v_base v_wide v_mask v_paths v_come v_isCounted v_basis v_trace v_sheetSizec x1 x2 r_10 hc_11) (cwV 2 hts gX10_cell_X10_noCell rfl rfl rfl (by decide +kernel) ⟨Nat.le_of_ble_eq_true rfl, Nat.le_of_ble_eq_true rfl⟩) ⟨gBlind, va_recv hK hP (ci := 9) (q0 := 0) rfl rfl, fun U hU hW => ⟨rfl, gPre.call hK hG hA hP hD hS [0, 1] (by decide) rfl U hU hW⟩⟩ rfl rfl hl.1 rfl (lv_room (Nat.le_of_ble_eq_true rfl)) dX10_cell_56 ⟨Nat.le_of_ble_eq_true rfl, Nat.le_of_ble_eq_true rfl⟩) hA hP hD hS [0, 1] [2, 3] rfl rfl (by decide) (by decide) (fun H locs hP hD hS => ?_)
        have hP := hP.sub (ws' := [(z, .inr (9, [.int 0, .int v_size, .int v_upper, .int v_base, .ref z_isGood, .ref z_frozen, .ref z_sheetSize, .ref z_sheetLane, .ref z_sheet, .ref z_hands, .int v_wide, .long v_mask, .int v_paths, .ref z_seen, .ref z_work, .ref z_known, .ref z_next, .int v_come, .int v_isCounted, .ref z_counts, .ref z_acrosses, .ref z_failings, .int v_basis, .ref z_given, .int v_trace])), (z_sheetSize, .inl (cy 0, 4, .inl v_sheetSizec)), (z_sheet, .inl (cy 1, 160, .inr (.inl v_sheetc))), (z_sheetLane, .inl (cy 0, 4, .inl v_sheetLanec))]) [2, 3, 0, 1] rfl
        have hD := hD.sub (ws' := [(z, .inr (9, [.int 0, .int v_size, .int v_upper, .int v_base, .ref z_isGood, .ref z_frozen, .ref z_sheetSize, .ref z_sheetLane, .ref z_sheet, .ref z_hands, .int v_wide, .long v_mask, .int v_paths, .ref z_seen, .ref z_work, .ref z_known, .ref z_next, .int v_come, .int v_isCounted, .ref z_counts, .ref z_acrosses, .ref z_failings, .int v_basis, .ref z_given, .int v_trace])), (z_sheetSize, .inl (cy 0, 4, .inl v_sheetSizec)), (z_sheet, .inl (cy 1, 160, .inr (.inl v_sheetc))), (z_sheetLane, .inl (cy 0, 4, .inl v_sheetLanec))]) [2, 3, 0, 1] (by decide) rfl
        refine lv_if_le (tgt := 75) hx hb dX10_cell_59 (by decide) (fun c_12 => ?_) (fun c_12 => ?_)
        · have h := gx_t c_12 h
          refine lv_aload_n hx hb dX10_cell_75 rfl (lv_at hl 0 rfl) ?_
          refine va_get (D := D) (ci := 9) (v := .ref z_sheet) (C := RX10) (T := TX10) (N := 25) hx hb hts iX10 hown hK hP 0 rfl rfl 8 (by decide) f23 (fun _ h9 => h9) rfl dX10_cell_76 ?_
          refine lv_bipush (v := 40) hx hb dX10_cell_79 (by decide) ?_
          refine lv_iload_n hx hb dX10_cell_81 rfl (lv_at hl 1 rfl) ?_
          refine lv_imul hx hb dX10_cell_82 ?_
          refine lv_iload_n hx hb dX10_cell_83 rfl (lv_at hl 2 rfl) ?_
          refine lv_iadd hx hb dX10_cell_84 ?_
          obtain ⟨hi_, h⟩ := gx_ix h
          refine va_lald hx hb hK hP 2 1 rfl rfl hi_ dX10_cell_85 ?_
          cases h
          exact gRl hx hb hr hlocks hP hD hS dX10_cell_86
        · have h := gx_f c_12 h
          refine lv_aload_n hx hb dX10_cell_62 rfl (lv_at hl 0 rfl) ?_
          refine lv_aload_n hx hb dX10_cell_63 rfl (lv_at hl 0 rfl) ?_
          refine lv_iload_n hx hb dX10_cell_64 rfl (lv_at hl 1 rfl) ?_
          refine lv_iload_n hx hb dX10_cell_65 rfl (lv_at hl 2 rfl) ?_
          obtain ⟨r_13, hc_14, h⟩ := gx_b h
          refine gCalli (wr := [(z_sheet, .inl (cy 1, 160, .inr (.inl v_sheetc))), (z_sheetLane, .inl (cy 0, 4, .inl v_sheetLanec))]) (va_runV (As := [.int x1, .int x2]) (rest := [.ref z]) ⟨hx, hb, hml, hown, hts⟩ (c_X10_noCell l D cy t H.size K z z_sheetSize z_isGood z_frozen z_sheetLane z_sheet z_hands z_seen z_work z_known z_next z_counts z_acrosses z_failings z_given 0 v_size v_upper v_base v_wide v_mask v_paths v_come v_isCounted v_basis v_trace v_sheetSizec x1 x2 r_13 hc_14) (cwV 2 hts gX10_cell_X10_noCell rfl rfl rfl (by decide +kernel) ⟨Nat.le_of_ble_eq_true rfl, Nat.le_of_ble_eq_true rfl⟩) ⟨gBlind, va_recv hK hP (ci := 9) (q0 := 0) rfl rfl, fun U hU hW => ⟨rfl, gPre.call hK hG hA hP hD hS [0, 1] (by decide) rfl U hU hW⟩⟩ rfl rfl hl.1 rfl (lv_room (Nat.le_of_ble_eq_true rfl)) dX10_cell_66 ⟨Nat.le_of_ble_eq_true rfl, Nat.le_of_ble_eq_true rfl⟩) hA hP hD hS [0, 1] [2, 3] rfl rfl (by decide) (by decide) (fun H locs hP hD hS => ?_)
          have hP := hP.sub (ws' := [(z, .inr (9, [.int 0, .int v_size, .int v_upper, .int v_base, .ref z_isGood, .ref z_frozen, .ref z_sheetSize, .ref z_sheetLane, .ref z_sheet, .ref z_hands, .int v_wide, .long v_mask, .int v_paths, .ref z_seen, .ref z_work, .ref z_known, .ref z_next, .int v_come, .int v_isCounted, .ref z_counts, .ref z_acrosses, .ref z_failings, .int v_basis, .ref z_given, .int v_trace])), (z_sheetSize, .inl (cy 0, 4, .inl v_sheetSizec)), (z_sheet, .inl (cy 1, 160, .inr (.inl v_sheetc))), (z_sheetLane, .inl (cy 0, 4, .inl v_sheetLanec))]) [2, 3, 0, 1] rfl
          have hD := hD.sub (ws' := [(z, .inr (9, [.int 0, .int v_size, .int v_upper, .int v_base, .ref z_isGood, .ref z_frozen, .ref z_sheetSize, .ref z_sheetLane, .ref z_sheet, .ref z_hands, .int v_wide, .long v_mask, .int v_paths, .ref z_seen, .ref z_work, .ref z_known, .ref z_next, .int v_come, .int v_isCounted, .ref z_counts, .ref z_acrosses, .ref z_failings, .int v_basis, .ref z_given, .int v_trace])), (z_sheetSize, .inl (cy 0, 4, .inl v_sheetSizec)), (z_sheet, .inl (cy 1, 160, .inr (.inl v_sheetc))), (z_sheetLane, .inl (cy 0, 4, .inl v_sheetLanec))]) [2, 3, 0, 1] (by decide) rfl
          obtain ⟨⟨r_15, o_16⟩, hc_17, h⟩ := gx_b h
          refine gCalll (wr := [(z_sheetSize, .inl (cy 0, 4, .inl v_sheetSizec)), (z_sheet, .inl (cy 1, 160, .inr (.inl v_sheetc))), (z_sheetLane, .inl (cy 0, 4, .inl v_sheetLanec))]) (va_runV (As := [.int r_13]) (rest := []) ⟨hx, hb, hml, hown, hts⟩ (c_X10_failedLong l D cy t H.size K z z_isGood z_frozen z_sheetSize z_sheetLane z_sheet z_hands z_seen z_work z_known z_next z_counts z_acrosses z_failings z_given 0 v_size v_upper v_base v_wide v_mask v_paths v_come v_isCounted v_basis v_trace r_13 r_15 o_16 hc_17) (cwV 1 hts gX10_cell_X10_failedLong rfl rfl rfl (by decide +kernel) ⟨Nat.le_of_ble_eq_true rfl, Nat.le_of_ble_eq_true rfl⟩) ⟨gBlind, va_recv hK hP (ci := 9) (q0 := 0) rfl rfl, fun U hU hW => ⟨rfl, gPre.call hK hG hA hP hD hS [0] (by decide) rfl U hU hW⟩⟩ rfl rfl hl.1 rfl (lv_room (Nat.le_of_ble_eq_true rfl)) dX10_cell_69 ⟨Nat.le_of_ble_eq_true rfl, Nat.le_of_ble_eq_true rfl⟩) hA hP hD hS [0] [1, 2, 3] rfl rfl (by decide) (by decide) (fun H locs hP hD hS => ?_)
          have hP := hP.sub (ws' := [(z, .inr (9, [.int o_16, .int v_size, .int v_upper, .int v_base, .ref z_isGood, .ref z_frozen, .ref z_sheetSize, .ref z_sheetLane, .ref z_sheet, .ref z_hands, .int v_wide, .long v_mask, .int v_paths, .ref z_seen, .ref z_work, .ref z_known, .ref z_next, .int v_come, .int v_isCounted, .ref z_counts, .ref z_acrosses, .ref z_failings, .int v_basis, .ref z_given, .int v_trace])), (z_sheetSize, .inl (cy 0, 4, .inl v_sheetSizec)), (z_sheet, .inl (cy 1, 160, .inr (.inl v_sheetc))), (z_sheetLane, .inl (cy 0, 4, .inl v_sheetLanec))]) [3, 0, 1, 2] rfl
          have hD := hD.sub (ws' := [(z, .inr (9, [.int o_16, .int v_size, .int v_upper, .int v_base, .ref z_isGood, .ref z_frozen, .ref z_sheetSize, .ref z_sheetLane, .ref z_sheet, .ref z_hands, .int v_wide, .long v_mask, .int v_paths, .ref z_seen, .ref z_work, .ref z_known, .ref z_next, .int v_come, .int v_isCounted, .ref z_counts, .ref z_acrosses, .ref z_failings, .int v_basis, .ref z_given, .int v_trace])), (z_sheetSize, .inl (cy 0, 4, .inl v_sheetSizec)), (z_sheet, .inl (cy 1, 160, .inr (.inl v_sheetc))), (z_sheetLane, .inl (cy 0, 4, .inl v_sheetLanec))]) [3, 0, 1, 2] (by decide) rfl
          refine lv_goto (tgt := 86) hx hb dX10_cell_72 (by decide) ?_
          cases h
          exact gRl hx hb hr hlocks hP hD hS dX10_cell_86
      · have h := gx_f c_9 h
        refine lv_aload_n hx hb dX10_cell_37 rfl (lv_at hl 0 rfl) ?_
        refine va_get (D := D) (ci := 9) (v := .ref z_sheetLane) (C := RX10) (T := TX10) (N := 25) hx hb hts iX10 hown hK hP 0 rfl rfl 7 (by decide) f20 (fun _ h9 => h9) rfl dX10_cell_38 ?_
        refine lv_iload_n hx hb dX10_cell_41 rfl (lv_at hl 1 rfl) ?_
        obtain ⟨hi_, h⟩ := gx_ix h
        refine va_iald hx hb hK hP 3 0 rfl rfl hi_ dX10_cell_42 ?_
        refine lv_iload_n hx hb dX10_cell_43 rfl (lv_at hl 3 rfl) ?_
        refine lv_icmp_eq (tgt := 53) hx hb dX10_cell_44 (by decide) (fun c_18 => ?_) (fun c_18 => ?_)
        · have h := gx_t c_18 h
          refine lv_aload_n hx hb dX10_cell_53 rfl (lv_at hl 0 rfl) ?_
          refine lv_iload_n hx hb dX10_cell_54 rfl (lv_at hl 1 rfl) ?_
          refine lv_iload_n hx hb dX10_cell_55 rfl (lv_at hl 2 rfl) ?_
          obtain ⟨r_19, hc_20, h⟩ := gx_b h
          refine gCalli (wr := [(z_sheet, .inl (cy 1, 160, .inr (.inl v_sheetc))), (z_sheetLane, .inl (cy 0, 4, .inl v_sheetLanec))]) (va_runV (As := [.int x1, .int x2]) (rest := []) ⟨hx, hb, hml, hown, hts⟩ (c_X10_noCell l D cy t H.size K z z_sheetSize z_isGood z_frozen z_sheetLane z_sheet z_hands z_seen z_work z_known z_next z_counts z_acrosses z_failings z_given 0 v_size v_upper v_base v_wide v_mask v_paths v_come v_isCounted v_basis v_trace v_sheetSizec x1 x2 r_19 hc_20) (cwV 2 hts gX10_cell_X10_noCell rfl rfl rfl (by decide +kernel) ⟨Nat.le_of_ble_eq_true rfl, Nat.le_of_ble_eq_true rfl⟩) ⟨gBlind, va_recv hK hP (ci := 9) (q0 := 0) rfl rfl, fun U hU hW => ⟨rfl, gPre.call hK hG hA hP hD hS [0, 1] (by decide) rfl U hU hW⟩⟩ rfl rfl hl.1 rfl (lv_room (Nat.le_of_ble_eq_true rfl)) dX10_cell_56 ⟨Nat.le_of_ble_eq_true rfl, Nat.le_of_ble_eq_true rfl⟩) hA hP hD hS [0, 1] [2, 3] rfl rfl (by decide) (by decide) (fun H locs hP hD hS => ?_)
          have hP := hP.sub (ws' := [(z, .inr (9, [.int 0, .int v_size, .int v_upper, .int v_base, .ref z_isGood, .ref z_frozen, .ref z_sheetSize, .ref z_sheetLane, .ref z_sheet, .ref z_hands, .int v_wide, .long v_mask, .int v_paths, .ref z_seen, .ref z_work, .ref z_known, .ref z_next, .int v_come, .int v_isCounted, .ref z_counts, .ref z_acrosses, .ref z_failings, .int v_basis, .ref z_given, .int v_trace])), (z_sheetSize, .inl (cy 0, 4, .inl v_sheetSizec)), (z_sheet, .inl (cy 1, 160, .inr (.inl v_sheetc))), (z_sheetLane, .inl (cy 0, 4, .inl v_sheetLanec))]) [2, 3, 0, 1] rfl
          have hD := hD.sub (ws' := [(z, .inr (9, [.int 0, .int v_size, .int v_upper, .int v_base, .ref z_isGood, .ref z_frozen, .ref z_sheetSize, .ref z_sheetLane, .ref z_sheet, .ref z_hands, .int v_wide, .long v_mask, .int v_paths, .ref z_seen, .ref z_work, .ref z_known, .ref z_next, .int v_come, .int v_isCounted, .ref z_counts, .ref z_acrosses, .ref z_failings, .int v_basis, .ref z_given, .int v_trace])), (z_sheetSize, .inl (cy 0, 4, .inl v_sheetSizec)), (z_sheet, .inl (cy 1, 160, .inr (.inl v_sheetc))), (z_sheetLane, .inl (cy 0, 4, .inl v_sheetLanec))]) [2, 3, 0, 1] (by decide) rfl
          refine lv_if_le (tgt := 75) hx hb dX10_cell_59 (by decide) (fun c_21 => ?_) (fun c_21 => ?_)
          · have h := gx_t c_21 h
            refine lv_aload_n hx hb dX10_cell_75 rfl (lv_at hl 0 rfl) ?_
            refine va_get (D := D) (ci := 9) (v := .ref z_sheet) (C := RX10) (T := TX10) (N := 25) hx hb hts iX10 hown hK hP 0 rfl rfl 8 (by decide) f23 (fun _ h9 => h9) rfl dX10_cell_76 ?_
            refine lv_bipush (v := 40) hx hb dX10_cell_79 (by decide) ?_
            refine lv_iload_n hx hb dX10_cell_81 rfl (lv_at hl 1 rfl) ?_
            refine lv_imul hx hb dX10_cell_82 ?_
            refine lv_iload_n hx hb dX10_cell_83 rfl (lv_at hl 2 rfl) ?_
            refine lv_iadd hx hb dX10_cell_84 ?_
            obtain ⟨hi_, h⟩ := gx_ix h
            refine va_lald hx hb hK hP 2 1 rfl rfl hi_ dX10_cell_85 ?_
            cases h
            exact gRl hx hb hr hlocks hP hD hS dX10_cell_86
          · have h := gx_f c_21 h
            refine lv_aload_n hx hb dX10_cell_62 rfl (lv_at hl 0 rfl) ?_
            refine lv_aload_n hx hb dX10_cell_63 rfl (lv_at hl 0 rfl) ?_
            refine lv_iload_n hx hb dX10_cell_64 rfl (lv_at hl 1 rfl) ?_
            refine lv_iload_n hx hb dX10_cell_65 rfl (lv_at hl 2 rfl) ?_
            obtain ⟨r_22, hc_23, h⟩ := gx_b h
            refine gCalli (wr := [(z_sheet, .inl (cy 1, 160, .inr (.inl v_sheetc))), (z_sheetLane, .inl (cy 0, 4, .inl v_sheetLanec))]) (va_runV (As := [.int x1, .int x2]) (rest := [.ref z]) ⟨hx, hb, hml, hown, hts⟩ (c_X10_noCell l D cy t H.size K z z_sheetSize z_isGood z_frozen z_sheetLane z_sheet z_hands z_seen z_work z_known z_next z_counts z_acrosses z_failings z_given 0 v_size v_upper v_base v_wide v_mask v_paths v_come v_isCounted v_basis v_trace v_sheetSizec x1 x2 r_22 hc_23) (cwV 2 hts gX10_cell_X10_noCell rfl rfl rfl (by decide +kernel) ⟨Nat.le_of_ble_eq_true rfl, Nat.le_of_ble_eq_true rfl⟩) ⟨gBlind, va_recv hK hP (ci := 9) (q0 := 0) rfl rfl, fun U hU hW => ⟨rfl, gPre.call hK hG hA hP hD hS [0, 1] (by decide) rfl U hU hW⟩⟩ rfl rfl hl.1 rfl (lv_room (Nat.le_of_ble_eq_true rfl)) dX10_cell_66 ⟨Nat.le_of_ble_eq_true rfl, Nat.le_of_ble_eq_true rfl⟩) hA hP hD hS [0, 1] [2, 3] rfl rfl (by decide) (by decide) (fun H locs hP hD hS => ?_)
            have hP := hP.sub (ws' := [(z, .inr (9, [.int 0, .int v_size, .int v_upper, .int v_base, .ref z_isGood, .ref z_frozen, .ref z_sheetSize, .ref z_sheetLane, .ref z_sheet, .ref z_hands, .int v_wide, .long v_mask, .int v_paths, .ref z_seen, .ref z_work, .ref z_known, .ref z_next, .int v_come, .int v_isCounted, .ref z_counts, .ref z_acrosses, .ref z_failings, .int v_basis, .ref z_given, .int v_trace])), (z_sheetSize, .inl (cy 0, 4, .inl v_sheetSizec)), (z_sheet, .inl (cy 1, 160, .inr (.inl v_sheetc))), (z_sheetLane, .inl (cy 0, 4, .inl v_sheetLanec))]) [2, 3, 0, 1] rfl
            have hD := hD.sub (ws' := [(z, .inr (9, [.int 0, .int v_size, .int v_upper, .int v_base, .ref z_isGood, .ref z_frozen, .ref z_sheetSize, .ref z_sheetLane, .ref z_sheet, .ref z_hands, .int v_wide, .long v_mask, .int v_paths, .ref z_seen, .ref z_work, .ref z_known, .ref z_next, .int v_come, .int v_isCounted, .ref z_counts, .ref z_acrosses, .ref z_failings, .int v_basis, .ref z_given, .int v_trace])), (z_sheetSize, .inl (cy 0, 4, .inl v_sheetSizec)), (z_sheet, .inl (cy 1, 160, .inr (.inl v_sheetc))), (z_sheetLane, .inl (cy 0, 4, .inl v_sheetLanec))]) [2, 3, 0, 1] (by decide) rfl
            obtain ⟨⟨r_24, o_25⟩, hc_26, h⟩ := gx_b h
            refine gCalll (wr := [(z_sheetSize, .inl (cy 0, 4, .inl v_sheetSizec)), (z_sheet, .inl (cy 1, 160, .inr (.inl v_sheetc))), (z_sheetLane, .inl (cy 0, 4, .inl v_sheetLanec))]) (va_runV (As := [.int r_22]) (rest := []) ⟨hx, hb, hml, hown, hts⟩ (c_X10_failedLong l D cy t H.size K z z_isGood z_frozen z_sheetSize z_sheetLane z_sheet z_hands z_seen z_work z_known z_next z_counts z_acrosses z_failings z_given 0 v_size v_upper v_base v_wide v_mask v_paths v_come v_isCounted v_basis v_trace r_22 r_24 o_25 hc_26) (cwV 1 hts gX10_cell_X10_failedLong rfl rfl rfl (by decide +kernel) ⟨Nat.le_of_ble_eq_true rfl, Nat.le_of_ble_eq_true rfl⟩) ⟨gBlind, va_recv hK hP (ci := 9) (q0 := 0) rfl rfl, fun U hU hW => ⟨rfl, gPre.call hK hG hA hP hD hS [0] (by decide) rfl U hU hW⟩⟩ rfl rfl hl.1 rfl (lv_room (Nat.le_of_ble_eq_true rfl)) dX10_cell_69 ⟨Nat.le_of_ble_eq_true rfl, Nat.le_of_ble_eq_true rfl⟩) hA hP hD hS [0] [1, 2, 3] rfl rfl (by decide) (by decide) (fun H locs hP hD hS => ?_)
            have hP := hP.sub (ws' := [(z, .inr (9, [.int o_25, .int v_size, .int v_upper, .int v_base, .ref z_isGood, .ref z_frozen, .ref z_sheetSize, .ref z_sheetLane, .ref z_sheet, .ref z_hands, .int v_wide, .long v_mask, .int v_paths, .ref z_seen, .ref z_work, .ref z_known, .ref z_next, .int v_come, .int v_isCounted, .ref z_counts, .ref z_acrosses, .ref z_failings, .int v_basis, .ref z_given, .int v_trace])), (z_sheetSize, .inl (cy 0, 4, .inl v_sheetSizec)), (z_sheet, .inl (cy 1, 160, .inr (.inl v_sheetc))), (z_sheetLane, .inl (cy 0, 4, .inl v_sheetLanec))]) [3, 0, 1, 2] rfl
            have hD := hD.sub (ws' := [(z, .inr (9, [.int o_25, .int v_size, .int v_upper, .int v_base, .ref z_isGood, .ref z_frozen, .ref z_sheetSize, .ref z_sheetLane, .ref z_sheet, .ref z_hands, .int v_wide, .long v_mask, .int v_paths, .ref z_seen, .ref z_work, .ref z_known, .ref z_next, .int v_come, .int v_isCounted, .ref z_counts, .ref z_acrosses, .ref z_failings, .int v_basis, .ref z_given, .int v_trace])), (z_sheetSize, .inl (cy 0, 4, .inl v_sheetSizec)), (z_sheet, .inl (cy 1, 160, .inr (.inl v_sheetc))), (z_sheetLane, .inl (cy 0, 4, .inl v_sheetLanec))]) [3, 0, 1, 2] (by decide) rfl
            refine lv_goto (tgt := 86) hx hb dX10_cell_72 (by decide) ?_
            cases h
            exact gRl hx hb hr hlocks hP hD hS dX10_cell_86
        · have h := gx_f c_18 h
          refine lv_aload_n hx hb dX10_cell_47 rfl (lv_at hl 0 rfl) ?_
          refine lv_iconst (v := 2) hx hb dX10_cell_48 (by decide) ?_
          obtain ⟨⟨r_27, o_28⟩, hc_29, h⟩ := gx_b h
          refine gCalll (wr := [(z_sheetSize, .inl (cy 0, 4, .inl v_sheetSizec)), (z_sheet, .inl (cy 1, 160, .inr (.inl v_sheetc))), (z_sheetLane, .inl (cy 0, 4, .inl v_sheetLanec))]) (va_runV (As := [.int 2]) (rest := []) ⟨hx, hb, hml, hown, hts⟩ (c_X10_failedLong l D cy t H.size K z z_isGood z_frozen z_sheetSize z_sheetLane z_sheet z_hands z_seen z_work z_known z_next z_counts z_acrosses z_failings z_given 0 v_size v_upper v_base v_wide v_mask v_paths v_come v_isCounted v_basis v_trace 2 r_27 o_28 hc_29) (cwV 1 hts gX10_cell_X10_failedLong rfl rfl rfl (by decide +kernel) ⟨Nat.le_of_ble_eq_true rfl, Nat.le_of_ble_eq_true rfl⟩) ⟨gBlind, va_recv hK hP (ci := 9) (q0 := 0) rfl rfl, fun U hU hW => ⟨rfl, gPre.call hK hG hA hP hD hS [0] (by decide) rfl U hU hW⟩⟩ rfl rfl hl.1 rfl (lv_room (Nat.le_of_ble_eq_true rfl)) dX10_cell_49 ⟨Nat.le_of_ble_eq_true rfl, Nat.le_of_ble_eq_true rfl⟩) hA hP hD hS [0] [1, 2, 3] rfl rfl (by decide) (by decide) (fun H locs hP hD hS => ?_)
          have hP := hP.sub (ws' := [(z, .inr (9, [.int o_28, .int v_size, .int v_upper, .int v_base, .ref z_isGood, .ref z_frozen, .ref z_sheetSize, .ref z_sheetLane, .ref z_sheet, .ref z_hands, .int v_wide, .long v_mask, .int v_paths, .ref z_seen, .ref z_work, .ref z_known, .ref z_next, .int v_come, .int v_isCounted, .ref z_counts, .ref z_acrosses, .ref z_failings, .int v_basis, .ref z_given, .int v_trace])), (z_sheetSize, .inl (cy 0, 4, .inl v_sheetSizec)), (z_sheet, .inl (cy 1, 160, .inr (.inl v_sheetc))), (z_sheetLane, .inl (cy 0, 4, .inl v_sheetLanec))]) [3, 0, 1, 2] rfl
          have hD := hD.sub (ws' := [(z, .inr (9, [.int o_28, .int v_size, .int v_upper, .int v_base, .ref z_isGood, .ref z_frozen, .ref z_sheetSize, .ref z_sheetLane, .ref z_sheet, .ref z_hands, .int v_wide, .long v_mask, .int v_paths, .ref z_seen, .ref z_work, .ref z_known, .ref z_next, .int v_come, .int v_isCounted, .ref z_counts, .ref z_acrosses, .ref z_failings, .int v_basis, .ref z_given, .int v_trace])), (z_sheetSize, .inl (cy 0, 4, .inl v_sheetSizec)), (z_sheet, .inl (cy 1, 160, .inr (.inl v_sheetc))), (z_sheetLane, .inl (cy 0, 4, .inl v_sheetLanec))]) [3, 0, 1, 2] (by decide) rfl
          cases h
          exact gRl hx hb hr hlocks hP hD hS dX10_cell_52
    · have h := gx_t c_8 h
      obtain ⟨r_30, hc_31, h⟩ := gx_b h
      refine gCalll (wr := [(z, .inr (9, [.int 0, .int v_size, .int v_upper, .int v_base, .ref z_isGood, .ref z_frozen, .ref z_sheetSize, .ref z_sheetLane, .ref z_sheet, .ref z_hands, .int v_wide, .long v_mask, .int v_paths, .ref z_seen, .ref z_work, .ref z_known, .ref z_next, .int v_come, .int v_isCounted, .ref z_counts, .ref z_acrosses, .ref z_failings, .int v_basis, .ref z_given, .int v_trace])), (z_sheetSize, .inl (cy 0, 4, .inl v_sheetSizec)), (z_sheet, .inl (cy 1, 160, .inr (.inl v_sheetc))), (z_sheetLane, .inl (cy 0, 4, .inl v_sheetLanec))]) (va_runS (As := []) (rest := []) ⟨hx, hb, hml, hown, hts⟩ (c_X10_lost l D cy t H.size K r_30 hc_31) (va_cwS 0 hts gX10_cell_X10_lost rfl rfl rfl (by decide +kernel) ⟨Nat.le_of_ble_eq_true rfl, Nat.le_of_ble_eq_true rfl⟩) ⟨gBlind, fun U hU hW => ⟨rfl, gPre.call hK hG hA hP hD hS [] (by decide) rfl U hU hW⟩⟩ rfl rfl hl.1 rfl (lv_room (Nat.le_of_ble_eq_true rfl)) dX10_cell_24 ⟨Nat.le_of_ble_eq_true rfl, Nat.le_of_ble_eq_true rfl⟩) hA hP hD hS [] [0, 1, 2, 3] rfl rfl (by decide) (by decide) (fun H locs hP hD hS => ?_)
      have hP : va_P D vwCl [(z, .inr (9, [.int 0, .int v_size, .int v_upper, .int v_base, .ref z_isGood, .ref z_frozen, .ref z_sheetSize, .ref z_sheetLane, .ref z_sheet, .ref z_hands, .int v_wide, .long v_mask, .int v_paths, .ref z_seen, .ref z_work, .ref z_known, .ref z_next, .int v_come, .int v_isCounted, .ref z_counts, .ref z_acrosses, .ref z_failings, .int v_basis, .ref z_given, .int v_trace])), (z_sheetSize, .inl (cy 0, 4, .inl v_sheetSizec)), (z_sheet, .inl (cy 1, 160, .inr (.inl v_sheetc))), (z_sheetLane, .inl (cy 0, 4, .inl v_sheetLanec))] H := hP
      have hD : va_D A [(z, .inr (9, [.int 0, .int v_size, .int v_upper, .int v_base, .ref z_isGood, .ref z_frozen, .ref z_sheetSize, .ref z_sheetLane, .ref z_sheet, .ref z_hands, .int v_wide, .long v_mask, .int v_paths, .ref z_seen, .ref z_work, .ref z_known, .ref z_next, .int v_come, .int v_isCounted, .ref z_counts, .ref z_acrosses, .ref z_failings, .int v_basis, .ref z_given, .int v_trace])), (z_sheetSize, .inl (cy 0, 4, .inl v_sheetSizec)), (z_sheet, .inl (cy 1, 160, .inr (.inl v_sheetc))), (z_sheetLane, .inl (cy 0, 4, .inl v_sheetLanec))] := hD
      cases h
      exact gRl hx hb hr hlocks hP hD hS dX10_cell_27

def f_X10_isBeyond (K : Nat) (x1 : Int32) (x2 : Int32) (x3 : Int32) : Option (Int32) :=
  if x1 < 0 then
    some 1
  else
    if x2 < 0 then
      some 1
    else
      if (lg_cmp ((Int32.toInt64 x1) + (Int32.toInt64 x2)) (Int32.toInt64 x3)) ≤ 0 then
        some 0
      else
        some 1
set_option maxHeartbeats 4000000 in
set_option maxRecDepth 100000 in
theorem c_X10_isBeyond (l : Launch) (D : va_G) (cy : Nat → ClassId) (t sz K : Nat) (x1 : Int32) (x2 : Int32) (x3 : Int32) (r_ : Int32) (h : f_X10_isBeyond K x1 x2 x3 = some r_) : gMi l D cy t sz yX10_isBeyond wsX10_isBeyond 0 0 [.int x1, .int x2, .int x3] [] r_ [] := by
  refine gBi (cc := cX10_isBeyond) (maxL := 3) (ret := (some .boolean)) (by decide) rfl (Nat.le_of_ble_eq_true rfl) ?_
  intro p e s m below meth c A ls hAt hl
  obtain ⟨hx, hb, hml, hr, hts, hown, hlocks, hin, hK, hG, hA, hP, hD⟩ := hAt
  have hS : va_S A s.heap s.heap [] := va_S.rf
  have hl : lv_has ls 3 [(0, .int x1), (1, .int x2), (2, .int x3)] := hl
  rw [f_X10_isBeyond] at h
  refine lv_iload_n hx hb dX10_isBeyond_0 rfl (lv_at hl 0 rfl) ?_
  refine lv_if_lt (tgt := 19) hx hb dX10_isBeyond_1 (by decide) (fun c_1 => ?_) (fun c_1 => ?_)
  · have h := gx_t c_1 h
    refine lv_iconst (v := 1) hx hb dX10_isBeyond_19 (by decide) ?_
    refine lv_goto (tgt := 24) hx hb dX10_isBeyond_20 (by decide) ?_
    cases h
    exact gRz hx hb hr hlocks rfl hP hD hS dX10_isBeyond_24
  · have h := gx_f c_1 h
    refine lv_iload_n hx hb dX10_isBeyond_4 rfl (lv_at hl 1 rfl) ?_
    refine lv_if_lt (tgt := 19) hx hb dX10_isBeyond_5 (by decide) (fun c_2 => ?_) (fun c_2 => ?_)
    · have h := gx_t c_2 h
      refine lv_iconst (v := 1) hx hb dX10_isBeyond_19 (by decide) ?_
      refine lv_goto (tgt := 24) hx hb dX10_isBeyond_20 (by decide) ?_
      cases h
      exact gRz hx hb hr hlocks rfl hP hD hS dX10_isBeyond_24
    · have h := gx_f c_2 h
      refine lv_iload_n hx hb dX10_isBeyond_8 rfl (lv_at hl 0 rfl) ?_
      refine lv_i2l (v := (Int32.toInt64 x1)) hx hb dX10_isBeyond_9 rfl ?_
      refine lv_iload_n hx hb dX10_isBeyond_10 rfl (lv_at hl 1 rfl) ?_
      refine lv_i2l (v := (Int32.toInt64 x2)) hx hb dX10_isBeyond_11 rfl ?_
      refine lv_ladd hx hb dX10_isBeyond_12 ?_
      refine lv_iload_n hx hb dX10_isBeyond_13 rfl (lv_at hl 2 rfl) ?_
      refine lv_i2l (v := (Int32.toInt64 x3)) hx hb dX10_isBeyond_14 rfl ?_
      refine W.lcmp hx hb dX10_isBeyond_15 ?_
      refine lv_if_le (tgt := 23) hx hb dX10_isBeyond_16 (by decide) (fun c_3 => ?_) (fun c_3 => ?_)
      · have h := gx_t c_3 h
        refine lv_iconst (v := 0) hx hb dX10_isBeyond_23 (by decide) ?_
        cases h
        exact gRz hx hb hr hlocks rfl hP hD hS dX10_isBeyond_24
      · have h := gx_f c_3 h
        refine lv_iconst (v := 1) hx hb dX10_isBeyond_19 (by decide) ?_
        refine lv_goto (tgt := 24) hx hb dX10_isBeyond_20 (by decide) ?_
        cases h
        exact gRz hx hb hr hlocks rfl hP hD hS dX10_isBeyond_24

def fL_X10_copy_105 (K : Nat) (l1 : Int32) (l2 : Int32) (l5 : Int32) (u3 : Nat → Int64) : Nat → Int32 × (Nat → Int64) → Option (Int32 × (Nat → Int64))
  | 0, _ => none
  | k + 1, (l6, u4) =>
    if l5 ≤ l6 then
      some (l6, u4)
    else
      gIx (((40 * l1) + l2) + l6) 160 <|
      gLet (u3 (Int32.toNatClampNeg (((40 * l1) + l2) + l6))) fun y_23 =>
      gIx l6 40 <|
      gLet (vp_updL u4 (Int32.toNatClampNeg l6) y_23) fun w_24 =>
      gLet (l6 + 1) fun y6_25 =>
      fL_X10_copy_105 K l1 l2 l5 u3 k (y6_25, w_24)
def fL_X10_copy_142 (K : Nat) (l3 : Int32) (l4 : Int32) (l5 : Int32) (u4 : Nat → Int64) : Nat → Int32 × (Nat → Int64) → Option (Int32 × (Nat → Int64))
  | 0, _ => none
  | k + 1, (l6, u3) =>
    if l5 ≤ l6 then
      some (l6, u3)
    else
      gIx l6 40 <|
      gLet (u4 (Int32.toNatClampNeg l6)) fun y_33 =>
      gIx (((40 * l3) + l4) + l6) 160 <|
      gLet (vp_updL u3 (Int32.toNatClampNeg (((40 * l3) + l4) + l6)) y_33) fun w_34 =>
      gLet (l6 + 1) fun y6_35 =>
      fL_X10_copy_142 K l3 l4 l5 u4 k (y6_35, w_34)
def f_X10_copy (K : Nat) (x1 : Int32) (x2 : Int32) (x3 : Int32) (x4 : Int32) (x5 : Int32) (v_sheetSizec : Nat → Int32) (v_sheetLanec : Nat → Int32) (v_sheetc : Nat → Int64) (v_handsc : Nat → Int64) : Option (Int32 × Int32 × (Nat → Int64) × (Nat → Int64)) :=
  Option.bind (f_X10_noSheet K x1) fun r_1 =>
  if r_1 = 0 then
    Option.bind (f_X10_noSheet K x3) fun r_5 =>
    if r_5 = 0 then
      gIx x1 4 <|
      if (v_sheetSizec (Int32.toNatClampNeg x1)) < 0 then
        Option.bind (f_X10_failed K 1) fun (r_8, o_9) =>
        some (r_8, o_9, v_sheetc, v_handsc)
      else
        gIx x3 4 <|
        if 0 ≤ (v_sheetSizec (Int32.toNatClampNeg x3)) then
          gIx x1 4 <|
          gIx x3 4 <|
          if (v_sheetLanec (Int32.toNatClampNeg x1)) = (v_sheetLanec (Int32.toNatClampNeg x3)) then
            gIx x1 4 <|
            Option.bind (f_X10_isBeyond K x2 x5 (v_sheetSizec (Int32.toNatClampNeg x1))) fun r_12 =>
            if r_12 = 0 then
              gIx x3 4 <|
              Option.bind (f_X10_isBeyond K x4 x5 (v_sheetSizec (Int32.toNatClampNeg x3))) fun r_16 =>
              if r_16 = 0 then
                Option.bind (fL_X10_copy_105 K x1 x2 x5 v_sheetc K (0, v_handsc)) fun (o_26, o_27) =>
                Option.bind (fL_X10_copy_142 K x3 x4 x5 o_27 K (0, v_sheetc)) fun (o_36, o_37) =>
                Option.bind (f_X10_refused K x5) fun (r_38, o_39) =>
                some (r_38, o_39, o_37, o_27)
              else
                Option.bind (f_X10_failed K 3) fun (r_40, o_41) =>
                some (r_40, o_41, v_sheetc, v_handsc)
            else
              Option.bind (f_X10_failed K 3) fun (r_14, o_15) =>
              some (r_14, o_15, v_sheetc, v_handsc)
          else
            Option.bind (f_X10_failed K 2) fun (r_42, o_43) =>
            some (r_42, o_43, v_sheetc, v_handsc)
        else
          Option.bind (f_X10_failed K 1) fun (r_44, o_45) =>
          some (r_44, o_45, v_sheetc, v_handsc)
    else
      Option.bind (f_X10_refused K (-1)) fun (r_46, o_47) =>
      some (r_46, o_47, v_sheetc, v_handsc)
  else
    Option.bind (f_X10_refused K (-1)) fun (r_3, o_4) =>
    some (r_3, o_4, v_sheetc, v_handsc)
set_option maxHeartbeats 4000000 in
set_option maxRecDepth 100000 in
theorem c_X10_copy (l : Launch) (D : va_G) (cy : Nat → ClassId) (t sz K : Nat) (z : Nat) (z_sheetSize : Nat) (z_sheetLane : Nat) (z_sheet : Nat) (z_hands : Nat) (z_isGood : Nat) (z_frozen : Nat) (z_seen : Nat) (z_work : Nat) (z_known : Nat) (z_next : Nat) (z_counts : Nat) (z_acrosses : Nat) (z_failings : Nat) (z_given : Nat) (v_fault : Int32) (v_size : Int32) (v_upper : Int32) (v_base : Int32) (v_wide : Int32) (v_mask : Int64) (v_paths : Int32) (v_come : Int32) (v_isCounted : Int32) (v_basis : Int32) (v_trace : Int32) (v_sheetSizec : Nat → Int32) (v_sheetLanec : Nat → Int32) (v_sheetc : Nat → Int64) (v_handsc : Nat → Int64) (x1 : Int32) (x2 : Int32) (x3 : Int32) (x4 : Int32) (x5 : Int32) (r_ : Int32) (o_v_fault : Int32) (o_v_sheetc : Nat → Int64) (o_v_handsc : Nat → Int64) (h : f_X10_copy K x1 x2 x3 x4 x5 v_sheetSizec v_sheetLanec v_sheetc v_handsc = some (r_, o_v_fault, o_v_sheetc, o_v_handsc)) : gMi l D cy t sz yX10_copy wsX10_copy 2 45 [.ref z, .int x1, .int x2, .int x3, .int x4, .int x5] [(z, .inr (9, [.int v_fault, .int v_size, .int v_upper, .int v_base, .ref z_isGood, .ref z_frozen, .ref z_sheetSize, .ref z_sheetLane, .ref z_sheet, .ref z_hands, .int v_wide, .long v_mask, .int v_paths, .ref z_seen, .ref z_work, .ref z_known, .ref z_next, .int v_come, .int v_isCounted, .ref z_counts, .ref z_acrosses, .ref z_failings, .int v_basis, .ref z_given, .int v_trace])), (z_sheetSize, .inl (cy 0, 4, .inl v_sheetSizec)), (z_sheetLane, .inl (cy 0, 4, .inl v_sheetLanec)), (z_sheet, .inl (cy 1, 160, .inr (.inl v_sheetc))), (z_hands, .inl (cy 1, 40, .inr (.inl v_handsc)))] r_ [(z, .inr (9, [.int o_v_fault, .int v_size, .int v_upper, .int v_base, .ref z_isGood, .ref z_frozen, .ref z_sheetSize, .ref z_sheetLane, .ref z_sheet, .ref z_hands, .int v_wide, .long v_mask, .int v_paths, .ref z_seen, .ref z_work, .ref z_known, .ref z_next, .int v_come, .int v_isCounted, .ref z_counts, .ref z_acrosses, .ref z_failings, .int v_basis, .ref z_given, .int v_trace])), (z_sheetSize, .inl (cy 0, 4, .inl v_sheetSizec)), (z_sheetLane, .inl (cy 0, 4, .inl v_sheetLanec)), (z_sheet, .inl (cy 1, 160, .inr (.inl o_v_sheetc))), (z_hands, .inl (cy 1, 40, .inr (.inl o_v_handsc)))] := by
  refine gBi (cc := cX10_copy) (maxL := 7) (ret := (some .int)) (by decide) rfl (Nat.le_of_ble_eq_true rfl) ?_
  intro p e s m below meth c A ls hAt hl
  obtain ⟨hx, hb, hml, hr, hts, hown, hlocks, hin, hK, hG, hA, hP, hD⟩ := hAt
  have hS : va_S A s.heap s.heap [] := va_S.rf
  have hl : lv_has ls 7 [(0, .ref z), (1, .int x1), (2, .int x2), (3, .int x3), (4, .int x4), (5, .int x5)] := hl
  have f17 := hts (.fieldLink RX10 17 "PlainLinesModel" "sheetSize" "[I") (by decide +kernel)
  have iX10 := (by decide +kernel : ∀ w ∈ u_ws RX10 TX10 25, w ∈ wsX10_copy)
  have f20 := hts (.fieldLink RX10 20 "PlainLinesModel" "sheetLane" "[I") (by decide +kernel)
  have f23 := hts (.fieldLink RX10 23 "PlainLinesModel" "sheet" "[J") (by decide +kernel)
  have f27 := hts (.fieldLink RX10 27 "PlainLinesModel" "hands" "[J") (by decide +kernel)
  rw [f_X10_copy] at h
  refine lv_iload_n hx hb dX10_copy_0 rfl (lv_at hl 1 rfl) ?_
  obtain ⟨r_1, hc_2, h⟩ := gx_b h
  refine gCalli (wr := [(z, .inr (9, [.int v_fault, .int v_size, .int v_upper, .int v_base, .ref z_isGood, .ref z_frozen, .ref z_sheetSize, .ref z_sheetLane, .ref z_sheet, .ref z_hands, .int v_wide, .long v_mask, .int v_paths, .ref z_seen, .ref z_work, .ref z_known, .ref z_next, .int v_come, .int v_isCounted, .ref z_counts, .ref z_acrosses, .ref z_failings, .int v_basis, .ref z_given, .int v_trace])), (z_sheetSize, .inl (cy 0, 4, .inl v_sheetSizec)), (z_sheetLane, .inl (cy 0, 4, .inl v_sheetLanec)), (z_sheet, .inl (cy 1, 160, .inr (.inl v_sheetc))), (z_hands, .inl (cy 1, 40, .inr (.inl v_handsc)))]) (va_runS (As := [.int x1]) (rest := []) ⟨hx, hb, hml, hown, hts⟩ (c_X10_noSheet l D cy t s.heap.size K x1 r_1 hc_2) (va_cwS 1 hts gX10_copy_X10_noSheet rfl rfl rfl (by decide +kernel) ⟨Nat.le_of_ble_eq_true rfl, Nat.le_of_ble_eq_true rfl⟩) ⟨gBlind, fun U hU hW => ⟨rfl, gPre.call hK hG hA hP hD hS [] (by decide) rfl U hU hW⟩⟩ rfl rfl hl.1 rfl (lv_room (Nat.le_of_ble_eq_true rfl)) dX10_copy_1 ⟨Nat.le_of_ble_eq_true rfl, Nat.le_of_ble_eq_true rfl⟩) hA hP hD hS [] [0, 1, 2, 3, 4] rfl rfl (by decide) (by decide) (fun H locs hP hD hS => ?_)
  have hP : va_P D vwCl [(z, .inr (9, [.int v_fault, .int v_size, .int v_upper, .int v_base, .ref z_isGood, .ref z_frozen, .ref z_sheetSize, .ref z_sheetLane, .ref z_sheet, .ref z_hands, .int v_wide, .long v_mask, .int v_paths, .ref z_seen, .ref z_work, .ref z_known, .ref z_next, .int v_come, .int v_isCounted, .ref z_counts, .ref z_acrosses, .ref z_failings, .int v_basis, .ref z_given, .int v_trace])), (z_sheetSize, .inl (cy 0, 4, .inl v_sheetSizec)), (z_sheetLane, .inl (cy 0, 4, .inl v_sheetLanec)), (z_sheet, .inl (cy 1, 160, .inr (.inl v_sheetc))), (z_hands, .inl (cy 1, 40, .inr (.inl v_handsc)))] H := hP
  have hD : va_D A [(z, .inr (9, [.int v_fault, .int v_size, .int v_upper, .int v_base, .ref z_isGood, .ref z_frozen, .ref z_sheetSize, .ref z_sheetLane, .ref z_sheet, .ref z_hands, .int v_wide, .long v_mask, .int v_paths, .ref z_seen, .ref z_work, .ref z_known, .ref z_next, .int v_come, .int v_isCounted, .ref z_counts, .ref z_acrosses, .ref z_failings, .int v_basis, .ref z_given, .int v_trace])), (z_sheetSize, .inl (cy 0, 4, .inl v_sheetSizec)), (z_sheetLane, .inl (cy 0, 4, .inl v_sheetLanec)), (z_sheet, .inl (cy 1, 160, .inr (.inl v_sheetc))), (z_hands, .inl (cy 1, 40, .inr (.inl v_handsc)))] := hD
  refine lv_if_ne (tgt := 14) hx hb dX10_copy_4 (by decide) (fun c_3 => ?_) (fun c_3 => ?_)
  · have h := gx_f c_3 h
    refine lv_aload_n hx hb dX10_copy_14 rfl (lv_at hl 0 rfl) ?_
    refine lv_iconst (v := (-1)) hx hb dX10_copy_15 (by decide) ?_
    obtain ⟨⟨r_4, o_5⟩, hc_6, h⟩ := gx_b h
    refine gCalli (wr := [(z_sheetSize, .inl (cy 0, 4, .inl v_sheetSizec)), (z_sheetLane, .inl (cy 0, 4, .inl v_sheetLanec)), (z_sheet, .inl (cy 1, 160, .inr (.inl v_sheetc))), (z_hands, .inl (cy 1, 40, .inr (.inl v_handsc)))]) (va_runV (As := [.int (-1)]) (rest := []) ⟨hx, hb, hml, hown, hts⟩ (c_X10_refused l D cy t H.size K z z_isGood z_frozen z_sheetSize z_sheetLane z_sheet z_hands z_seen z_work z_known z_next z_counts z_acrosses z_failings z_given v_fault v_size v_upper v_base v_wide v_mask v_paths v_come v_isCounted v_basis v_trace (-1) r_4 o_5 hc_6) (cwV 1 hts gX10_copy_X10_refused rfl rfl rfl (by decide +kernel) ⟨Nat.le_of_ble_eq_true rfl, Nat.le_of_ble_eq_true rfl⟩) ⟨gBlind, va_recv hK hP (ci := 9) (q0 := 0) rfl rfl, fun U hU hW => ⟨rfl, gPre.call hK hG hA hP hD hS [0] (by decide) rfl U hU hW⟩⟩ rfl rfl hl.1 rfl (lv_room (Nat.le_of_ble_eq_true rfl)) dX10_copy_16 ⟨Nat.le_of_ble_eq_true rfl, Nat.le_of_ble_eq_true rfl⟩) hA hP hD hS [0] [1, 2, 3, 4] rfl rfl (by decide) (by decide) (fun H locs hP hD hS => ?_)
    have hP := hP.sub (ws' := [(z, .inr (9, [.int o_5, .int v_size, .int v_upper, .int v_base, .ref z_isGood, .ref z_frozen, .ref z_sheetSize, .ref z_sheetLane, .ref z_sheet, .ref z_hands, .int v_wide, .long v_mask, .int v_paths, .ref z_seen, .ref z_work, .ref z_known, .ref z_next, .int v_come, .int v_isCounted, .ref z_counts, .ref z_acrosses, .ref z_failings, .int v_basis, .ref z_given, .int v_trace])), (z_sheetSize, .inl (cy 0, 4, .inl v_sheetSizec)), (z_sheetLane, .inl (cy 0, 4, .inl v_sheetLanec)), (z_sheet, .inl (cy 1, 160, .inr (.inl v_sheetc))), (z_hands, .inl (cy 1, 40, .inr (.inl v_handsc)))]) [4, 0, 1, 2, 3] rfl
    have hD := hD.sub (ws' := [(z, .inr (9, [.int o_5, .int v_size, .int v_upper, .int v_base, .ref z_isGood, .ref z_frozen, .ref z_sheetSize, .ref z_sheetLane, .ref z_sheet, .ref z_hands, .int v_wide, .long v_mask, .int v_paths, .ref z_seen, .ref z_work, .ref z_known, .ref z_next, .int v_come, .int v_isCounted, .ref z_counts, .ref z_acrosses, .ref z_failings, .int v_basis, .ref z_given, .int v_trace])), (z_sheetSize, .inl (cy 0, 4, .inl v_sheetSizec)), (z_sheetLane, .inl (cy 0, 4, .inl v_sheetLanec)), (z_sheet, .inl (cy 1, 160, .inr (.inl v_sheetc))), (z_hands, .inl (cy 1, 40, .inr (.inl v_handsc)))]) [4, 0, 1, 2, 3] (by decide) rfl
    cases h
    exact gRi hx hb hr hlocks hP hD hS dX10_copy_19
  · have h := gx_t c_3 h
    refine lv_iload_n hx hb dX10_copy_7 rfl (lv_at hl 3 rfl) ?_
    obtain ⟨r_7, hc_8, h⟩ := gx_b h
    refine gCalli (wr := [(z, .inr (9, [.int v_fault, .int v_size, .int v_upper, .int v_base, .ref z_isGood, .ref z_frozen, .ref z_sheetSize, .ref z_sheetLane, .ref z_sheet, .ref z_hands, .int v_wide, .long v_mask, .int v_paths, .ref z_seen, .ref z_work, .ref z_known, .ref z_next, .int v_come, .int v_isCounted, .ref z_counts, .ref z_acrosses, .ref z_failings, .int v_basis, .ref z_given, .int v_trace])), (z_sheetSize, .inl (cy 0, 4, .inl v_sheetSizec)), (z_sheetLane, .inl (cy 0, 4, .inl v_sheetLanec)), (z_sheet, .inl (cy 1, 160, .inr (.inl v_sheetc))), (z_hands, .inl (cy 1, 40, .inr (.inl v_handsc)))]) (va_runS (As := [.int x3]) (rest := []) ⟨hx, hb, hml, hown, hts⟩ (c_X10_noSheet l D cy t H.size K x3 r_7 hc_8) (va_cwS 1 hts gX10_copy_X10_noSheet rfl rfl rfl (by decide +kernel) ⟨Nat.le_of_ble_eq_true rfl, Nat.le_of_ble_eq_true rfl⟩) ⟨gBlind, fun U hU hW => ⟨rfl, gPre.call hK hG hA hP hD hS [] (by decide) rfl U hU hW⟩⟩ rfl rfl hl.1 rfl (lv_room (Nat.le_of_ble_eq_true rfl)) dX10_copy_8 ⟨Nat.le_of_ble_eq_true rfl, Nat.le_of_ble_eq_true rfl⟩) hA hP hD hS [] [0, 1, 2, 3, 4] rfl rfl (by decide) (by decide) (fun H locs hP hD hS => ?_)
    have hP : va_P D vwCl [(z, .inr (9, [.int v_fault, .int v_size, .int v_upper, .int v_base, .ref z_isGood, .ref z_frozen, .ref z_sheetSize, .ref z_sheetLane, .ref z_sheet, .ref z_hands, .int v_wide, .long v_mask, .int v_paths, .ref z_seen, .ref z_work, .ref z_known, .ref z_next, .int v_come, .int v_isCounted, .ref z_counts, .ref z_acrosses, .ref z_failings, .int v_basis, .ref z_given, .int v_trace])), (z_sheetSize, .inl (cy 0, 4, .inl v_sheetSizec)), (z_sheetLane, .inl (cy 0, 4, .inl v_sheetLanec)), (z_sheet, .inl (cy 1, 160, .inr (.inl v_sheetc))), (z_hands, .inl (cy 1, 40, .inr (.inl v_handsc)))] H := hP
    have hD : va_D A [(z, .inr (9, [.int v_fault, .int v_size, .int v_upper, .int v_base, .ref z_isGood, .ref z_frozen, .ref z_sheetSize, .ref z_sheetLane, .ref z_sheet, .ref z_hands, .int v_wide, .long v_mask, .int v_paths, .ref z_seen, .ref z_work, .ref z_known, .ref z_next, .int v_come, .int v_isCounted, .ref z_counts, .ref z_acrosses, .ref z_failings, .int v_basis, .ref z_given, .int v_trace])), (z_sheetSize, .inl (cy 0, 4, .inl v_sheetSizec)), (z_sheetLane, .inl (cy 0, 4, .inl v_sheetLanec)), (z_sheet, .inl (cy 1, 160, .inr (.inl v_sheetc))), (z_hands, .inl (cy 1, 40, .inr (.inl v_handsc)))] := hD
    refine lv_if_eq (tgt := 20) hx hb dX10_copy_11 (by decide) (fun c_9 => ?_) (fun c_9 => ?_)
    · have h := gx_t c_9 h
      refine lv_aload_n hx hb dX10_copy_20 rfl (lv_at hl 0 rfl) ?_
      refine va_get (D := D) (ci := 9) (v := .ref z_sheetSize) (C := RX10) (T := TX10) (N := 25) hx hb hts iX10 hown hK hP 0 rfl rfl 6 (by decide) f17 (fun _ h9 => h9) rfl dX10_copy_21 ?_
      refine lv_iload_n hx hb dX10_copy_24 rfl (lv_at hl 1 rfl) ?_
      obtain ⟨hi_, h⟩ := gx_ix h
      refine va_iald hx hb hK hP 1 0 rfl rfl hi_ dX10_copy_25 ?_
      refine lv_if_lt (tgt := 38) hx hb dX10_copy_26 (by decide) (fun c_10 => ?_) (fun c_10 => ?_)
      · have h := gx_t c_10 h
        refine lv_aload_n hx hb dX10_copy_38 rfl (lv_at hl 0 rfl) ?_
        refine lv_iconst (v := 1) hx hb dX10_copy_39 (by decide) ?_
        obtain ⟨⟨r_11, o_12⟩, hc_13, h⟩ := gx_b h
        refine gCalli (wr := [(z_sheetSize, .inl (cy 0, 4, .inl v_sheetSizec)), (z_sheetLane, .inl (cy 0, 4, .inl v_sheetLanec)), (z_sheet, .inl (cy 1, 160, .inr (.inl v_sheetc))), (z_hands, .inl (cy 1, 40, .inr (.inl v_handsc)))]) (va_runV (As := [.int 1]) (rest := []) ⟨hx, hb, hml, hown, hts⟩ (c_X10_failed l D cy t H.size K z z_isGood z_frozen z_sheetSize z_sheetLane z_sheet z_hands z_seen z_work z_known z_next z_counts z_acrosses z_failings z_given v_fault v_size v_upper v_base v_wide v_mask v_paths v_come v_isCounted v_basis v_trace 1 r_11 o_12 hc_13) (cwV 1 hts gX10_copy_X10_failed rfl rfl rfl (by decide +kernel) ⟨Nat.le_of_ble_eq_true rfl, Nat.le_of_ble_eq_true rfl⟩) ⟨gBlind, va_recv hK hP (ci := 9) (q0 := 0) rfl rfl, fun U hU hW => ⟨rfl, gPre.call hK hG hA hP hD hS [0] (by decide) rfl U hU hW⟩⟩ rfl rfl hl.1 rfl (lv_room (Nat.le_of_ble_eq_true rfl)) dX10_copy_40 ⟨Nat.le_of_ble_eq_true rfl, Nat.le_of_ble_eq_true rfl⟩) hA hP hD hS [0] [1, 2, 3, 4] rfl rfl (by decide) (by decide) (fun H locs hP hD hS => ?_)
        have hP := hP.sub (ws' := [(z, .inr (9, [.int o_12, .int v_size, .int v_upper, .int v_base, .ref z_isGood, .ref z_frozen, .ref z_sheetSize, .ref z_sheetLane, .ref z_sheet, .ref z_hands, .int v_wide, .long v_mask, .int v_paths, .ref z_seen, .ref z_work, .ref z_known, .ref z_next, .int v_come, .int v_isCounted, .ref z_counts, .ref z_acrosses, .ref z_failings, .int v_basis, .ref z_given, .int v_trace])), (z_sheetSize, .inl (cy 0, 4, .inl v_sheetSizec)), (z_sheetLane, .inl (cy 0, 4, .inl v_sheetLanec)), (z_sheet, .inl (cy 1, 160, .inr (.inl v_sheetc))), (z_hands, .inl (cy 1, 40, .inr (.inl v_handsc)))]) [4, 0, 1, 2, 3] rfl
        have hD := hD.sub (ws' := [(z, .inr (9, [.int o_12, .int v_size, .int v_upper, .int v_base, .ref z_isGood, .ref z_frozen, .ref z_sheetSize, .ref z_sheetLane, .ref z_sheet, .ref z_hands, .int v_wide, .long v_mask, .int v_paths, .ref z_seen, .ref z_work, .ref z_known, .ref z_next, .int v_come, .int v_isCounted, .ref z_counts, .ref z_acrosses, .ref z_failings, .int v_basis, .ref z_given, .int v_trace])), (z_sheetSize, .inl (cy 0, 4, .inl v_sheetSizec)), (z_sheetLane, .inl (cy 0, 4, .inl v_sheetLanec)), (z_sheet, .inl (cy 1, 160, .inr (.inl v_sheetc))), (z_hands, .inl (cy 1, 40, .inr (.inl v_handsc)))]) [4, 0, 1, 2, 3] (by decide) rfl
        cases h
        exact gRi hx hb hr hlocks hP hD hS dX10_copy_43
      · have h := gx_f c_10 h
        refine lv_aload_n hx hb dX10_copy_29 rfl (lv_at hl 0 rfl) ?_
        refine va_get (D := D) (ci := 9) (v := .ref z_sheetSize) (C := RX10) (T := TX10) (N := 25) hx hb hts iX10 hown hK hP 0 rfl rfl 6 (by decide) f17 (fun _ h9 => h9) rfl dX10_copy_30 ?_
        refine lv_iload_n hx hb dX10_copy_33 rfl (lv_at hl 3 rfl) ?_
        obtain ⟨hi_, h⟩ := gx_ix h
        refine va_iald hx hb hK hP 1 0 rfl rfl hi_ dX10_copy_34 ?_
        refine lv_if_ge (tgt := 44) hx hb dX10_copy_35 (by decide) (fun c_14 => ?_) (fun c_14 => ?_)
        · have h := gx_t c_14 h
          refine lv_aload_n hx hb dX10_copy_44 rfl (lv_at hl 0 rfl) ?_
          refine va_get (D := D) (ci := 9) (v := .ref z_sheetLane) (C := RX10) (T := TX10) (N := 25) hx hb hts iX10 hown hK hP 0 rfl rfl 7 (by decide) f20 (fun _ h9 => h9) rfl dX10_copy_45 ?_
          refine lv_iload_n hx hb dX10_copy_48 rfl (lv_at hl 1 rfl) ?_
          obtain ⟨hi_, h⟩ := gx_ix h
          refine va_iald hx hb hK hP 2 0 rfl rfl hi_ dX10_copy_49 ?_
          refine lv_aload_n hx hb dX10_copy_50 rfl (lv_at hl 0 rfl) ?_
          refine va_get (D := D) (ci := 9) (v := .ref z_sheetLane) (C := RX10) (T := TX10) (N := 25) hx hb hts iX10 hown hK hP 0 rfl rfl 7 (by decide) f20 (fun _ h9 => h9) rfl dX10_copy_51 ?_
          refine lv_iload_n hx hb dX10_copy_54 rfl (lv_at hl 3 rfl) ?_
          obtain ⟨hi_, h⟩ := gx_ix h
          refine va_iald hx hb hK hP 2 0 rfl rfl hi_ dX10_copy_55 ?_
          refine lv_icmp_eq (tgt := 65) hx hb dX10_copy_56 (by decide) (fun c_15 => ?_) (fun c_15 => ?_)
          · have h := gx_t c_15 h
            refine lv_iload_n hx hb dX10_copy_65 rfl (lv_at hl 2 rfl) ?_
            refine lv_iload hx hb dX10_copy_66 (lv_at hl 5 rfl) ?_
            refine lv_aload_n hx hb dX10_copy_68 rfl (lv_at hl 0 rfl) ?_
            refine va_get (D := D) (ci := 9) (v := .ref z_sheetSize) (C := RX10) (T := TX10) (N := 25) hx hb hts iX10 hown hK hP 0 rfl rfl 6 (by decide) f17 (fun _ h9 => h9) rfl dX10_copy_69 ?_
            refine lv_iload_n hx hb dX10_copy_72 rfl (lv_at hl 1 rfl) ?_
            obtain ⟨hi_, h⟩ := gx_ix h
            refine va_iald hx hb hK hP 1 0 rfl rfl hi_ dX10_copy_73 ?_
            obtain ⟨r_16, hc_17, h⟩ := gx_b h
            refine gCalli (wr := [(z, .inr (9, [.int v_fault, .int v_size, .int v_upper, .int v_base, .ref z_isGood, .ref z_frozen, .ref z_sheetSize, .ref z_sheetLane, .ref z_sheet, .ref z_hands, .int v_wide, .long v_mask, .int v_paths, .ref z_seen, .ref z_work, .ref z_known, .ref z_next, .int v_come, .int v_isCounted, .ref z_counts, .ref z_acrosses, .ref z_failings, .int v_basis, .ref z_given, .int v_trace])), (z_sheetSize, .inl (cy 0, 4, .inl v_sheetSizec)), (z_sheetLane, .inl (cy 0, 4, .inl v_sheetLanec)), (z_sheet, .inl (cy 1, 160, .inr (.inl v_sheetc))), (z_hands, .inl (cy 1, 40, .inr (.inl v_handsc)))]) (va_runS (As := [.int x2, .int x5, .int (v_sheetSizec (Int32.toNatClampNeg x1))]) (rest := []) ⟨hx, hb, hml, hown, hts⟩ (c_X10_isBeyond l D cy t H.size K x2 x5 (v_sheetSizec (Int32.toNatClampNeg x1)) r_16 hc_17) (va_cwS 3 hts gX10_copy_X10_isBeyond rfl rfl rfl (by decide +kernel) ⟨Nat.le_of_ble_eq_true rfl, Nat.le_of_ble_eq_true rfl⟩) ⟨gBlind, fun U hU hW => ⟨rfl, gPre.call hK hG hA hP hD hS [] (by decide) rfl U hU hW⟩⟩ rfl rfl hl.1 rfl (lv_room (Nat.le_of_ble_eq_true rfl)) dX10_copy_74 ⟨Nat.le_of_ble_eq_true rfl, Nat.le_of_ble_eq_true rfl⟩) hA hP hD hS [] [0, 1, 2, 3, 4] rfl rfl (by decide) (by decide) (fun H locs hP hD hS => ?_)
            have hP : va_P D vwCl [(z, .inr (9, [.int v_fault, .int v_size, .int v_upper, .int v_base, .ref z_isGood, .ref z_frozen, .ref z_sheetSize, .ref z_sheetLane, .ref z_sheet, .ref z_hands, .int v_wide, .long v_mask, .int v_paths, .ref z_seen, .ref z_work, .ref z_known, .ref z_next, .int v_come, .int v_isCounted, .ref z_counts, .ref z_acrosses, .ref z_failings, .int v_basis, .ref z_given, .int v_trace])), (z_sheetSize, .inl (cy 0, 4, .inl v_sheetSizec)), (z_sheetLane, .inl (cy 0, 4, .inl v_sheetLanec)), (z_sheet, .inl (cy 1, 160, .inr (.inl v_sheetc))), (z_hands, .inl (cy 1, 40, .inr (.inl v_handsc)))] H := hP
            have hD : va_D A [(z, .inr (9, [.int v_fault, .int v_size, .int v_upper, .int v_base, .ref z_isGood, .ref z_frozen, .ref z_sheetSize, .ref z_sheetLane, .ref z_sheet, .ref z_hands, .int v_wide, .long v_mask, .int v_paths, .ref z_seen, .ref z_work, .ref z_known, .ref z_next, .int v_come, .int v_isCounted, .ref z_counts, .ref z_acrosses, .ref z_failings, .int v_basis, .ref z_given, .int v_trace])), (z_sheetSize, .inl (cy 0, 4, .inl v_sheetSizec)), (z_sheetLane, .inl (cy 0, 4, .inl v_sheetLanec)), (z_sheet, .inl (cy 1, 160, .inr (.inl v_sheetc))), (z_hands, .inl (cy 1, 40, .inr (.inl v_handsc)))] := hD
            refine lv_if_ne (tgt := 96) hx hb dX10_copy_77 (by decide) (fun c_18 => ?_) (fun c_18 => ?_)
            · have h := gx_f c_18 h
              refine lv_aload_n hx hb dX10_copy_96 rfl (lv_at hl 0 rfl) ?_
              refine lv_iconst (v := 3) hx hb dX10_copy_97 (by decide) ?_
              obtain ⟨⟨r_19, o_20⟩, hc_21, h⟩ := gx_b h
              refine gCalli (wr := [(z_sheetSize, .inl (cy 0, 4, .inl v_sheetSizec)), (z_sheetLane, .inl (cy 0, 4, .inl v_sheetLanec)), (z_sheet, .inl (cy 1, 160, .inr (.inl v_sheetc))), (z_hands, .inl (cy 1, 40, .inr (.inl v_handsc)))]) (va_runV (As := [.int 3]) (rest := []) ⟨hx, hb, hml, hown, hts⟩ (c_X10_failed l D cy t H.size K z z_isGood z_frozen z_sheetSize z_sheetLane z_sheet z_hands z_seen z_work z_known z_next z_counts z_acrosses z_failings z_given v_fault v_size v_upper v_base v_wide v_mask v_paths v_come v_isCounted v_basis v_trace 3 r_19 o_20 hc_21) (cwV 1 hts gX10_copy_X10_failed rfl rfl rfl (by decide +kernel) ⟨Nat.le_of_ble_eq_true rfl, Nat.le_of_ble_eq_true rfl⟩) ⟨gBlind, va_recv hK hP (ci := 9) (q0 := 0) rfl rfl, fun U hU hW => ⟨rfl, gPre.call hK hG hA hP hD hS [0] (by decide) rfl U hU hW⟩⟩ rfl rfl hl.1 rfl (lv_room (Nat.le_of_ble_eq_true rfl)) dX10_copy_98 ⟨Nat.le_of_ble_eq_true rfl, Nat.le_of_ble_eq_true rfl⟩) hA hP hD hS [0] [1, 2, 3, 4] rfl rfl (by decide) (by decide) (fun H locs hP hD hS => ?_)
              have hP := hP.sub (ws' := [(z, .inr (9, [.int o_20, .int v_size, .int v_upper, .int v_base, .ref z_isGood, .ref z_frozen, .ref z_sheetSize, .ref z_sheetLane, .ref z_sheet, .ref z_hands, .int v_wide, .long v_mask, .int v_paths, .ref z_seen, .ref z_work, .ref z_known, .ref z_next, .int v_come, .int v_isCounted, .ref z_counts, .ref z_acrosses, .ref z_failings, .int v_basis, .ref z_given, .int v_trace])), (z_sheetSize, .inl (cy 0, 4, .inl v_sheetSizec)), (z_sheetLane, .inl (cy 0, 4, .inl v_sheetLanec)), (z_sheet, .inl (cy 1, 160, .inr (.inl v_sheetc))), (z_hands, .inl (cy 1, 40, .inr (.inl v_handsc)))]) [4, 0, 1, 2, 3] rfl
              have hD := hD.sub (ws' := [(z, .inr (9, [.int o_20, .int v_size, .int v_upper, .int v_base, .ref z_isGood, .ref z_frozen, .ref z_sheetSize, .ref z_sheetLane, .ref z_sheet, .ref z_hands, .int v_wide, .long v_mask, .int v_paths, .ref z_seen, .ref z_work, .ref z_known, .ref z_next, .int v_come, .int v_isCounted, .ref z_counts, .ref z_acrosses, .ref z_failings, .int v_basis, .ref z_given, .int v_trace])), (z_sheetSize, .inl (cy 0, 4, .inl v_sheetSizec)), (z_sheetLane, .inl (cy 0, 4, .inl v_sheetLanec)), (z_sheet, .inl (cy 1, 160, .inr (.inl v_sheetc))), (z_hands, .inl (cy 1, 40, .inr (.inl v_handsc)))]) [4, 0, 1, 2, 3] (by decide) rfl
              cases h
              exact gRi hx hb hr hlocks hP hD hS dX10_copy_101
            · have h := gx_t c_18 h
              refine lv_iload hx hb dX10_copy_80 (lv_at hl 4 rfl) ?_
              refine lv_iload hx hb dX10_copy_82 (lv_at hl 5 rfl) ?_
              refine lv_aload_n hx hb dX10_copy_84 rfl (lv_at hl 0 rfl) ?_
              refine va_get (D := D) (ci := 9) (v := .ref z_sheetSize) (C := RX10) (T := TX10) (N := 25) hx hb hts iX10 hown hK hP 0 rfl rfl 6 (by decide) f17 (fun _ h9 => h9) rfl dX10_copy_85 ?_
              refine lv_iload_n hx hb dX10_copy_88 rfl (lv_at hl 3 rfl) ?_
              obtain ⟨hi_, h⟩ := gx_ix h
              refine va_iald hx hb hK hP 1 0 rfl rfl hi_ dX10_copy_89 ?_
              obtain ⟨r_22, hc_23, h⟩ := gx_b h
              refine gCalli (wr := [(z, .inr (9, [.int v_fault, .int v_size, .int v_upper, .int v_base, .ref z_isGood, .ref z_frozen, .ref z_sheetSize, .ref z_sheetLane, .ref z_sheet, .ref z_hands, .int v_wide, .long v_mask, .int v_paths, .ref z_seen, .ref z_work, .ref z_known, .ref z_next, .int v_come, .int v_isCounted, .ref z_counts, .ref z_acrosses, .ref z_failings, .int v_basis, .ref z_given, .int v_trace])), (z_sheetSize, .inl (cy 0, 4, .inl v_sheetSizec)), (z_sheetLane, .inl (cy 0, 4, .inl v_sheetLanec)), (z_sheet, .inl (cy 1, 160, .inr (.inl v_sheetc))), (z_hands, .inl (cy 1, 40, .inr (.inl v_handsc)))]) (va_runS (As := [.int x4, .int x5, .int (v_sheetSizec (Int32.toNatClampNeg x3))]) (rest := []) ⟨hx, hb, hml, hown, hts⟩ (c_X10_isBeyond l D cy t H.size K x4 x5 (v_sheetSizec (Int32.toNatClampNeg x3)) r_22 hc_23) (va_cwS 3 hts gX10_copy_X10_isBeyond rfl rfl rfl (by decide +kernel) ⟨Nat.le_of_ble_eq_true rfl, Nat.le_of_ble_eq_true rfl⟩) ⟨gBlind, fun U hU hW => ⟨rfl, gPre.call hK hG hA hP hD hS [] (by decide) rfl U hU hW⟩⟩ rfl rfl hl.1 rfl (lv_room (Nat.le_of_ble_eq_true rfl)) dX10_copy_90 ⟨Nat.le_of_ble_eq_true rfl, Nat.le_of_ble_eq_true rfl⟩) hA hP hD hS [] [0, 1, 2, 3, 4] rfl rfl (by decide) (by decide) (fun H locs hP hD hS => ?_)
              have hP : va_P D vwCl [(z, .inr (9, [.int v_fault, .int v_size, .int v_upper, .int v_base, .ref z_isGood, .ref z_frozen, .ref z_sheetSize, .ref z_sheetLane, .ref z_sheet, .ref z_hands, .int v_wide, .long v_mask, .int v_paths, .ref z_seen, .ref z_work, .ref z_known, .ref z_next, .int v_come, .int v_isCounted, .ref z_counts, .ref z_acrosses, .ref z_failings, .int v_basis, .ref z_given, .int v_trace])), (z_sheetSize, .inl (cy 0, 4, .inl v_sheetSizec)), (z_sheetLane, .inl (cy 0, 4, .inl v_sheetLanec)), (z_sheet, .inl (cy 1, 160, .inr (.inl v_sheetc))), (z_hands, .inl (cy 1, 40, .inr (.inl v_handsc)))] H := hP
              have hD : va_D A [(z, .inr (9, [.int v_fault, .int v_size, .int v_upper, .int v_base, .ref z_isGood, .ref z_frozen, .ref z_sheetSize, .ref z_sheetLane, .ref z_sheet, .ref z_hands, .int v_wide, .long v_mask, .int v_paths, .ref z_seen, .ref z_work, .ref z_known, .ref z_next, .int v_come, .int v_isCounted, .ref z_counts, .ref z_acrosses, .ref z_failings, .int v_basis, .ref z_given, .int v_trace])), (z_sheetSize, .inl (cy 0, 4, .inl v_sheetSizec)), (z_sheetLane, .inl (cy 0, 4, .inl v_sheetLanec)), (z_sheet, .inl (cy 1, 160, .inr (.inl v_sheetc))), (z_hands, .inl (cy 1, 40, .inr (.inl v_handsc)))] := hD
              refine lv_if_eq (tgt := 102) hx hb dX10_copy_93 (by decide) (fun c_24 => ?_) (fun c_24 => ?_)
              · have h := gx_t c_24 h
                refine lv_iconst (v := 0) hx hb dX10_copy_102 (by decide) ?_
                refine lv_istore (lv' := [(6, .int 0), (0, .ref z), (1, .int x1), (2, .int x2), (3, .int x3), (4, .int x4), (5, .int x5)]) hx hb dX10_copy_103 hl (by decide) rfl (fun ls hl => ?_)
                obtain ⟨⟨o_25, o_26⟩, hL_27, h⟩ := gx_b h
                refine gJoin (Pj := fun H locs ls => va_P D vwCl [(z, .inr (9, [.int v_fault, .int v_size, .int v_upper, .int v_base, .ref z_isGood, .ref z_frozen, .ref z_sheetSize, .ref z_sheetLane, .ref z_sheet, .ref z_hands, .int v_wide, .long v_mask, .int v_paths, .ref z_seen, .ref z_work, .ref z_known, .ref z_next, .int v_come, .int v_isCounted, .ref z_counts, .ref z_acrosses, .ref z_failings, .int v_basis, .ref z_given, .int v_trace])), (z_sheetSize, .inl (cy 0, 4, .inl v_sheetSizec)), (z_sheetLane, .inl (cy 0, 4, .inl v_sheetLanec)), (z_sheet, .inl (cy 1, 160, .inr (.inl v_sheetc))), (z_hands, .inl (cy 1, 40, .inr (.inl o_26)))] H ∧ va_D A [(z, .inr (9, [.int v_fault, .int v_size, .int v_upper, .int v_base, .ref z_isGood, .ref z_frozen, .ref z_sheetSize, .ref z_sheetLane, .ref z_sheet, .ref z_hands, .int v_wide, .long v_mask, .int v_paths, .ref z_seen, .ref z_work, .ref z_known, .ref z_next, .int v_come, .int v_isCounted, .ref z_counts, .ref z_acrosses, .ref z_failings, .int v_basis, .ref z_given, .int v_trace])), (z_sheetSize, .inl (cy 0, 4, .inl v_sheetSizec)), (z_sheetLane, .inl (cy 0, 4, .inl v_sheetLanec)), (z_sheet, .inl (cy 1, 160, .inr (.inl v_sheetc))), (z_hands, .inl (cy 1, 40, .inr (.inl o_26)))] ∧ va_S A s.heap H locs ∧ lv_has ls 7 [(6, .int o_25), (0, .ref z), (1, .int x1), (2, .int x2), (3, .int x3), (4, .int x4), (5, .int x5)]) (pcM := 139) (st := []) ?_ (fun hJ139 => ?_)
                · intro H locs ls hp_
                  obtain ⟨hP, hD, hS, hl⟩ := hp_
                  clear hL_27
                  refine lv_iconst (v := 0) hx hb dX10_copy_139 (by decide) ?_
                  refine lv_istore (lv' := [(6, .int 0), (0, .ref z), (1, .int x1), (2, .int x2), (3, .int x3), (4, .int x4), (5, .int x5)]) hx hb dX10_copy_140 hl (by decide) rfl (fun ls hl => ?_)
                  obtain ⟨⟨o_28, o_29⟩, hL_30, h⟩ := gx_b h
                  refine gJoin (Pj := fun H locs ls => va_P D vwCl [(z, .inr (9, [.int v_fault, .int v_size, .int v_upper, .int v_base, .ref z_isGood, .ref z_frozen, .ref z_sheetSize, .ref z_sheetLane, .ref z_sheet, .ref z_hands, .int v_wide, .long v_mask, .int v_paths, .ref z_seen, .ref z_work, .ref z_known, .ref z_next, .int v_come, .int v_isCounted, .ref z_counts, .ref z_acrosses, .ref z_failings, .int v_basis, .ref z_given, .int v_trace])), (z_sheetSize, .inl (cy 0, 4, .inl v_sheetSizec)), (z_sheetLane, .inl (cy 0, 4, .inl v_sheetLanec)), (z_sheet, .inl (cy 1, 160, .inr (.inl o_29))), (z_hands, .inl (cy 1, 40, .inr (.inl o_26)))] H ∧ va_D A [(z, .inr (9, [.int v_fault, .int v_size, .int v_upper, .int v_base, .ref z_isGood, .ref z_frozen, .ref z_sheetSize, .ref z_sheetLane, .ref z_sheet, .ref z_hands, .int v_wide, .long v_mask, .int v_paths, .ref z_seen, .ref z_work, .ref z_known, .ref z_next, .int v_come, .int v_isCounted, .ref z_counts, .ref z_acrosses, .ref z_failings, .int v_basis, .ref z_given, .int v_trace])), (z_sheetSize, .inl (cy 0, 4, .inl v_sheetSizec)), (z_sheetLane, .inl (cy 0, 4, .inl v_sheetLanec)), (z_sheet, .inl (cy 1, 160, .inr (.inl o_29))), (z_hands, .inl (cy 1, 40, .inr (.inl o_26)))] ∧ va_S A s.heap H locs ∧ lv_has ls 7 [(6, .int o_28), (0, .ref z), (1, .int x1), (2, .int x2), (3, .int x3), (4, .int x4), (5, .int x5)]) (pcM := 177) (st := []) ?_ (fun hJ177 => ?_)
                  · intro H locs ls hp_
                    obtain ⟨hP, hD, hS, hl⟩ := hp_
                    clear hL_30
                    refine lv_aload_n hx hb dX10_copy_177 rfl (lv_at hl 1 rfl) ?_
                    refine lv_iload hx hb dX10_copy_178 (lv_at hl 6 rfl) ?_
                    obtain ⟨⟨r_31, o_32⟩, hc_33, h⟩ := gx_b h
                    refine gCalli (wr := [(z_sheetSize, .inl (cy 0, 4, .inl v_sheetSizec)), (z_sheetLane, .inl (cy 0, 4, .inl v_sheetLanec)), (z_sheet, .inl (cy 1, 160, .inr (.inl o_29))), (z_hands, .inl (cy 1, 40, .inr (.inl o_26)))]) (va_runV (As := [.int x5]) (rest := []) ⟨hx, hb, hml, hown, hts⟩ (c_X10_refused l D cy t H.size K z z_isGood z_frozen z_sheetSize z_sheetLane z_sheet z_hands z_seen z_work z_known z_next z_counts z_acrosses z_failings z_given v_fault v_size v_upper v_base v_wide v_mask v_paths v_come v_isCounted v_basis v_trace x5 r_31 o_32 hc_33) (cwV 1 hts gX10_copy_X10_refused rfl rfl rfl (by decide +kernel) ⟨Nat.le_of_ble_eq_true rfl, Nat.le_of_ble_eq_true rfl⟩) ⟨gBlind, va_recv hK hP (ci := 9) (q0 := 0) rfl rfl, fun U hU hW => ⟨rfl, gPre.call hK hG hA hP hD hS [0] (by decide) rfl U hU hW⟩⟩ rfl rfl hl.1 rfl (lv_room (Nat.le_of_ble_eq_true rfl)) dX10_copy_180 ⟨Nat.le_of_ble_eq_true rfl, Nat.le_of_ble_eq_true rfl⟩) hA hP hD hS [0] [1, 2, 3, 4] rfl rfl (by decide) (by decide) (fun H locs hP hD hS => ?_)
                    have hP := hP.sub (ws' := [(z, .inr (9, [.int o_32, .int v_size, .int v_upper, .int v_base, .ref z_isGood, .ref z_frozen, .ref z_sheetSize, .ref z_sheetLane, .ref z_sheet, .ref z_hands, .int v_wide, .long v_mask, .int v_paths, .ref z_seen, .ref z_work, .ref z_known, .ref z_next, .int v_come, .int v_isCounted, .ref z_counts, .ref z_acrosses, .ref z_failings, .int v_basis, .ref z_given, .int v_trace])), (z_sheetSize, .inl (cy 0, 4, .inl v_sheetSizec)), (z_sheetLane, .inl (cy 0, 4, .inl v_sheetLanec)), (z_sheet, .inl (cy 1, 160, .inr (.inl o_29))), (z_hands, .inl (cy 1, 40, .inr (.inl o_26)))]) [4, 0, 1, 2, 3] rfl
                    have hD := hD.sub (ws' := [(z, .inr (9, [.int o_32, .int v_size, .int v_upper, .int v_base, .ref z_isGood, .ref z_frozen, .ref z_sheetSize, .ref z_sheetLane, .ref z_sheet, .ref z_hands, .int v_wide, .long v_mask, .int v_paths, .ref z_seen, .ref z_work, .ref z_known, .ref z_next, .int v_come, .int v_isCounted, .ref z_counts, .ref z_acrosses, .ref z_failings, .int v_basis, .ref z_given, .int v_trace])), (z_sheetSize, .inl (cy 0, 4, .inl v_sheetSizec)), (z_sheetLane, .inl (cy 0, 4, .inl v_sheetLanec)), (z_sheet, .inl (cy 1, 160, .inr (.inl o_29))), (z_hands, .inl (cy 1, 40, .inr (.inl o_26)))]) [4, 0, 1, 2, 3] (by decide) rfl
                    cases h
                    exact gRi hx hb hr hlocks hP hD hS dX10_copy_183
                  · refine gLoop (Hy := fun k_ v_ => fL_X10_copy_142 K x3 x4 x5 o_26 k_ v_ = some (o_28, o_29)) (Pl := fun (v_ : Int32 × (Nat → Int64)) H locs ls => match v_ with | (a_34, a_35) => va_P D vwCl [(z, .inr (9, [.int v_fault, .int v_size, .int v_upper, .int v_base, .ref z_isGood, .ref z_frozen, .ref z_sheetSize, .ref z_sheetLane, .ref z_sheet, .ref z_hands, .int v_wide, .long v_mask, .int v_paths, .ref z_seen, .ref z_work, .ref z_known, .ref z_next, .int v_come, .int v_isCounted, .ref z_counts, .ref z_acrosses, .ref z_failings, .int v_basis, .ref z_given, .int v_trace])), (z_sheetSize, .inl (cy 0, 4, .inl v_sheetSizec)), (z_sheetLane, .inl (cy 0, 4, .inl v_sheetLanec)), (z_sheet, .inl (cy 1, 160, .inr (.inl a_35))), (z_hands, .inl (cy 1, 40, .inr (.inl o_26)))] H ∧ va_D A [(z, .inr (9, [.int v_fault, .int v_size, .int v_upper, .int v_base, .ref z_isGood, .ref z_frozen, .ref z_sheetSize, .ref z_sheetLane, .ref z_sheet, .ref z_hands, .int v_wide, .long v_mask, .int v_paths, .ref z_seen, .ref z_work, .ref z_known, .ref z_next, .int v_come, .int v_isCounted, .ref z_counts, .ref z_acrosses, .ref z_failings, .int v_basis, .ref z_given, .int v_trace])), (z_sheetSize, .inl (cy 0, 4, .inl v_sheetSizec)), (z_sheetLane, .inl (cy 0, 4, .inl v_sheetLanec)), (z_sheet, .inl (cy 1, 160, .inr (.inl a_35))), (z_hands, .inl (cy 1, 40, .inr (.inl o_26)))] ∧ va_S A s.heap H locs ∧ lv_has ls 7 [(6, .int a_34), (0, .ref z), (1, .int x1), (2, .int x2), (3, .int x3), (4, .int x4), (5, .int x5)]) (pcH := 142) (fun _ q_ => by cases q_) ?_ K (0, v_sheetc) hL_30 ⟨hP, hD, hS, hl⟩
                    clear hL_30 h hP hD hS hl
                    intro k_ ih ⟨a_34, a_35⟩ H locs ls h hp_
                    obtain ⟨hP, hD, hS, hl⟩ := hp_
                    have hP : va_P D vwCl [(z, .inr (9, [.int v_fault, .int v_size, .int v_upper, .int v_base, .ref z_isGood, .ref z_frozen, .ref z_sheetSize, .ref z_sheetLane, .ref z_sheet, .ref z_hands, .int v_wide, .long v_mask, .int v_paths, .ref z_seen, .ref z_work, .ref z_known, .ref z_next, .int v_come, .int v_isCounted, .ref z_counts, .ref z_acrosses, .ref z_failings, .int v_basis, .ref z_given, .int v_trace])), (z_sheetSize, .inl (cy 0, 4, .inl v_sheetSizec)), (z_sheetLane, .inl (cy 0, 4, .inl v_sheetLanec)), (z_sheet, .inl (cy 1, 160, .inr (.inl a_35))), (z_hands, .inl (cy 1, 40, .inr (.inl o_26)))] H := hP
                    have hD : va_D A [(z, .inr (9, [.int v_fault, .int v_size, .int v_upper, .int v_base, .ref z_isGood, .ref z_frozen, .ref z_sheetSize, .ref z_sheetLane, .ref z_sheet, .ref z_hands, .int v_wide, .long v_mask, .int v_paths, .ref z_seen, .ref z_work, .ref z_known, .ref z_next, .int v_come, .int v_isCounted, .ref z_counts, .ref z_acrosses, .ref z_failings, .int v_basis, .ref z_given, .int v_trace])), (z_sheetSize, .inl (cy 0, 4, .inl v_sheetSizec)), (z_sheetLane, .inl (cy 0, 4, .inl v_sheetLanec)), (z_sheet, .inl (cy 1, 160, .inr (.inl a_35))), (z_hands, .inl (cy 1, 40, .inr (.inl o_26)))] := hD
                    have hl : lv_has ls 7 [(6, .int a_34), (0, .ref z), (1, .int x1), (2, .int x2), (3, .int x3), (4, .int x4), (5, .int x5)] := hl
                    change fL_X10_copy_142 K x3 x4 x5 o_26 (k_ + 1) (a_34, a_35) = _ at h
                    rw [fL_X10_copy_142] at h
                    refine lv_iload hx hb dX10_copy_142 (lv_at hl 0 rfl) ?_
                    refine lv_iload hx hb dX10_copy_144 (lv_at hl 6 rfl) ?_
                    refine lv_icmp_ge (tgt := 177) hx hb dX10_copy_146 (by decide) (fun c_36 => ?_) (fun c_36 => ?_)
                    · have h := gx_t c_36 h
                      have hl := lv_sub (l' := [(6, .int a_34), (0, .ref z), (1, .int x1), (2, .int x2), (3, .int x3), (4, .int x4), (5, .int x5)]) hl [0, 1, 2, 3, 4, 5, 6] rfl
                      cases h
                      exact hJ177 _ _ _ ⟨hP, hD, hS, hl⟩
                    · have h := gx_f c_36 h
                      refine lv_aload_n hx hb dX10_copy_149 rfl (lv_at hl 1 rfl) ?_
                      refine va_get (D := D) (ci := 9) (v := .ref z_sheet) (C := RX10) (T := TX10) (N := 25) hx hb hts iX10 hown hK hP 0 rfl rfl 8 (by decide) f23 (fun _ h9 => h9) rfl dX10_copy_150 ?_
                      refine lv_bipush (v := 40) hx hb dX10_copy_153 (by decide) ?_
                      refine lv_iload_n hx hb dX10_copy_155 rfl (lv_at hl 4 rfl) ?_
                      refine lv_imul hx hb dX10_copy_156 ?_
                      refine lv_iload hx hb dX10_copy_157 (lv_at hl 5 rfl) ?_
                      refine lv_iadd hx hb dX10_copy_159 ?_
                      refine lv_iload hx hb dX10_copy_160 (lv_at hl 0 rfl) ?_
                      refine lv_iadd hx hb dX10_copy_162 ?_
                      refine lv_aload_n hx hb dX10_copy_163 rfl (lv_at hl 1 rfl) ?_
                      refine va_get (D := D) (ci := 9) (v := .ref z_hands) (C := RX10) (T := TX10) (N := 25) hx hb hts iX10 hown hK hP 0 rfl rfl 9 (by decide) f27 (fun _ h9 => h9) rfl dX10_copy_164 ?_
                      refine lv_iload hx hb dX10_copy_167 (lv_at hl 0 rfl) ?_
                      obtain ⟨hi_, h⟩ := gx_ix h
                      refine va_lald hx hb hK hP 4 1 rfl rfl hi_ dX10_copy_169 ?_
                      refine lv_topl (fun y_37 e_y_37 => ?_)
                      have h := gx_let e_y_37 h
                      obtain ⟨hi_, h⟩ := gx_ix h
                      refine va_last hx hb hK hP hD hS 3 1 rfl rfl hi_ dX10_copy_170 (fun H locs hP hD hS => ?_)
                      obtain ⟨w_38, e_w_38⟩ : ∃ y : Nat → Int64, y = (vp_updL a_35 (Int32.toNatClampNeg (((40 * x3) + x4) + a_34)) y_37) := ⟨_, rfl⟩
                      have h := gx_let e_w_38 h
                      have hP : va_P D vwCl [(z, .inr (9, [.int v_fault, .int v_size, .int v_upper, .int v_base, .ref z_isGood, .ref z_frozen, .ref z_sheetSize, .ref z_sheetLane, .ref z_sheet, .ref z_hands, .int v_wide, .long v_mask, .int v_paths, .ref z_seen, .ref z_work, .ref z_known, .ref z_next, .int v_come, .int v_isCounted, .ref z_counts, .ref z_acrosses, .ref z_failings, .int v_basis, .ref z_given, .int v_trace])), (z_sheetSize, .inl (cy 0, 4, .inl v_sheetSizec)), (z_sheetLane, .inl (cy 0, 4, .inl v_sheetLanec)), (z_sheet, .inl (cy 1, 160, .inr (.inl (vp_updL a_35 (Int32.toNatClampNeg (((40 * x3) + x4) + a_34)) y_37)))), (z_hands, .inl (cy 1, 40, .inr (.inl o_26)))] H := hP
                      have hD : va_D A [(z, .inr (9, [.int v_fault, .int v_size, .int v_upper, .int v_base, .ref z_isGood, .ref z_frozen, .ref z_sheetSize, .ref z_sheetLane, .ref z_sheet, .ref z_hands, .int v_wide, .long v_mask, .int v_paths, .ref z_seen, .ref z_work, .ref z_known, .ref z_next, .int v_come, .int v_isCounted, .ref z_counts, .ref z_acrosses, .ref z_failings, .int v_basis, .ref z_given, .int v_trace])), (z_sheetSize, .inl (cy 0, 4, .inl v_sheetSizec)), (z_sheetLane, .inl (cy 0, 4, .inl v_sheetLanec)), (z_sheet, .inl (cy 1, 160, .inr (.inl (vp_updL a_35 (Int32.toNatClampNeg (((40 * x3) + x4) + a_34)) y_37)))), (z_hands, .inl (cy 1, 40, .inr (.inl o_26)))] := hD
                      rw [← e_w_38] at hP hD
                      obtain ⟨y6_39, e_y6_39⟩ : ∃ y : Int32, y = (a_34 + 1) := ⟨_, rfl⟩
                      have h := gx_let e_y6_39 h
                      refine lv_iinc (v := y6_39) (lv' := [(6, .int y6_39), (0, .ref z), (1, .int x1), (2, .int x2), (3, .int x3), (4, .int x4), (5, .int x5)]) hx hb dX10_copy_171 hl (k := 0) rfl (by rw [e_y6_39]; rfl) (by decide) rfl (fun ls hl => ?_)
                      refine lv_goto (tgt := 142) hx hb dX10_copy_174 (by decide) ?_
                      exact ih (y6_39, w_38) _ _ _ h ⟨hP, hD, hS, lv_sub (l' := [(6, .int y6_39), (0, .ref z), (1, .int x1), (2, .int x2), (3, .int x3), (4, .int x4), (5, .int x5)]) hl [0, 1, 2, 3, 4, 5, 6] rfl⟩
                · refine gLoop (Hy := fun k_ v_ => fL_X10_copy_105 K x1 x2 x5 v_sheetc k_ v_ = some (o_25, o_26)) (Pl := fun (v_ : Int32 × (Nat → Int64)) H locs ls => match v_ with | (a_40, a_41) => va_P D vwCl [(z, .inr (9, [.int v_fault, .int v_size, .int v_upper, .int v_base, .ref z_isGood, .ref z_frozen, .ref z_sheetSize, .ref z_sheetLane, .ref z_sheet, .ref z_hands, .int v_wide, .long v_mask, .int v_paths, .ref z_seen, .ref z_work, .ref z_known, .ref z_next, .int v_come, .int v_isCounted, .ref z_counts, .ref z_acrosses, .ref z_failings, .int v_basis, .ref z_given, .int v_trace])), (z_sheetSize, .inl (cy 0, 4, .inl v_sheetSizec)), (z_sheetLane, .inl (cy 0, 4, .inl v_sheetLanec)), (z_sheet, .inl (cy 1, 160, .inr (.inl v_sheetc))), (z_hands, .inl (cy 1, 40, .inr (.inl a_41)))] H ∧ va_D A [(z, .inr (9, [.int v_fault, .int v_size, .int v_upper, .int v_base, .ref z_isGood, .ref z_frozen, .ref z_sheetSize, .ref z_sheetLane, .ref z_sheet, .ref z_hands, .int v_wide, .long v_mask, .int v_paths, .ref z_seen, .ref z_work, .ref z_known, .ref z_next, .int v_come, .int v_isCounted, .ref z_counts, .ref z_acrosses, .ref z_failings, .int v_basis, .ref z_given, .int v_trace])), (z_sheetSize, .inl (cy 0, 4, .inl v_sheetSizec)), (z_sheetLane, .inl (cy 0, 4, .inl v_sheetLanec)), (z_sheet, .inl (cy 1, 160, .inr (.inl v_sheetc))), (z_hands, .inl (cy 1, 40, .inr (.inl a_41)))] ∧ va_S A s.heap H locs ∧ lv_has ls 7 [(6, .int a_40), (0, .ref z), (1, .int x1), (2, .int x2), (3, .int x3), (4, .int x4), (5, .int x5)]) (pcH := 105) (fun _ q_ => by cases q_) ?_ K (0, v_handsc) hL_27 ⟨hP, hD, hS, hl⟩
                  clear hL_27 h hP hD hS hl
                  intro k_ ih ⟨a_40, a_41⟩ H locs ls h hp_
                  obtain ⟨hP, hD, hS, hl⟩ := hp_
                  have hP : va_P D vwCl [(z, .inr (9, [.int v_fault, .int v_size, .int v_upper, .int v_base, .ref z_isGood, .ref z_frozen, .ref z_sheetSize, .ref z_sheetLane, .ref z_sheet, .ref z_hands, .int v_wide, .long v_mask, .int v_paths, .ref z_seen, .ref z_work, .ref z_known, .ref z_next, .int v_come, .int v_isCounted, .ref z_counts, .ref z_acrosses, .ref z_failings, .int v_basis, .ref z_given, .int v_trace])), (z_sheetSize, .inl (cy 0, 4, .inl v_sheetSizec)), (z_sheetLane, .inl (cy 0, 4, .inl v_sheetLanec)), (z_sheet, .inl (cy 1, 160, .inr (.inl v_sheetc))), (z_hands, .inl (cy 1, 40, .inr (.inl a_41)))] H := hP
                  have hD : va_D A [(z, .inr (9, [.int v_fault, .int v_size, .int v_upper, .int v_base, .ref z_isGood, .ref z_frozen, .ref z_sheetSize, .ref z_sheetLane, .ref z_sheet, .ref z_hands, .int v_wide, .long v_mask, .int v_paths, .ref z_seen, .ref z_work, .ref z_known, .ref z_next, .int v_come, .int v_isCounted, .ref z_counts, .ref z_acrosses, .ref z_failings, .int v_basis, .ref z_given, .int v_trace])), (z_sheetSize, .inl (cy 0, 4, .inl v_sheetSizec)), (z_sheetLane, .inl (cy 0, 4, .inl v_sheetLanec)), (z_sheet, .inl (cy 1, 160, .inr (.inl v_sheetc))), (z_hands, .inl (cy 1, 40, .inr (.inl a_41)))] := hD
                  have hl : lv_has ls 7 [(6, .int a_40), (0, .ref z), (1, .int x1), (2, .int x2), (3, .int x3), (4, .int x4), (5, .int x5)] := hl
                  change fL_X10_copy_105 K x1 x2 x5 v_sheetc (k_ + 1) (a_40, a_41) = _ at h
                  rw [fL_X10_copy_105] at h
                  refine lv_iload hx hb dX10_copy_105 (lv_at hl 0 rfl) ?_
                  refine lv_iload hx hb dX10_copy_107 (lv_at hl 6 rfl) ?_
                  refine lv_icmp_ge (tgt := 139) hx hb dX10_copy_109 (by decide) (fun c_42 => ?_) (fun c_42 => ?_)
                  · have h := gx_t c_42 h
                    have hl := lv_sub (l' := [(6, .int a_40), (0, .ref z), (1, .int x1), (2, .int x2), (3, .int x3), (4, .int x4), (5, .int x5)]) hl [0, 1, 2, 3, 4, 5, 6] rfl
                    cases h
                    exact hJ139 _ _ _ ⟨hP, hD, hS, hl⟩
                  · have h := gx_f c_42 h
                    refine lv_aload_n hx hb dX10_copy_112 rfl (lv_at hl 1 rfl) ?_
                    refine va_get (D := D) (ci := 9) (v := .ref z_hands) (C := RX10) (T := TX10) (N := 25) hx hb hts iX10 hown hK hP 0 rfl rfl 9 (by decide) f27 (fun _ h9 => h9) rfl dX10_copy_113 ?_
                    refine lv_iload hx hb dX10_copy_116 (lv_at hl 0 rfl) ?_
                    refine lv_aload_n hx hb dX10_copy_118 rfl (lv_at hl 1 rfl) ?_
                    refine va_get (D := D) (ci := 9) (v := .ref z_sheet) (C := RX10) (T := TX10) (N := 25) hx hb hts iX10 hown hK hP 0 rfl rfl 8 (by decide) f23 (fun _ h9 => h9) rfl dX10_copy_119 ?_
                    refine lv_bipush (v := 40) hx hb dX10_copy_122 (by decide) ?_
                    refine lv_iload_n hx hb dX10_copy_124 rfl (lv_at hl 2 rfl) ?_
                    refine lv_imul hx hb dX10_copy_125 ?_
                    refine lv_iload_n hx hb dX10_copy_126 rfl (lv_at hl 3 rfl) ?_
                    refine lv_iadd hx hb dX10_copy_127 ?_
                    refine lv_iload hx hb dX10_copy_128 (lv_at hl 0 rfl) ?_
                    refine lv_iadd hx hb dX10_copy_130 ?_
                    obtain ⟨hi_, h⟩ := gx_ix h
                    refine va_lald hx hb hK hP 3 1 rfl rfl hi_ dX10_copy_131 ?_
                    refine lv_topl (fun y_43 e_y_43 => ?_)
                    have h := gx_let e_y_43 h
                    obtain ⟨hi_, h⟩ := gx_ix h
                    refine va_last hx hb hK hP hD hS 4 1 rfl rfl hi_ dX10_copy_132 (fun H locs hP hD hS => ?_)
                    obtain ⟨w_44, e_w_44⟩ : ∃ y : Nat → Int64, y = (vp_updL a_41 (Int32.toNatClampNeg a_40) y_43) := ⟨_, rfl⟩
                    have h := gx_let e_w_44 h
                    have hP : va_P D vwCl [(z, .inr (9, [.int v_fault, .int v_size, .int v_upper, .int v_base, .ref z_isGood, .ref z_frozen, .ref z_sheetSize, .ref z_sheetLane, .ref z_sheet, .ref z_hands, .int v_wide, .long v_mask, .int v_paths, .ref z_seen, .ref z_work, .ref z_known, .ref z_next, .int v_come, .int v_isCounted, .ref z_counts, .ref z_acrosses, .ref z_failings, .int v_basis, .ref z_given, .int v_trace])), (z_sheetSize, .inl (cy 0, 4, .inl v_sheetSizec)), (z_sheetLane, .inl (cy 0, 4, .inl v_sheetLanec)), (z_sheet, .inl (cy 1, 160, .inr (.inl v_sheetc))), (z_hands, .inl (cy 1, 40, .inr (.inl (vp_updL a_41 (Int32.toNatClampNeg a_40) y_43))))] H := hP
                    have hD : va_D A [(z, .inr (9, [.int v_fault, .int v_size, .int v_upper, .int v_base, .ref z_isGood, .ref z_frozen, .ref z_sheetSize, .ref z_sheetLane, .ref z_sheet, .ref z_hands, .int v_wide, .long v_mask, .int v_paths, .ref z_seen, .ref z_work, .ref z_known, .ref z_next, .int v_come, .int v_isCounted, .ref z_counts, .ref z_acrosses, .ref z_failings, .int v_basis, .ref z_given, .int v_trace])), (z_sheetSize, .inl (cy 0, 4, .inl v_sheetSizec)), (z_sheetLane, .inl (cy 0, 4, .inl v_sheetLanec)), (z_sheet, .inl (cy 1, 160, .inr (.inl v_sheetc))), (z_hands, .inl (cy 1, 40, .inr (.inl (vp_updL a_41 (Int32.toNatClampNeg a_40) y_43))))] := hD
                    rw [← e_w_44] at hP hD
                    obtain ⟨y6_45, e_y6_45⟩ : ∃ y : Int32, y = (a_40 + 1) := ⟨_, rfl⟩
                    have h := gx_let e_y6_45 h
                    refine lv_iinc (v := y6_45) (lv' := [(6, .int y6_45), (0, .ref z), (1, .int x1), (2, .int x2), (3, .int x3), (4, .int x4), (5, .int x5)]) hx hb dX10_copy_133 hl (k := 0) rfl (by rw [e_y6_45]; rfl) (by decide) rfl (fun ls hl => ?_)
                    refine lv_goto (tgt := 105) hx hb dX10_copy_136 (by decide) ?_
                    exact ih (y6_45, w_44) _ _ _ h ⟨hP, hD, hS, lv_sub (l' := [(6, .int y6_45), (0, .ref z), (1, .int x1), (2, .int x2), (3, .int x3), (4, .int x4), (5, .int x5)]) hl [0, 1, 2, 3, 4, 5, 6] rfl⟩
              · have h := gx_f c_24 h
                refine lv_aload_n hx hb dX10_copy_96 rfl (lv_at hl 0 rfl) ?_
                refine lv_iconst (v := 3) hx hb dX10_copy_97 (by decide) ?_
                obtain ⟨⟨r_46, o_47⟩, hc_48, h⟩ := gx_b h
                refine gCalli (wr := [(z_sheetSize, .inl (cy 0, 4, .inl v_sheetSizec)), (z_sheetLane, .inl (cy 0, 4, .inl v_sheetLanec)), (z_sheet, .inl (cy 1, 160, .inr (.inl v_sheetc))), (z_hands, .inl (cy 1, 40, .inr (.inl v_handsc)))]) (va_runV (As := [.int 3]) (rest := []) ⟨hx, hb, hml, hown, hts⟩ (c_X10_failed l D cy t H.size K z z_isGood z_frozen z_sheetSize z_sheetLane z_sheet z_hands z_seen z_work z_known z_next z_counts z_acrosses z_failings z_given v_fault v_size v_upper v_base v_wide v_mask v_paths v_come v_isCounted v_basis v_trace 3 r_46 o_47 hc_48) (cwV 1 hts gX10_copy_X10_failed rfl rfl rfl (by decide +kernel) ⟨Nat.le_of_ble_eq_true rfl, Nat.le_of_ble_eq_true rfl⟩) ⟨gBlind, va_recv hK hP (ci := 9) (q0 := 0) rfl rfl, fun U hU hW => ⟨rfl, gPre.call hK hG hA hP hD hS [0] (by decide) rfl U hU hW⟩⟩ rfl rfl hl.1 rfl (lv_room (Nat.le_of_ble_eq_true rfl)) dX10_copy_98 ⟨Nat.le_of_ble_eq_true rfl, Nat.le_of_ble_eq_true rfl⟩) hA hP hD hS [0] [1, 2, 3, 4] rfl rfl (by decide) (by decide) (fun H locs hP hD hS => ?_)
                have hP := hP.sub (ws' := [(z, .inr (9, [.int o_47, .int v_size, .int v_upper, .int v_base, .ref z_isGood, .ref z_frozen, .ref z_sheetSize, .ref z_sheetLane, .ref z_sheet, .ref z_hands, .int v_wide, .long v_mask, .int v_paths, .ref z_seen, .ref z_work, .ref z_known, .ref z_next, .int v_come, .int v_isCounted, .ref z_counts, .ref z_acrosses, .ref z_failings, .int v_basis, .ref z_given, .int v_trace])), (z_sheetSize, .inl (cy 0, 4, .inl v_sheetSizec)), (z_sheetLane, .inl (cy 0, 4, .inl v_sheetLanec)), (z_sheet, .inl (cy 1, 160, .inr (.inl v_sheetc))), (z_hands, .inl (cy 1, 40, .inr (.inl v_handsc)))]) [4, 0, 1, 2, 3] rfl
                have hD := hD.sub (ws' := [(z, .inr (9, [.int o_47, .int v_size, .int v_upper, .int v_base, .ref z_isGood, .ref z_frozen, .ref z_sheetSize, .ref z_sheetLane, .ref z_sheet, .ref z_hands, .int v_wide, .long v_mask, .int v_paths, .ref z_seen, .ref z_work, .ref z_known, .ref z_next, .int v_come, .int v_isCounted, .ref z_counts, .ref z_acrosses, .ref z_failings, .int v_basis, .ref z_given, .int v_trace])), (z_sheetSize, .inl (cy 0, 4, .inl v_sheetSizec)), (z_sheetLane, .inl (cy 0, 4, .inl v_sheetLanec)), (z_sheet, .inl (cy 1, 160, .inr (.inl v_sheetc))), (z_hands, .inl (cy 1, 40, .inr (.inl v_handsc)))]) [4, 0, 1, 2, 3] (by decide) rfl
                cases h
                exact gRi hx hb hr hlocks hP hD hS dX10_copy_101
          · have h := gx_f c_15 h
            refine lv_aload_n hx hb dX10_copy_59 rfl (lv_at hl 0 rfl) ?_
            refine lv_iconst (v := 2) hx hb dX10_copy_60 (by decide) ?_
            obtain ⟨⟨r_49, o_50⟩, hc_51, h⟩ := gx_b h
            refine gCalli (wr := [(z_sheetSize, .inl (cy 0, 4, .inl v_sheetSizec)), (z_sheetLane, .inl (cy 0, 4, .inl v_sheetLanec)), (z_sheet, .inl (cy 1, 160, .inr (.inl v_sheetc))), (z_hands, .inl (cy 1, 40, .inr (.inl v_handsc)))]) (va_runV (As := [.int 2]) (rest := []) ⟨hx, hb, hml, hown, hts⟩ (c_X10_failed l D cy t H.size K z z_isGood z_frozen z_sheetSize z_sheetLane z_sheet z_hands z_seen z_work z_known z_next z_counts z_acrosses z_failings z_given v_fault v_size v_upper v_base v_wide v_mask v_paths v_come v_isCounted v_basis v_trace 2 r_49 o_50 hc_51) (cwV 1 hts gX10_copy_X10_failed rfl rfl rfl (by decide +kernel) ⟨Nat.le_of_ble_eq_true rfl, Nat.le_of_ble_eq_true rfl⟩) ⟨gBlind, va_recv hK hP (ci := 9) (q0 := 0) rfl rfl, fun U hU hW => ⟨rfl, gPre.call hK hG hA hP hD hS [0] (by decide) rfl U hU hW⟩⟩ rfl rfl hl.1 rfl (lv_room (Nat.le_of_ble_eq_true rfl)) dX10_copy_61 ⟨Nat.le_of_ble_eq_true rfl, Nat.le_of_ble_eq_true rfl⟩) hA hP hD hS [0] [1, 2, 3, 4] rfl rfl (by decide) (by decide) (fun H locs hP hD hS => ?_)
            have hP := hP.sub (ws' := [(z, .inr (9, [.int o_50, .int v_size, .int v_upper, .int v_base, .ref z_isGood, .ref z_frozen, .ref z_sheetSize, .ref z_sheetLane, .ref z_sheet, .ref z_hands, .int v_wide, .long v_mask, .int v_paths, .ref z_seen, .ref z_work, .ref z_known, .ref z_next, .int v_come, .int v_isCounted, .ref z_counts, .ref z_acrosses, .ref z_failings, .int v_basis, .ref z_given, .int v_trace])), (z_sheetSize, .inl (cy 0, 4, .inl v_sheetSizec)), (z_sheetLane, .inl (cy 0, 4, .inl v_sheetLanec)), (z_sheet, .inl (cy 1, 160, .inr (.inl v_sheetc))), (z_hands, .inl (cy 1, 40, .inr (.inl v_handsc)))]) [4, 0, 1, 2, 3] rfl
            have hD := hD.sub (ws' := [(z, .inr (9, [.int o_50, .int v_size, .int v_upper, .int v_base, .ref z_isGood, .ref z_frozen, .ref z_sheetSize, .ref z_sheetLane, .ref z_sheet, .ref z_hands, .int v_wide, .long v_mask, .int v_paths, .ref z_seen, .ref z_work, .ref z_known, .ref z_next, .int v_come, .int v_isCounted, .ref z_counts, .ref z_acrosses, .ref z_failings, .int v_basis, .ref z_given, .int v_trace])), (z_sheetSize, .inl (cy 0, 4, .inl v_sheetSizec)), (z_sheetLane, .inl (cy 0, 4, .inl v_sheetLanec)), (z_sheet, .inl (cy 1, 160, .inr (.inl v_sheetc))), (z_hands, .inl (cy 1, 40, .inr (.inl v_handsc)))]) [4, 0, 1, 2, 3] (by decide) rfl
            cases h
            exact gRi hx hb hr hlocks hP hD hS dX10_copy_64
        · have h := gx_f c_14 h
          refine lv_aload_n hx hb dX10_copy_38 rfl (lv_at hl 0 rfl) ?_
          refine lv_iconst (v := 1) hx hb dX10_copy_39 (by decide) ?_
          obtain ⟨⟨r_52, o_53⟩, hc_54, h⟩ := gx_b h
          refine gCalli (wr := [(z_sheetSize, .inl (cy 0, 4, .inl v_sheetSizec)), (z_sheetLane, .inl (cy 0, 4, .inl v_sheetLanec)), (z_sheet, .inl (cy 1, 160, .inr (.inl v_sheetc))), (z_hands, .inl (cy 1, 40, .inr (.inl v_handsc)))]) (va_runV (As := [.int 1]) (rest := []) ⟨hx, hb, hml, hown, hts⟩ (c_X10_failed l D cy t H.size K z z_isGood z_frozen z_sheetSize z_sheetLane z_sheet z_hands z_seen z_work z_known z_next z_counts z_acrosses z_failings z_given v_fault v_size v_upper v_base v_wide v_mask v_paths v_come v_isCounted v_basis v_trace 1 r_52 o_53 hc_54) (cwV 1 hts gX10_copy_X10_failed rfl rfl rfl (by decide +kernel) ⟨Nat.le_of_ble_eq_true rfl, Nat.le_of_ble_eq_true rfl⟩) ⟨gBlind, va_recv hK hP (ci := 9) (q0 := 0) rfl rfl, fun U hU hW => ⟨rfl, gPre.call hK hG hA hP hD hS [0] (by decide) rfl U hU hW⟩⟩ rfl rfl hl.1 rfl (lv_room (Nat.le_of_ble_eq_true rfl)) dX10_copy_40 ⟨Nat.le_of_ble_eq_true rfl, Nat.le_of_ble_eq_true rfl⟩) hA hP hD hS [0] [1, 2, 3, 4] rfl rfl (by decide) (by decide) (fun H locs hP hD hS => ?_)
          have hP := hP.sub (ws' := [(z, .inr (9, [.int o_53, .int v_size, .int v_upper, .int v_base, .ref z_isGood, .ref z_frozen, .ref z_sheetSize, .ref z_sheetLane, .ref z_sheet, .ref z_hands, .int v_wide, .long v_mask, .int v_paths, .ref z_seen, .ref z_work, .ref z_known, .ref z_next, .int v_come, .int v_isCounted, .ref z_counts, .ref z_acrosses, .ref z_failings, .int v_basis, .ref z_given, .int v_trace])), (z_sheetSize, .inl (cy 0, 4, .inl v_sheetSizec)), (z_sheetLane, .inl (cy 0, 4, .inl v_sheetLanec)), (z_sheet, .inl (cy 1, 160, .inr (.inl v_sheetc))), (z_hands, .inl (cy 1, 40, .inr (.inl v_handsc)))]) [4, 0, 1, 2, 3] rfl
          have hD := hD.sub (ws' := [(z, .inr (9, [.int o_53, .int v_size, .int v_upper, .int v_base, .ref z_isGood, .ref z_frozen, .ref z_sheetSize, .ref z_sheetLane, .ref z_sheet, .ref z_hands, .int v_wide, .long v_mask, .int v_paths, .ref z_seen, .ref z_work, .ref z_known, .ref z_next, .int v_come, .int v_isCounted, .ref z_counts, .ref z_acrosses, .ref z_failings, .int v_basis, .ref z_given, .int v_trace])), (z_sheetSize, .inl (cy 0, 4, .inl v_sheetSizec)), (z_sheetLane, .inl (cy 0, 4, .inl v_sheetLanec)), (z_sheet, .inl (cy 1, 160, .inr (.inl v_sheetc))), (z_hands, .inl (cy 1, 40, .inr (.inl v_handsc)))]) [4, 0, 1, 2, 3] (by decide) rfl
          cases h
          exact gRi hx hb hr hlocks hP hD hS dX10_copy_43
    · have h := gx_f c_9 h
      refine lv_aload_n hx hb dX10_copy_14 rfl (lv_at hl 0 rfl) ?_
      refine lv_iconst (v := (-1)) hx hb dX10_copy_15 (by decide) ?_
      obtain ⟨⟨r_55, o_56⟩, hc_57, h⟩ := gx_b h
      refine gCalli (wr := [(z_sheetSize, .inl (cy 0, 4, .inl v_sheetSizec)), (z_sheetLane, .inl (cy 0, 4, .inl v_sheetLanec)), (z_sheet, .inl (cy 1, 160, .inr (.inl v_sheetc))), (z_hands, .inl (cy 1, 40, .inr (.inl v_handsc)))]) (va_runV (As := [.int (-1)]) (rest := []) ⟨hx, hb, hml, hown, hts⟩ (c_X10_refused l D cy t H.size K z z_isGood z_frozen z_sheetSize z_sheetLane z_sheet z_hands z_seen z_work z_known z_next z_counts z_acrosses z_failings z_given v_fault v_size v_upper v_base v_wide v_mask v_paths v_come v_isCounted v_basis v_trace (-1) r_55 o_56 hc_57) (cwV 1 hts gX10_copy_X10_refused rfl rfl rfl (by decide +kernel) ⟨Nat.le_of_ble_eq_true rfl, Nat.le_of_ble_eq_true rfl⟩) ⟨gBlind, va_recv hK hP (ci := 9) (q0 := 0) rfl rfl, fun U hU hW => ⟨rfl, gPre.call hK hG hA hP hD hS [0] (by decide) rfl U hU hW⟩⟩ rfl rfl hl.1 rfl (lv_room (Nat.le_of_ble_eq_true rfl)) dX10_copy_16 ⟨Nat.le_of_ble_eq_true rfl, Nat.le_of_ble_eq_true rfl⟩) hA hP hD hS [0] [1, 2, 3, 4] rfl rfl (by decide) (by decide) (fun H locs hP hD hS => ?_)
      have hP := hP.sub (ws' := [(z, .inr (9, [.int o_56, .int v_size, .int v_upper, .int v_base, .ref z_isGood, .ref z_frozen, .ref z_sheetSize, .ref z_sheetLane, .ref z_sheet, .ref z_hands, .int v_wide, .long v_mask, .int v_paths, .ref z_seen, .ref z_work, .ref z_known, .ref z_next, .int v_come, .int v_isCounted, .ref z_counts, .ref z_acrosses, .ref z_failings, .int v_basis, .ref z_given, .int v_trace])), (z_sheetSize, .inl (cy 0, 4, .inl v_sheetSizec)), (z_sheetLane, .inl (cy 0, 4, .inl v_sheetLanec)), (z_sheet, .inl (cy 1, 160, .inr (.inl v_sheetc))), (z_hands, .inl (cy 1, 40, .inr (.inl v_handsc)))]) [4, 0, 1, 2, 3] rfl
      have hD := hD.sub (ws' := [(z, .inr (9, [.int o_56, .int v_size, .int v_upper, .int v_base, .ref z_isGood, .ref z_frozen, .ref z_sheetSize, .ref z_sheetLane, .ref z_sheet, .ref z_hands, .int v_wide, .long v_mask, .int v_paths, .ref z_seen, .ref z_work, .ref z_known, .ref z_next, .int v_come, .int v_isCounted, .ref z_counts, .ref z_acrosses, .ref z_failings, .int v_basis, .ref z_given, .int v_trace])), (z_sheetSize, .inl (cy 0, 4, .inl v_sheetSizec)), (z_sheetLane, .inl (cy 0, 4, .inl v_sheetLanec)), (z_sheet, .inl (cy 1, 160, .inr (.inl v_sheetc))), (z_hands, .inl (cy 1, 40, .inr (.inl v_handsc)))]) [4, 0, 1, 2, 3] (by decide) rfl
      cases h
      exact gRi hx hb hr hlocks hP hD hS dX10_copy_19
