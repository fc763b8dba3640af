def fL_X10_unlike_5 (K : Nat) (l1 : Int64) (u0_1 : Int32) (u1 : Nat → Int32) : Nat → Int32 × Int32 → Option (Int32 × Int32)
  | 0, _ => none
  | k + 1, (l4, l3) =>
    if u0_1 ≤ l4 then
      some (l4, l3)
    else
      gIx l4 32 <|
      Option.bind (α := Int32) (
        if 2 ≤ (u1 (Int32.toNatClampNeg l4)) then
          some 0
        else
          gIx l4 32 <|
          if (u1 (Int32.toNatClampNeg l4)) = (Int64.toInt32 ((gLshr l1 l4) &&& 1)) then
            some 0
          else
            some 1) fun ms_2 =>
      gLet (l3 + ms_2) fun y3_5 =>
      gLet (l4 + 1) fun y4_6 =>
      fL_X10_unlike_5 K l1 u0_1 u1 k (y4_6, y3_5)
def f_X10_unlike (K : Nat) (x1 : Int64) (v_size : Int32) (v_seenc : Nat → Int32) : Option (Int32) :=
  Option.bind (fL_X10_unlike_5 K x1 v_size v_seenc K (0, 0)) fun (o_7, o_8) =>
  some o_8
set_option maxHeartbeats 4000000 in
set_option maxRecDepth 100000 in
theorem c_X10_unlike (l : Launch) (D : va_G) (cy : Nat → ClassId) (t sz K : Nat) (z : Nat) (z_seen : Nat) (z_isGood : Nat) (z_frozen : Nat) (z_sheetSize : Nat) (z_sheetLane : Nat) (z_sheet : Nat) (z_hands : Nat) (z_work : Nat) (z_known : Nat) (z_next : Nat) (z_counts : Nat) (z_acrosses : Nat) (z_failings : Nat) (z_given : Nat) (v_fault : Int32) (v_size : Int32) (v_upper : Int32) (v_base : Int32) (v_wide : Int32) (v_mask : Int64) (v_paths : Int32) (v_come : Int32) (v_isCounted : Int32) (v_basis : Int32) (v_trace : Int32) (v_seenc : Nat → Int32) (x1 : Int64) (r_ : Int32) (h : f_X10_unlike K x1 v_size v_seenc = some r_) : gMi l D cy t sz yX10_unlike wsX10_unlike 0 0 [.ref z, .long x1] [(z, .inr (9, [.int v_fault, .int v_size, .int v_upper, .int v_base, .ref z_isGood, .ref z_frozen, .ref z_sheetSize, .ref z_sheetLane, .ref z_sheet, .ref z_hands, .int v_wide, .long v_mask, .int v_paths, .ref z_seen, .ref z_work, .ref z_known, .ref z_next, .int v_come, .int v_isCounted, .ref z_counts, .ref z_acrosses, .ref z_failings, .int v_basis, .ref z_given, .int v_trace])), (z_seen, .inl (cy 0, 32, .inl v_seenc))] r_ [(z, .inr (9, [.int v_fault, .int v_size, .int v_upper, .int v_base, .ref z_isGood, .ref z_frozen, .ref z_sheetSize, .ref z_sheetLane, .ref z_sheet, .ref z_hands, .int v_wide, .long v_mask, .int v_paths, .ref z_seen, .ref z_work, .ref z_known, .ref z_next, .int v_come, .int v_isCounted, .ref z_counts, .ref z_acrosses, .ref z_failings, .int v_basis, .ref z_given, .int v_trace])), (z_seen, .inl (cy 0, 32, .inl v_seenc))] := by
  refine gBi (cc := cX10_unlike) (maxL := 5) (ret := (some .int)) (by decide) rfl (Nat.le_of_ble_eq_true rfl) ?_
  intro p e s m below meth c A ls hAt hl
  obtain ⟨hx, hb, hml, hr, hts, hown, hlocks, hin, hK, hG, hA, hP, hD⟩ := hAt
  have hS : va_S A s.heap s.heap [] := va_S.rf
  have hl : lv_has ls 5 [(0, .ref z), (1, .long x1)] := hl
  have f54 := hts (.fieldLink RX10 54 "PlainLinesModel" "size" "I") (by decide +kernel)
  have iX10 := (by decide +kernel : ∀ w ∈ u_ws RX10 TX10 25, w ∈ wsX10_unlike)
  have f30 := hts (.fieldLink RX10 30 "PlainLinesModel" "seen" "[I") (by decide +kernel)
  rw [f_X10_unlike] at h
  refine lv_iconst (v := 0) hx hb dX10_unlike_0 (by decide) ?_
  refine lv_istore_n (lv' := [(3, .int 0), (0, .ref z), (1, .long x1)]) hx hb dX10_unlike_1 rfl hl (by decide) rfl (fun ls hl => ?_)
  refine lv_iconst (v := 0) hx hb dX10_unlike_2 (by decide) ?_
  refine lv_istore (lv' := [(4, .int 0), (3, .int 0), (0, .ref z), (1, .long x1)]) hx hb dX10_unlike_3 hl (by decide) rfl (fun ls hl => ?_)
  obtain ⟨⟨o_1, o_2⟩, hL_3, h⟩ := gx_b h
  refine gJoin (Pj := fun H locs ls => va_P D vwCl [(z, .inr (9, [.int v_fault, .int v_size, .int v_upper, .int v_base, .ref z_isGood, .ref z_frozen, .ref z_sheetSize, .ref z_sheetLane, .ref z_sheet, .ref z_hands, .int v_wide, .long v_mask, .int v_paths, .ref z_seen, .ref z_work, .ref z_known, .ref z_next, .int v_come, .int v_isCounted, .ref z_counts, .ref z_acrosses, .ref z_failings, .int v_basis, .ref z_given, .int v_trace])), (z_seen, .inl (cy 0, 32, .inl v_seenc))] H ∧ va_D A [(z, .inr (9, [.int v_fault, .int v_size, .int v_upper, .int v_base, .ref z_isGood, .ref z_frozen, .ref z_sheetSize, .ref z_sheetLane, .ref z_sheet, .ref z_hands, .int v_wide, .long v_mask, .int v_paths, .ref z_seen, .ref z_work, .ref z_known, .ref z_next, .int v_come, .int v_isCounted, .ref z_counts, .ref z_acrosses, .ref z_failings, .int v_basis, .ref z_given, .int v_trace])), (z_seen, .inl (cy 0, 32, .inl v_seenc))] ∧ va_S A s.heap H locs ∧ lv_has ls 5 [(4, .int o_1), (3, .int o_2), (0, .ref z), (1, .long x1)]) (pcM := 56) (st := []) ?_ (fun hJ56 => ?_)
  · intro H locs ls hp_
    obtain ⟨hP, hD, hS, hl⟩ := hp_
    clear hL_3
    refine lv_iload_n hx hb dX10_unlike_56 rfl (lv_at hl 1 rfl) ?_
    cases h
    exact gRi hx hb hr hlocks hP hD hS dX10_unlike_57
  · refine gLoop (Hy := fun k_ v_ => fL_X10_unlike_5 K x1 v_size v_seenc k_ v_ = some (o_1, o_2)) (Pl := fun (v_ : Int32 × Int32) H locs ls => match v_ with | (a_4, a_5) => va_P D vwCl [(z, .inr (9, [.int v_fault, .int v_size, .int v_upper, .int v_base, .ref z_isGood, .ref z_frozen, .ref z_sheetSize, .ref z_sheetLane, .ref z_sheet, .ref z_hands, .int v_wide, .long v_mask, .int v_paths, .ref z_seen, .ref z_work, .ref z_known, .ref z_next, .int v_come, .int v_isCounted, .ref z_counts, .ref z_acrosses, .ref z_failings, .int v_basis, .ref z_given, .int v_trace])), (z_seen, .inl (cy 0, 32, .inl v_seenc))] H ∧ va_D A [(z, .inr (9, [.int v_fault, .int v_size, .int v_upper, .int v_base, .ref z_isGood, .ref z_frozen, .ref z_sheetSize, .ref z_sheetLane, .ref z_sheet, .ref z_hands, .int v_wide, .long v_mask, .int v_paths, .ref z_seen, .ref z_work, .ref z_known, .ref z_next, .int v_come, .int v_isCounted, .ref z_counts, .ref z_acrosses, .ref z_failings, .int v_basis, .ref z_given, .int v_trace])), (z_seen, .inl (cy 0, 32, .inl v_seenc))] ∧ va_S A s.heap H locs ∧ lv_has ls 5 [(4, .int a_4), (3, .int a_5), (0, .ref z), (1, .long x1)]) (pcH := 5) (fun _ q_ => by cases q_) ?_ K (0, 0) hL_3 ⟨hP, hD, hS, hl⟩
    clear hL_3 h hP hD hS hl
    intro k_ ih ⟨a_4, a_5⟩ H locs ls h hp_
    obtain ⟨hP, hD, hS, hl⟩ := hp_
    have hP : va_P D vwCl [(z, .inr (9, [.int v_fault, .int v_size, .int v_upper, .int v_base, .ref z_isGood, .ref z_frozen, .ref z_sheetSize, .ref z_sheetLane, .ref z_sheet, .ref z_hands, .int v_wide, .long v_mask, .int v_paths, .ref z_seen, .ref z_work, .ref z_known, .ref z_next, .int v_come, .int v_isCounted, .ref z_counts, .ref z_acrosses, .ref z_failings, .int v_basis, .ref z_given, .int v_trace])), (z_seen, .inl (cy 0, 32, .inl v_seenc))] H := hP
    have hD : va_D A [(z, .inr (9, [.int v_fault, .int v_size, .int v_upper, .int v_base, .ref z_isGood, .ref z_frozen, .ref z_sheetSize, .ref z_sheetLane, .ref z_sheet, .ref z_hands, .int v_wide, .long v_mask, .int v_paths, .ref z_seen, .ref z_work, .ref z_known, .ref z_next, .int v_come, .int v_isCounted, .ref z_counts, .ref z_acrosses, .ref z_failings, .int v_basis, .ref z_given, .int v_trace])), (z_seen, .inl (cy 0, 32, .inl v_seenc))] := hD
    have hl : lv_has ls 5 [(4, .int a_4), (3, .int a_5), (0, .ref z), (1, .long x1)] := hl
    change fL_X10_unlike_5 K x1 v_size v_seenc (k_ + 1) (a_4, a_5) = _ at h
    rw [fL_X10_unlike_5] at h
    refine lv_iload hx hb dX10_unlike_5 (lv_at hl 0 rfl) ?_
    refine lv_aload_n hx hb dX10_unlike_7 rfl (lv_at hl 2 rfl) ?_
    refine va_get (D := D) (ci := 9) (v := .int v_size) (C := RX10) (T := TX10) (N := 25) hx hb hts iX10 hown hK hP 0 rfl rfl 1 (by decide) f54 (fun _ h9 => h9) rfl dX10_unlike_8 ?_
    refine lv_icmp_ge (tgt := 56) hx hb dX10_unlike_11 (by decide) (fun c_6 => ?_) (fun c_6 => ?_)
    · have h := gx_t c_6 h
      have hl := lv_sub (l' := [(4, .int a_4), (3, .int a_5), (0, .ref z), (1, .long x1)]) hl [0, 1, 2, 3] rfl
      cases h
      exact hJ56 _ _ _ ⟨hP, hD, hS, hl⟩
    · have h := gx_f c_6 h
      refine lv_iload_n hx hb dX10_unlike_14 rfl (lv_at hl 1 rfl) ?_
      refine lv_aload_n hx hb dX10_unlike_15 rfl (lv_at hl 2 rfl) ?_
      refine va_get (D := D) (ci := 9) (v := .ref z_seen) (C := RX10) (T := TX10) (N := 25) hx hb hts iX10 hown hK hP 0 rfl rfl 13 (by decide) f30 (fun _ h9 => h9) rfl dX10_unlike_16 ?_
      refine lv_iload hx hb dX10_unlike_19 (lv_at hl 0 rfl) ?_
      obtain ⟨hi_, h⟩ := gx_ix h
      refine va_iald hx hb hK hP 1 0 rfl rfl hi_ dX10_unlike_21 ?_
      refine lv_iconst (v := 2) hx hb dX10_unlike_22 (by decide) ?_
      obtain ⟨ms_7, hR_8, h⟩ := gx_b h
      refine gJoin (Pj := fun H locs ls => va_P D vwCl [(z, .inr (9, [.int v_fault, .int v_size, .int v_upper, .int v_base, .ref z_isGood, .ref z_frozen, .ref z_sheetSize, .ref z_sheetLane, .ref z_sheet, .ref z_hands, .int v_wide, .long v_mask, .int v_paths, .ref z_seen, .ref z_work, .ref z_known, .ref z_next, .int v_come, .int v_isCounted, .ref z_counts, .ref z_acrosses, .ref z_failings, .int v_basis, .ref z_given, .int v_trace])), (z_seen, .inl (cy 0, 32, .inl v_seenc))] H ∧ va_D A [(z, .inr (9, [.int v_fault, .int v_size, .int v_upper, .int v_base, .ref z_isGood, .ref z_frozen, .ref z_sheetSize, .ref z_sheetLane, .ref z_sheet, .ref z_hands, .int v_wide, .long v_mask, .int v_paths, .ref z_seen, .ref z_work, .ref z_known, .ref z_next, .int v_come, .int v_isCounted, .ref z_counts, .ref z_acrosses, .ref z_failings, .int v_basis, .ref z_given, .int v_trace])), (z_seen, .inl (cy 0, 32, .inl v_seenc))] ∧ va_S A s.heap H locs ∧ lv_has ls 5 [(4, .int a_4), (3, .int a_5), (0, .ref z), (1, .long x1)]) (pcM := 48) (st := [.int ms_7, .int a_5]) ?_ (fun hJ48 => ?_)
      · intro H locs ls hp_
        obtain ⟨hP, hD, hS, hl⟩ := hp_
        clear hR_8
        refine lv_iadd hx hb dX10_unlike_48 ?_
        refine lv_topi (fun y3_9 e_y3_9 => ?_)
        have h := gx_let e_y3_9 h
        refine lv_istore_n (lv' := [(3, .int y3_9), (4, .int a_4), (0, .ref z), (1, .long x1)]) hx hb dX10_unlike_49 rfl hl (by decide) rfl (fun ls hl => ?_)
        obtain ⟨y4_10, e_y4_10⟩ : ∃ y : Int32, y = (a_4 + 1) := ⟨_, rfl⟩
        have h := gx_let e_y4_10 h
        refine lv_iinc (v := y4_10) (lv' := [(4, .int y4_10), (3, .int y3_9), (0, .ref z), (1, .long x1)]) hx hb dX10_unlike_50 hl (k := 1) rfl (by rw [e_y4_10]; rfl) (by decide) rfl (fun ls hl => ?_)
        refine lv_goto (tgt := 5) hx hb dX10_unlike_53 (by decide) ?_
        exact ih (y4_10, y3_9) _ _ _ h ⟨hP, hD, hS, lv_sub (l' := [(4, .int y4_10), (3, .int y3_9), (0, .ref z), (1, .long x1)]) hl [0, 1, 2, 3] rfl⟩
      · have h := hR_8
        refine lv_icmp_ge (tgt := 47) hx hb dX10_unlike_23 (by decide) (fun c_11 => ?_) (fun c_11 => ?_)
        · have h := gx_t c_11 h
          refine lv_iconst (v := 0) hx hb dX10_unlike_47 (by decide) ?_
          have hl := lv_sub (l' := [(4, .int a_4), (3, .int a_5), (0, .ref z), (1, .long x1)]) hl [0, 1, 2, 3] rfl
          cases h
          exact hJ48 _ _ _ ⟨hP, hD, hS, hl⟩
        · have h := gx_f c_11 h
          refine lv_aload_n hx hb dX10_unlike_26 rfl (lv_at hl 2 rfl) ?_
          refine va_get (D := D) (ci := 9) (v := .ref z_seen) (C := RX10) (T := TX10) (N := 25) hx hb hts iX10 hown hK hP 0 rfl rfl 13 (by decide) f30 (fun _ h9 => h9) rfl dX10_unlike_27 ?_
          refine lv_iload hx hb dX10_unlike_30 (lv_at hl 0 rfl) ?_
          obtain ⟨hi_, h⟩ := gx_ix h
          refine va_iald hx hb hK hP 1 0 rfl rfl hi_ dX10_unlike_32 ?_
          refine lv_lload_n hx hb dX10_unlike_33 rfl (lv_at hl 3 rfl) ?_
          refine lv_iload hx hb dX10_unlike_34 (lv_at hl 0 rfl) ?_
          refine lv_lshr (v := (gLshr x1 a_4)) hx hb dX10_unlike_36 rfl ?_
          refine lv_lconst (v := 1) hx hb dX10_unlike_37 (by decide) ?_
          refine lv_land hx hb dX10_unlike_38 ?_
          refine lv_l2i (v := (Int64.toInt32 ((gLshr x1 a_4) &&& 1))) hx hb dX10_unlike_39 rfl ?_
          refine lv_icmp_eq (tgt := 47) hx hb dX10_unlike_40 (by decide) (fun c_12 => ?_) (fun c_12 => ?_)
          · have h := gx_t c_12 h
            refine lv_iconst (v := 0) hx hb dX10_unlike_47 (by decide) ?_
            have hl := lv_sub (l' := [(4, .int a_4), (3, .int a_5), (0, .ref z), (1, .long x1)]) hl [0, 1, 2, 3] rfl
            cases h
            exact hJ48 _ _ _ ⟨hP, hD, hS, hl⟩
          · have h := gx_f c_12 h
            refine lv_iconst (v := 1) hx hb dX10_unlike_43 (by decide) ?_
            refine lv_goto (tgt := 48) hx hb dX10_unlike_44 (by decide) ?_
            have hl := lv_sub (l' := [(4, .int a_4), (3, .int a_5), (0, .ref z), (1, .long x1)]) hl [0, 1, 2, 3] rfl
            cases h
            exact hJ48 _ _ _ ⟨hP, hD, hS, hl⟩

def fL_X10_nearest_82 (K : Nat) (u0_1 : Int32) (u1 : Nat → Int32) (u5 : Nat → Int32) (u6 : Nat → Int32) : Nat → Int64 × Int32 × Int64 → Option (Int64 × Int32 × Int64)
  | 0, _ => none
  | k + 1, (l8, l7, l5) =>
    Option.bind (f_X10_goods K u0_1 u1) fun r_15 =>
    if 0 ≤ (lg_cmp l8 (gLshl 1 r_15)) then
      some (l8, l7, l5)
    else
      Option.bind (f_X10_rowOf K l8 u0_1 u1 u6) fun r_17 =>
      Option.bind (f_X10_folded K r_17 u0_1) fun r_18 =>
      Option.bind (f_X10_unlike K r_18 u0_1 u5) fun r_19 =>
      Option.bind (α := Int64) (
        if l7 ≤ r_19 then
          some l5
        else
          some l8) fun ms_20 =>
      Option.bind (α := Int32) (
        if l7 ≤ r_19 then
          some l7
        else
          some r_19) fun ms_22 =>
      gLet (l8 + 1) fun y8_24 =>
      fL_X10_nearest_82 K u0_1 u1 u5 u6 k (y8_24, ms_22, ms_20)
def f_X10_nearest (K : Nat) (x1 : Int32) (x2 : Int32) (x3 : Int32) (v_size : Int32) (v_isGoodc : Nat → Int32) (v_sheetSizec : Nat → Int32) (v_sheetLanec : Nat → Int32) (v_sheetc : Nat → Int64) (v_seenc : Nat → Int32) (v_frozenc : Nat → Int32) : Option (Int64 × Int32 × (Nat → Int32)) :=
  Option.bind (f_X10_noSheet K x1) fun r_1 =>
  if r_1 = 0 then
    Option.bind (f_X10_in K (Int32.toInt64 x2) 0 2) fun r_4 =>
    if r_4 = 0 then
      Option.bind (f_X10_lost K) fun r_6 =>
      some (r_6, 0, v_seenc)
    else
      Option.bind (f_X10_in K (Int32.toInt64 x3) 0 1) fun r_7 =>
      if r_7 = 0 then
        Option.bind (f_X10_lost K) fun r_9 =>
        some (r_9, 0, v_seenc)
      else
        Option.bind (f_X10_goods K v_size v_isGoodc) fun r_10 =>
        if r_10 ≤ 12 then
          Option.bind (f_X10_faultOf K x1 x2 v_size v_sheetSizec v_sheetLanec) fun r_12 =>
          if r_12 ≤ 0 then
            Option.bind (f_X10_laySeen K x1 v_size v_sheetc v_seenc) fun o_14 =>
            Option.bind (fL_X10_nearest_82 K v_size v_isGoodc o_14 v_frozenc K (0, 99, 0)) fun (o_25, o_26, o_27) =>
            if x3 = 0 then
              some (o_27, 0, o_14)
            else
              some ((Int32.toInt64 o_26), 0, o_14)
          else
            Option.bind (f_X10_failedLong K r_12) fun (r_29, o_30) =>
            some (r_29, o_30, v_seenc)
        else
          Option.bind (f_X10_lost K) fun r_31 =>
          some (r_31, 0, v_seenc)
  else
    Option.bind (f_X10_lost K) fun r_3 =>
    some (r_3, 0, v_seenc)
set_option maxHeartbeats 4000000 in
set_option maxRecDepth 100000 in
theorem c_X10_nearest (l : Launch) (D : va_G) (cy : Nat → ClassId) (t sz K : Nat) (z : Nat) (z_isGood : Nat) (z_sheetSize : Nat) (z_sheetLane : Nat) (z_sheet : Nat) (z_seen : Nat) (z_frozen : Nat) (z_hands : Nat) (z_work : Nat) (z_known : Nat) (z_next : Nat) (z_counts : Nat) (z_acrosses : Nat) (z_failings : Nat) (z_given : Nat) (v_fault : Int32) (v_size : Int32) (v_upper : Int32) (v_base : Int32) (v_wide : Int32) (v_mask : Int64) (v_paths : Int32) (v_come : Int32) (v_isCounted : Int32) (v_basis : Int32) (v_trace : Int32) (v_isGoodc : Nat → Int32) (v_sheetSizec : Nat → Int32) (v_sheetLanec : Nat → Int32) (v_sheetc : Nat → Int64) (v_seenc : Nat → Int32) (v_frozenc : Nat → Int32) (x1 : Int32) (x2 : Int32) (x3 : Int32) (r_ : Int64) (o_v_fault : Int32) (o_v_seenc : Nat → Int32) (h : f_X10_nearest K x1 x2 x3 v_size v_isGoodc v_sheetSizec v_sheetLanec v_sheetc v_seenc v_frozenc = some (r_, o_v_fault, o_v_seenc)) : gMl l D cy t sz yX10_nearest wsX10_nearest 2 45 [.ref z, .int x1, .int x2, .int x3] [(z, .inr (9, [.int v_fault, .int v_size, .int v_upper, .int v_base, .ref z_isGood, .ref z_frozen, .ref z_sheetSize, .ref z_sheetLane, .ref z_sheet, .ref z_hands, .int v_wide, .long v_mask, .int v_paths, .ref z_seen, .ref z_work, .ref z_known, .ref z_next, .int v_come, .int v_isCounted, .ref z_counts, .ref z_acrosses, .ref z_failings, .int v_basis, .ref z_given, .int v_trace])), (z_isGood, .inl (cy 2, 32, .inl v_isGoodc)), (z_sheetSize, .inl (cy 0, 4, .inl v_sheetSizec)), (z_sheetLane, .inl (cy 0, 4, .inl v_sheetLanec)), (z_sheet, .inl (cy 1, 160, .inr (.inl v_sheetc))), (z_seen, .inl (cy 0, 32, .inl v_seenc)), (z_frozen, .inl (cy 0, 32, .inl v_frozenc))] r_ [(z, .inr (9, [.int o_v_fault, .int v_size, .int v_upper, .int v_base, .ref z_isGood, .ref z_frozen, .ref z_sheetSize, .ref z_sheetLane, .ref z_sheet, .ref z_hands, .int v_wide, .long v_mask, .int v_paths, .ref z_seen, .ref z_work, .ref z_known, .ref z_next, .int v_come, .int v_isCounted, .ref z_counts, .ref z_acrosses, .ref z_failings, .int v_basis, .ref z_given, .int v_trace])), (z_isGood, .inl (cy 2, 32, .inl v_isGoodc)), (z_sheetSize, .inl (cy 0, 4, .inl v_sheetSizec)), (z_sheetLane, .inl (cy 0, 4, .inl v_sheetLanec)), (z_sheet, .inl (cy 1, 160, .inr (.inl v_sheetc))), (z_seen, .inl (cy 0, 32, .inl o_v_seenc)), (z_frozen, .inl (cy 0, 32, .inl v_frozenc))] := by
  refine gBl (cc := cX10_nearest) (maxL := 11) (ret := (some .long)) (by decide) rfl (Nat.le_of_ble_eq_true rfl) ?_
  intro p e s m below meth c A ls hAt hl
  obtain ⟨hx, hb, hml, hr, hts, hown, hlocks, hin, hK, hG, hA, hP, hD⟩ := hAt
  have hS : va_S A s.heap s.heap [] := va_S.rf
  have hl : lv_has ls 11 [(0, .ref z), (1, .int x1), (2, .int x2), (3, .int x3)] := hl
  have f72 := hts (.fieldLink RX10 72 "PlainLinesModel" "fault" "I") (by decide +kernel)
  have iX10 := (by decide +kernel : ∀ w ∈ u_ws RX10 TX10 25, w ∈ wsX10_nearest)
  have k93 := hts (.constantLong RX10 93 (2)) (by decide +kernel)
  have f54 := hts (.fieldLink RX10 54 "PlainLinesModel" "size" "I") (by decide +kernel)
  rw [f_X10_nearest] at h
  refine lv_aload_n hx hb dX10_nearest_0 rfl (lv_at hl 0 rfl) ?_
  refine lv_iconst (v := 0) hx hb dX10_nearest_1 (by decide) ?_
  refine va_put (D := D) (ci := 9) (v := .int 0) (ty := .int) (C := RX10) (T := TX10) (N := 25) hx hb hts iX10 tyX10 tyX10_ok nmX10 hown hK hP hD hS 0 rfl rfl 0 (by decide) f72 (fun _ h9 => h9) rfl (by decide +kernel) rfl rfl (Nat.le_of_ble_eq_true rfl) dX10_nearest_2 (fun H locs hP hD hS => ?_)
  have hP : va_P D vwCl [(z, .inr (9, [.int 0, .int v_size, .int v_upper, .int v_base, .ref z_isGood, .ref z_frozen, .ref z_sheetSize, .ref z_sheetLane, .ref z_sheet, .ref z_hands, .int v_wide, .long v_mask, .int v_paths, .ref z_seen, .ref z_work, .ref z_known, .ref z_next, .int v_come, .int v_isCounted, .ref z_counts, .ref z_acrosses, .ref z_failings, .int v_basis, .ref z_given, .int v_trace])), (z_isGood, .inl (cy 2, 32, .inl v_isGoodc)), (z_sheetSize, .inl (cy 0, 4, .inl v_sheetSizec)), (z_sheetLane, .inl (cy 0, 4, .inl v_sheetLanec)), (z_sheet, .inl (cy 1, 160, .inr (.inl v_sheetc))), (z_seen, .inl (cy 0, 32, .inl v_seenc)), (z_frozen, .inl (cy 0, 32, .inl v_frozenc))] H := hP
  have hD : va_D A [(z, .inr (9, [.int 0, .int v_size, .int v_upper, .int v_base, .ref z_isGood, .ref z_frozen, .ref z_sheetSize, .ref z_sheetLane, .ref z_sheet, .ref z_hands, .int v_wide, .long v_mask, .int v_paths, .ref z_seen, .ref z_work, .ref z_known, .ref z_next, .int v_come, .int v_isCounted, .ref z_counts, .ref z_acrosses, .ref z_failings, .int v_basis, .ref z_given, .int v_trace])), (z_isGood, .inl (cy 2, 32, .inl v_isGoodc)), (z_sheetSize, .inl (cy 0, 4, .inl v_sheetSizec)), (z_sheetLane, .inl (cy 0, 4, .inl v_sheetLanec)), (z_sheet, .inl (cy 1, 160, .inr (.inl v_sheetc))), (z_seen, .inl (cy 0, 32, .inl v_seenc)), (z_frozen, .inl (cy 0, 32, .inl v_frozenc))] := hD
  refine lv_iload_n hx hb dX10_nearest_5 rfl (lv_at hl 1 rfl) ?_
  obtain ⟨r_1, hc_2, h⟩ := gx_b h
  refine gCalli (wr := [(z, .inr (9, [.int 0, .int v_size, .int v_upper, .int v_base, .ref z_isGood, .ref z_frozen, .ref z_sheetSize, .ref z_sheetLane, .ref z_sheet, .ref z_hands, .int v_wide, .long v_mask, .int v_paths, .ref z_seen, .ref z_work, .ref z_known, .ref z_next, .int v_come, .int v_isCounted, .ref z_counts, .ref z_acrosses, .ref z_failings, .int v_basis, .ref z_given, .int v_trace])), (z_isGood, .inl (cy 2, 32, .inl v_isGoodc)), (z_sheetSize, .inl (cy 0, 4, .inl v_sheetSizec)), (z_sheetLane, .inl (cy 0, 4, .inl v_sheetLanec)), (z_sheet, .inl (cy 1, 160, .inr (.inl v_sheetc))), (z_seen, .inl (cy 0, 32, .inl v_seenc)), (z_frozen, .inl (cy 0, 32, .inl v_frozenc))]) (va_runS (As := [.int x1]) (rest := []) ⟨hx, hb, hml, hown, hts⟩ (c_X10_noSheet l D cy t H.size K x1 r_1 hc_2) (va_cwS 1 hts gX10_nearest_X10_noSheet rfl rfl rfl (by decide +kernel) ⟨Nat.le_of_ble_eq_true rfl, Nat.le_of_ble_eq_true rfl⟩) ⟨gBlind, fun U hU hW => ⟨rfl, gPre.call hK hG hA hP hD hS [] (by decide) rfl U hU hW⟩⟩ rfl rfl hl.1 rfl (lv_room (Nat.le_of_ble_eq_true rfl)) dX10_nearest_6 ⟨Nat.le_of_ble_eq_true rfl, Nat.le_of_ble_eq_true rfl⟩) hA hP hD hS [] [0, 1, 2, 3, 4, 5, 6] rfl rfl (by decide) (by decide) (fun H locs hP hD hS => ?_)
  have hP : va_P D vwCl [(z, .inr (9, [.int 0, .int v_size, .int v_upper, .int v_base, .ref z_isGood, .ref z_frozen, .ref z_sheetSize, .ref z_sheetLane, .ref z_sheet, .ref z_hands, .int v_wide, .long v_mask, .int v_paths, .ref z_seen, .ref z_work, .ref z_known, .ref z_next, .int v_come, .int v_isCounted, .ref z_counts, .ref z_acrosses, .ref z_failings, .int v_basis, .ref z_given, .int v_trace])), (z_isGood, .inl (cy 2, 32, .inl v_isGoodc)), (z_sheetSize, .inl (cy 0, 4, .inl v_sheetSizec)), (z_sheetLane, .inl (cy 0, 4, .inl v_sheetLanec)), (z_sheet, .inl (cy 1, 160, .inr (.inl v_sheetc))), (z_seen, .inl (cy 0, 32, .inl v_seenc)), (z_frozen, .inl (cy 0, 32, .inl v_frozenc))] H := hP
  have hD : va_D A [(z, .inr (9, [.int 0, .int v_size, .int v_upper, .int v_base, .ref z_isGood, .ref z_frozen, .ref z_sheetSize, .ref z_sheetLane, .ref z_sheet, .ref z_hands, .int v_wide, .long v_mask, .int v_paths, .ref z_seen, .ref z_work, .ref z_known, .ref z_next, .int v_come, .int v_isCounted, .ref z_counts, .ref z_acrosses, .ref z_failings, .int v_basis, .ref z_given, .int v_trace])), (z_isGood, .inl (cy 2, 32, .inl v_isGoodc)), (z_sheetSize, .inl (cy 0, 4, .inl v_sheetSizec)), (z_sheetLane, .inl (cy 0, 4, .inl v_sheetLanec)), (z_sheet, .inl (cy 1, 160, .inr (.inl v_sheetc))), (z_seen, .inl (cy 0, 32, .inl v_seenc)), (z_frozen, .inl (cy 0, 32, .inl v_frozenc))] := hD
  refine lv_if_ne (tgt := 43) hx hb dX10_nearest_9 (by decide) (fun c_3 => ?_) (fun c_3 => ?_)
  · have h := gx_f c_3 h
    obtain ⟨r_4, hc_5, h⟩ := gx_b h
    refine gCalll (wr := [(z, .inr (9, [.int 0, .int v_size, .int v_upper, .int v_base, .ref z_isGood, .ref z_frozen, .ref z_sheetSize, .ref z_sheetLane, .ref z_sheet, .ref z_hands, .int v_wide, .long v_mask, .int v_paths, .ref z_seen, .ref z_work, .ref z_known, .ref z_next, .int v_come, .int v_isCounted, .ref z_counts, .ref z_acrosses, .ref z_failings, .int v_basis, .ref z_given, .int v_trace])), (z_isGood, .inl (cy 2, 32, .inl v_isGoodc)), (z_sheetSize, .inl (cy 0, 4, .inl v_sheetSizec)), (z_sheetLane, .inl (cy 0, 4, .inl v_sheetLanec)), (z_sheet, .inl (cy 1, 160, .inr (.inl v_sheetc))), (z_seen, .inl (cy 0, 32, .inl v_seenc)), (z_frozen, .inl (cy 0, 32, .inl v_frozenc))]) (va_runS (As := []) (rest := []) ⟨hx, hb, hml, hown, hts⟩ (c_X10_lost l D cy t H.size K r_4 hc_5) (va_cwS 0 hts gX10_nearest_X10_lost rfl rfl rfl (by decide +kernel) ⟨Nat.le_of_ble_eq_true rfl, Nat.le_of_ble_eq_true rfl⟩) ⟨gBlind, fun U hU hW => ⟨rfl, gPre.call hK hG hA hP hD hS [] (by decide) rfl U hU hW⟩⟩ rfl rfl hl.1 rfl (lv_room (Nat.le_of_ble_eq_true rfl)) dX10_nearest_43 ⟨Nat.le_of_ble_eq_true rfl, Nat.le_of_ble_eq_true rfl⟩) hA hP hD hS [] [0, 1, 2, 3, 4, 5, 6] rfl rfl (by decide) (by decide) (fun H locs hP hD hS => ?_)
    have hP : va_P D vwCl [(z, .inr (9, [.int 0, .int v_size, .int v_upper, .int v_base, .ref z_isGood, .ref z_frozen, .ref z_sheetSize, .ref z_sheetLane, .ref z_sheet, .ref z_hands, .int v_wide, .long v_mask, .int v_paths, .ref z_seen, .ref z_work, .ref z_known, .ref z_next, .int v_come, .int v_isCounted, .ref z_counts, .ref z_acrosses, .ref z_failings, .int v_basis, .ref z_given, .int v_trace])), (z_isGood, .inl (cy 2, 32, .inl v_isGoodc)), (z_sheetSize, .inl (cy 0, 4, .inl v_sheetSizec)), (z_sheetLane, .inl (cy 0, 4, .inl v_sheetLanec)), (z_sheet, .inl (cy 1, 160, .inr (.inl v_sheetc))), (z_seen, .inl (cy 0, 32, .inl v_seenc)), (z_frozen, .inl (cy 0, 32, .inl v_frozenc))] H := hP
    have hD : va_D A [(z, .inr (9, [.int 0, .int v_size, .int v_upper, .int v_base, .ref z_isGood, .ref z_frozen, .ref z_sheetSize, .ref z_sheetLane, .ref z_sheet, .ref z_hands, .int v_wide, .long v_mask, .int v_paths, .ref z_seen, .ref z_work, .ref z_known, .ref z_next, .int v_come, .int v_isCounted, .ref z_counts, .ref z_acrosses, .ref z_failings, .int v_basis, .ref z_given, .int v_trace])), (z_isGood, .inl (cy 2, 32, .inl v_isGoodc)), (z_sheetSize, .inl (cy 0, 4, .inl v_sheetSizec)), (z_sheetLane, .inl (cy 0, 4, .inl v_sheetLanec)), (z_sheet, .inl (cy 1, 160, .inr (.inl v_sheetc))), (z_seen, .inl (cy 0, 32, .inl v_seenc)), (z_frozen, .inl (cy 0, 32, .inl v_frozenc))] := hD
    cases h
    exact gRl hx hb hr hlocks hP hD hS dX10_nearest_46
  · have h := gx_t c_3 h
    refine lv_iload_n hx hb dX10_nearest_12 rfl (lv_at hl 2 rfl) ?_
    refine lv_i2l (v := (Int32.toInt64 x2)) hx hb dX10_nearest_13 rfl ?_
    refine lv_lconst (v := 0) hx hb dX10_nearest_14 (by decide) ?_
    refine lv_ldc2 hx hb hown k93 dX10_nearest_15 ?_
    obtain ⟨r_6, hc_7, h⟩ := gx_b h
    refine gCalli (wr := [(z, .inr (9, [.int 0, .int v_size, .int v_upper, .int v_base, .ref z_isGood, .ref z_frozen, .ref z_sheetSize, .ref z_sheetLane, .ref z_sheet, .ref z_hands, .int v_wide, .long v_mask, .int v_paths, .ref z_seen, .ref z_work, .ref z_known, .ref z_next, .int v_come, .int v_isCounted, .ref z_counts, .ref z_acrosses, .ref z_failings, .int v_basis, .ref z_given, .int v_trace])), (z_isGood, .inl (cy 2, 32, .inl v_isGoodc)), (z_sheetSize, .inl (cy 0, 4, .inl v_sheetSizec)), (z_sheetLane, .inl (cy 0, 4, .inl v_sheetLanec)), (z_sheet, .inl (cy 1, 160, .inr (.inl v_sheetc))), (z_seen, .inl (cy 0, 32, .inl v_seenc)), (z_frozen, .inl (cy 0, 32, .inl v_frozenc))]) (va_runS (As := [.long (Int32.toInt64 x2), .long 0, .long 2]) (rest := []) ⟨hx, hb, hml, hown, hts⟩ (c_X10_in l D cy t H.size K (Int32.toInt64 x2) 0 2 r_6 hc_7) (va_cwS 3 hts gX10_nearest_X10_in rfl rfl rfl (by decide +kernel) ⟨Nat.le_of_ble_eq_true rfl, Nat.le_of_ble_eq_true rfl⟩) ⟨gBlind, fun U hU hW => ⟨rfl, gPre.call hK hG hA hP hD hS [] (by decide) rfl U hU hW⟩⟩ rfl rfl hl.1 rfl (lv_room (Nat.le_of_ble_eq_true rfl)) dX10_nearest_18 ⟨Nat.le_of_ble_eq_true rfl, Nat.le_of_ble_eq_true rfl⟩) hA hP hD hS [] [0, 1, 2, 3, 4, 5, 6] rfl rfl (by decide) (by decide) (fun H locs hP hD hS => ?_)
    have hP : va_P D vwCl [(z, .inr (9, [.int 0, .int v_size, .int v_upper, .int v_base, .ref z_isGood, .ref z_frozen, .ref z_sheetSize, .ref z_sheetLane, .ref z_sheet, .ref z_hands, .int v_wide, .long v_mask, .int v_paths, .ref z_seen, .ref z_work, .ref z_known, .ref z_next, .int v_come, .int v_isCounted, .ref z_counts, .ref z_acrosses, .ref z_failings, .int v_basis, .ref z_given, .int v_trace])), (z_isGood, .inl (cy 2, 32, .inl v_isGoodc)), (z_sheetSize, .inl (cy 0, 4, .inl v_sheetSizec)), (z_sheetLane, .inl (cy 0, 4, .inl v_sheetLanec)), (z_sheet, .inl (cy 1, 160, .inr (.inl v_sheetc))), (z_seen, .inl (cy 0, 32, .inl v_seenc)), (z_frozen, .inl (cy 0, 32, .inl v_frozenc))] H := hP
    have hD : va_D A [(z, .inr (9, [.int 0, .int v_size, .int v_upper, .int v_base, .ref z_isGood, .ref z_frozen, .ref z_sheetSize, .ref z_sheetLane, .ref z_sheet, .ref z_hands, .int v_wide, .long v_mask, .int v_paths, .ref z_seen, .ref z_work, .ref z_known, .ref z_next, .int v_come, .int v_isCounted, .ref z_counts, .ref z_acrosses, .ref z_failings, .int v_basis, .ref z_given, .int v_trace])), (z_isGood, .inl (cy 2, 32, .inl v_isGoodc)), (z_sheetSize, .inl (cy 0, 4, .inl v_sheetSizec)), (z_sheetLane, .inl (cy 0, 4, .inl v_sheetLanec)), (z_sheet, .inl (cy 1, 160, .inr (.inl v_sheetc))), (z_seen, .inl (cy 0, 32, .inl v_seenc)), (z_frozen, .inl (cy 0, 32, .inl v_frozenc))] := hD
    refine lv_if_eq (tgt := 43) hx hb dX10_nearest_21 (by decide) (fun c_8 => ?_) (fun c_8 => ?_)
    · have h := gx_t c_8 h
      obtain ⟨r_9, hc_10, h⟩ := gx_b h
      refine gCalll (wr := [(z, .inr (9, [.int 0, .int v_size, .int v_upper, .int v_base, .ref z_isGood, .ref z_frozen, .ref z_sheetSize, .ref z_sheetLane, .ref z_sheet, .ref z_hands, .int v_wide, .long v_mask, .int v_paths, .ref z_seen, .ref z_work, .ref z_known, .ref z_next, .int v_come, .int v_isCounted, .ref z_counts, .ref z_acrosses, .ref z_failings, .int v_basis, .ref z_given, .int v_trace])), (z_isGood, .inl (cy 2, 32, .inl v_isGoodc)), (z_sheetSize, .inl (cy 0, 4, .inl v_sheetSizec)), (z_sheetLane, .inl (cy 0, 4, .inl v_sheetLanec)), (z_sheet, .inl (cy 1, 160, .inr (.inl v_sheetc))), (z_seen, .inl (cy 0, 32, .inl v_seenc)), (z_frozen, .inl (cy 0, 32, .inl v_frozenc))]) (va_runS (As := []) (rest := []) ⟨hx, hb, hml, hown, hts⟩ (c_X10_lost l D cy t H.size K r_9 hc_10) (va_cwS 0 hts gX10_nearest_X10_lost rfl rfl rfl (by decide +kernel) ⟨Nat.le_of_ble_eq_true rfl, Nat.le_of_ble_eq_true rfl⟩) ⟨gBlind, fun U hU hW => ⟨rfl, gPre.call hK hG hA hP hD hS [] (by decide) rfl U hU hW⟩⟩ rfl rfl hl.1 rfl (lv_room (Nat.le_of_ble_eq_true rfl)) dX10_nearest_43 ⟨Nat.le_of_ble_eq_true rfl, Nat.le_of_ble_eq_true rfl⟩) hA hP hD hS [] [0, 1, 2, 3, 4, 5, 6] rfl rfl (by decide) (by decide) (fun H locs hP hD hS => ?_)
      have hP : va_P D vwCl [(z, .inr (9, [.int 0, .int v_size, .int v_upper, .int v_base, .ref z_isGood, .ref z_frozen, .ref z_sheetSize, .ref z_sheetLane, .ref z_sheet, .ref z_hands, .int v_wide, .long v_mask, .int v_paths, .ref z_seen, .ref z_work, .ref z_known, .ref z_next, .int v_come, .int v_isCounted, .ref z_counts, .ref z_acrosses, .ref z_failings, .int v_basis, .ref z_given, .int v_trace])), (z_isGood, .inl (cy 2, 32, .inl v_isGoodc)), (z_sheetSize, .inl (cy 0, 4, .inl v_sheetSizec)), (z_sheetLane, .inl (cy 0, 4, .inl v_sheetLanec)), (z_sheet, .inl (cy 1, 160, .inr (.inl v_sheetc))), (z_seen, .inl (cy 0, 32, .inl v_seenc)), (z_frozen, .inl (cy 0, 32, .inl v_frozenc))] H := hP
      have hD : va_D A [(z, .inr (9, [.int 0, .int v_size, .int v_upper, .int v_base, .ref z_isGood, .ref z_frozen, .ref z_sheetSize, .ref z_sheetLane, .ref z_sheet, .ref z_hands, .int v_wide, .long v_mask, .int v_paths, .ref z_seen, .ref z_work, .ref z_known, .ref z_next, .int v_come, .int v_isCounted, .ref z_counts, .ref z_acrosses, .ref z_failings, .int v_basis, .ref z_given, .int v_trace])), (z_isGood, .inl (cy 2, 32, .inl v_isGoodc)), (z_sheetSize, .inl (cy 0, 4, .inl v_sheetSizec)), (z_sheetLane, .inl (cy 0, 4, .inl v_sheetLanec)), (z_sheet, .inl (cy 1, 160, .inr (.inl v_sheetc))), (z_seen, .inl (cy 0, 32, .inl v_seenc)), (z_frozen, .inl (cy 0, 32, .inl v_frozenc))] := hD
      cases h
      exact gRl hx hb hr hlocks hP hD hS dX10_nearest_46
    · have h := gx_f c_8 h
      refine lv_iload_n hx hb dX10_nearest_24 rfl (lv_at hl 3 rfl) ?_
      refine lv_i2l (v := (Int32.toInt64 x3)) hx hb dX10_nearest_25 rfl ?_
      refine lv_lconst (v := 0) hx hb dX10_nearest_26 (by decide) ?_
      refine lv_lconst (v := 1) hx hb dX10_nearest_27 (by decide) ?_
      obtain ⟨r_11, hc_12, h⟩ := gx_b h
      refine gCalli (wr := [(z, .inr (9, [.int 0, .int v_size, .int v_upper, .int v_base, .ref z_isGood, .ref z_frozen, .ref z_sheetSize, .ref z_sheetLane, .ref z_sheet, .ref z_hands, .int v_wide, .long v_mask, .int v_paths, .ref z_seen, .ref z_work, .ref z_known, .ref z_next, .int v_come, .int v_isCounted, .ref z_counts, .ref z_acrosses, .ref z_failings, .int v_basis, .ref z_given, .int v_trace])), (z_isGood, .inl (cy 2, 32, .inl v_isGoodc)), (z_sheetSize, .inl (cy 0, 4, .inl v_sheetSizec)), (z_sheetLane, .inl (cy 0, 4, .inl v_sheetLanec)), (z_sheet, .inl (cy 1, 160, .inr (.inl v_sheetc))), (z_seen, .inl (cy 0, 32, .inl v_seenc)), (z_frozen, .inl (cy 0, 32, .inl v_frozenc))]) (va_runS (As := [.long (Int32.toInt64 x3), .long 0, .long 1]) (rest := []) ⟨hx, hb, hml, hown, hts⟩ (c_X10_in l D cy t H.size K (Int32.toInt64 x3) 0 1 r_11 hc_12) (va_cwS 3 hts gX10_nearest_X10_in rfl rfl rfl (by decide +kernel) ⟨Nat.le_of_ble_eq_true rfl, Nat.le_of_ble_eq_true rfl⟩) ⟨gBlind, fun U hU hW => ⟨rfl, gPre.call hK hG hA hP hD hS [] (by decide) rfl U hU hW⟩⟩ rfl rfl hl.1 rfl (lv_room (Nat.le_of_ble_eq_true rfl)) dX10_nearest_28 ⟨Nat.le_of_ble_eq_true rfl, Nat.le_of_ble_eq_true rfl⟩) hA hP hD hS [] [0, 1, 2, 3, 4, 5, 6] rfl rfl (by decide) (by decide) (fun H locs hP hD hS => ?_)
      have hP : va_P D vwCl [(z, .inr (9, [.int 0, .int v_size, .int v_upper, .int v_base, .ref z_isGood, .ref z_frozen, .ref z_sheetSize, .ref z_sheetLane, .ref z_sheet, .ref z_hands, .int v_wide, .long v_mask, .int v_paths, .ref z_seen, .ref z_work, .ref z_known, .ref z_next, .int v_come, .int v_isCounted, .ref z_counts, .ref z_acrosses, .ref z_failings, .int v_basis, .ref z_given, .int v_trace])), (z_isGood, .inl (cy 2, 32, .inl v_isGoodc)), (z_sheetSize, .inl (cy 0, 4, .inl v_sheetSizec)), (z_sheetLane, .inl (cy 0, 4, .inl v_sheetLanec)), (z_sheet, .inl (cy 1, 160, .inr (.inl v_sheetc))), (z_seen, .inl (cy 0, 32, .inl v_seenc)), (z_frozen, .inl (cy 0, 32, .inl v_frozenc))] H := hP
      have hD : va_D A [(z, .inr (9, [.int 0, .int v_size, .int v_upper, .int v_base, .ref z_isGood, .ref z_frozen, .ref z_sheetSize, .ref z_sheetLane, .ref z_sheet, .ref z_hands, .int v_wide, .long v_mask, .int v_paths, .ref z_seen, .ref z_work, .ref z_known, .ref z_next, .int v_come, .int v_isCounted, .ref z_counts, .ref z_acrosses, .ref z_failings, .int v_basis, .ref z_given, .int v_trace])), (z_isGood, .inl (cy 2, 32, .inl v_isGoodc)), (z_sheetSize, .inl (cy 0, 4, .inl v_sheetSizec)), (z_sheetLane, .inl (cy 0, 4, .inl v_sheetLanec)), (z_sheet, .inl (cy 1, 160, .inr (.inl v_sheetc))), (z_seen, .inl (cy 0, 32, .inl v_seenc)), (z_frozen, .inl (cy 0, 32, .inl v_frozenc))] := hD
      refine lv_if_eq (tgt := 43) hx hb dX10_nearest_31 (by decide) (fun c_13 => ?_) (fun c_13 => ?_)
      · have h := gx_t c_13 h
        obtain ⟨r_14, hc_15, h⟩ := gx_b h
        refine gCalll (wr := [(z, .inr (9, [.int 0, .int v_size, .int v_upper, .int v_base, .ref z_isGood, .ref z_frozen, .ref z_sheetSize, .ref z_sheetLane, .ref z_sheet, .ref z_hands, .int v_wide, .long v_mask, .int v_paths, .ref z_seen, .ref z_work, .ref z_known, .ref z_next, .int v_come, .int v_isCounted, .ref z_counts, .ref z_acrosses, .ref z_failings, .int v_basis, .ref z_given, .int v_trace])), (z_isGood, .inl (cy 2, 32, .inl v_isGoodc)), (z_sheetSize, .inl (cy 0, 4, .inl v_sheetSizec)), (z_sheetLane, .inl (cy 0, 4, .inl v_sheetLanec)), (z_sheet, .inl (cy 1, 160, .inr (.inl v_sheetc))), (z_seen, .inl (cy 0, 32, .inl v_seenc)), (z_frozen, .inl (cy 0, 32, .inl v_frozenc))]) (va_runS (As := []) (rest := []) ⟨hx, hb, hml, hown, hts⟩ (c_X10_lost l D cy t H.size K r_14 hc_15) (va_cwS 0 hts gX10_nearest_X10_lost rfl rfl rfl (by decide +kernel) ⟨Nat.le_of_ble_eq_true rfl, Nat.le_of_ble_eq_true rfl⟩) ⟨gBlind, fun U hU hW => ⟨rfl, gPre.call hK hG hA hP hD hS [] (by decide) rfl U hU hW⟩⟩ rfl rfl hl.1 rfl (lv_room (Nat.le_of_ble_eq_true rfl)) dX10_nearest_43 ⟨Nat.le_of_ble_eq_true rfl, Nat.le_of_ble_eq_true rfl⟩) hA hP hD hS [] [0, 1, 2, 3, 4, 5, 6] rfl rfl (by decide) (by decide) (fun H locs hP hD hS => ?_)
        have hP : va_P D vwCl [(z, .inr (9, [.int 0, .int v_size, .int v_upper, .int v_base, .ref z_isGood, .ref z_frozen, .ref z_sheetSize, .ref z_sheetLane, .ref z_sheet, .ref z_hands, .int v_wide, .long v_mask, .int v_paths, .ref z_seen, .ref z_work, .ref z_known, .ref z_next, .int v_come, .int v_isCounted, .ref z_counts, .ref z_acrosses, .ref z_failings, .int v_basis, .ref z_given, .int v_trace])), (z_isGood, .inl (cy 2, 32, .inl v_isGoodc)), (z_sheetSize, .inl (cy 0, 4, .inl v_sheetSizec)), (z_sheetLane, .inl (cy 0, 4, .inl v_sheetLanec)), (z_sheet, .inl (cy 1, 160, .inr (.inl v_sheetc))), (z_seen, .inl (cy 0, 32, .inl v_seenc)), (z_frozen, .inl (cy 0, 32, .inl v_frozenc))] H := hP
        have hD : va_D A [(z, .inr (9, [.int 0, .int v_size, .int v_upper, .int v_base, .ref z_isGood, .ref z_frozen, .ref z_sheetSize, .ref z_sheetLane, .ref z_sheet, .ref z_hands, .int v_wide, .long v_mask, .int v_paths, .ref z_seen, .ref z_work, .ref z_known, .ref z_next, .int v_come, .int v_isCounted, .ref z_counts, .ref z_acrosses, .ref z_failings, .int v_basis, .ref z_given, .int v_trace])), (z_isGood, .inl (cy 2, 32, .inl v_isGoodc)), (z_sheetSize, .inl (cy 0, 4, .inl v_sheetSizec)), (z_sheetLane, .inl (cy 0, 4, .inl v_sheetLanec)), (z_sheet, .inl (cy 1, 160, .inr (.inl v_sheetc))), (z_seen, .inl (cy 0, 32, .inl v_seenc)), (z_frozen, .inl (cy 0, 32, .inl v_frozenc))] := hD
        cases h
        exact gRl hx hb hr hlocks hP hD hS dX10_nearest_46
      · have h := gx_f c_13 h
        refine lv_aload_n hx hb dX10_nearest_34 rfl (lv_at hl 0 rfl) ?_
        obtain ⟨r_16, hc_17, h⟩ := gx_b h
        refine gCalli (wr := [(z_sheetSize, .inl (cy 0, 4, .inl v_sheetSizec)), (z_sheetLane, .inl (cy 0, 4, .inl v_sheetLanec)), (z_sheet, .inl (cy 1, 160, .inr (.inl v_sheetc))), (z_seen, .inl (cy 0, 32, .inl v_seenc)), (z_frozen, .inl (cy 0, 32, .inl v_frozenc))]) (va_runV (As := []) (rest := []) ⟨hx, hb, hml, hown, hts⟩ (c_X10_goods l D cy t H.size K z z_isGood z_frozen z_sheetSize z_sheetLane z_sheet z_hands z_seen z_work z_known z_next z_counts z_acrosses z_failings z_given 0 v_size v_upper v_base v_wide v_mask v_paths v_come v_isCounted v_basis v_trace v_isGoodc r_16 hc_17) (cwV 0 hts gX10_nearest_X10_goods rfl rfl rfl (by decide +kernel) ⟨Nat.le_of_ble_eq_true rfl, Nat.le_of_ble_eq_true rfl⟩) ⟨gBlind, va_recv hK hP (ci := 9) (q0 := 0) rfl rfl, fun U hU hW => ⟨rfl, gPre.call hK hG hA hP hD hS [0, 1] (by decide) rfl U hU hW⟩⟩ rfl rfl hl.1 rfl (lv_room (Nat.le_of_ble_eq_true rfl)) dX10_nearest_35 ⟨Nat.le_of_ble_eq_true rfl, Nat.le_of_ble_eq_true rfl⟩) hA hP hD hS [0, 1] [2, 3, 4, 5, 6] rfl rfl (by decide) (by decide) (fun H locs hP hD hS => ?_)
        have hP := hP.sub (ws' := [(z, .inr (9, [.int 0, .int v_size, .int v_upper, .int v_base, .ref z_isGood, .ref z_frozen, .ref z_sheetSize, .ref z_sheetLane, .ref z_sheet, .ref z_hands, .int v_wide, .long v_mask, .int v_paths, .ref z_seen, .ref z_work, .ref z_known, .ref z_next, .int v_come, .int v_isCounted, .ref z_counts, .ref z_acrosses, .ref z_failings, .int v_basis, .ref z_given, .int v_trace])), (z_isGood, .inl (cy 2, 32, .inl v_isGoodc)), (z_sheetSize, .inl (cy 0, 4, .inl v_sheetSizec)), (z_sheetLane, .inl (cy 0, 4, .inl v_sheetLanec)), (z_sheet, .inl (cy 1, 160, .inr (.inl v_sheetc))), (z_seen, .inl (cy 0, 32, .inl v_seenc)), (z_frozen, .inl (cy 0, 32, .inl v_frozenc))]) [5, 6, 0, 1, 2, 3, 4] rfl
        have hD := hD.sub (ws' := [(z, .inr (9, [.int 0, .int v_size, .int v_upper, .int v_base, .ref z_isGood, .ref z_frozen, .ref z_sheetSize, .ref z_sheetLane, .ref z_sheet, .ref z_hands, .int v_wide, .long v_mask, .int v_paths, .ref z_seen, .ref z_work, .ref z_known, .ref z_next, .int v_come, .int v_isCounted, .ref z_counts, .ref z_acrosses, .ref z_failings, .int v_basis, .ref z_given, .int v_trace])), (z_isGood, .inl (cy 2, 32, .inl v_isGoodc)), (z_sheetSize, .inl (cy 0, 4, .inl v_sheetSizec)), (z_sheetLane, .inl (cy 0, 4, .inl v_sheetLanec)), (z_sheet, .inl (cy 1, 160, .inr (.inl v_sheetc))), (z_seen, .inl (cy 0, 32, .inl v_seenc)), (z_frozen, .inl (cy 0, 32, .inl v_frozenc))]) [5, 6, 0, 1, 2, 3, 4] (by decide) rfl
        refine lv_bipush (v := 12) hx hb dX10_nearest_38 (by decide) ?_
        refine lv_icmp_le (tgt := 47) hx hb dX10_nearest_40 (by decide) (fun c_18 => ?_) (fun c_18 => ?_)
        · have h := gx_t c_18 h
          refine lv_aload_n hx hb dX10_nearest_47 rfl (lv_at hl 0 rfl) ?_
          refine lv_iload_n hx hb dX10_nearest_48 rfl (lv_at hl 1 rfl) ?_
          refine lv_iload_n hx hb dX10_nearest_49 rfl (lv_at hl 2 rfl) ?_
          obtain ⟨r_19, hc_20, h⟩ := gx_b h
          refine gCalli (wr := [(z_isGood, .inl (cy 2, 32, .inl v_isGoodc)), (z_sheet, .inl (cy 1, 160, .inr (.inl v_sheetc))), (z_seen, .inl (cy 0, 32, .inl v_seenc)), (z_frozen, .inl (cy 0, 32, .inl v_frozenc))]) (va_runV (As := [.int x1, .int x2]) (rest := []) ⟨hx, hb, hml, hown, hts⟩ (c_X10_faultOf l D cy t H.size K z z_sheetSize z_sheetLane z_isGood z_frozen z_sheet z_hands z_seen z_work z_known z_next z_counts z_acrosses z_failings z_given 0 v_size v_upper v_base v_wide v_mask v_paths v_come v_isCounted v_basis v_trace v_sheetSizec v_sheetLanec x1 x2 r_19 hc_20) (cwV 2 hts gX10_nearest_X10_faultOf rfl rfl rfl (by decide +kernel) ⟨Nat.le_of_ble_eq_true rfl, Nat.le_of_ble_eq_true rfl⟩) ⟨gBlind, va_recv hK hP (ci := 9) (q0 := 0) rfl rfl, fun U hU hW => ⟨rfl, gPre.call hK hG hA hP hD hS [0, 2, 3] (by decide) rfl U hU hW⟩⟩ rfl rfl hl.1 rfl (lv_room (Nat.le_of_ble_eq_true rfl)) dX10_nearest_50 ⟨Nat.le_of_ble_eq_true rfl, Nat.le_of_ble_eq_true rfl⟩) hA hP hD hS [0, 2, 3] [1, 4, 5, 6] rfl rfl (by decide) (by decide) (fun H locs hP hD hS => ?_)
          have hP := hP.sub (ws' := [(z, .inr (9, [.int 0, .int v_size, .int v_upper, .int v_base, .ref z_isGood, .ref z_frozen, .ref z_sheetSize, .ref z_sheetLane, .ref z_sheet, .ref z_hands, .int v_wide, .long v_mask, .int v_paths, .ref z_seen, .ref z_work, .ref z_known, .ref z_next, .int v_come, .int v_isCounted, .ref z_counts, .ref z_acrosses, .ref z_failings, .int v_basis, .ref z_given, .int v_trace])), (z_isGood, .inl (cy 2, 32, .inl v_isGoodc)), (z_sheetSize, .inl (cy 0, 4, .inl v_sheetSizec)), (z_sheetLane, .inl (cy 0, 4, .inl v_sheetLanec)), (z_sheet, .inl (cy 1, 160, .inr (.inl v_sheetc))), (z_seen, .inl (cy 0, 32, .inl v_seenc)), (z_frozen, .inl (cy 0, 32, .inl v_frozenc))]) [4, 0, 5, 6, 1, 2, 3] rfl
          have hD := hD.sub (ws' := [(z, .inr (9, [.int 0, .int v_size, .int v_upper, .int v_base, .ref z_isGood, .ref z_frozen, .ref z_sheetSize, .ref z_sheetLane, .ref z_sheet, .ref z_hands, .int v_wide, .long v_mask, .int v_paths, .ref z_seen, .ref z_work, .ref z_known, .ref z_next, .int v_come, .int v_isCounted, .ref z_counts, .ref z_acrosses, .ref z_failings, .int v_basis, .ref z_given, .int v_trace])), (z_isGood, .inl (cy 2, 32, .inl v_isGoodc)), (z_sheetSize, .inl (cy 0, 4, .inl v_sheetSizec)), (z_sheetLane, .inl (cy 0, 4, .inl v_sheetLanec)), (z_sheet, .inl (cy 1, 160, .inr (.inl v_sheetc))), (z_seen, .inl (cy 0, 32, .inl v_seenc)), (z_frozen, .inl (cy 0, 32, .inl v_frozenc))]) [4, 0, 5, 6, 1, 2, 3] (by decide) rfl
          refine lv_istore (lv' := [(4, .int r_19), (0, .ref z), (1, .int x1), (2, .int x2), (3, .int x3)]) hx hb dX10_nearest_53 hl (by decide) rfl (fun ls hl => ?_)
          refine lv_iload hx hb dX10_nearest_55 (lv_at hl 0 rfl) ?_
          refine lv_if_le (tgt := 67) hx hb dX10_nearest_57 (by decide) (fun c_21 => ?_) (fun c_21 => ?_)
          · have h := gx_t c_21 h
            refine lv_aload_n hx hb dX10_nearest_67 rfl (lv_at hl 1 rfl) ?_
            refine lv_iload_n hx hb dX10_nearest_68 rfl (lv_at hl 2 rfl) ?_
            obtain ⟨o_22, hc_23, h⟩ := gx_b h
            refine gCallv (wr := [(z_isGood, .inl (cy 2, 32, .inl v_isGoodc)), (z_sheetSize, .inl (cy 0, 4, .inl v_sheetSizec)), (z_sheetLane, .inl (cy 0, 4, .inl v_sheetLanec)), (z_frozen, .inl (cy 0, 32, .inl v_frozenc))]) (va_runV (As := [.int x1]) (rest := []) ⟨hx, hb, hml, hown, hts⟩ (c_X10_laySeen l D cy t H.size K z z_sheet z_seen z_isGood z_frozen z_sheetSize z_sheetLane z_hands z_work z_known z_next z_counts z_acrosses z_failings z_given 0 v_size v_upper v_base v_wide v_mask v_paths v_come v_isCounted v_basis v_trace v_sheetc v_seenc x1 o_22 hc_23) (cwV 1 hts gX10_nearest_X10_laySeen rfl rfl rfl (by decide +kernel) ⟨Nat.le_of_ble_eq_true rfl, Nat.le_of_ble_eq_true rfl⟩) ⟨gBlind, va_recv hK hP (ci := 9) (q0 := 0) rfl rfl, fun U hU hW => ⟨rfl, gPre.call hK hG hA hP hD hS [0, 4, 5] (by decide) rfl U hU hW⟩⟩ rfl rfl hl.1 rfl (lv_room (Nat.le_of_ble_eq_true rfl)) dX10_nearest_69 ⟨Nat.le_of_ble_eq_true rfl, Nat.le_of_ble_eq_true rfl⟩) hA hP hD hS [0, 4, 5] [1, 2, 3, 6] rfl rfl (by decide) (by decide) (fun H locs hP hD hS => ?_)
            have hP := hP.sub (ws' := [(z, .inr (9, [.int 0, .int v_size, .int v_upper, .int v_base, .ref z_isGood, .ref z_frozen, .ref z_sheetSize, .ref z_sheetLane, .ref z_sheet, .ref z_hands, .int v_wide, .long v_mask, .int v_paths, .ref z_seen, .ref z_work, .ref z_known, .ref z_next, .int v_come, .int v_isCounted, .ref z_counts, .ref z_acrosses, .ref z_failings, .int v_basis, .ref z_given, .int v_trace])), (z_isGood, .inl (cy 2, 32, .inl v_isGoodc)), (z_sheetSize, .inl (cy 0, 4, .inl v_sheetSizec)), (z_sheetLane, .inl (cy 0, 4, .inl v_sheetLanec)), (z_sheet, .inl (cy 1, 160, .inr (.inl v_sheetc))), (z_seen, .inl (cy 0, 32, .inl o_22)), (z_frozen, .inl (cy 0, 32, .inl v_frozenc))]) [4, 0, 1, 2, 5, 6, 3] rfl
            have hD := hD.sub (ws' := [(z, .inr (9, [.int 0, .int v_size, .int v_upper, .int v_base, .ref z_isGood, .ref z_frozen, .ref z_sheetSize, .ref z_sheetLane, .ref z_sheet, .ref z_hands, .int v_wide, .long v_mask, .int v_paths, .ref z_seen, .ref z_work, .ref z_known, .ref z_next, .int v_come, .int v_isCounted, .ref z_counts, .ref z_acrosses, .ref z_failings, .int v_basis, .ref z_given, .int v_trace])), (z_isGood, .inl (cy 2, 32, .inl v_isGoodc)), (z_sheetSize, .inl (cy 0, 4, .inl v_sheetSizec)), (z_sheetLane, .inl (cy 0, 4, .inl v_sheetLanec)), (z_sheet, .inl (cy 1, 160, .inr (.inl v_sheetc))), (z_seen, .inl (cy 0, 32, .inl o_22)), (z_frozen, .inl (cy 0, 32, .inl v_frozenc))]) [4, 0, 1, 2, 5, 6, 3] (by decide) rfl
            refine lv_lconst (v := 0) hx hb dX10_nearest_72 (by decide) ?_
            refine lv_lstore (lv' := [(5, .long 0), (4, .int r_19), (0, .ref z), (1, .int x1), (2, .int x2), (3, .int x3)]) hx hb dX10_nearest_73 hl (by decide) rfl (fun ls hl => ?_)
            refine lv_bipush (v := 99) hx hb dX10_nearest_75 (by decide) ?_
            refine lv_istore (lv' := [(7, .int 99), (5, .long 0), (4, .int r_19), (0, .ref z), (1, .int x1), (2, .int x2), (3, .int x3)]) hx hb dX10_nearest_77 hl (by decide) rfl (fun ls hl => ?_)
            refine lv_lconst (v := 0) hx hb dX10_nearest_79 (by decide) ?_
            refine lv_lstore (lv' := [(8, .long 0), (7, .int 99), (5, .long 0), (4, .int r_19), (0, .ref z), (1, .int x1), (2, .int x2), (3, .int x3)]) hx hb dX10_nearest_80 hl (by decide) rfl (fun ls hl => ?_)
            obtain ⟨⟨o_24, o_25, o_26⟩, hL_27, h⟩ := gx_b h
            refine gJoin (Pj := fun H locs ls => va_P D vwCl [(z, .inr (9, [.int 0, .int v_size, .int v_upper, .int v_base, .ref z_isGood, .ref z_frozen, .ref z_sheetSize, .ref z_sheetLane, .ref z_sheet, .ref z_hands, .int v_wide, .long v_mask, .int v_paths, .ref z_seen, .ref z_work, .ref z_known, .ref z_next, .int v_come, .int v_isCounted, .ref z_counts, .ref z_acrosses, .ref z_failings, .int v_basis, .ref z_given, .int v_trace])), (z_isGood, .inl (cy 2, 32, .inl v_isGoodc)), (z_sheetSize, .inl (cy 0, 4, .inl v_sheetSizec)), (z_sheetLane, .inl (cy 0, 4, .inl v_sheetLanec)), (z_sheet, .inl (cy 1, 160, .inr (.inl v_sheetc))), (z_seen, .inl (cy 0, 32, .inl o_22)), (z_frozen, .inl (cy 0, 32, .inl v_frozenc))] H ∧ va_D A [(z, .inr (9, [.int 0, .int v_size, .int v_upper, .int v_base, .ref z_isGood, .ref z_frozen, .ref z_sheetSize, .ref z_sheetLane, .ref z_sheet, .ref z_hands, .int v_wide, .long v_mask, .int v_paths, .ref z_seen, .ref z_work, .ref z_known, .ref z_next, .int v_come, .int v_isCounted, .ref z_counts, .ref z_acrosses, .ref z_failings, .int v_basis, .ref z_given, .int v_trace])), (z_isGood, .inl (cy 2, 32, .inl v_isGoodc)), (z_sheetSize, .inl (cy 0, 4, .inl v_sheetSizec)), (z_sheetLane, .inl (cy 0, 4, .inl v_sheetLanec)), (z_sheet, .inl (cy 1, 160, .inr (.inl v_sheetc))), (z_seen, .inl (cy 0, 32, .inl o_22)), (z_frozen, .inl (cy 0, 32, .inl v_frozenc))] ∧ va_S A s.heap H locs ∧ lv_has ls 11 [(8, .long o_24), (7, .int o_25), (5, .long o_26), (4, .int r_19), (0, .ref z), (1, .int x1), (2, .int x2), (3, .int x3)]) (pcM := 154) (st := []) ?_ (fun hJ154 => ?_)
            · intro H locs ls hp_
              obtain ⟨hP, hD, hS, hl⟩ := hp_
              clear hL_27
              refine lv_iload_n hx hb dX10_nearest_154 rfl (lv_at hl 7 rfl) ?_
              refine lv_if_ne (tgt := 163) hx hb dX10_nearest_155 (by decide) (fun c_28 => ?_) (fun c_28 => ?_)
              · have h := gx_f c_28 h
                refine lv_iload hx hb dX10_nearest_163 (lv_at hl 1 rfl) ?_
                refine lv_i2l (v := (Int32.toInt64 o_25)) hx hb dX10_nearest_165 rfl ?_
                cases h
                exact gRl hx hb hr hlocks hP hD hS dX10_nearest_166
              · have h := gx_t c_28 h
                refine lv_lload hx hb dX10_nearest_158 (lv_at hl 2 rfl) ?_
                refine lv_goto (tgt := 166) hx hb dX10_nearest_160 (by decide) ?_
                cases h
                exact gRl hx hb hr hlocks hP hD hS dX10_nearest_166
            · refine gLoop (Hy := fun k_ v_ => fL_X10_nearest_82 K v_size v_isGoodc o_22 v_frozenc k_ v_ = some (o_24, o_25, o_26)) (Pl := fun (v_ : Int64 × Int32 × Int64) H locs ls => match v_ with | (a_29, a_30, a_31) => va_P D vwCl [(z, .inr (9, [.int 0, .int v_size, .int v_upper, .int v_base, .ref z_isGood, .ref z_frozen, .ref z_sheetSize, .ref z_sheetLane, .ref z_sheet, .ref z_hands, .int v_wide, .long v_mask, .int v_paths, .ref z_seen, .ref z_work, .ref z_known, .ref z_next, .int v_come, .int v_isCounted, .ref z_counts, .ref z_acrosses, .ref z_failings, .int v_basis, .ref z_given, .int v_trace])), (z_isGood, .inl (cy 2, 32, .inl v_isGoodc)), (z_sheetSize, .inl (cy 0, 4, .inl v_sheetSizec)), (z_sheetLane, .inl (cy 0, 4, .inl v_sheetLanec)), (z_sheet, .inl (cy 1, 160, .inr (.inl v_sheetc))), (z_seen, .inl (cy 0, 32, .inl o_22)), (z_frozen, .inl (cy 0, 32, .inl v_frozenc))] H ∧ va_D A [(z, .inr (9, [.int 0, .int v_size, .int v_upper, .int v_base, .ref z_isGood, .ref z_frozen, .ref z_sheetSize, .ref z_sheetLane, .ref z_sheet, .ref z_hands, .int v_wide, .long v_mask, .int v_paths, .ref z_seen, .ref z_work, .ref z_known, .ref z_next, .int v_come, .int v_isCounted, .ref z_counts, .ref z_acrosses, .ref z_failings, .int v_basis, .ref z_given, .int v_trace])), (z_isGood, .inl (cy 2, 32, .inl v_isGoodc)), (z_sheetSize, .inl (cy 0, 4, .inl v_sheetSizec)), (z_sheetLane, .inl (cy 0, 4, .inl v_sheetLanec)), (z_sheet, .inl (cy 1, 160, .inr (.inl v_sheetc))), (z_seen, .inl (cy 0, 32, .inl o_22)), (z_frozen, .inl (cy 0, 32, .inl v_frozenc))] ∧ va_S A s.heap H locs ∧ lv_has ls 11 [(8, .long a_29), (7, .int a_30), (5, .long a_31), (4, .int r_19), (0, .ref z), (1, .int x1), (2, .int x2), (3, .int x3)]) (pcH := 82) (fun _ q_ => by cases q_) ?_ K (0, 99, 0) hL_27 ⟨hP, hD, hS, hl⟩
              clear hL_27 h hP hD hS hl
              intro k_ ih ⟨a_29, a_30, a_31⟩ H locs ls h hp_
              obtain ⟨hP, hD, hS, hl⟩ := hp_
              have hP : va_P D vwCl [(z, .inr (9, [.int 0, .int v_size, .int v_upper, .int v_base, .ref z_isGood, .ref z_frozen, .ref z_sheetSize, .ref z_sheetLane, .ref z_sheet, .ref z_hands, .int v_wide, .long v_mask, .int v_paths, .ref z_seen, .ref z_work, .ref z_known, .ref z_next, .int v_come, .int v_isCounted, .ref z_counts, .ref z_acrosses, .ref z_failings, .int v_basis, .ref z_given, .int v_trace])), (z_isGood, .inl (cy 2, 32, .inl v_isGoodc)), (z_sheetSize, .inl (cy 0, 4, .inl v_sheetSizec)), (z_sheetLane, .inl (cy 0, 4, .inl v_sheetLanec)), (z_sheet, .inl (cy 1, 160, .inr (.inl v_sheetc))), (z_seen, .inl (cy 0, 32, .inl o_22)), (z_frozen, .inl (cy 0, 32, .inl v_frozenc))] H := hP
              have hD : va_D A [(z, .inr (9, [.int 0, .int v_size, .int v_upper, .int v_base, .ref z_isGood, .ref z_frozen, .ref z_sheetSize, .ref z_sheetLane, .ref z_sheet, .ref z_hands, .int v_wide, .long v_mask, .int v_paths, .ref z_seen, .ref z_work, .ref z_known, .ref z_next, .int v_come, .int v_isCounted, .ref z_counts, .ref z_acrosses, .ref z_failings, .int v_basis, .ref z_given, .int v_trace])), (z_isGood, .inl (cy 2, 32, .inl v_isGoodc)), (z_sheetSize, .inl (cy 0, 4, .inl v_sheetSizec)), (z_sheetLane, .inl (cy 0, 4, .inl v_sheetLanec)), (z_sheet, .inl (cy 1, 160, .inr (.inl v_sheetc))), (z_seen, .inl (cy 0, 32, .inl o_22)), (z_frozen, .inl (cy 0, 32, .inl v_frozenc))] := hD
              have hl : lv_has ls 11 [(8, .long a_29), (7, .int a_30), (5, .long a_31), (4, .int r_19), (0, .ref z), (1, .int x1), (2, .int x2), (3, .int x3)] := hl
              change fL_X10_nearest_82 K v_size v_isGoodc o_22 v_frozenc (k_ + 1) (a_29, a_30, a_31) = _ at h
              rw [fL_X10_nearest_82] at h
              refine lv_lload hx hb dX10_nearest_82 (lv_at hl 0 rfl) ?_
              refine lv_lconst (v := 1) hx hb dX10_nearest_84 (by decide) ?_
              refine lv_aload_n hx hb dX10_nearest_85 rfl (lv_at hl 4 rfl) ?_
              obtain ⟨r_32, hc_33, h⟩ := gx_b h
              refine gCalli (wr := [(z_sheetSize, .inl (cy 0, 4, .inl v_sheetSizec)), (z_sheetLane, .inl (cy 0, 4, .inl v_sheetLanec)), (z_sheet, .inl (cy 1, 160, .inr (.inl v_sheetc))), (z_seen, .inl (cy 0, 32, .inl o_22)), (z_frozen, .inl (cy 0, 32, .inl v_frozenc))]) (va_runV (As := []) (rest := [.long 1, .long a_29]) ⟨hx, hb, hml, hown, hts⟩ (c_X10_goods l D cy t H.size K z z_isGood z_frozen z_sheetSize z_sheetLane z_sheet z_hands z_seen z_work z_known z_next z_counts z_acrosses z_failings z_given 0 v_size v_upper v_base v_wide v_mask v_paths v_come v_isCounted v_basis v_trace v_isGoodc r_32 hc_33) (cwV 0 hts gX10_nearest_X10_goods rfl rfl rfl (by decide +kernel) ⟨Nat.le_of_ble_eq_true rfl, Nat.le_of_ble_eq_true rfl⟩) ⟨gBlind, va_recv hK hP (ci := 9) (q0 := 0) rfl rfl, fun U hU hW => ⟨rfl, gPre.call hK hG hA hP hD hS [0, 1] (by decide) rfl U hU hW⟩⟩ rfl rfl hl.1 rfl (lv_room (Nat.le_of_ble_eq_true rfl)) dX10_nearest_86 ⟨Nat.le_of_ble_eq_true rfl, Nat.le_of_ble_eq_true rfl⟩) hA hP hD hS [0, 1] [2, 3, 4, 5, 6] rfl rfl (by decide) (by decide) (fun H locs hP hD hS => ?_)
              have hP := hP.sub (ws' := [(z, .inr (9, [.int 0, .int v_size, .int v_upper, .int v_base, .ref z_isGood, .ref z_frozen, .ref z_sheetSize, .ref z_sheetLane, .ref z_sheet, .ref z_hands, .int v_wide, .long v_mask, .int v_paths, .ref z_seen, .ref z_work, .ref z_known, .ref z_next, .int v_come, .int v_isCounted, .ref z_counts, .ref z_acrosses, .ref z_failings, .int v_basis, .ref z_given, .int v_trace])), (z_isGood, .inl (cy 2, 32, .inl v_isGoodc)), (z_sheetSize, .inl (cy 0, 4, .inl v_sheetSizec)), (z_sheetLane, .inl (cy 0, 4, .inl v_sheetLanec)), (z_sheet, .inl (cy 1, 160, .inr (.inl v_sheetc))), (z_seen, .inl (cy 0, 32, .inl o_22)), (z_frozen, .inl (cy 0, 32, .inl v_frozenc))]) [5, 6, 0, 1, 2, 3, 4] rfl
              have hD := hD.sub (ws' := [(z, .inr (9, [.int 0, .int v_size, .int v_upper, .int v_base, .ref z_isGood, .ref z_frozen, .ref z_sheetSize, .ref z_sheetLane, .ref z_sheet, .ref z_hands, .int v_wide, .long v_mask, .int v_paths, .ref z_seen, .ref z_work, .ref z_known, .ref z_next, .int v_come, .int v_isCounted, .ref z_counts, .ref z_acrosses, .ref z_failings, .int v_basis, .ref z_given, .int v_trace])), (z_isGood, .inl (cy 2, 32, .inl v_isGoodc)), (z_sheetSize, .inl (cy 0, 4, .inl v_sheetSizec)), (z_sheetLane, .inl (cy 0, 4, .inl v_sheetLanec)), (z_sheet, .inl (cy 1, 160, .inr (.inl v_sheetc))), (z_seen, .inl (cy 0, 32, .inl o_22)), (z_frozen, .inl (cy 0, 32, .inl v_frozenc))]) [5, 6, 0, 1, 2, 3, 4] (by decide) rfl
              refine lv_lshl (v := (gLshl 1 r_32)) hx hb dX10_nearest_89 rfl ?_
              refine W.lcmp hx hb dX10_nearest_90 ?_
              refine lv_if_ge (tgt := 154) hx hb dX10_nearest_91 (by decide) (fun c_34 => ?_) (fun c_34 => ?_)
              · have h := gx_t c_34 h
                have hl := lv_sub (l' := [(8, .long a_29), (7, .int a_30), (5, .long a_31), (4, .int r_19), (0, .ref z), (1, .int x1), (2, .int x2), (3, .int x3)]) hl [0, 1, 2, 3, 4, 5, 6, 7] rfl
                cases h
                exact hJ154 _ _ _ ⟨hP, hD, hS, hl⟩
              · have h := gx_f c_34 h
                refine lv_aload_n hx hb dX10_nearest_94 rfl (lv_at hl 4 rfl) ?_
                refine lv_aload_n hx hb dX10_nearest_95 rfl (lv_at hl 4 rfl) ?_
                refine lv_lload hx hb dX10_nearest_96 (lv_at hl 0 rfl) ?_
                obtain ⟨r_35, hc_36, h⟩ := gx_b h
                refine gCalll (wr := [(z_sheetSize, .inl (cy 0, 4, .inl v_sheetSizec)), (z_sheetLane, .inl (cy 0, 4, .inl v_sheetLanec)), (z_sheet, .inl (cy 1, 160, .inr (.inl v_sheetc))), (z_seen, .inl (cy 0, 32, .inl o_22))]) (va_runV (As := [.long a_29]) (rest := [.ref z]) ⟨hx, hb, hml, hown, hts⟩ (c_X10_rowOf l D cy t H.size K z z_isGood z_frozen z_sheetSize z_sheetLane z_sheet z_hands z_seen z_work z_known z_next z_counts z_acrosses z_failings z_given 0 v_size v_upper v_base v_wide v_mask v_paths v_come v_isCounted v_basis v_trace v_isGoodc v_frozenc a_29 r_35 hc_36) (cwV 1 hts gX10_nearest_X10_rowOf rfl rfl rfl (by decide +kernel) ⟨Nat.le_of_ble_eq_true rfl, Nat.le_of_ble_eq_true rfl⟩) ⟨gBlind, va_recv hK hP (ci := 9) (q0 := 0) rfl rfl, fun U hU hW => ⟨rfl, gPre.call hK hG hA hP hD hS [0, 1, 6] (by decide) rfl U hU hW⟩⟩ rfl rfl hl.1 rfl (lv_room (Nat.le_of_ble_eq_true rfl)) dX10_nearest_98 ⟨Nat.le_of_ble_eq_true rfl, Nat.le_of_ble_eq_true rfl⟩) hA hP hD hS [0, 1, 6] [2, 3, 4, 5] rfl rfl (by decide) (by decide) (fun H locs hP hD hS => ?_)
                have hP := hP.sub (ws' := [(z, .inr (9, [.int 0, .int v_size, .int v_upper, .int v_base, .ref z_isGood, .ref z_frozen, .ref z_sheetSize, .ref z_sheetLane, .ref z_sheet, .ref z_hands, .int v_wide, .long v_mask, .int v_paths, .ref z_seen, .ref z_work, .ref z_known, .ref z_next, .int v_come, .int v_isCounted, .ref z_counts, .ref z_acrosses, .ref z_failings, .int v_basis, .ref z_given, .int v_trace])), (z_isGood, .inl (cy 2, 32, .inl v_isGoodc)), (z_sheetSize, .inl (cy 0, 4, .inl v_sheetSizec)), (z_sheetLane, .inl (cy 0, 4, .inl v_sheetLanec)), (z_sheet, .inl (cy 1, 160, .inr (.inl v_sheetc))), (z_seen, .inl (cy 0, 32, .inl o_22)), (z_frozen, .inl (cy 0, 32, .inl v_frozenc))]) [4, 5, 0, 1, 2, 3, 6] rfl
                have hD := hD.sub (ws' := [(z, .inr (9, [.int 0, .int v_size, .int v_upper, .int v_base, .ref z_isGood, .ref z_frozen, .ref z_sheetSize, .ref z_sheetLane, .ref z_sheet, .ref z_hands, .int v_wide, .long v_mask, .int v_paths, .ref z_seen, .ref z_work, .ref z_known, .ref z_next, .int v_come, .int v_isCounted, .ref z_counts, .ref z_acrosses, .ref z_failings, .int v_basis, .ref z_given, .int v_trace])), (z_isGood, .inl (cy 2, 32, .inl v_isGoodc)), (z_sheetSize, .inl (cy 0, 4, .inl v_sheetSizec)), (z_sheetLane, .inl (cy 0, 4, .inl v_sheetLanec)), (z_sheet, .inl (cy 1, 160, .inr (.inl v_sheetc))), (z_seen, .inl (cy 0, 32, .inl o_22)), (z_frozen, .inl (cy 0, 32, .inl v_frozenc))]) [4, 5, 0, 1, 2, 3, 6] (by decide) rfl
                refine lv_aload_n hx hb dX10_nearest_101 rfl (lv_at hl 4 rfl) ?_
                refine va_get (D := D) (ci := 9) (v := .int v_size) (C := RX10) (T := TX10) (N := 25) hx hb hts iX10 hown hK hP 0 rfl rfl 1 (by decide) f54 (fun _ h9 => h9) rfl dX10_nearest_102 ?_
                obtain ⟨r_37, hc_38, h⟩ := gx_b h
                refine gCalll (wr := [(z, .inr (9, [.int 0, .int v_size, .int v_upper, .int v_base, .ref z_isGood, .ref z_frozen, .ref z_sheetSize, .ref z_sheetLane, .ref z_sheet, .ref z_hands, .int v_wide, .long v_mask, .int v_paths, .ref z_seen, .ref z_work, .ref z_known, .ref z_next, .int v_come, .int v_isCounted, .ref z_counts, .ref z_acrosses, .ref z_failings, .int v_basis, .ref z_given, .int v_trace])), (z_isGood, .inl (cy 2, 32, .inl v_isGoodc)), (z_sheetSize, .inl (cy 0, 4, .inl v_sheetSizec)), (z_sheetLane, .inl (cy 0, 4, .inl v_sheetLanec)), (z_sheet, .inl (cy 1, 160, .inr (.inl v_sheetc))), (z_seen, .inl (cy 0, 32, .inl o_22)), (z_frozen, .inl (cy 0, 32, .inl v_frozenc))]) (va_runS (As := [.long r_35, .int v_size]) (rest := [.ref z]) ⟨hx, hb, hml, hown, hts⟩ (c_X10_folded l D cy t H.size K r_35 v_size r_37 hc_38) (va_cwS 2 hts gX10_nearest_X10_folded rfl rfl rfl (by decide +kernel) ⟨Nat.le_of_ble_eq_true rfl, Nat.le_of_ble_eq_true rfl⟩) ⟨gBlind, fun U hU hW => ⟨rfl, gPre.call hK hG hA hP hD hS [] (by decide) rfl U hU hW⟩⟩ rfl rfl hl.1 rfl (lv_room (Nat.le_of_ble_eq_true rfl)) dX10_nearest_105 ⟨Nat.le_of_ble_eq_true rfl, Nat.le_of_ble_eq_true rfl⟩) hA hP hD hS [] [0, 1, 2, 3, 4, 5, 6] rfl rfl (by decide) (by decide) (fun H locs hP hD hS => ?_)
                have hP : va_P D vwCl [(z, .inr (9, [.int 0, .int v_size, .int v_upper, .int v_base, .ref z_isGood, .ref z_frozen, .ref z_sheetSize, .ref z_sheetLane, .ref z_sheet, .ref z_hands, .int v_wide, .long v_mask, .int v_paths, .ref z_seen, .ref z_work, .ref z_known, .ref z_next, .int v_come, .int v_isCounted, .ref z_counts, .ref z_acrosses, .ref z_failings, .int v_basis, .ref z_given, .int v_trace])), (z_isGood, .inl (cy 2, 32, .inl v_isGoodc)), (z_sheetSize, .inl (cy 0, 4, .inl v_sheetSizec)), (z_sheetLane, .inl (cy 0, 4, .inl v_sheetLanec)), (z_sheet, .inl (cy 1, 160, .inr (.inl v_sheetc))), (z_seen, .inl (cy 0, 32, .inl o_22)), (z_frozen, .inl (cy 0, 32, .inl v_frozenc))] H := hP
                have hD : va_D A [(z, .inr (9, [.int 0, .int v_size, .int v_upper, .int v_base, .ref z_isGood, .ref z_frozen, .ref z_sheetSize, .ref z_sheetLane, .ref z_sheet, .ref z_hands, .int v_wide, .long v_mask, .int v_paths, .ref z_seen, .ref z_work, .ref z_known, .ref z_next, .int v_come, .int v_isCounted, .ref z_counts, .ref z_acrosses, .ref z_failings, .int v_basis, .ref z_given, .int v_trace])), (z_isGood, .inl (cy 2, 32, .inl v_isGoodc)), (z_sheetSize, .inl (cy 0, 4, .inl v_sheetSizec)), (z_sheetLane, .inl (cy 0, 4, .inl v_sheetLanec)), (z_sheet, .inl (cy 1, 160, .inr (.inl v_sheetc))), (z_seen, .inl (cy 0, 32, .inl o_22)), (z_frozen, .inl (cy 0, 32, .inl v_frozenc))] := hD
                obtain ⟨r_39, hc_40, h⟩ := gx_b h
                refine gCalli (wr := [(z_isGood, .inl (cy 2, 32, .inl v_isGoodc)), (z_sheetSize, .inl (cy 0, 4, .inl v_sheetSizec)), (z_sheetLane, .inl (cy 0, 4, .inl v_sheetLanec)), (z_sheet, .inl (cy 1, 160, .inr (.inl v_sheetc))), (z_frozen, .inl (cy 0, 32, .inl v_frozenc))]) (va_runV (As := [.long r_37]) (rest := []) ⟨hx, hb, hml, hown, hts⟩ (c_X10_unlike l D cy t H.size K z z_seen z_isGood z_frozen z_sheetSize z_sheetLane z_sheet z_hands z_work z_known z_next z_counts z_acrosses z_failings z_given 0 v_size v_upper v_base v_wide v_mask v_paths v_come v_isCounted v_basis v_trace o_22 r_37 r_39 hc_40) (cwV 1 hts gX10_nearest_X10_unlike rfl rfl rfl (by decide +kernel) ⟨Nat.le_of_ble_eq_true rfl, Nat.le_of_ble_eq_true rfl⟩) ⟨gBlind, va_recv hK hP (ci := 9) (q0 := 0) rfl rfl, fun U hU hW => ⟨rfl, gPre.call hK hG hA hP hD hS [0, 5] (by decide) rfl U hU hW⟩⟩ rfl rfl hl.1 rfl (lv_room (Nat.le_of_ble_eq_true rfl)) dX10_nearest_108 ⟨Nat.le_of_ble_eq_true rfl, Nat.le_of_ble_eq_true rfl⟩) hA hP hD hS [0, 5] [1, 2, 3, 4, 6] rfl rfl (by decide) (by decide) (fun H locs hP hD hS => ?_)
                have hP := hP.sub (ws' := [(z, .inr (9, [.int 0, .int v_size, .int v_upper, .int v_base, .ref z_isGood, .ref z_frozen, .ref z_sheetSize, .ref z_sheetLane, .ref z_sheet, .ref z_hands, .int v_wide, .long v_mask, .int v_paths, .ref z_seen, .ref z_work, .ref z_known, .ref z_next, .int v_come, .int v_isCounted, .ref z_counts, .ref z_acrosses, .ref z_failings, .int v_basis, .ref z_given, .int v_trace])), (z_isGood, .inl (cy 2, 32, .inl v_isGoodc)), (z_sheetSize, .inl (cy 0, 4, .inl v_sheetSizec)), (z_sheetLane, .inl (cy 0, 4, .inl v_sheetLanec)), (z_sheet, .inl (cy 1, 160, .inr (.inl v_sheetc))), (z_seen, .inl (cy 0, 32, .inl o_22)), (z_frozen, .inl (cy 0, 32, .inl v_frozenc))]) [5, 0, 1, 2, 3, 6, 4] rfl
                have hD := hD.sub (ws' := [(z, .inr (9, [.int 0, .int v_size, .int v_upper, .int v_base, .ref z_isGood, .ref z_frozen, .ref z_sheetSize, .ref z_sheetLane, .ref z_sheet, .ref z_hands, .int v_wide, .long v_mask, .int v_paths, .ref z_seen, .ref z_work, .ref z_known, .ref z_next, .int v_come, .int v_isCounted, .ref z_counts, .ref z_acrosses, .ref z_failings, .int v_basis, .ref z_given, .int v_trace])), (z_isGood, .inl (cy 2, 32, .inl v_isGoodc)), (z_sheetSize, .inl (cy 0, 4, .inl v_sheetSizec)), (z_sheetLane, .inl (cy 0, 4, .inl v_sheetLanec)), (z_sheet, .inl (cy 1, 160, .inr (.inl v_sheetc))), (z_seen, .inl (cy 0, 32, .inl o_22)), (z_frozen, .inl (cy 0, 32, .inl v_frozenc))]) [5, 0, 1, 2, 3, 6, 4] (by decide) rfl
                refine lv_istore (lv' := [(10, .int r_39), (8, .long a_29), (7, .int a_30), (5, .long a_31), (4, .int r_19), (0, .ref z), (1, .int x1), (2, .int x2), (3, .int x3)]) hx hb dX10_nearest_111 hl (by decide) rfl (fun ls hl => ?_)
                refine lv_iload hx hb dX10_nearest_113 (lv_at hl 0 rfl) ?_
                refine lv_iload hx hb dX10_nearest_115 (lv_at hl 2 rfl) ?_
                obtain ⟨ms_41, hR_42, h⟩ := gx_b h
                refine gJoin (Pj := fun H locs ls => va_P D vwCl [(z, .inr (9, [.int 0, .int v_size, .int v_upper, .int v_base, .ref z_isGood, .ref z_frozen, .ref z_sheetSize, .ref z_sheetLane, .ref z_sheet, .ref z_hands, .int v_wide, .long v_mask, .int v_paths, .ref z_seen, .ref z_work, .ref z_known, .ref z_next, .int v_come, .int v_isCounted, .ref z_counts, .ref z_acrosses, .ref z_failings, .int v_basis, .ref z_given, .int v_trace])), (z_isGood, .inl (cy 2, 32, .inl v_isGoodc)), (z_sheetSize, .inl (cy 0, 4, .inl v_sheetSizec)), (z_sheetLane, .inl (cy 0, 4, .inl v_sheetLanec)), (z_sheet, .inl (cy 1, 160, .inr (.inl v_sheetc))), (z_seen, .inl (cy 0, 32, .inl o_22)), (z_frozen, .inl (cy 0, 32, .inl v_frozenc))] H ∧ va_D A [(z, .inr (9, [.int 0, .int v_size, .int v_upper, .int v_base, .ref z_isGood, .ref z_frozen, .ref z_sheetSize, .ref z_sheetLane, .ref z_sheet, .ref z_hands, .int v_wide, .long v_mask, .int v_paths, .ref z_seen, .ref z_work, .ref z_known, .ref z_next, .int v_come, .int v_isCounted, .ref z_counts, .ref z_acrosses, .ref z_failings, .int v_basis, .ref z_given, .int v_trace])), (z_isGood, .inl (cy 2, 32, .inl v_isGoodc)), (z_sheetSize, .inl (cy 0, 4, .inl v_sheetSizec)), (z_sheetLane, .inl (cy 0, 4, .inl v_sheetLanec)), (z_sheet, .inl (cy 1, 160, .inr (.inl v_sheetc))), (z_seen, .inl (cy 0, 32, .inl o_22)), (z_frozen, .inl (cy 0, 32, .inl v_frozenc))] ∧ va_S A s.heap H locs ∧ lv_has ls 11 [(10, .int r_39), (8, .long a_29), (7, .int a_30), (5, .long a_31), (4, .int r_19), (0, .ref z), (1, .int x1), (2, .int x2), (3, .int x3)]) (pcM := 127) (st := [.long ms_41]) ?_ (fun hJ127 => ?_)
                · intro H locs ls hp_
                  obtain ⟨hP, hD, hS, hl⟩ := hp_
                  clear hR_42
                  refine lv_lstore (lv' := [(5, .long ms_41), (10, .int r_39), (8, .long a_29), (7, .int a_30), (4, .int r_19), (0, .ref z), (1, .int x1), (2, .int x2), (3, .int x3)]) hx hb dX10_nearest_127 hl (by decide) rfl (fun ls hl => ?_)
                  refine lv_iload hx hb dX10_nearest_129 (lv_at hl 1 rfl) ?_
                  refine lv_iload hx hb dX10_nearest_131 (lv_at hl 3 rfl) ?_
                  obtain ⟨ms_43, hR_44, h⟩ := gx_b h
                  refine gJoin (Pj := fun H locs ls => va_P D vwCl [(z, .inr (9, [.int 0, .int v_size, .int v_upper, .int v_base, .ref z_isGood, .ref z_frozen, .ref z_sheetSize, .ref z_sheetLane, .ref z_sheet, .ref z_hands, .int v_wide, .long v_mask, .int v_paths, .ref z_seen, .ref z_work, .ref z_known, .ref z_next, .int v_come, .int v_isCounted, .ref z_counts, .ref z_acrosses, .ref z_failings, .int v_basis, .ref z_given, .int v_trace])), (z_isGood, .inl (cy 2, 32, .inl v_isGoodc)), (z_sheetSize, .inl (cy 0, 4, .inl v_sheetSizec)), (z_sheetLane, .inl (cy 0, 4, .inl v_sheetLanec)), (z_sheet, .inl (cy 1, 160, .inr (.inl v_sheetc))), (z_seen, .inl (cy 0, 32, .inl o_22)), (z_frozen, .inl (cy 0, 32, .inl v_frozenc))] H ∧ va_D A [(z, .inr (9, [.int 0, .int v_size, .int v_upper, .int v_base, .ref z_isGood, .ref z_frozen, .ref z_sheetSize, .ref z_sheetLane, .ref z_sheet, .ref z_hands, .int v_wide, .long v_mask, .int v_paths, .ref z_seen, .ref z_work, .ref z_known, .ref z_next, .int v_come, .int v_isCounted, .ref z_counts, .ref z_acrosses, .ref z_failings, .int v_basis, .ref z_given, .int v_trace])), (z_isGood, .inl (cy 2, 32, .inl v_isGoodc)), (z_sheetSize, .inl (cy 0, 4, .inl v_sheetSizec)), (z_sheetLane, .inl (cy 0, 4, .inl v_sheetLanec)), (z_sheet, .inl (cy 1, 160, .inr (.inl v_sheetc))), (z_seen, .inl (cy 0, 32, .inl o_22)), (z_frozen, .inl (cy 0, 32, .inl v_frozenc))] ∧ va_S A s.heap H locs ∧ lv_has ls 11 [(5, .long ms_41), (10, .int r_39), (8, .long a_29), (7, .int a_30), (4, .int r_19), (0, .ref z), (1, .int x1), (2, .int x2), (3, .int x3)]) (pcM := 143) (st := [.int ms_43]) ?_ (fun hJ143 => ?_)
                  · intro H locs ls hp_
                    obtain ⟨hP, hD, hS, hl⟩ := hp_
                    clear hR_44
                    refine lv_istore (lv' := [(7, .int ms_43), (5, .long ms_41), (10, .int r_39), (8, .long a_29), (4, .int r_19), (0, .ref z), (1, .int x1), (2, .int x2), (3, .int x3)]) hx hb dX10_nearest_143 hl (by decide) rfl (fun ls hl => ?_)
                    refine lv_lload hx hb dX10_nearest_145 (lv_at hl 3 rfl) ?_
                    refine lv_lconst (v := 1) hx hb dX10_nearest_147 (by decide) ?_
                    refine lv_ladd hx hb dX10_nearest_148 ?_
                    refine lv_topl (fun y8_45 e_y8_45 => ?_)
                    have h := gx_let e_y8_45 h
                    refine lv_lstore (lv' := [(8, .long y8_45), (7, .int ms_43), (5, .long ms_41), (10, .int r_39), (4, .int r_19), (0, .ref z), (1, .int x1), (2, .int x2), (3, .int x3)]) hx hb dX10_nearest_149 hl (by decide) rfl (fun ls hl => ?_)
                    refine lv_goto (tgt := 82) hx hb dX10_nearest_151 (by decide) ?_
                    exact ih (y8_45, ms_43, ms_41) _ _ _ h ⟨hP, hD, hS, lv_sub (l' := [(8, .long y8_45), (7, .int ms_43), (5, .long ms_41), (4, .int r_19), (0, .ref z), (1, .int x1), (2, .int x2), (3, .int x3)]) hl [0, 1, 2, 4, 5, 6, 7, 8] rfl⟩
                  · have h := hR_44
                    refine lv_icmp_ge (tgt := 141) hx hb dX10_nearest_133 (by decide) (fun c_46 => ?_) (fun c_46 => ?_)
                    · have h := gx_t c_46 h
                      refine lv_iload hx hb dX10_nearest_141 (lv_at hl 3 rfl) ?_
                      have hl := lv_sub (l' := [(5, .long ms_41), (10, .int r_39), (8, .long a_29), (7, .int a_30), (4, .int r_19), (0, .ref z), (1, .int x1), (2, .int x2), (3, .int x3)]) hl [0, 1, 2, 3, 4, 5, 6, 7, 8] rfl
                      cases h
                      exact hJ143 _ _ _ ⟨hP, hD, hS, hl⟩
                    · have h := gx_f c_46 h
                      refine lv_iload hx hb dX10_nearest_136 (lv_at hl 1 rfl) ?_
                      refine lv_goto (tgt := 143) hx hb dX10_nearest_138 (by decide) ?_
                      have hl := lv_sub (l' := [(5, .long ms_41), (10, .int r_39), (8, .long a_29), (7, .int a_30), (4, .int r_19), (0, .ref z), (1, .int x1), (2, .int x2), (3, .int x3)]) hl [0, 1, 2, 3, 4, 5, 6, 7, 8] rfl
                      cases h
                      exact hJ143 _ _ _ ⟨hP, hD, hS, hl⟩
                · have h := hR_42
                  refine lv_icmp_ge (tgt := 125) hx hb dX10_nearest_117 (by decide) (fun c_47 => ?_) (fun c_47 => ?_)
                  · have h := gx_t c_47 h
                    refine lv_lload hx hb dX10_nearest_125 (lv_at hl 3 rfl) ?_
                    have hl := lv_sub (l' := [(10, .int r_39), (8, .long a_29), (7, .int a_30), (5, .long a_31), (4, .int r_19), (0, .ref z), (1, .int x1), (2, .int x2), (3, .int x3)]) hl [0, 1, 2, 3, 4, 5, 6, 7, 8] rfl
                    cases h
                    exact hJ127 _ _ _ ⟨hP, hD, hS, hl⟩
                  · have h := gx_f c_47 h
                    refine lv_lload hx hb dX10_nearest_120 (lv_at hl 1 rfl) ?_
                    refine lv_goto (tgt := 127) hx hb dX10_nearest_122 (by decide) ?_
                    have hl := lv_sub (l' := [(10, .int r_39), (8, .long a_29), (7, .int a_30), (5, .long a_31), (4, .int r_19), (0, .ref z), (1, .int x1), (2, .int x2), (3, .int x3)]) hl [0, 1, 2, 3, 4, 5, 6, 7, 8] rfl
                    cases h
                    exact hJ127 _ _ _ ⟨hP, hD, hS, hl⟩
          · have h := gx_f c_21 h
            refine lv_aload_n hx hb dX10_nearest_60 rfl (lv_at hl 1 rfl) ?_
            refine lv_iload hx hb dX10_nearest_61 (lv_at hl 0 rfl) ?_
            obtain ⟨⟨r_48, o_49⟩, hc_50, h⟩ := gx_b h
            refine gCalll (wr := [(z_isGood, .inl (cy 2, 32, .inl v_isGoodc)), (z_sheetSize, .inl (cy 0, 4, .inl v_sheetSizec)), (z_sheetLane, .inl (cy 0, 4, .inl v_sheetLanec)), (z_sheet, .inl (cy 1, 160, .inr (.inl v_sheetc))), (z_seen, .inl (cy 0, 32, .inl v_seenc)), (z_frozen, .inl (cy 0, 32, .inl v_frozenc))]) (va_runV (As := [.int r_19]) (rest := []) ⟨hx, hb, hml, hown, hts⟩ (c_X10_failedLong l D cy t H.size K z z_isGood z_frozen z_sheetSize z_sheetLane z_sheet z_hands z_seen z_work z_known z_next z_counts z_acrosses z_failings z_given 0 v_size v_upper v_base v_wide v_mask v_paths v_come v_isCounted v_basis v_trace r_19 r_48 o_49 hc_50) (cwV 1 hts gX10_nearest_X10_failedLong rfl rfl rfl (by decide +kernel) ⟨Nat.le_of_ble_eq_true rfl, Nat.le_of_ble_eq_true rfl⟩) ⟨gBlind, va_recv hK hP (ci := 9) (q0 := 0) rfl rfl, fun U hU hW => ⟨rfl, gPre.call hK hG hA hP hD hS [0] (by decide) rfl U hU hW⟩⟩ rfl rfl hl.1 rfl (lv_room (Nat.le_of_ble_eq_true rfl)) dX10_nearest_63 ⟨Nat.le_of_ble_eq_true rfl, Nat.le_of_ble_eq_true rfl⟩) hA hP hD hS [0] [1, 2, 3, 4, 5, 6] rfl rfl (by decide) (by decide) (fun H locs hP hD hS => ?_)
            have hP := hP.sub (ws' := [(z, .inr (9, [.int o_49, .int v_size, .int v_upper, .int v_base, .ref z_isGood, .ref z_frozen, .ref z_sheetSize, .ref z_sheetLane, .ref z_sheet, .ref z_hands, .int v_wide, .long v_mask, .int v_paths, .ref z_seen, .ref z_work, .ref z_known, .ref z_next, .int v_come, .int v_isCounted, .ref z_counts, .ref z_acrosses, .ref z_failings, .int v_basis, .ref z_given, .int v_trace])), (z_isGood, .inl (cy 2, 32, .inl v_isGoodc)), (z_sheetSize, .inl (cy 0, 4, .inl v_sheetSizec)), (z_sheetLane, .inl (cy 0, 4, .inl v_sheetLanec)), (z_sheet, .inl (cy 1, 160, .inr (.inl v_sheetc))), (z_seen, .inl (cy 0, 32, .inl v_seenc)), (z_frozen, .inl (cy 0, 32, .inl v_frozenc))]) [6, 0, 1, 2, 3, 4, 5] rfl
            have hD := hD.sub (ws' := [(z, .inr (9, [.int o_49, .int v_size, .int v_upper, .int v_base, .ref z_isGood, .ref z_frozen, .ref z_sheetSize, .ref z_sheetLane, .ref z_sheet, .ref z_hands, .int v_wide, .long v_mask, .int v_paths, .ref z_seen, .ref z_work, .ref z_known, .ref z_next, .int v_come, .int v_isCounted, .ref z_counts, .ref z_acrosses, .ref z_failings, .int v_basis, .ref z_given, .int v_trace])), (z_isGood, .inl (cy 2, 32, .inl v_isGoodc)), (z_sheetSize, .inl (cy 0, 4, .inl v_sheetSizec)), (z_sheetLane, .inl (cy 0, 4, .inl v_sheetLanec)), (z_sheet, .inl (cy 1, 160, .inr (.inl v_sheetc))), (z_seen, .inl (cy 0, 32, .inl v_seenc)), (z_frozen, .inl (cy 0, 32, .inl v_frozenc))]) [6, 0, 1, 2, 3, 4, 5] (by decide) rfl
            cases h
            exact gRl hx hb hr hlocks hP hD hS dX10_nearest_66
        · have h := gx_f c_18 h
          obtain ⟨r_51, hc_52, h⟩ := gx_b h
          refine gCalll (wr := [(z, .inr (9, [.int 0, .int v_size, .int v_upper, .int v_base, .ref z_isGood, .ref z_frozen, .ref z_sheetSize, .ref z_sheetLane, .ref z_sheet, .ref z_hands, .int v_wide, .long v_mask, .int v_paths, .ref z_seen, .ref z_work, .ref z_known, .ref z_next, .int v_come, .int v_isCounted, .ref z_counts, .ref z_acrosses, .ref z_failings, .int v_basis, .ref z_given, .int v_trace])), (z_isGood, .inl (cy 2, 32, .inl v_isGoodc)), (z_sheetSize, .inl (cy 0, 4, .inl v_sheetSizec)), (z_sheetLane, .inl (cy 0, 4, .inl v_sheetLanec)), (z_sheet, .inl (cy 1, 160, .inr (.inl v_sheetc))), (z_seen, .inl (cy 0, 32, .inl v_seenc)), (z_frozen, .inl (cy 0, 32, .inl v_frozenc))]) (va_runS (As := []) (rest := []) ⟨hx, hb, hml, hown, hts⟩ (c_X10_lost l D cy t H.size K r_51 hc_52) (va_cwS 0 hts gX10_nearest_X10_lost rfl rfl rfl (by decide +kernel) ⟨Nat.le_of_ble_eq_true rfl, Nat.le_of_ble_eq_true rfl⟩) ⟨gBlind, fun U hU hW => ⟨rfl, gPre.call hK hG hA hP hD hS [] (by decide) rfl U hU hW⟩⟩ rfl rfl hl.1 rfl (lv_room (Nat.le_of_ble_eq_true rfl)) dX10_nearest_43 ⟨Nat.le_of_ble_eq_true rfl, Nat.le_of_ble_eq_true rfl⟩) hA hP hD hS [] [0, 1, 2, 3, 4, 5, 6] rfl rfl (by decide) (by decide) (fun H locs hP hD hS => ?_)
          have hP : va_P D vwCl [(z, .inr (9, [.int 0, .int v_size, .int v_upper, .int v_base, .ref z_isGood, .ref z_frozen, .ref z_sheetSize, .ref z_sheetLane, .ref z_sheet, .ref z_hands, .int v_wide, .long v_mask, .int v_paths, .ref z_seen, .ref z_work, .ref z_known, .ref z_next, .int v_come, .int v_isCounted, .ref z_counts, .ref z_acrosses, .ref z_failings, .int v_basis, .ref z_given, .int v_trace])), (z_isGood, .inl (cy 2, 32, .inl v_isGoodc)), (z_sheetSize, .inl (cy 0, 4, .inl v_sheetSizec)), (z_sheetLane, .inl (cy 0, 4, .inl v_sheetLanec)), (z_sheet, .inl (cy 1, 160, .inr (.inl v_sheetc))), (z_seen, .inl (cy 0, 32, .inl v_seenc)), (z_frozen, .inl (cy 0, 32, .inl v_frozenc))] H := hP
          have hD : va_D A [(z, .inr (9, [.int 0, .int v_size, .int v_upper, .int v_base, .ref z_isGood, .ref z_frozen, .ref z_sheetSize, .ref z_sheetLane, .ref z_sheet, .ref z_hands, .int v_wide, .long v_mask, .int v_paths, .ref z_seen, .ref z_work, .ref z_known, .ref z_next, .int v_come, .int v_isCounted, .ref z_counts, .ref z_acrosses, .ref z_failings, .int v_basis, .ref z_given, .int v_trace])), (z_isGood, .inl (cy 2, 32, .inl v_isGoodc)), (z_sheetSize, .inl (cy 0, 4, .inl v_sheetSizec)), (z_sheetLane, .inl (cy 0, 4, .inl v_sheetLanec)), (z_sheet, .inl (cy 1, 160, .inr (.inl v_sheetc))), (z_seen, .inl (cy 0, 32, .inl v_seenc)), (z_frozen, .inl (cy 0, 32, .inl v_frozenc))] := hD
          cases h
          exact gRl hx hb hr hlocks hP hD hS dX10_nearest_46

def fL_X10_send_108 (K : Nat) (l8 : Int64) (l1 : Int32) (l4 : Int64) (u0_1 : Int32) : Nat → Int32 × (Nat → Int64) → Option (Int32 × (Nat → Int64))
  | 0, _ => none
  | k + 1, (l10, u4) =>
    if u0_1 ≤ l10 then
      some (l10, u4)
    else
      Option.bind (α := Int64) (
        if (lg_cmp ((gLshr l4 l10) &&& 1) 1) = 0 then
          some 2
        else
          some ((gLshr l8 l10) &&& 1)) fun ms_26 =>
      gIx ((40 * l1) + l10) 160 <|
      gLet (vp_updL u4 (Int32.toNatClampNeg ((40 * l1) + l10)) ms_26) fun w_28 =>
      gLet (l10 + 1) fun y10_29 =>
      fL_X10_send_108 K l8 l1 l4 u0_1 k (y10_29, w_28)
def f_X10_send (K : Nat) (x1 : Int32) (x2 : Int64) (x3 : Int64) (x4 : Int64) (v_size : Int32) (v_isGoodc : Nat → Int32) (v_sheetSizec : Nat → Int32) (v_frozenc : Nat → Int32) (v_sheetc : Nat → Int64) : Option (Int32 × Int32 × (Nat → Int64)) :=
  Option.bind (f_X10_noSheet K x1) fun r_1 =>
  if r_1 = 0 then
    Option.bind (f_X10_isMessage K x2 v_size v_isGoodc) fun r_3 =>
    if r_3 = 0 then
      Option.bind (f_X10_refused K (-2)) fun (r_5, o_6) =>
      some (r_5, o_6, v_sheetc)
    else
      Option.bind (f_X10_all K v_size) fun r_7 =>
      Option.bind (f_X10_in K x3 0 r_7) fun r_8 =>
      if r_8 = 0 then
        Option.bind (f_X10_refused K (-2)) fun (r_10, o_11) =>
        some (r_10, o_11, v_sheetc)
      else
        Option.bind (f_X10_all K v_size) fun r_12 =>
        Option.bind (f_X10_in K x4 0 r_12) fun r_13 =>
        if r_13 = 0 then
          Option.bind (f_X10_refused K (-2)) fun (r_39, o_40) =>
          some (r_39, o_40, v_sheetc)
        else
          gIx x1 4 <|
          if 0 ≤ (v_sheetSizec (Int32.toNatClampNeg x1)) then
            gIx x1 4 <|
            if v_size ≤ (v_sheetSizec (Int32.toNatClampNeg x1)) then
              Option.bind (f_X10_rowOf K x2 v_size v_isGoodc v_frozenc) fun r_17 =>
              Option.bind (f_X10_folded K r_17 v_size) fun r_18 =>
              gLet (r_18 ^^^ x4) fun y8_19 =>
              Option.bind (fL_X10_send_108 K y8_19 x1 x3 v_size K (0, v_sheetc)) fun (o_30, o_31) =>
              Option.bind (f_X10_ones K (x3 ||| x4)) fun r_32 =>
              Option.bind (f_X10_refused K r_32) fun (r_33, o_34) =>
              some (r_33, o_34, o_31)
            else
              Option.bind (f_X10_failed K 3) fun (r_35, o_36) =>
              some (r_35, o_36, v_sheetc)
          else
            Option.bind (f_X10_failed K 1) fun (r_37, o_38) =>
            some (r_37, o_38, v_sheetc)
  else
    Option.bind (f_X10_refused K (-1)) fun (r_41, o_42) =>
    some (r_41, o_42, v_sheetc)
set_option maxHeartbeats 4000000 in
set_option maxRecDepth 100000 in
theorem c_X10_send (l : Launch) (D : va_G) (cy : Nat → ClassId) (t sz K : Nat) (z : Nat) (z_isGood : Nat) (z_sheetSize : Nat) (z_frozen : Nat) (z_sheet : Nat) (z_sheetLane : Nat) (z_hands : Nat) (z_seen : Nat) (z_work : Nat) (z_known : Nat) (z_next : Nat) (z_counts : Nat) (z_acrosses : Nat) (z_failings : Nat) (z_given : Nat) (v_fault : Int32) (v_size : Int32) (v_upper : Int32) (v_base : Int32) (v_wide : Int32) (v_mask : Int64) (v_paths : Int32) (v_come : Int32) (v_isCounted : Int32) (v_basis : Int32) (v_trace : Int32) (v_isGoodc : Nat → Int32) (v_sheetSizec : Nat → Int32) (v_frozenc : Nat → Int32) (v_sheetc : Nat → Int64) (x1 : Int32) (x2 : Int64) (x3 : Int64) (x4 : Int64) (r_ : Int32) (o_v_fault : Int32) (o_v_sheetc : Nat → Int64) (h : f_X10_send K x1 x2 x3 x4 v_size v_isGoodc v_sheetSizec v_frozenc v_sheetc = some (r_, o_v_fault, o_v_sheetc)) : gMi l D cy t sz yX10_send wsX10_send 2 47 [.ref z, .int x1, .long x2, .long x3, .long x4] [(z, .inr (9, [.int v_fault, .int v_size, .int v_upper, .int v_base, .ref z_isGood, .ref z_frozen, .ref z_sheetSize, .ref z_sheetLane, .ref z_sheet, .ref z_hands, .int v_wide, .long v_mask, .int v_paths, .ref z_seen, .ref z_work, .ref z_known, .ref z_next, .int v_come, .int v_isCounted, .ref z_counts, .ref z_acrosses, .ref z_failings, .int v_basis, .ref z_given, .int v_trace])), (z_isGood, .inl (cy 2, 32, .inl v_isGoodc)), (z_sheetSize, .inl (cy 0, 4, .inl v_sheetSizec)), (z_frozen, .inl (cy 0, 32, .inl v_frozenc)), (z_sheet, .inl (cy 1, 160, .inr (.inl v_sheetc)))] r_ [(z, .inr (9, [.int o_v_fault, .int v_size, .int v_upper, .int v_base, .ref z_isGood, .ref z_frozen, .ref z_sheetSize, .ref z_sheetLane, .ref z_sheet, .ref z_hands, .int v_wide, .long v_mask, .int v_paths, .ref z_seen, .ref z_work, .ref z_known, .ref z_next, .int v_come, .int v_isCounted, .ref z_counts, .ref z_acrosses, .ref z_failings, .int v_basis, .ref z_given, .int v_trace])), (z_isGood, .inl (cy 2, 32, .inl v_isGoodc)), (z_sheetSize, .inl (cy 0, 4, .inl v_sheetSizec)), (z_frozen, .inl (cy 0, 32, .inl v_frozenc)), (z_sheet, .inl (cy 1, 160, .inr (.inl o_v_sheetc)))] := by
  refine gBi (cc := cX10_send) (maxL := 11) (ret := (some .int)) (by decide) rfl (Nat.le_of_ble_eq_true rfl) ?_
  intro p e s m below meth c A ls hAt hl
  obtain ⟨hx, hb, hml, hr, hts, hown, hlocks, hin, hK, hG, hA, hP, hD⟩ := hAt
  have hS : va_S A s.heap s.heap [] := va_S.rf
  have hl : lv_has ls 11 [(0, .ref z), (1, .int x1), (2, .long x2), (4, .long x3), (6, .long x4)] := hl
  have f17 := hts (.fieldLink RX10 17 "PlainLinesModel" "sheetSize" "[I") (by decide +kernel)
  have iX10 := (by decide +kernel : ∀ w ∈ u_ws RX10 TX10 25, w ∈ wsX10_send)
  have f54 := hts (.fieldLink RX10 54 "PlainLinesModel" "size" "I") (by decide +kernel)
  have f23 := hts (.fieldLink RX10 23 "PlainLinesModel" "sheet" "[J") (by decide +kernel)
  have k93 := hts (.constantLong RX10 93 (2)) (by decide +kernel)
  rw [f_X10_send] at h
  refine lv_iload_n hx hb dX10_send_0 rfl (lv_at hl 1 rfl) ?_
  obtain ⟨r_1, hc_2, h⟩ := gx_b h
  refine gCalli (wr := [(z, .inr (9, [.int v_fault, .int v_size, .int v_upper, .int v_base, .ref z_isGood, .ref z_frozen, .ref z_sheetSize, .ref z_sheetLane, .ref z_sheet, .ref z_hands, .int v_wide, .long v_mask, .int v_paths, .ref z_seen, .ref z_work, .ref z_known, .ref z_next, .int v_come, .int v_isCounted, .ref z_counts, .ref z_acrosses, .ref z_failings, .int v_basis, .ref z_given, .int v_trace])), (z_isGood, .inl (cy 2, 32, .inl v_isGoodc)), (z_sheetSize, .inl (cy 0, 4, .inl v_sheetSizec)), (z_frozen, .inl (cy 0, 32, .inl v_frozenc)), (z_sheet, .inl (cy 1, 160, .inr (.inl v_sheetc)))]) (va_runS (As := [.int x1]) (rest := []) ⟨hx, hb, hml, hown, hts⟩ (c_X10_noSheet l D cy t s.heap.size K x1 r_1 hc_2) (va_cwS 1 hts gX10_send_X10_noSheet rfl rfl rfl (by decide +kernel) ⟨Nat.le_of_ble_eq_true rfl, Nat.le_of_ble_eq_true rfl⟩) ⟨gBlind, fun U hU hW => ⟨rfl, gPre.call hK hG hA hP hD hS [] (by decide) rfl U hU hW⟩⟩ rfl rfl hl.1 rfl (lv_room (Nat.le_of_ble_eq_true rfl)) dX10_send_1 ⟨Nat.le_of_ble_eq_true rfl, Nat.le_of_ble_eq_true rfl⟩) hA hP hD hS [] [0, 1, 2, 3, 4] rfl rfl (by decide) (by decide) (fun H locs hP hD hS => ?_)
  have hP : va_P D vwCl [(z, .inr (9, [.int v_fault, .int v_size, .int v_upper, .int v_base, .ref z_isGood, .ref z_frozen, .ref z_sheetSize, .ref z_sheetLane, .ref z_sheet, .ref z_hands, .int v_wide, .long v_mask, .int v_paths, .ref z_seen, .ref z_work, .ref z_known, .ref z_next, .int v_come, .int v_isCounted, .ref z_counts, .ref z_acrosses, .ref z_failings, .int v_basis, .ref z_given, .int v_trace])), (z_isGood, .inl (cy 2, 32, .inl v_isGoodc)), (z_sheetSize, .inl (cy 0, 4, .inl v_sheetSizec)), (z_frozen, .inl (cy 0, 32, .inl v_frozenc)), (z_sheet, .inl (cy 1, 160, .inr (.inl v_sheetc)))] H := hP
  have hD : va_D A [(z, .inr (9, [.int v_fault, .int v_size, .int v_upper, .int v_base, .ref z_isGood, .ref z_frozen, .ref z_sheetSize, .ref z_sheetLane, .ref z_sheet, .ref z_hands, .int v_wide, .long v_mask, .int v_paths, .ref z_seen, .ref z_work, .ref z_known, .ref z_next, .int v_come, .int v_isCounted, .ref z_counts, .ref z_acrosses, .ref z_failings, .int v_basis, .ref z_given, .int v_trace])), (z_isGood, .inl (cy 2, 32, .inl v_isGoodc)), (z_sheetSize, .inl (cy 0, 4, .inl v_sheetSizec)), (z_frozen, .inl (cy 0, 32, .inl v_frozenc)), (z_sheet, .inl (cy 1, 160, .inr (.inl v_sheetc)))] := hD
  refine lv_if_eq (tgt := 13) hx hb dX10_send_4 (by decide) (fun c_3 => ?_) (fun c_3 => ?_)
  · have h := gx_t c_3 h
    refine lv_aload_n hx hb dX10_send_13 rfl (lv_at hl 0 rfl) ?_
    refine lv_lload_n hx hb dX10_send_14 rfl (lv_at hl 2 rfl) ?_
    obtain ⟨r_4, hc_5, h⟩ := gx_b h
    refine gCalli (wr := [(z_sheetSize, .inl (cy 0, 4, .inl v_sheetSizec)), (z_frozen, .inl (cy 0, 32, .inl v_frozenc)), (z_sheet, .inl (cy 1, 160, .inr (.inl v_sheetc)))]) (va_runV (As := [.long x2]) (rest := []) ⟨hx, hb, hml, hown, hts⟩ (c_X10_isMessage l D cy t H.size K z z_isGood z_frozen z_sheetSize z_sheetLane z_sheet z_hands z_seen z_work z_known z_next z_counts z_acrosses z_failings z_given v_fault v_size v_upper v_base v_wide v_mask v_paths v_come v_isCounted v_basis v_trace v_isGoodc x2 r_4 hc_5) (cwV 1 hts gX10_send_X10_isMessage rfl rfl rfl (by decide +kernel) ⟨Nat.le_of_ble_eq_true rfl, Nat.le_of_ble_eq_true rfl⟩) ⟨gBlind, va_recv hK hP (ci := 9) (q0 := 0) rfl rfl, fun U hU hW => ⟨rfl, gPre.call hK hG hA hP hD hS [0, 1] (by decide) rfl U hU hW⟩⟩ rfl rfl hl.1 rfl (lv_room (Nat.le_of_ble_eq_true rfl)) dX10_send_15 ⟨Nat.le_of_ble_eq_true rfl, Nat.le_of_ble_eq_true rfl⟩) hA hP hD hS [0, 1] [2, 3, 4] rfl rfl (by decide) (by decide) (fun H locs hP hD hS => ?_)
    have hP := hP.sub (ws' := [(z, .inr (9, [.int v_fault, .int v_size, .int v_upper, .int v_base, .ref z_isGood, .ref z_frozen, .ref z_sheetSize, .ref z_sheetLane, .ref z_sheet, .ref z_hands, .int v_wide, .long v_mask, .int v_paths, .ref z_seen, .ref z_work, .ref z_known, .ref z_next, .int v_come, .int v_isCounted, .ref z_counts, .ref z_acrosses, .ref z_failings, .int v_basis, .ref z_given, .int v_trace])), (z_isGood, .inl (cy 2, 32, .inl v_isGoodc)), (z_sheetSize, .inl (cy 0, 4, .inl v_sheetSizec)), (z_frozen, .inl (cy 0, 32, .inl v_frozenc)), (z_sheet, .inl (cy 1, 160, .inr (.inl v_sheetc)))]) [3, 4, 0, 1, 2] rfl
    have hD := hD.sub (ws' := [(z, .inr (9, [.int v_fault, .int v_size, .int v_upper, .int v_base, .ref z_isGood, .ref z_frozen, .ref z_sheetSize, .ref z_sheetLane, .ref z_sheet, .ref z_hands, .int v_wide, .long v_mask, .int v_paths, .ref z_seen, .ref z_work, .ref z_known, .ref z_next, .int v_come, .int v_isCounted, .ref z_counts, .ref z_acrosses, .ref z_failings, .int v_basis, .ref z_given, .int v_trace])), (z_isGood, .inl (cy 2, 32, .inl v_isGoodc)), (z_sheetSize, .inl (cy 0, 4, .inl v_sheetSizec)), (z_frozen, .inl (cy 0, 32, .inl v_frozenc)), (z_sheet, .inl (cy 1, 160, .inr (.inl v_sheetc)))]) [3, 4, 0, 1, 2] (by decide) rfl
    refine lv_if_eq (tgt := 47) hx hb dX10_send_18 (by decide) (fun c_6 => ?_) (fun c_6 => ?_)
    · have h := gx_t c_6 h
      refine lv_aload_n hx hb dX10_send_47 rfl (lv_at hl 0 rfl) ?_
      refine lv_bipush (v := (-2)) hx hb dX10_send_48 (by decide) ?_
      obtain ⟨⟨r_7, o_8⟩, hc_9, h⟩ := gx_b h
      refine gCalli (wr := [(z_isGood, .inl (cy 2, 32, .inl v_isGoodc)), (z_sheetSize, .inl (cy 0, 4, .inl v_sheetSizec)), (z_frozen, .inl (cy 0, 32, .inl v_frozenc)), (z_sheet, .inl (cy 1, 160, .inr (.inl v_sheetc)))]) (va_runV (As := [.int (-2)]) (rest := []) ⟨hx, hb, hml, hown, hts⟩ (c_X10_refused l D cy t H.size K z z_isGood z_frozen z_sheetSize z_sheetLane z_sheet z_hands z_seen z_work z_known z_next z_counts z_acrosses z_failings z_given v_fault v_size v_upper v_base v_wide v_mask v_paths v_come v_isCounted v_basis v_trace (-2) r_7 o_8 hc_9) (cwV 1 hts gX10_send_X10_refused rfl rfl rfl (by decide +kernel) ⟨Nat.le_of_ble_eq_true rfl, Nat.le_of_ble_eq_true rfl⟩) ⟨gBlind, va_recv hK hP (ci := 9) (q0 := 0) rfl rfl, fun U hU hW => ⟨rfl, gPre.call hK hG hA hP hD hS [0] (by decide) rfl U hU hW⟩⟩ rfl rfl hl.1 rfl (lv_room (Nat.le_of_ble_eq_true rfl)) dX10_send_50 ⟨Nat.le_of_ble_eq_true rfl, Nat.le_of_ble_eq_true rfl⟩) hA hP hD hS [0] [1, 2, 3, 4] rfl rfl (by decide) (by decide) (fun H locs hP hD hS => ?_)
      have hP := hP.sub (ws' := [(z, .inr (9, [.int o_8, .int v_size, .int v_upper, .int v_base, .ref z_isGood, .ref z_frozen, .ref z_sheetSize, .ref z_sheetLane, .ref z_sheet, .ref z_hands, .int v_wide, .long v_mask, .int v_paths, .ref z_seen, .ref z_work, .ref z_known, .ref z_next, .int v_come, .int v_isCounted, .ref z_counts, .ref z_acrosses, .ref z_failings, .int v_basis, .ref z_given, .int v_trace])), (z_isGood, .inl (cy 2, 32, .inl v_isGoodc)), (z_sheetSize, .inl (cy 0, 4, .inl v_sheetSizec)), (z_frozen, .inl (cy 0, 32, .inl v_frozenc)), (z_sheet, .inl (cy 1, 160, .inr (.inl v_sheetc)))]) [4, 0, 1, 2, 3] rfl
      have hD := hD.sub (ws' := [(z, .inr (9, [.int o_8, .int v_size, .int v_upper, .int v_base, .ref z_isGood, .ref z_frozen, .ref z_sheetSize, .ref z_sheetLane, .ref z_sheet, .ref z_hands, .int v_wide, .long v_mask, .int v_paths, .ref z_seen, .ref z_work, .ref z_known, .ref z_next, .int v_come, .int v_isCounted, .ref z_counts, .ref z_acrosses, .ref z_failings, .int v_basis, .ref z_given, .int v_trace])), (z_isGood, .inl (cy 2, 32, .inl v_isGoodc)), (z_sheetSize, .inl (cy 0, 4, .inl v_sheetSizec)), (z_frozen, .inl (cy 0, 32, .inl v_frozenc)), (z_sheet, .inl (cy 1, 160, .inr (.inl v_sheetc)))]) [4, 0, 1, 2, 3] (by decide) rfl
      cases h
      exact gRi hx hb hr hlocks hP hD hS dX10_send_53
    · have h := gx_f c_6 h
      refine lv_lload hx hb dX10_send_21 (lv_at hl 3 rfl) ?_
      refine lv_lconst (v := 0) hx hb dX10_send_23 (by decide) ?_
      refine lv_aload_n hx hb dX10_send_24 rfl (lv_at hl 0 rfl) ?_
      obtain ⟨r_10, hc_11, h⟩ := gx_b h
      refine gCalll (wr := [(z_isGood, .inl (cy 2, 32, .inl v_isGoodc)), (z_sheetSize, .inl (cy 0, 4, .inl v_sheetSizec)), (z_frozen, .inl (cy 0, 32, .inl v_frozenc)), (z_sheet, .inl (cy 1, 160, .inr (.inl v_sheetc)))]) (va_runV (As := []) (rest := [.long 0, .long x3]) ⟨hx, hb, hml, hown, hts⟩ (c_X10_all l D cy t H.size K z z_isGood z_frozen z_sheetSize z_sheetLane z_sheet z_hands z_seen z_work z_known z_next z_counts z_acrosses z_failings z_given v_fault v_size v_upper v_base v_wide v_mask v_paths v_come v_isCounted v_basis v_trace r_10 hc_11) (cwV 0 hts gX10_send_X10_all rfl rfl rfl (by decide +kernel) ⟨Nat.le_of_ble_eq_true rfl, Nat.le_of_ble_eq_true rfl⟩) ⟨gBlind, va_recv hK hP (ci := 9) (q0 := 0) rfl rfl, fun U hU hW => ⟨rfl, gPre.call hK hG hA hP hD hS [0] (by decide) rfl U hU hW⟩⟩ rfl rfl hl.1 rfl (lv_room (Nat.le_of_ble_eq_true rfl)) dX10_send_25 ⟨Nat.le_of_ble_eq_true rfl, Nat.le_of_ble_eq_true rfl⟩) hA hP hD hS [0] [1, 2, 3, 4] rfl rfl (by decide) (by decide) (fun H locs hP hD hS => ?_)
      have hP := hP.sub (ws' := [(z, .inr (9, [.int v_fault, .int v_size, .int v_upper, .int v_base, .ref z_isGood, .ref z_frozen, .ref z_sheetSize, .ref z_sheetLane, .ref z_sheet, .ref z_hands, .int v_wide, .long v_mask, .int v_paths, .ref z_seen, .ref z_work, .ref z_known, .ref z_next, .int v_come, .int v_isCounted, .ref z_counts, .ref z_acrosses, .ref z_failings, .int v_basis, .ref z_given, .int v_trace])), (z_isGood, .inl (cy 2, 32, .inl v_isGoodc)), (z_sheetSize, .inl (cy 0, 4, .inl v_sheetSizec)), (z_frozen, .inl (cy 0, 32, .inl v_frozenc)), (z_sheet, .inl (cy 1, 160, .inr (.inl v_sheetc)))]) [4, 0, 1, 2, 3] rfl
      have hD := hD.sub (ws' := [(z, .inr (9, [.int v_fault, .int v_size, .int v_upper, .int v_base, .ref z_isGood, .ref z_frozen, .ref z_sheetSize, .ref z_sheetLane, .ref z_sheet, .ref z_hands, .int v_wide, .long v_mask, .int v_paths, .ref z_seen, .ref z_work, .ref z_known, .ref z_next, .int v_come, .int v_isCounted, .ref z_counts, .ref z_acrosses, .ref z_failings, .int v_basis, .ref z_given, .int v_trace])), (z_isGood, .inl (cy 2, 32, .inl v_isGoodc)), (z_sheetSize, .inl (cy 0, 4, .inl v_sheetSizec)), (z_frozen, .inl (cy 0, 32, .inl v_frozenc)), (z_sheet, .inl (cy 1, 160, .inr (.inl v_sheetc)))]) [4, 0, 1, 2, 3] (by decide) rfl
      obtain ⟨r_12, hc_13, h⟩ := gx_b h
      refine gCalli (wr := [(z, .inr (9, [.int v_fault, .int v_size, .int v_upper, .int v_base, .ref z_isGood, .ref z_frozen, .ref z_sheetSize, .ref z_sheetLane, .ref z_sheet, .ref z_hands, .int v_wide, .long v_mask, .int v_paths, .ref z_seen, .ref z_work, .ref z_known, .ref z_next, .int v_come, .int v_isCounted, .ref z_counts, .ref z_acrosses, .ref z_failings, .int v_basis, .ref z_given, .int v_trace])), (z_isGood, .inl (cy 2, 32, .inl v_isGoodc)), (z_sheetSize, .inl (cy 0, 4, .inl v_sheetSizec)), (z_frozen, .inl (cy 0, 32, .inl v_frozenc)), (z_sheet, .inl (cy 1, 160, .inr (.inl v_sheetc)))]) (va_runS (As := [.long x3, .long 0, .long r_10]) (rest := []) ⟨hx, hb, hml, hown, hts⟩ (c_X10_in l D cy t H.size K x3 0 r_10 r_12 hc_13) (va_cwS 3 hts gX10_send_X10_in rfl rfl rfl (by decide +kernel) ⟨Nat.le_of_ble_eq_true rfl, Nat.le_of_ble_eq_true rfl⟩) ⟨gBlind, fun U hU hW => ⟨rfl, gPre.call hK hG hA hP hD hS [] (by decide) rfl U hU hW⟩⟩ rfl rfl hl.1 rfl (lv_room (Nat.le_of_ble_eq_true rfl)) dX10_send_28 ⟨Nat.le_of_ble_eq_true rfl, Nat.le_of_ble_eq_true rfl⟩) hA hP hD hS [] [0, 1, 2, 3, 4] rfl rfl (by decide) (by decide) (fun H locs hP hD hS => ?_)
      have hP : va_P D vwCl [(z, .inr (9, [.int v_fault, .int v_size, .int v_upper, .int v_base, .ref z_isGood, .ref z_frozen, .ref z_sheetSize, .ref z_sheetLane, .ref z_sheet, .ref z_hands, .int v_wide, .long v_mask, .int v_paths, .ref z_seen, .ref z_work, .ref z_known, .ref z_next, .int v_come, .int v_isCounted, .ref z_counts, .ref z_acrosses, .ref z_failings, .int v_basis, .ref z_given, .int v_trace])), (z_isGood, .inl (cy 2, 32, .inl v_isGoodc)), (z_sheetSize, .inl (cy 0, 4, .inl v_sheetSizec)), (z_frozen, .inl (cy 0, 32, .inl v_frozenc)), (z_sheet, .inl (cy 1, 160, .inr (.inl v_sheetc)))] H := hP
      have hD : va_D A [(z, .inr (9, [.int v_fault, .int v_size, .int v_upper, .int v_base, .ref z_isGood, .ref z_frozen, .ref z_sheetSize, .ref z_sheetLane, .ref z_sheet, .ref z_hands, .int v_wide, .long v_mask, .int v_paths, .ref z_seen, .ref z_work, .ref z_known, .ref z_next, .int v_come, .int v_isCounted, .ref z_counts, .ref z_acrosses, .ref z_failings, .int v_basis, .ref z_given, .int v_trace])), (z_isGood, .inl (cy 2, 32, .inl v_isGoodc)), (z_sheetSize, .inl (cy 0, 4, .inl v_sheetSizec)), (z_frozen, .inl (cy 0, 32, .inl v_frozenc)), (z_sheet, .inl (cy 1, 160, .inr (.inl v_sheetc)))] := hD
      refine lv_if_eq (tgt := 47) hx hb dX10_send_31 (by decide) (fun c_14 => ?_) (fun c_14 => ?_)
      · have h := gx_t c_14 h
        refine lv_aload_n hx hb dX10_send_47 rfl (lv_at hl 0 rfl) ?_
        refine lv_bipush (v := (-2)) hx hb dX10_send_48 (by decide) ?_
        obtain ⟨⟨r_15, o_16⟩, hc_17, h⟩ := gx_b h
        refine gCalli (wr := [(z_isGood, .inl (cy 2, 32, .inl v_isGoodc)), (z_sheetSize, .inl (cy 0, 4, .inl v_sheetSizec)), (z_frozen, .inl (cy 0, 32, .inl v_frozenc)), (z_sheet, .inl (cy 1, 160, .inr (.inl v_sheetc)))]) (va_runV (As := [.int (-2)]) (rest := []) ⟨hx, hb, hml, hown, hts⟩ (c_X10_refused l D cy t H.size K z z_isGood z_frozen z_sheetSize z_sheetLane z_sheet z_hands z_seen z_work z_known z_next z_counts z_acrosses z_failings z_given v_fault v_size v_upper v_base v_wide v_mask v_paths v_come v_isCounted v_basis v_trace (-2) r_15 o_16 hc_17) (cwV 1 hts gX10_send_X10_refused rfl rfl rfl (by decide +kernel) ⟨Nat.le_of_ble_eq_true rfl, Nat.le_of_ble_eq_true rfl⟩) ⟨gBlind, va_recv hK hP (ci := 9) (q0 := 0) rfl rfl, fun U hU hW => ⟨rfl, gPre.call hK hG hA hP hD hS [0] (by decide) rfl U hU hW⟩⟩ rfl rfl hl.1 rfl (lv_room (Nat.le_of_ble_eq_true rfl)) dX10_send_50 ⟨Nat.le_of_ble_eq_true rfl, Nat.le_of_ble_eq_true rfl⟩) hA hP hD hS [0] [1, 2, 3, 4] rfl rfl (by decide) (by decide) (fun H locs hP hD hS => ?_)
        have hP := hP.sub (ws' := [(z, .inr (9, [.int o_16, .int v_size, .int v_upper, .int v_base, .ref z_isGood, .ref z_frozen, .ref z_sheetSize, .ref z_sheetLane, .ref z_sheet, .ref z_hands, .int v_wide, .long v_mask, .int v_paths, .ref z_seen, .ref z_work, .ref z_known, .ref z_next, .int v_come, .int v_isCounted, .ref z_counts, .ref z_acrosses, .ref z_failings, .int v_basis, .ref z_given, .int v_trace])), (z_isGood, .inl (cy 2, 32, .inl v_isGoodc)), (z_sheetSize, .inl (cy 0, 4, .inl v_sheetSizec)), (z_frozen, .inl (cy 0, 32, .inl v_frozenc)), (z_sheet, .inl (cy 1, 160, .inr (.inl v_sheetc)))]) [4, 0, 1, 2, 3] rfl
        have hD := hD.sub (ws' := [(z, .inr (9, [.int o_16, .int v_size, .int v_upper, .int v_base, .ref z_isGood, .ref z_frozen, .ref z_sheetSize, .ref z_sheetLane, .ref z_sheet, .ref z_hands, .int v_wide, .long v_mask, .int v_paths, .ref z_seen, .ref z_work, .ref z_known, .ref z_next, .int v_come, .int v_isCounted, .ref z_counts, .ref z_acrosses, .ref z_failings, .int v_basis, .ref z_given, .int v_trace])), (z_isGood, .inl (cy 2, 32, .inl v_isGoodc)), (z_sheetSize, .inl (cy 0, 4, .inl v_sheetSizec)), (z_frozen, .inl (cy 0, 32, .inl v_frozenc)), (z_sheet, .inl (cy 1, 160, .inr (.inl v_sheetc)))]) [4, 0, 1, 2, 3] (by decide) rfl
        cases h
        exact gRi hx hb hr hlocks hP hD hS dX10_send_53
      · have h := gx_f c_14 h
        refine lv_lload hx hb dX10_send_34 (lv_at hl 4 rfl) ?_
        refine lv_lconst (v := 0) hx hb dX10_send_36 (by decide) ?_
        refine lv_aload_n hx hb dX10_send_37 rfl (lv_at hl 0 rfl) ?_
        obtain ⟨r_18, hc_19, h⟩ := gx_b h
        refine gCalll (wr := [(z_isGood, .inl (cy 2, 32, .inl v_isGoodc)), (z_sheetSize, .inl (cy 0, 4, .inl v_sheetSizec)), (z_frozen, .inl (cy 0, 32, .inl v_frozenc)), (z_sheet, .inl (cy 1, 160, .inr (.inl v_sheetc)))]) (va_runV (As := []) (rest := [.long 0, .long x4]) ⟨hx, hb, hml, hown, hts⟩ (c_X10_all l D cy t H.size K z z_isGood z_frozen z_sheetSize z_sheetLane z_sheet z_hands z_seen z_work z_known z_next z_counts z_acrosses z_failings z_given v_fault v_size v_upper v_base v_wide v_mask v_paths v_come v_isCounted v_basis v_trace r_18 hc_19) (cwV 0 hts gX10_send_X10_all rfl rfl rfl (by decide +kernel) ⟨Nat.le_of_ble_eq_true rfl, Nat.le_of_ble_eq_true rfl⟩) ⟨gBlind, va_recv hK hP (ci := 9) (q0 := 0) rfl rfl, fun U hU hW => ⟨rfl, gPre.call hK hG hA hP hD hS [0] (by decide) rfl U hU hW⟩⟩ rfl rfl hl.1 rfl (lv_room (Nat.le_of_ble_eq_true rfl)) dX10_send_38 ⟨Nat.le_of_ble_eq_true rfl, Nat.le_of_ble_eq_true rfl⟩) hA hP hD hS [0] [1, 2, 3, 4] rfl rfl (by decide) (by decide) (fun H locs hP hD hS => ?_)
        have hP := hP.sub (ws' := [(z, .inr (9, [.int v_fault, .int v_size, .int v_upper, .int v_base, .ref z_isGood, .ref z_frozen, .ref z_sheetSize, .ref z_sheetLane, .ref z_sheet, .ref z_hands, .int v_wide, .long v_mask, .int v_paths, .ref z_seen, .ref z_work, .ref z_known, .ref z_next, .int v_come, .int v_isCounted, .ref z_counts, .ref z_acrosses, .ref z_failings, .int v_basis, .ref z_given, .int v_trace])), (z_isGood, .inl (cy 2, 32, .inl v_isGoodc)), (z_sheetSize, .inl (cy 0, 4, .inl v_sheetSizec)), (z_frozen, .inl (cy 0, 32, .inl v_frozenc)), (z_sheet, .inl (cy 1, 160, .inr (.inl v_sheetc)))]) [4, 0, 1, 2, 3] rfl
        have hD := hD.sub (ws' := [(z, .inr (9, [.int v_fault, .int v_size, .int v_upper, .int v_base, .ref z_isGood, .ref z_frozen, .ref z_sheetSize, .ref z_sheetLane, .ref z_sheet, .ref z_hands, .int v_wide, .long v_mask, .int v_paths, .ref z_seen, .ref z_work, .ref z_known, .ref z_next, .int v_come, .int v_isCounted, .ref z_counts, .ref z_acrosses, .ref z_failings, .int v_basis, .ref z_given, .int v_trace])), (z_isGood, .inl (cy 2, 32, .inl v_isGoodc)), (z_sheetSize, .inl (cy 0, 4, .inl v_sheetSizec)), (z_frozen, .inl (cy 0, 32, .inl v_frozenc)), (z_sheet, .inl (cy 1, 160, .inr (.inl v_sheetc)))]) [4, 0, 1, 2, 3] (by decide) rfl
        obtain ⟨r_20, hc_21, h⟩ := gx_b h
        refine gCalli (wr := [(z, .inr (9, [.int v_fault, .int v_size, .int v_upper, .int v_base, .ref z_isGood, .ref z_frozen, .ref z_sheetSize, .ref z_sheetLane, .ref z_sheet, .ref z_hands, .int v_wide, .long v_mask, .int v_paths, .ref z_seen, .ref z_work, .ref z_known, .ref z_next, .int v_come, .int v_isCounted, .ref z_counts, .ref z_acrosses, .ref z_failings, .int v_basis, .ref z_given, .int v_trace])), (z_isGood, .inl (cy 2, 32, .inl v_isGoodc)), (z_sheetSize, .inl (cy 0, 4, .inl v_sheetSizec)), (z_frozen, .inl (cy 0, 32, .inl v_frozenc)), (z_sheet, .inl (cy 1, 160, .inr (.inl v_sheetc)))]) (va_runS (As := [.long x4, .long 0, .long r_18]) (rest := []) ⟨hx, hb, hml, hown, hts⟩ (c_X10_in l D cy t H.size K x4 0 r_18 r_20 hc_21) (va_cwS 3 hts gX10_send_X10_in rfl rfl rfl (by decide +kernel) ⟨Nat.le_of_ble_eq_true rfl, Nat.le_of_ble_eq_true rfl⟩) ⟨gBlind, fun U hU hW => ⟨rfl, gPre.call hK hG hA hP hD hS [] (by decide) rfl U hU hW⟩⟩ rfl rfl hl.1 rfl (lv_room (Nat.le_of_ble_eq_true rfl)) dX10_send_41 ⟨Nat.le_of_ble_eq_true rfl, Nat.le_of_ble_eq_true rfl⟩) hA hP hD hS [] [0, 1, 2, 3, 4] rfl rfl (by decide) (by decide) (fun H locs hP hD hS => ?_)
        have hP : va_P D vwCl [(z, .inr (9, [.int v_fault, .int v_size, .int v_upper, .int v_base, .ref z_isGood, .ref z_frozen, .ref z_sheetSize, .ref z_sheetLane, .ref z_sheet, .ref z_hands, .int v_wide, .long v_mask, .int v_paths, .ref z_seen, .ref z_work, .ref z_known, .ref z_next, .int v_come, .int v_isCounted, .ref z_counts, .ref z_acrosses, .ref z_failings, .int v_basis, .ref z_given, .int v_trace])), (z_isGood, .inl (cy 2, 32, .inl v_isGoodc)), (z_sheetSize, .inl (cy 0, 4, .inl v_sheetSizec)), (z_frozen, .inl (cy 0, 32, .inl v_frozenc)), (z_sheet, .inl (cy 1, 160, .inr (.inl v_sheetc)))] H := hP
        have hD : va_D A [(z, .inr (9, [.int v_fault, .int v_size, .int v_upper, .int v_base, .ref z_isGood, .ref z_frozen, .ref z_sheetSize, .ref z_sheetLane, .ref z_sheet, .ref z_hands, .int v_wide, .long v_mask, .int v_paths, .ref z_seen, .ref z_work, .ref z_known, .ref z_next, .int v_come, .int v_isCounted, .ref z_counts, .ref z_acrosses, .ref z_failings, .int v_basis, .ref z_given, .int v_trace])), (z_isGood, .inl (cy 2, 32, .inl v_isGoodc)), (z_sheetSize, .inl (cy 0, 4, .inl v_sheetSizec)), (z_frozen, .inl (cy 0, 32, .inl v_frozenc)), (z_sheet, .inl (cy 1, 160, .inr (.inl v_sheetc)))] := hD
        refine lv_if_ne (tgt := 54) hx hb dX10_send_44 (by decide) (fun c_22 => ?_) (fun c_22 => ?_)
        · have h := gx_f c_22 h
          refine lv_aload_n hx hb dX10_send_54 rfl (lv_at hl 0 rfl) ?_
          refine va_get (D := D) (ci := 9) (v := .ref z_sheetSize) (C := RX10) (T := TX10) (N := 25) hx hb hts iX10 hown hK hP 0 rfl rfl 6 (by decide) f17 (fun _ h9 => h9) rfl dX10_send_55 ?_
          refine lv_iload_n hx hb dX10_send_58 rfl (lv_at hl 1 rfl) ?_
          obtain ⟨hi_, h⟩ := gx_ix h
          refine va_iald hx hb hK hP 2 0 rfl rfl hi_ dX10_send_59 ?_
          refine lv_if_ge (tgt := 69) hx hb dX10_send_60 (by decide) (fun c_23 => ?_) (fun c_23 => ?_)
          · have h := gx_t c_23 h
            refine lv_aload_n hx hb dX10_send_69 rfl (lv_at hl 0 rfl) ?_
            refine va_get (D := D) (ci := 9) (v := .ref z_sheetSize) (C := RX10) (T := TX10) (N := 25) hx hb hts iX10 hown hK hP 0 rfl rfl 6 (by decide) f17 (fun _ h9 => h9) rfl dX10_send_70 ?_
            refine lv_iload_n hx hb dX10_send_73 rfl (lv_at hl 1 rfl) ?_
            obtain ⟨hi_, h⟩ := gx_ix h
            refine va_iald hx hb hK hP 2 0 rfl rfl hi_ dX10_send_74 ?_
            refine lv_aload_n hx hb dX10_send_75 rfl (lv_at hl 0 rfl) ?_
            refine va_get (D := D) (ci := 9) (v := .int v_size) (C := RX10) (T := TX10) (N := 25) hx hb hts iX10 hown hK hP 0 rfl rfl 1 (by decide) f54 (fun _ h9 => h9) rfl dX10_send_76 ?_
            refine lv_icmp_ge (tgt := 88) hx hb dX10_send_79 (by decide) (fun c_24 => ?_) (fun c_24 => ?_)
            · have h := gx_t c_24 h
              refine lv_aload_n hx hb dX10_send_88 rfl (lv_at hl 0 rfl) ?_
              refine lv_lload_n hx hb dX10_send_89 rfl (lv_at hl 2 rfl) ?_
              obtain ⟨r_25, hc_26, h⟩ := gx_b h
              refine gCalll (wr := [(z_sheetSize, .inl (cy 0, 4, .inl v_sheetSizec)), (z_sheet, .inl (cy 1, 160, .inr (.inl v_sheetc)))]) (va_runV (As := [.long x2]) (rest := []) ⟨hx, hb, hml, hown, hts⟩ (c_X10_rowOf l D cy t H.size K z z_isGood z_frozen z_sheetSize z_sheetLane z_sheet z_hands z_seen z_work z_known z_next z_counts z_acrosses z_failings z_given v_fault v_size v_upper v_base v_wide v_mask v_paths v_come v_isCounted v_basis v_trace v_isGoodc v_frozenc x2 r_25 hc_26) (cwV 1 hts gX10_send_X10_rowOf rfl rfl rfl (by decide +kernel) ⟨Nat.le_of_ble_eq_true rfl, Nat.le_of_ble_eq_true rfl⟩) ⟨gBlind, va_recv hK hP (ci := 9) (q0 := 0) rfl rfl, fun U hU hW => ⟨rfl, gPre.call hK hG hA hP hD hS [0, 1, 3] (by decide) rfl U hU hW⟩⟩ rfl rfl hl.1 rfl (lv_room (Nat.le_of_ble_eq_true rfl)) dX10_send_90 ⟨Nat.le_of_ble_eq_true rfl, Nat.le_of_ble_eq_true rfl⟩) hA hP hD hS [0, 1, 3] [2, 4] rfl rfl (by decide) (by decide) (fun H locs hP hD hS => ?_)
              have hP := hP.sub (ws' := [(z, .inr (9, [.int v_fault, .int v_size, .int v_upper, .int v_base, .ref z_isGood, .ref z_frozen, .ref z_sheetSize, .ref z_sheetLane, .ref z_sheet, .ref z_hands, .int v_wide, .long v_mask, .int v_paths, .ref z_seen, .ref z_work, .ref z_known, .ref z_next, .int v_come, .int v_isCounted, .ref z_counts, .ref z_acrosses, .ref z_failings, .int v_basis, .ref z_given, .int v_trace])), (z_isGood, .inl (cy 2, 32, .inl v_isGoodc)), (z_sheetSize, .inl (cy 0, 4, .inl v_sheetSizec)), (z_frozen, .inl (cy 0, 32, .inl v_frozenc)), (z_sheet, .inl (cy 1, 160, .inr (.inl v_sheetc)))]) [2, 3, 0, 4, 1] rfl
              have hD := hD.sub (ws' := [(z, .inr (9, [.int v_fault, .int v_size, .int v_upper, .int v_base, .ref z_isGood, .ref z_frozen, .ref z_sheetSize, .ref z_sheetLane, .ref z_sheet, .ref z_hands, .int v_wide, .long v_mask, .int v_paths, .ref z_seen, .ref z_work, .ref z_known, .ref z_next, .int v_come, .int v_isCounted, .ref z_counts, .ref z_acrosses, .ref z_failings, .int v_basis, .ref z_given, .int v_trace])), (z_isGood, .inl (cy 2, 32, .inl v_isGoodc)), (z_sheetSize, .inl (cy 0, 4, .inl v_sheetSizec)), (z_frozen, .inl (cy 0, 32, .inl v_frozenc)), (z_sheet, .inl (cy 1, 160, .inr (.inl v_sheetc)))]) [2, 3, 0, 4, 1] (by decide) rfl
              refine lv_aload_n hx hb dX10_send_93 rfl (lv_at hl 0 rfl) ?_
              refine va_get (D := D) (ci := 9) (v := .int v_size) (C := RX10) (T := TX10) (N := 25) hx hb hts iX10 hown hK hP 0 rfl rfl 1 (by decide) f54 (fun _ h9 => h9) rfl dX10_send_94 ?_
              obtain ⟨r_27, hc_28, h⟩ := gx_b h
              refine gCalll (wr := [(z, .inr (9, [.int v_fault, .int v_size, .int v_upper, .int v_base, .ref z_isGood, .ref z_frozen, .ref z_sheetSize, .ref z_sheetLane, .ref z_sheet, .ref z_hands, .int v_wide, .long v_mask, .int v_paths, .ref z_seen, .ref z_work, .ref z_known, .ref z_next, .int v_come, .int v_isCounted, .ref z_counts, .ref z_acrosses, .ref z_failings, .int v_basis, .ref z_given, .int v_trace])), (z_isGood, .inl (cy 2, 32, .inl v_isGoodc)), (z_sheetSize, .inl (cy 0, 4, .inl v_sheetSizec)), (z_frozen, .inl (cy 0, 32, .inl v_frozenc)), (z_sheet, .inl (cy 1, 160, .inr (.inl v_sheetc)))]) (va_runS (As := [.long r_25, .int v_size]) (rest := []) ⟨hx, hb, hml, hown, hts⟩ (c_X10_folded l D cy t H.size K r_25 v_size r_27 hc_28) (va_cwS 2 hts gX10_send_X10_folded rfl rfl rfl (by decide +kernel) ⟨Nat.le_of_ble_eq_true rfl, Nat.le_of_ble_eq_true rfl⟩) ⟨gBlind, fun U hU hW => ⟨rfl, gPre.call hK hG hA hP hD hS [] (by decide) rfl U hU hW⟩⟩ rfl rfl hl.1 rfl (lv_room (Nat.le_of_ble_eq_true rfl)) dX10_send_97 ⟨Nat.le_of_ble_eq_true rfl, Nat.le_of_ble_eq_true rfl⟩) hA hP hD hS [] [0, 1, 2, 3, 4] rfl rfl (by decide) (by decide) (fun H locs hP hD hS => ?_)
              have hP : va_P D vwCl [(z, .inr (9, [.int v_fault, .int v_size, .int v_upper, .int v_base, .ref z_isGood, .ref z_frozen, .ref z_sheetSize, .ref z_sheetLane, .ref z_sheet, .ref z_hands, .int v_wide, .long v_mask, .int v_paths, .ref z_seen, .ref z_work, .ref z_known, .ref z_next, .int v_come, .int v_isCounted, .ref z_counts, .ref z_acrosses, .ref z_failings, .int v_basis, .ref z_given, .int v_trace])), (z_isGood, .inl (cy 2, 32, .inl v_isGoodc)), (z_sheetSize, .inl (cy 0, 4, .inl v_sheetSizec)), (z_frozen, .inl (cy 0, 32, .inl v_frozenc)), (z_sheet, .inl (cy 1, 160, .inr (.inl v_sheetc)))] H := hP
              have hD : va_D A [(z, .inr (9, [.int v_fault, .int v_size, .int v_upper, .int v_base, .ref z_isGood, .ref z_frozen, .ref z_sheetSize, .ref z_sheetLane, .ref z_sheet, .ref z_hands, .int v_wide, .long v_mask, .int v_paths, .ref z_seen, .ref z_work, .ref z_known, .ref z_next, .int v_come, .int v_isCounted, .ref z_counts, .ref z_acrosses, .ref z_failings, .int v_basis, .ref z_given, .int v_trace])), (z_isGood, .inl (cy 2, 32, .inl v_isGoodc)), (z_sheetSize, .inl (cy 0, 4, .inl v_sheetSizec)), (z_frozen, .inl (cy 0, 32, .inl v_frozenc)), (z_sheet, .inl (cy 1, 160, .inr (.inl v_sheetc)))] := hD
              refine lv_lload hx hb dX10_send_100 (lv_at hl 4 rfl) ?_
              refine lv_lxor hx hb dX10_send_102 ?_
              refine lv_topl (fun y8_29 e_y8_29 => ?_)
              have h := gx_let e_y8_29 h
              refine lv_lstore (lv' := [(8, .long y8_29), (0, .ref z), (1, .int x1), (2, .long x2), (4, .long x3), (6, .long x4)]) hx hb dX10_send_103 hl (by decide) rfl (fun ls hl => ?_)
              refine lv_iconst (v := 0) hx hb dX10_send_105 (by decide) ?_
              refine lv_istore (lv' := [(10, .int 0), (8, .long y8_29), (0, .ref z), (1, .int x1), (2, .long x2), (4, .long x3), (6, .long x4)]) hx hb dX10_send_106 hl (by decide) rfl (fun ls hl => ?_)
              obtain ⟨⟨o_30, o_31⟩, hL_32, h⟩ := gx_b h
              refine gJoin (Pj := fun H locs ls => va_P D vwCl [(z, .inr (9, [.int v_fault, .int v_size, .int v_upper, .int v_base, .ref z_isGood, .ref z_frozen, .ref z_sheetSize, .ref z_sheetLane, .ref z_sheet, .ref z_hands, .int v_wide, .long v_mask, .int v_paths, .ref z_seen, .ref z_work, .ref z_known, .ref z_next, .int v_come, .int v_isCounted, .ref z_counts, .ref z_acrosses, .ref z_failings, .int v_basis, .ref z_given, .int v_trace])), (z_isGood, .inl (cy 2, 32, .inl v_isGoodc)), (z_sheetSize, .inl (cy 0, 4, .inl v_sheetSizec)), (z_frozen, .inl (cy 0, 32, .inl v_frozenc)), (z_sheet, .inl (cy 1, 160, .inr (.inl o_31)))] H ∧ va_D A [(z, .inr (9, [.int v_fault, .int v_size, .int v_upper, .int v_base, .ref z_isGood, .ref z_frozen, .ref z_sheetSize, .ref z_sheetLane, .ref z_sheet, .ref z_hands, .int v_wide, .long v_mask, .int v_paths, .ref z_seen, .ref z_work, .ref z_known, .ref z_next, .int v_come, .int v_isCounted, .ref z_counts, .ref z_acrosses, .ref z_failings, .int v_basis, .ref z_given, .int v_trace])), (z_isGood, .inl (cy 2, 32, .inl v_isGoodc)), (z_sheetSize, .inl (cy 0, 4, .inl v_sheetSizec)), (z_frozen, .inl (cy 0, 32, .inl v_frozenc)), (z_sheet, .inl (cy 1, 160, .inr (.inl o_31)))] ∧ va_S A s.heap H locs ∧ lv_has ls 11 [(10, .int o_30), (8, .long y8_29), (0, .ref z), (1, .int x1), (2, .long x2), (4, .long x3), (6, .long x4)]) (pcM := 160) (st := []) ?_ (fun hJ160 => ?_)
              · intro H locs ls hp_
                obtain ⟨hP, hD, hS, hl⟩ := hp_
                clear hL_32
                refine lv_aload_n hx hb dX10_send_160 rfl (lv_at hl 2 rfl) ?_
                refine lv_lload hx hb dX10_send_161 (lv_at hl 5 rfl) ?_
                refine lv_lload hx hb dX10_send_163 (lv_at hl 6 rfl) ?_
                refine lv_lor hx hb dX10_send_165 ?_
                obtain ⟨r_33, hc_34, h⟩ := gx_b h
                refine gCalli (wr := [(z, .inr (9, [.int v_fault, .int v_size, .int v_upper, .int v_base, .ref z_isGood, .ref z_frozen, .ref z_sheetSize, .ref z_sheetLane, .ref z_sheet, .ref z_hands, .int v_wide, .long v_mask, .int v_paths, .ref z_seen, .ref z_work, .ref z_known, .ref z_next, .int v_come, .int v_isCounted, .ref z_counts, .ref z_acrosses, .ref z_failings, .int v_basis, .ref z_given, .int v_trace])), (z_isGood, .inl (cy 2, 32, .inl v_isGoodc)), (z_sheetSize, .inl (cy 0, 4, .inl v_sheetSizec)), (z_frozen, .inl (cy 0, 32, .inl v_frozenc)), (z_sheet, .inl (cy 1, 160, .inr (.inl o_31)))]) (va_runS (As := [.long (x3 ||| x4)]) (rest := [.ref z]) ⟨hx, hb, hml, hown, hts⟩ (c_X10_ones l D cy t H.size K (x3 ||| x4) r_33 hc_34) (va_cwS 1 hts gX10_send_X10_ones rfl rfl rfl (by decide +kernel) ⟨Nat.le_of_ble_eq_true rfl, Nat.le_of_ble_eq_true rfl⟩) ⟨gBlind, fun U hU hW => ⟨rfl, gPre.call hK hG hA hP hD hS [] (by decide) rfl U hU hW⟩⟩ rfl rfl hl.1 rfl (lv_room (Nat.le_of_ble_eq_true rfl)) dX10_send_166 ⟨Nat.le_of_ble_eq_true rfl, Nat.le_of_ble_eq_true rfl⟩) hA hP hD hS [] [0, 1, 2, 3, 4] rfl rfl (by decide) (by decide) (fun H locs hP hD hS => ?_)
                have hP : va_P D vwCl [(z, .inr (9, [.int v_fault, .int v_size, .int v_upper, .int v_base, .ref z_isGood, .ref z_frozen, .ref z_sheetSize, .ref z_sheetLane, .ref z_sheet, .ref z_hands, .int v_wide, .long v_mask, .int v_paths, .ref z_seen, .ref z_work, .ref z_known, .ref z_next, .int v_come, .int v_isCounted, .ref z_counts, .ref z_acrosses, .ref z_failings, .int v_basis, .ref z_given, .int v_trace])), (z_isGood, .inl (cy 2, 32, .inl v_isGoodc)), (z_sheetSize, .inl (cy 0, 4, .inl v_sheetSizec)), (z_frozen, .inl (cy 0, 32, .inl v_frozenc)), (z_sheet, .inl (cy 1, 160, .inr (.inl o_31)))] H := hP
                have hD : va_D A [(z, .inr (9, [.int v_fault, .int v_size, .int v_upper, .int v_base, .ref z_isGood, .ref z_frozen, .ref z_sheetSize, .ref z_sheetLane, .ref z_sheet, .ref z_hands, .int v_wide, .long v_mask, .int v_paths, .ref z_seen, .ref z_work, .ref z_known, .ref z_next, .int v_come, .int v_isCounted, .ref z_counts, .ref z_acrosses, .ref z_failings, .int v_basis, .ref z_given, .int v_trace])), (z_isGood, .inl (cy 2, 32, .inl v_isGoodc)), (z_sheetSize, .inl (cy 0, 4, .inl v_sheetSizec)), (z_frozen, .inl (cy 0, 32, .inl v_frozenc)), (z_sheet, .inl (cy 1, 160, .inr (.inl o_31)))] := hD
                obtain ⟨⟨r_35, o_36⟩, hc_37, h⟩ := gx_b h
                refine gCalli (wr := [(z_isGood, .inl (cy 2, 32, .inl v_isGoodc)), (z_sheetSize, .inl (cy 0, 4, .inl v_sheetSizec)), (z_frozen, .inl (cy 0, 32, .inl v_frozenc)), (z_sheet, .inl (cy 1, 160, .inr (.inl o_31)))]) (va_runV (As := [.int r_33]) (rest := []) ⟨hx, hb, hml, hown, hts⟩ (c_X10_refused l D cy t H.size K z z_isGood z_frozen z_sheetSize z_sheetLane z_sheet z_hands z_seen z_work z_known z_next z_counts z_acrosses z_failings z_given v_fault v_size v_upper v_base v_wide v_mask v_paths v_come v_isCounted v_basis v_trace r_33 r_35 o_36 hc_37) (cwV 1 hts gX10_send_X10_refused rfl rfl rfl (by decide +kernel) ⟨Nat.le_of_ble_eq_true rfl, Nat.le_of_ble_eq_true rfl⟩) ⟨gBlind, va_recv hK hP (ci := 9) (q0 := 0) rfl rfl, fun U hU hW => ⟨rfl, gPre.call hK hG hA hP hD hS [0] (by decide) rfl U hU hW⟩⟩ rfl rfl hl.1 rfl (lv_room (Nat.le_of_ble_eq_true rfl)) dX10_send_169 ⟨Nat.le_of_ble_eq_true rfl, Nat.le_of_ble_eq_true rfl⟩) hA hP hD hS [0] [1, 2, 3, 4] rfl rfl (by decide) (by decide) (fun H locs hP hD hS => ?_)
                have hP := hP.sub (ws' := [(z, .inr (9, [.int o_36, .int v_size, .int v_upper, .int v_base, .ref z_isGood, .ref z_frozen, .ref z_sheetSize, .ref z_sheetLane, .ref z_sheet, .ref z_hands, .int v_wide, .long v_mask, .int v_paths, .ref z_seen, .ref z_work, .ref z_known, .ref z_next, .int v_come, .int v_isCounted, .ref z_counts, .ref z_acrosses, .ref z_failings, .int v_basis, .ref z_given, .int v_trace])), (z_isGood, .inl (cy 2, 32, .inl v_isGoodc)), (z_sheetSize, .inl (cy 0, 4, .inl v_sheetSizec)), (z_frozen, .inl (cy 0, 32, .inl v_frozenc)), (z_sheet, .inl (cy 1, 160, .inr (.inl o_31)))]) [4, 0, 1, 2, 3] rfl
                have hD := hD.sub (ws' := [(z, .inr (9, [.int o_36, .int v_size, .int v_upper, .int v_base, .ref z_isGood, .ref z_frozen, .ref z_sheetSize, .ref z_sheetLane, .ref z_sheet, .ref z_hands, .int v_wide, .long v_mask, .int v_paths, .ref z_seen, .ref z_work, .ref z_known, .ref z_next, .int v_come, .int v_isCounted, .ref z_counts, .ref z_acrosses, .ref z_failings, .int v_basis, .ref z_given, .int v_trace])), (z_isGood, .inl (cy 2, 32, .inl v_isGoodc)), (z_sheetSize, .inl (cy 0, 4, .inl v_sheetSizec)), (z_frozen, .inl (cy 0, 32, .inl v_frozenc)), (z_sheet, .inl (cy 1, 160, .inr (.inl o_31)))]) [4, 0, 1, 2, 3] (by decide) rfl
                cases h
                exact gRi hx hb hr hlocks hP hD hS dX10_send_172
              · refine gLoop (Hy := fun k_ v_ => fL_X10_send_108 K y8_29 x1 x3 v_size k_ v_ = some (o_30, o_31)) (Pl := fun (v_ : Int32 × (Nat → Int64)) H locs ls => match v_ with | (a_38, a_39) => va_P D vwCl [(z, .inr (9, [.int v_fault, .int v_size, .int v_upper, .int v_base, .ref z_isGood, .ref z_frozen, .ref z_sheetSize, .ref z_sheetLane, .ref z_sheet, .ref z_hands, .int v_wide, .long v_mask, .int v_paths, .ref z_seen, .ref z_work, .ref z_known, .ref z_next, .int v_come, .int v_isCounted, .ref z_counts, .ref z_acrosses, .ref z_failings, .int v_basis, .ref z_given, .int v_trace])), (z_isGood, .inl (cy 2, 32, .inl v_isGoodc)), (z_sheetSize, .inl (cy 0, 4, .inl v_sheetSizec)), (z_frozen, .inl (cy 0, 32, .inl v_frozenc)), (z_sheet, .inl (cy 1, 160, .inr (.inl a_39)))] H ∧ va_D A [(z, .inr (9, [.int v_fault, .int v_size, .int v_upper, .int v_base, .ref z_isGood, .ref z_frozen, .ref z_sheetSize, .ref z_sheetLane, .ref z_sheet, .ref z_hands, .int v_wide, .long v_mask, .int v_paths, .ref z_seen, .ref z_work, .ref z_known, .ref z_next, .int v_come, .int v_isCounted, .ref z_counts, .ref z_acrosses, .ref z_failings, .int v_basis, .ref z_given, .int v_trace])), (z_isGood, .inl (cy 2, 32, .inl v_isGoodc)), (z_sheetSize, .inl (cy 0, 4, .inl v_sheetSizec)), (z_frozen, .inl (cy 0, 32, .inl v_frozenc)), (z_sheet, .inl (cy 1, 160, .inr (.inl a_39)))] ∧ va_S A s.heap H locs ∧ lv_has ls 11 [(10, .int a_38), (8, .long y8_29), (0, .ref z), (1, .int x1), (2, .long x2), (4, .long x3), (6, .long x4)]) (pcH := 108) (fun _ q_ => by cases q_) ?_ K (0, v_sheetc) hL_32 ⟨hP, hD, hS, hl⟩
                clear hL_32 h hP hD hS hl
                intro k_ ih ⟨a_38, a_39⟩ H locs ls h hp_
                obtain ⟨hP, hD, hS, hl⟩ := hp_
                have hP : va_P D vwCl [(z, .inr (9, [.int v_fault, .int v_size, .int v_upper, .int v_base, .ref z_isGood, .ref z_frozen, .ref z_sheetSize, .ref z_sheetLane, .ref z_sheet, .ref z_hands, .int v_wide, .long v_mask, .int v_paths, .ref z_seen, .ref z_work, .ref z_known, .ref z_next, .int v_come, .int v_isCounted, .ref z_counts, .ref z_acrosses, .ref z_failings, .int v_basis, .ref z_given, .int v_trace])), (z_isGood, .inl (cy 2, 32, .inl v_isGoodc)), (z_sheetSize, .inl (cy 0, 4, .inl v_sheetSizec)), (z_frozen, .inl (cy 0, 32, .inl v_frozenc)), (z_sheet, .inl (cy 1, 160, .inr (.inl a_39)))] H := hP
                have hD : va_D A [(z, .inr (9, [.int v_fault, .int v_size, .int v_upper, .int v_base, .ref z_isGood, .ref z_frozen, .ref z_sheetSize, .ref z_sheetLane, .ref z_sheet, .ref z_hands, .int v_wide, .long v_mask, .int v_paths, .ref z_seen, .ref z_work, .ref z_known, .ref z_next, .int v_come, .int v_isCounted, .ref z_counts, .ref z_acrosses, .ref z_failings, .int v_basis, .ref z_given, .int v_trace])), (z_isGood, .inl (cy 2, 32, .inl v_isGoodc)), (z_sheetSize, .inl (cy 0, 4, .inl v_sheetSizec)), (z_frozen, .inl (cy 0, 32, .inl v_frozenc)), (z_sheet, .inl (cy 1, 160, .inr (.inl a_39)))] := hD
                have hl : lv_has ls 11 [(10, .int a_38), (8, .long y8_29), (0, .ref z), (1, .int x1), (2, .long x2), (4, .long x3), (6, .long x4)] := hl
                change fL_X10_send_108 K y8_29 x1 x3 v_size (k_ + 1) (a_38, a_39) = _ at h
                rw [fL_X10_send_108] at h
                refine lv_iload hx hb dX10_send_108 (lv_at hl 0 rfl) ?_
                refine lv_aload_n hx hb dX10_send_110 rfl (lv_at hl 2 rfl) ?_
                refine va_get (D := D) (ci := 9) (v := .int v_size) (C := RX10) (T := TX10) (N := 25) hx hb hts iX10 hown hK hP 0 rfl rfl 1 (by decide) f54 (fun _ h9 => h9) rfl dX10_send_111 ?_
                refine lv_icmp_ge (tgt := 160) hx hb dX10_send_114 (by decide) (fun c_40 => ?_) (fun c_40 => ?_)
                · have h := gx_t c_40 h
                  have hl := lv_sub (l' := [(10, .int a_38), (8, .long y8_29), (0, .ref z), (1, .int x1), (2, .long x2), (4, .long x3), (6, .long x4)]) hl [0, 1, 2, 3, 4, 5, 6] rfl
                  cases h
                  exact hJ160 _ _ _ ⟨hP, hD, hS, hl⟩
                · have h := gx_f c_40 h
                  refine lv_aload_n hx hb dX10_send_117 rfl (lv_at hl 2 rfl) ?_
                  refine va_get (D := D) (ci := 9) (v := .ref z_sheet) (C := RX10) (T := TX10) (N := 25) hx hb hts iX10 hown hK hP 0 rfl rfl 8 (by decide) f23 (fun _ h9 => h9) rfl dX10_send_118 ?_
                  refine lv_bipush (v := 40) hx hb dX10_send_121 (by decide) ?_
                  refine lv_iload_n hx hb dX10_send_123 rfl (lv_at hl 3 rfl) ?_
                  refine lv_imul hx hb dX10_send_124 ?_
                  refine lv_iload hx hb dX10_send_125 (lv_at hl 0 rfl) ?_
                  refine lv_iadd hx hb dX10_send_127 ?_
                  refine lv_lload hx hb dX10_send_128 (lv_at hl 5 rfl) ?_
                  refine lv_iload hx hb dX10_send_130 (lv_at hl 0 rfl) ?_
                  refine lv_lshr (v := (gLshr x3 a_38)) hx hb dX10_send_132 rfl ?_
                  refine lv_lconst (v := 1) hx hb dX10_send_133 (by decide) ?_
                  refine lv_land hx hb dX10_send_134 ?_
                  refine lv_lconst (v := 1) hx hb dX10_send_135 (by decide) ?_
                  refine W.lcmp hx hb dX10_send_136 ?_
                  obtain ⟨ms_41, hR_42, h⟩ := gx_b h
                  refine gJoin (Pj := fun H locs ls => va_P D vwCl [(z, .inr (9, [.int v_fault, .int v_size, .int v_upper, .int v_base, .ref z_isGood, .ref z_frozen, .ref z_sheetSize, .ref z_sheetLane, .ref z_sheet, .ref z_hands, .int v_wide, .long v_mask, .int v_paths, .ref z_seen, .ref z_work, .ref z_known, .ref z_next, .int v_come, .int v_isCounted, .ref z_counts, .ref z_acrosses, .ref z_failings, .int v_basis, .ref z_given, .int v_trace])), (z_isGood, .inl (cy 2, 32, .inl v_isGoodc)), (z_sheetSize, .inl (cy 0, 4, .inl v_sheetSizec)), (z_frozen, .inl (cy 0, 32, .inl v_frozenc)), (z_sheet, .inl (cy 1, 160, .inr (.inl a_39)))] H ∧ va_D A [(z, .inr (9, [.int v_fault, .int v_size, .int v_upper, .int v_base, .ref z_isGood, .ref z_frozen, .ref z_sheetSize, .ref z_sheetLane, .ref z_sheet, .ref z_hands, .int v_wide, .long v_mask, .int v_paths, .ref z_seen, .ref z_work, .ref z_known, .ref z_next, .int v_come, .int v_isCounted, .ref z_counts, .ref z_acrosses, .ref z_failings, .int v_basis, .ref z_given, .int v_trace])), (z_isGood, .inl (cy 2, 32, .inl v_isGoodc)), (z_sheetSize, .inl (cy 0, 4, .inl v_sheetSizec)), (z_frozen, .inl (cy 0, 32, .inl v_frozenc)), (z_sheet, .inl (cy 1, 160, .inr (.inl a_39)))] ∧ va_S A s.heap H locs ∧ lv_has ls 11 [(10, .int a_38), (8, .long y8_29), (0, .ref z), (1, .int x1), (2, .long x2), (4, .long x3), (6, .long x4)]) (pcM := 153) (st := [.long ms_41, .int ((40 * x1) + a_38), .ref z_sheet]) ?_ (fun hJ153 => ?_)
                  · intro H locs ls hp_
                    obtain ⟨hP, hD, hS, hl⟩ := hp_
                    clear hR_42
                    obtain ⟨hi_, h⟩ := gx_ix h
                    refine va_last hx hb hK hP hD hS 4 1 rfl rfl hi_ dX10_send_153 (fun H locs hP hD hS => ?_)
                    obtain ⟨w_43, e_w_43⟩ : ∃ y : Nat → Int64, y = (vp_updL a_39 (Int32.toNatClampNeg ((40 * x1) + a_38)) ms_41) := ⟨_, rfl⟩
                    have h := gx_let e_w_43 h
                    have hP : va_P D vwCl [(z, .inr (9, [.int v_fault, .int v_size, .int v_upper, .int v_base, .ref z_isGood, .ref z_frozen, .ref z_sheetSize, .ref z_sheetLane, .ref z_sheet, .ref z_hands, .int v_wide, .long v_mask, .int v_paths, .ref z_seen, .ref z_work, .ref z_known, .ref z_next, .int v_come, .int v_isCounted, .ref z_counts, .ref z_acrosses, .ref z_failings, .int v_basis, .ref z_given, .int v_trace])), (z_isGood, .inl (cy 2, 32, .inl v_isGoodc)), (z_sheetSize, .inl (cy 0, 4, .inl v_sheetSizec)), (z_frozen, .inl (cy 0, 32, .inl v_frozenc)), (z_sheet, .inl (cy 1, 160, .inr (.inl (vp_updL a_39 (Int32.toNatClampNeg ((40 * x1) + a_38)) ms_41))))] H := hP
                    have hD : va_D A [(z, .inr (9, [.int v_fault, .int v_size, .int v_upper, .int v_base, .ref z_isGood, .ref z_frozen, .ref z_sheetSize, .ref z_sheetLane, .ref z_sheet, .ref z_hands, .int v_wide, .long v_mask, .int v_paths, .ref z_seen, .ref z_work, .ref z_known, .ref z_next, .int v_come, .int v_isCounted, .ref z_counts, .ref z_acrosses, .ref z_failings, .int v_basis, .ref z_given, .int v_trace])), (z_isGood, .inl (cy 2, 32, .inl v_isGoodc)), (z_sheetSize, .inl (cy 0, 4, .inl v_sheetSizec)), (z_frozen, .inl (cy 0, 32, .inl v_frozenc)), (z_sheet, .inl (cy 1, 160, .inr (.inl (vp_updL a_39 (Int32.toNatClampNeg ((40 * x1) + a_38)) ms_41))))] := hD
                    rw [← e_w_43] at hP hD
                    obtain ⟨y10_44, e_y10_44⟩ : ∃ y : Int32, y = (a_38 + 1) := ⟨_, rfl⟩
                    have h := gx_let e_y10_44 h
                    refine lv_iinc (v := y10_44) (lv' := [(10, .int y10_44), (8, .long y8_29), (0, .ref z), (1, .int x1), (2, .long x2), (4, .long x3), (6, .long x4)]) hx hb dX10_send_154 hl (k := 0) rfl (by rw [e_y10_44]; rfl) (by decide) rfl (fun ls hl => ?_)
                    refine lv_goto (tgt := 108) hx hb dX10_send_157 (by decide) ?_
                    exact ih (y10_44, w_43) _ _ _ h ⟨hP, hD, hS, lv_sub (l' := [(10, .int y10_44), (8, .long y8_29), (0, .ref z), (1, .int x1), (2, .long x2), (4, .long x3), (6, .long x4)]) hl [0, 1, 2, 3, 4, 5, 6] rfl⟩
                  · have h := hR_42
                    refine lv_if_ne (tgt := 146) hx hb dX10_send_137 (by decide) (fun c_45 => ?_) (fun c_45 => ?_)
                    · have h := gx_f c_45 h
                      refine lv_lload hx hb dX10_send_146 (lv_at hl 1 rfl) ?_
                      refine lv_iload hx hb dX10_send_148 (lv_at hl 0 rfl) ?_
                      refine lv_lshr (v := (gLshr y8_29 a_38)) hx hb dX10_send_150 rfl ?_
                      refine lv_lconst (v := 1) hx hb dX10_send_151 (by decide) ?_
                      refine lv_land hx hb dX10_send_152 ?_
                      have hl := lv_sub (l' := [(10, .int a_38), (8, .long y8_29), (0, .ref z), (1, .int x1), (2, .long x2), (4, .long x3), (6, .long x4)]) hl [0, 1, 2, 3, 4, 5, 6] rfl
                      cases h
                      exact hJ153 _ _ _ ⟨hP, hD, hS, hl⟩
                    · have h := gx_t c_45 h
                      refine lv_ldc2 hx hb hown k93 dX10_send_140 ?_
                      refine lv_goto (tgt := 153) hx hb dX10_send_143 (by decide) ?_
                      have hl := lv_sub (l' := [(10, .int a_38), (8, .long y8_29), (0, .ref z), (1, .int x1), (2, .long x2), (4, .long x3), (6, .long x4)]) hl [0, 1, 2, 3, 4, 5, 6] rfl
                      cases h
                      exact hJ153 _ _ _ ⟨hP, hD, hS, hl⟩
            · have h := gx_f c_24 h
              refine lv_aload_n hx hb dX10_send_82 rfl (lv_at hl 0 rfl) ?_
              refine lv_iconst (v := 3) hx hb dX10_send_83 (by decide) ?_
              obtain ⟨⟨r_46, o_47⟩, hc_48, h⟩ := gx_b h
              refine gCalli (wr := [(z_isGood, .inl (cy 2, 32, .inl v_isGoodc)), (z_sheetSize, .inl (cy 0, 4, .inl v_sheetSizec)), (z_frozen, .inl (cy 0, 32, .inl v_frozenc)), (z_sheet, .inl (cy 1, 160, .inr (.inl v_sheetc)))]) (va_runV (As := [.int 3]) (rest := []) ⟨hx, hb, hml, hown, hts⟩ (c_X10_failed l D cy t H.size K z z_isGood z_frozen z_sheetSize z_sheetLane z_sheet z_hands z_seen z_work z_known z_next z_counts z_acrosses z_failings z_given v_fault v_size v_upper v_base v_wide v_mask v_paths v_come v_isCounted v_basis v_trace 3 r_46 o_47 hc_48) (cwV 1 hts gX10_send_X10_failed rfl rfl rfl (by decide +kernel) ⟨Nat.le_of_ble_eq_true rfl, Nat.le_of_ble_eq_true rfl⟩) ⟨gBlind, va_recv hK hP (ci := 9) (q0 := 0) rfl rfl, fun U hU hW => ⟨rfl, gPre.call hK hG hA hP hD hS [0] (by decide) rfl U hU hW⟩⟩ rfl rfl hl.1 rfl (lv_room (Nat.le_of_ble_eq_true rfl)) dX10_send_84 ⟨Nat.le_of_ble_eq_true rfl, Nat.le_of_ble_eq_true rfl⟩) hA hP hD hS [0] [1, 2, 3, 4] rfl rfl (by decide) (by decide) (fun H locs hP hD hS => ?_)
              have hP := hP.sub (ws' := [(z, .inr (9, [.int o_47, .int v_size, .int v_upper, .int v_base, .ref z_isGood, .ref z_frozen, .ref z_sheetSize, .ref z_sheetLane, .ref z_sheet, .ref z_hands, .int v_wide, .long v_mask, .int v_paths, .ref z_seen, .ref z_work, .ref z_known, .ref z_next, .int v_come, .int v_isCounted, .ref z_counts, .ref z_acrosses, .ref z_failings, .int v_basis, .ref z_given, .int v_trace])), (z_isGood, .inl (cy 2, 32, .inl v_isGoodc)), (z_sheetSize, .inl (cy 0, 4, .inl v_sheetSizec)), (z_frozen, .inl (cy 0, 32, .inl v_frozenc)), (z_sheet, .inl (cy 1, 160, .inr (.inl v_sheetc)))]) [4, 0, 1, 2, 3] rfl
              have hD := hD.sub (ws' := [(z, .inr (9, [.int o_47, .int v_size, .int v_upper, .int v_base, .ref z_isGood, .ref z_frozen, .ref z_sheetSize, .ref z_sheetLane, .ref z_sheet, .ref z_hands, .int v_wide, .long v_mask, .int v_paths, .ref z_seen, .ref z_work, .ref z_known, .ref z_next, .int v_come, .int v_isCounted, .ref z_counts, .ref z_acrosses, .ref z_failings, .int v_basis, .ref z_given, .int v_trace])), (z_isGood, .inl (cy 2, 32, .inl v_isGoodc)), (z_sheetSize, .inl (cy 0, 4, .inl v_sheetSizec)), (z_frozen, .inl (cy 0, 32, .inl v_frozenc)), (z_sheet, .inl (cy 1, 160, .inr (.inl v_sheetc)))]) [4, 0, 1, 2, 3] (by decide) rfl
              cases h
              exact gRi hx hb hr hlocks hP hD hS dX10_send_87
          · have h := gx_f c_23 h
            refine lv_aload_n hx hb dX10_send_63 rfl (lv_at hl 0 rfl) ?_
            refine lv_iconst (v := 1) hx hb dX10_send_64 (by decide) ?_
            obtain ⟨⟨r_49, o_50⟩, hc_51, h⟩ := gx_b h
            refine gCalli (wr := [(z_isGood, .inl (cy 2, 32, .inl v_isGoodc)), (z_sheetSize, .inl (cy 0, 4, .inl v_sheetSizec)), (z_frozen, .inl (cy 0, 32, .inl v_frozenc)), (z_sheet, .inl (cy 1, 160, .inr (.inl v_sheetc)))]) (va_runV (As := [.int 1]) (rest := []) ⟨hx, hb, hml, hown, hts⟩ (c_X10_failed l D cy t H.size K z z_isGood z_frozen z_sheetSize z_sheetLane z_sheet z_hands z_seen z_work z_known z_next z_counts z_acrosses z_failings z_given v_fault v_size v_upper v_base v_wide v_mask v_paths v_come v_isCounted v_basis v_trace 1 r_49 o_50 hc_51) (cwV 1 hts gX10_send_X10_failed rfl rfl rfl (by decide +kernel) ⟨Nat.le_of_ble_eq_true rfl, Nat.le_of_ble_eq_true rfl⟩) ⟨gBlind, va_recv hK hP (ci := 9) (q0 := 0) rfl rfl, fun U hU hW => ⟨rfl, gPre.call hK hG hA hP hD hS [0] (by decide) rfl U hU hW⟩⟩ rfl rfl hl.1 rfl (lv_room (Nat.le_of_ble_eq_true rfl)) dX10_send_65 ⟨Nat.le_of_ble_eq_true rfl, Nat.le_of_ble_eq_true rfl⟩) hA hP hD hS [0] [1, 2, 3, 4] rfl rfl (by decide) (by decide) (fun H locs hP hD hS => ?_)
            have hP := hP.sub (ws' := [(z, .inr (9, [.int o_50, .int v_size, .int v_upper, .int v_base, .ref z_isGood, .ref z_frozen, .ref z_sheetSize, .ref z_sheetLane, .ref z_sheet, .ref z_hands, .int v_wide, .long v_mask, .int v_paths, .ref z_seen, .ref z_work, .ref z_known, .ref z_next, .int v_come, .int v_isCounted, .ref z_counts, .ref z_acrosses, .ref z_failings, .int v_basis, .ref z_given, .int v_trace])), (z_isGood, .inl (cy 2, 32, .inl v_isGoodc)), (z_sheetSize, .inl (cy 0, 4, .inl v_sheetSizec)), (z_frozen, .inl (cy 0, 32, .inl v_frozenc)), (z_sheet, .inl (cy 1, 160, .inr (.inl v_sheetc)))]) [4, 0, 1, 2, 3] rfl
            have hD := hD.sub (ws' := [(z, .inr (9, [.int o_50, .int v_size, .int v_upper, .int v_base, .ref z_isGood, .ref z_frozen, .ref z_sheetSize, .ref z_sheetLane, .ref z_sheet, .ref z_hands, .int v_wide, .long v_mask, .int v_paths, .ref z_seen, .ref z_work, .ref z_known, .ref z_next, .int v_come, .int v_isCounted, .ref z_counts, .ref z_acrosses, .ref z_failings, .int v_basis, .ref z_given, .int v_trace])), (z_isGood, .inl (cy 2, 32, .inl v_isGoodc)), (z_sheetSize, .inl (cy 0, 4, .inl v_sheetSizec)), (z_frozen, .inl (cy 0, 32, .inl v_frozenc)), (z_sheet, .inl (cy 1, 160, .inr (.inl v_sheetc)))]) [4, 0, 1, 2, 3] (by decide) rfl
            cases h
            exact gRi hx hb hr hlocks hP hD hS dX10_send_68
        · have h := gx_t c_22 h
          refine lv_aload_n hx hb dX10_send_47 rfl (lv_at hl 0 rfl) ?_
          refine lv_bipush (v := (-2)) hx hb dX10_send_48 (by decide) ?_
          obtain ⟨⟨r_52, o_53⟩, hc_54, h⟩ := gx_b h
          refine gCalli (wr := [(z_isGood, .inl (cy 2, 32, .inl v_isGoodc)), (z_sheetSize, .inl (cy 0, 4, .inl v_sheetSizec)), (z_frozen, .inl (cy 0, 32, .inl v_frozenc)), (z_sheet, .inl (cy 1, 160, .inr (.inl v_sheetc)))]) (va_runV (As := [.int (-2)]) (rest := []) ⟨hx, hb, hml, hown, hts⟩ (c_X10_refused l D cy t H.size K z z_isGood z_frozen z_sheetSize z_sheetLane z_sheet z_hands z_seen z_work z_known z_next z_counts z_acrosses z_failings z_given v_fault v_size v_upper v_base v_wide v_mask v_paths v_come v_isCounted v_basis v_trace (-2) r_52 o_53 hc_54) (cwV 1 hts gX10_send_X10_refused rfl rfl rfl (by decide +kernel) ⟨Nat.le_of_ble_eq_true rfl, Nat.le_of_ble_eq_true rfl⟩) ⟨gBlind, va_recv hK hP (ci := 9) (q0 := 0) rfl rfl, fun U hU hW => ⟨rfl, gPre.call hK hG hA hP hD hS [0] (by decide) rfl U hU hW⟩⟩ rfl rfl hl.1 rfl (lv_room (Nat.le_of_ble_eq_true rfl)) dX10_send_50 ⟨Nat.le_of_ble_eq_true rfl, Nat.le_of_ble_eq_true rfl⟩) hA hP hD hS [0] [1, 2, 3, 4] rfl rfl (by decide) (by decide) (fun H locs hP hD hS => ?_)
          have hP := hP.sub (ws' := [(z, .inr (9, [.int o_53, .int v_size, .int v_upper, .int v_base, .ref z_isGood, .ref z_frozen, .ref z_sheetSize, .ref z_sheetLane, .ref z_sheet, .ref z_hands, .int v_wide, .long v_mask, .int v_paths, .ref z_seen, .ref z_work, .ref z_known, .ref z_next, .int v_come, .int v_isCounted, .ref z_counts, .ref z_acrosses, .ref z_failings, .int v_basis, .ref z_given, .int v_trace])), (z_isGood, .inl (cy 2, 32, .inl v_isGoodc)), (z_sheetSize, .inl (cy 0, 4, .inl v_sheetSizec)), (z_frozen, .inl (cy 0, 32, .inl v_frozenc)), (z_sheet, .inl (cy 1, 160, .inr (.inl v_sheetc)))]) [4, 0, 1, 2, 3] rfl
          have hD := hD.sub (ws' := [(z, .inr (9, [.int o_53, .int v_size, .int v_upper, .int v_base, .ref z_isGood, .ref z_frozen, .ref z_sheetSize, .ref z_sheetLane, .ref z_sheet, .ref z_hands, .int v_wide, .long v_mask, .int v_paths, .ref z_seen, .ref z_work, .ref z_known, .ref z_next, .int v_come, .int v_isCounted, .ref z_counts, .ref z_acrosses, .ref z_failings, .int v_basis, .ref z_given, .int v_trace])), (z_isGood, .inl (cy 2, 32, .inl v_isGoodc)), (z_sheetSize, .inl (cy 0, 4, .inl v_sheetSizec)), (z_frozen, .inl (cy 0, 32, .inl v_frozenc)), (z_sheet, .inl (cy 1, 160, .inr (.inl v_sheetc)))]) [4, 0, 1, 2, 3] (by decide) rfl
          cases h
          exact gRi hx hb hr hlocks hP hD hS dX10_send_53
  · have h := gx_f c_3 h
    refine lv_aload_n hx hb dX10_send_7 rfl (lv_at hl 0 rfl) ?_
    refine lv_iconst (v := (-1)) hx hb dX10_send_8 (by decide) ?_
    obtain ⟨⟨r_55, o_56⟩, hc_57, h⟩ := gx_b h
    refine gCalli (wr := [(z_isGood, .inl (cy 2, 32, .inl v_isGoodc)), (z_sheetSize, .inl (cy 0, 4, .inl v_sheetSizec)), (z_frozen, .inl (cy 0, 32, .inl v_frozenc)), (z_sheet, .inl (cy 1, 160, .inr (.inl v_sheetc)))]) (va_runV (As := [.int (-1)]) (rest := []) ⟨hx, hb, hml, hown, hts⟩ (c_X10_refused l D cy t H.size K z z_isGood z_frozen z_sheetSize z_sheetLane z_sheet z_hands z_seen z_work z_known z_next z_counts z_acrosses z_failings z_given v_fault v_size v_upper v_base v_wide v_mask v_paths v_come v_isCounted v_basis v_trace (-1) r_55 o_56 hc_57) (cwV 1 hts gX10_send_X10_refused rfl rfl rfl (by decide +kernel) ⟨Nat.le_of_ble_eq_true rfl, Nat.le_of_ble_eq_true rfl⟩) ⟨gBlind, va_recv hK hP (ci := 9) (q0 := 0) rfl rfl, fun U hU hW => ⟨rfl, gPre.call hK hG hA hP hD hS [0] (by decide) rfl U hU hW⟩⟩ rfl rfl hl.1 rfl (lv_room (Nat.le_of_ble_eq_true rfl)) dX10_send_9 ⟨Nat.le_of_ble_eq_true rfl, Nat.le_of_ble_eq_true rfl⟩) hA hP hD hS [0] [1, 2, 3, 4] rfl rfl (by decide) (by decide) (fun H locs hP hD hS => ?_)
    have hP := hP.sub (ws' := [(z, .inr (9, [.int o_56, .int v_size, .int v_upper, .int v_base, .ref z_isGood, .ref z_frozen, .ref z_sheetSize, .ref z_sheetLane, .ref z_sheet, .ref z_hands, .int v_wide, .long v_mask, .int v_paths, .ref z_seen, .ref z_work, .ref z_known, .ref z_next, .int v_come, .int v_isCounted, .ref z_counts, .ref z_acrosses, .ref z_failings, .int v_basis, .ref z_given, .int v_trace])), (z_isGood, .inl (cy 2, 32, .inl v_isGoodc)), (z_sheetSize, .inl (cy 0, 4, .inl v_sheetSizec)), (z_frozen, .inl (cy 0, 32, .inl v_frozenc)), (z_sheet, .inl (cy 1, 160, .inr (.inl v_sheetc)))]) [4, 0, 1, 2, 3] rfl
    have hD := hD.sub (ws' := [(z, .inr (9, [.int o_56, .int v_size, .int v_upper, .int v_base, .ref z_isGood, .ref z_frozen, .ref z_sheetSize, .ref z_sheetLane, .ref z_sheet, .ref z_hands, .int v_wide, .long v_mask, .int v_paths, .ref z_seen, .ref z_work, .ref z_known, .ref z_next, .int v_come, .int v_isCounted, .ref z_counts, .ref z_acrosses, .ref z_failings, .int v_basis, .ref z_given, .int v_trace])), (z_isGood, .inl (cy 2, 32, .inl v_isGoodc)), (z_sheetSize, .inl (cy 0, 4, .inl v_sheetSizec)), (z_frozen, .inl (cy 0, 32, .inl v_frozenc)), (z_sheet, .inl (cy 1, 160, .inr (.inl v_sheetc)))]) [4, 0, 1, 2, 3] (by decide) rfl
    cases h
    exact gRi hx hb hr hlocks hP hD hS dX10_send_12

def f_X10_isOdd (K : Nat) (x1 : Int64) : Option (Int32) :=
  gLet (x1 ^^^ (gLshr x1 16)) fun y2_1 =>
  gLet (y2_1 ^^^ (gLshr y2_1 8)) fun y2_2 =>
  gLet (y2_2 ^^^ (gLshr y2_2 4)) fun y2_3 =>
  gLet (y2_3 ^^^ (gLshr y2_3 2)) fun y2_4 =>
  gLet (y2_4 ^^^ (gLshr y2_4 1)) fun y2_5 =>
  if (lg_cmp (y2_5 &&& 1) 1) = 0 then
    some 1
  else
    some 0
set_option maxHeartbeats 4000000 in
set_option maxRecDepth 100000 in
theorem c_X10_isOdd (l : Launch) (D : va_G) (cy : Nat → ClassId) (t sz K : Nat) (x1 : Int64) (r_ : Int32) (h : f_X10_isOdd K x1 = some r_) : gMi l D cy t sz yX10_isOdd wsX10_isOdd 0 0 [.long x1] [] r_ [] := by
  refine gBi (cc := cX10_isOdd) (maxL := 4) (ret := (some .boolean)) (by decide) rfl (Nat.le_of_ble_eq_true rfl) ?_
  intro p e s m below meth c A ls hAt hl
  obtain ⟨hx, hb, hml, hr, hts, hown, hlocks, hin, hK, hG, hA, hP, hD⟩ := hAt
  have hS : va_S A s.heap s.heap [] := va_S.rf
  have hl : lv_has ls 4 [(0, .long x1)] := hl
  rw [f_X10_isOdd] at h
  refine lv_lload_n hx hb dX10_isOdd_0 rfl (lv_at hl 0 rfl) ?_
  refine lv_lload_n hx hb dX10_isOdd_1 rfl (lv_at hl 0 rfl) ?_
  refine lv_bipush (v := 16) hx hb dX10_isOdd_2 (by decide) ?_
  refine lv_lshr (v := (gLshr x1 16)) hx hb dX10_isOdd_4 rfl ?_
  refine lv_lxor hx hb dX10_isOdd_5 ?_
  refine lv_topl (fun y2_1 e_y2_1 => ?_)
  have h := gx_let e_y2_1 h
  refine lv_lstore_n (lv' := [(2, .long y2_1), (0, .long x1)]) hx hb dX10_isOdd_6 rfl hl (by decide) rfl (fun ls hl => ?_)
  refine lv_lload_n hx hb dX10_isOdd_7 rfl (lv_at hl 0 rfl) ?_
  refine lv_lload_n hx hb dX10_isOdd_8 rfl (lv_at hl 0 rfl) ?_
  refine lv_bipush (v := 8) hx hb dX10_isOdd_9 (by decide) ?_
  refine lv_lshr (v := (gLshr y2_1 8)) hx hb dX10_isOdd_11 rfl ?_
  refine lv_lxor hx hb dX10_isOdd_12 ?_
  refine lv_topl (fun y2_2 e_y2_2 => ?_)
  have h := gx_let e_y2_2 h
  refine lv_lstore_n (lv' := [(2, .long y2_2), (0, .long x1)]) hx hb dX10_isOdd_13 rfl hl (by decide) rfl (fun ls hl => ?_)
  refine lv_lload_n hx hb dX10_isOdd_14 rfl (lv_at hl 0 rfl) ?_
  refine lv_lload_n hx hb dX10_isOdd_15 rfl (lv_at hl 0 rfl) ?_
  refine lv_iconst (v := 4) hx hb dX10_isOdd_16 (by decide) ?_
  refine lv_lshr (v := (gLshr y2_2 4)) hx hb dX10_isOdd_17 rfl ?_
  refine lv_lxor hx hb dX10_isOdd_18 ?_
  refine lv_topl (fun y2_3 e_y2_3 => ?_)
  have h := gx_let e_y2_3 h
  refine lv_lstore_n (lv' := [(2, .long y2_3), (0, .long x1)]) hx hb dX10_isOdd_19 rfl hl (by decide) rfl (fun ls hl => ?_)
  refine lv_lload_n hx hb dX10_isOdd_20 rfl (lv_at hl 0 rfl) ?_
  refine lv_lload_n hx hb dX10_isOdd_21 rfl (lv_at hl 0 rfl) ?_
  refine lv_iconst (v := 2) hx hb dX10_isOdd_22 (by decide) ?_
  refine lv_lshr (v := (gLshr y2_3 2)) hx hb dX10_isOdd_23 rfl ?_
  refine lv_lxor hx hb dX10_isOdd_24 ?_
  refine lv_topl (fun y2_4 e_y2_4 => ?_)
  have h := gx_let e_y2_4 h
  refine lv_lstore_n (lv' := [(2, .long y2_4), (0, .long x1)]) hx hb dX10_isOdd_25 rfl hl (by decide) rfl (fun ls hl => ?_)
  refine lv_lload_n hx hb dX10_isOdd_26 rfl (lv_at hl 0 rfl) ?_
  refine lv_lload_n hx hb dX10_isOdd_27 rfl (lv_at hl 0 rfl) ?_
  refine lv_iconst (v := 1) hx hb dX10_isOdd_28 (by decide) ?_
  refine lv_lshr (v := (gLshr y2_4 1)) hx hb dX10_isOdd_29 rfl ?_
  refine lv_lxor hx hb dX10_isOdd_30 ?_
  refine lv_topl (fun y2_5 e_y2_5 => ?_)
  have h := gx_let e_y2_5 h
  refine lv_lstore_n (lv' := [(2, .long y2_5), (0, .long x1)]) hx hb dX10_isOdd_31 rfl hl (by decide) rfl (fun ls hl => ?_)
  refine lv_lload_n hx hb dX10_isOdd_32 rfl (lv_at hl 0 rfl) ?_
  refine lv_lconst (v := 1) hx hb dX10_isOdd_33 (by decide) ?_
  refine lv_land hx hb dX10_isOdd_34 ?_
  refine lv_lconst (v := 1) hx hb dX10_isOdd_35 (by decide) ?_
  refine W.lcmp hx hb dX10_isOdd_36 ?_
  refine lv_if_ne (tgt := 44) hx hb dX10_isOdd_37 (by decide) (fun c_6 => ?_) (fun c_6 => ?_)
  · have h := gx_f c_6 h
    refine lv_iconst (v := 0) hx hb dX10_isOdd_44 (by decide) ?_
    cases h
    exact gRz hx hb hr hlocks rfl hP hD hS dX10_isOdd_45
  · have h := gx_t c_6 h
    refine lv_iconst (v := 1) hx hb dX10_isOdd_40 (by decide) ?_
    refine lv_goto (tgt := 45) hx hb dX10_isOdd_41 (by decide) ?_
    cases h
    exact gRz hx hb hr hlocks rfl hP hD hS dX10_isOdd_45

def fL_X10_isAcross_2 (K : Nat) (l1 : Int64) (u0_22 : Int32) (u1 : Nat → Int64) : Nat → Int32 → Option (Int32)
  | 0, _ => none
  | k + 1, l3 =>
    if u0_22 ≤ l3 then
      some 1
    else
      gIx l3 32 <|
      Option.bind (f_X10_isOdd K (l1 &&& (u1 (Int32.toNatClampNeg l3)))) fun r_2 =>
      if r_2 = 0 then
        gLet (l3 + 1) fun y3_4 =>
        fL_X10_isAcross_2 K l1 u0_22 u1 k y3_4
      else
        some 0
def f_X10_isAcross (K : Nat) (x1 : Int64) (v_basis : Int32) (v_givenc : Nat → Int64) : Option (Int32) :=
  fL_X10_isAcross_2 K x1 v_basis v_givenc K 0
set_option maxHeartbeats 4000000 in
set_option maxRecDepth 100000 in
theorem c_X10_isAcross (l : Launch) (D : va_G) (cy : Nat → ClassId) (t sz K : Nat) (z : Nat) (z_given : Nat) (z_isGood : Nat) (z_frozen : Nat) (z_sheetSize : Nat) (z_sheetLane : Nat) (z_sheet : Nat) (z_hands : Nat) (z_seen : Nat) (z_work : Nat) (z_known : Nat) (z_next : Nat) (z_counts : Nat) (z_acrosses : Nat) (z_failings : Nat) (v_fault : Int32) (v_size : Int32) (v_upper : Int32) (v_base : Int32) (v_wide : Int32) (v_mask : Int64) (v_paths : Int32) (v_come : Int32) (v_isCounted : Int32) (v_basis : Int32) (v_trace : Int32) (v_givenc : Nat → Int64) (x1 : Int64) (r_ : Int32) (h : f_X10_isAcross K x1 v_basis v_givenc = some r_) : gMi l D cy t sz yX10_isAcross wsX10_isAcross 1 23 [.ref z, .long x1] [(z, .inr (9, [.int v_fault, .int v_size, .int v_upper, .int v_base, .ref z_isGood, .ref z_frozen, .ref z_sheetSize, .ref z_sheetLane, .ref z_sheet, .ref z_hands, .int v_wide, .long v_mask, .int v_paths, .ref z_seen, .ref z_work, .ref z_known, .ref z_next, .int v_come, .int v_isCounted, .ref z_counts, .ref z_acrosses, .ref z_failings, .int v_basis, .ref z_given, .int v_trace])), (z_given, .inl (cy 1, 32, .inr (.inl v_givenc)))] r_ [(z, .inr (9, [.int v_fault, .int v_size, .int v_upper, .int v_base, .ref z_isGood, .ref z_frozen, .ref z_sheetSize, .ref z_sheetLane, .ref z_sheet, .ref z_hands, .int v_wide, .long v_mask, .int v_paths, .ref z_seen, .ref z_work, .ref z_known, .ref z_next, .int v_come, .int v_isCounted, .ref z_counts, .ref z_acrosses, .ref z_failings, .int v_basis, .ref z_given, .int v_trace])), (z_given, .inl (cy 1, 32, .inr (.inl v_givenc)))] := by
  refine gBi (cc := cX10_isAcross) (maxL := 4) (ret := (some .boolean)) (by decide) rfl (Nat.le_of_ble_eq_true rfl) ?_
  intro p e s m below meth c A ls hAt hl
  obtain ⟨hx, hb, hml, hr, hts, hown, hlocks, hin, hK, hG, hA, hP, hD⟩ := hAt
  have hS : va_S A s.heap s.heap [] := va_S.rf
  have hl : lv_has ls 4 [(0, .ref z), (1, .long x1)] := hl
  have f191 := hts (.fieldLink RX10 191 "PlainLinesModel" "basis" "I") (by decide +kernel)
  have iX10 := (by decide +kernel : ∀ w ∈ u_ws RX10 TX10 25, w ∈ wsX10_isAcross)
  have f51 := hts (.fieldLink RX10 51 "PlainLinesModel" "given" "[J") (by decide +kernel)
  rw [f_X10_isAcross] at h
  refine lv_iconst (v := 0) hx hb dX10_isAcross_0 (by decide) ?_
  refine lv_istore_n (lv' := [(3, .int 0), (0, .ref z), (1, .long x1)]) hx hb dX10_isAcross_1 rfl hl (by decide) rfl (fun ls hl => ?_)
  have hL_1 := h
  refine gLoop (Hy := fun k_ v_ => fL_X10_isAcross_2 K x1 v_basis v_givenc k_ v_ = some r_) (Pl := fun (v_ : Int32) H locs ls => match v_ with | a_2 => va_P D vwCl [(z, .inr (9, [.int v_fault, .int v_size, .int v_upper, .int v_base, .ref z_isGood, .ref z_frozen, .ref z_sheetSize, .ref z_sheetLane, .ref z_sheet, .ref z_hands, .int v_wide, .long v_mask, .int v_paths, .ref z_seen, .ref z_work, .ref z_known, .ref z_next, .int v_come, .int v_isCounted, .ref z_counts, .ref z_acrosses, .ref z_failings, .int v_basis, .ref z_given, .int v_trace])), (z_given, .inl (cy 1, 32, .inr (.inl v_givenc)))] H ∧ va_D A [(z, .inr (9, [.int v_fault, .int v_size, .int v_upper, .int v_base, .ref z_isGood, .ref z_frozen, .ref z_sheetSize, .ref z_sheetLane, .ref z_sheet, .ref z_hands, .int v_wide, .long v_mask, .int v_paths, .ref z_seen, .ref z_work, .ref z_known, .ref z_next, .int v_come, .int v_isCounted, .ref z_counts, .ref z_acrosses, .ref z_failings, .int v_basis, .ref z_given, .int v_trace])), (z_given, .inl (cy 1, 32, .inr (.inl v_givenc)))] ∧ va_S A s.heap H locs ∧ lv_has ls 4 [(3, .int a_2), (0, .ref z), (1, .long x1)]) (pcH := 2) (fun _ q_ => by cases q_) ?_ K 0 hL_1 ⟨hP, hD, hS, hl⟩
  clear hL_1 h hP hD hS hl
  intro k_ ih a_2 H locs ls h hp_
  obtain ⟨hP, hD, hS, hl⟩ := hp_
  have hP : va_P D vwCl [(z, .inr (9, [.int v_fault, .int v_size, .int v_upper, .int v_base, .ref z_isGood, .ref z_frozen, .ref z_sheetSize, .ref z_sheetLane, .ref z_sheet, .ref z_hands, .int v_wide, .long v_mask, .int v_paths, .ref z_seen, .ref z_work, .ref z_known, .ref z_next, .int v_come, .int v_isCounted, .ref z_counts, .ref z_acrosses, .ref z_failings, .int v_basis, .ref z_given, .int v_trace])), (z_given, .inl (cy 1, 32, .inr (.inl v_givenc)))] H := hP
  have hD : va_D A [(z, .inr (9, [.int v_fault, .int v_size, .int v_upper, .int v_base, .ref z_isGood, .ref z_frozen, .ref z_sheetSize, .ref z_sheetLane, .ref z_sheet, .ref z_hands, .int v_wide, .long v_mask, .int v_paths, .ref z_seen, .ref z_work, .ref z_known, .ref z_next, .int v_come, .int v_isCounted, .ref z_counts, .ref z_acrosses, .ref z_failings, .int v_basis, .ref z_given, .int v_trace])), (z_given, .inl (cy 1, 32, .inr (.inl v_givenc)))] := hD
  have hl : lv_has ls 4 [(3, .int a_2), (0, .ref z), (1, .long x1)] := hl
  change fL_X10_isAcross_2 K x1 v_basis v_givenc (k_ + 1) a_2 = _ at h
  rw [fL_X10_isAcross_2] at h
  refine lv_iload_n hx hb dX10_isAcross_2 rfl (lv_at hl 0 rfl) ?_
  refine lv_aload_n hx hb dX10_isAcross_3 rfl (lv_at hl 1 rfl) ?_
  refine va_get (D := D) (ci := 9) (v := .int v_basis) (C := RX10) (T := TX10) (N := 25) hx hb hts iX10 hown hK hP 0 rfl rfl 22 (by decide) f191 (fun _ h9 => h9) rfl dX10_isAcross_4 ?_
  refine lv_icmp_ge (tgt := 32) hx hb dX10_isAcross_7 (by decide) (fun c_3 => ?_) (fun c_3 => ?_)
  · have h := gx_t c_3 h
    refine lv_iconst (v := 1) hx hb dX10_isAcross_32 (by decide) ?_
    cases h
    exact gRz hx hb hr hlocks rfl hP hD hS dX10_isAcross_33
  · have h := gx_f c_3 h
    refine lv_lload_n hx hb dX10_isAcross_10 rfl (lv_at hl 2 rfl) ?_
    refine lv_aload_n hx hb dX10_isAcross_11 rfl (lv_at hl 1 rfl) ?_
    refine va_get (D := D) (ci := 9) (v := .ref z_given) (C := RX10) (T := TX10) (N := 25) hx hb hts iX10 hown hK hP 0 rfl rfl 23 (by decide) f51 (fun _ h9 => h9) rfl dX10_isAcross_12 ?_
    refine lv_iload_n hx hb dX10_isAcross_15 rfl (lv_at hl 0 rfl) ?_
    obtain ⟨hi_, h⟩ := gx_ix h
    refine va_lald hx hb hK hP 1 1 rfl rfl hi_ dX10_isAcross_16 ?_
    refine lv_land hx hb dX10_isAcross_17 ?_
    obtain ⟨r_4, hc_5, h⟩ := gx_b h
    refine gCalli (wr := [(z, .inr (9, [.int v_fault, .int v_size, .int v_upper, .int v_base, .ref z_isGood, .ref z_frozen, .ref z_sheetSize, .ref z_sheetLane, .ref z_sheet, .ref z_hands, .int v_wide, .long v_mask, .int v_paths, .ref z_seen, .ref z_work, .ref z_known, .ref z_next, .int v_come, .int v_isCounted, .ref z_counts, .ref z_acrosses, .ref z_failings, .int v_basis, .ref z_given, .int v_trace])), (z_given, .inl (cy 1, 32, .inr (.inl v_givenc)))]) (va_runS (As := [.long (x1 &&& (v_givenc (Int32.toNatClampNeg a_2)))]) (rest := []) ⟨hx, hb, hml, hown, hts⟩ (c_X10_isOdd l D cy t H.size K (x1 &&& (v_givenc (Int32.toNatClampNeg a_2))) r_4 hc_5) (va_cwS 1 hts gX10_isAcross_X10_isOdd rfl rfl rfl (by decide +kernel) ⟨Nat.le_of_ble_eq_true rfl, Nat.le_of_ble_eq_true rfl⟩) ⟨gBlind, fun U hU hW => ⟨rfl, gPre.call hK hG hA hP hD hS [] (by decide) rfl U hU hW⟩⟩ rfl rfl hl.1 rfl (lv_room (Nat.le_of_ble_eq_true rfl)) dX10_isAcross_18 ⟨Nat.le_of_ble_eq_true rfl, Nat.le_of_ble_eq_true rfl⟩) hA hP hD hS [] [0, 1] rfl rfl (by decide) (by decide) (fun H locs hP hD hS => ?_)
    have hP : va_P D vwCl [(z, .inr (9, [.int v_fault, .int v_size, .int v_upper, .int v_base, .ref z_isGood, .ref z_frozen, .ref z_sheetSize, .ref z_sheetLane, .ref z_sheet, .ref z_hands, .int v_wide, .long v_mask, .int v_paths, .ref z_seen, .ref z_work, .ref z_known, .ref z_next, .int v_come, .int v_isCounted, .ref z_counts, .ref z_acrosses, .ref z_failings, .int v_basis, .ref z_given, .int v_trace])), (z_given, .inl (cy 1, 32, .inr (.inl v_givenc)))] H := hP
    have hD : va_D A [(z, .inr (9, [.int v_fault, .int v_size, .int v_upper, .int v_base, .ref z_isGood, .ref z_frozen, .ref z_sheetSize, .ref z_sheetLane, .ref z_sheet, .ref z_hands, .int v_wide, .long v_mask, .int v_paths, .ref z_seen, .ref z_work, .ref z_known, .ref z_next, .int v_come, .int v_isCounted, .ref z_counts, .ref z_acrosses, .ref z_failings, .int v_basis, .ref z_given, .int v_trace])), (z_given, .inl (cy 1, 32, .inr (.inl v_givenc)))] := hD
    refine lv_if_eq (tgt := 26) hx hb dX10_isAcross_21 (by decide) (fun c_6 => ?_) (fun c_6 => ?_)
    · have h := gx_t c_6 h
      obtain ⟨y3_7, e_y3_7⟩ : ∃ y : Int32, y = (a_2 + 1) := ⟨_, rfl⟩
      have h := gx_let e_y3_7 h
      refine lv_iinc (v := y3_7) (lv' := [(3, .int y3_7), (0, .ref z), (1, .long x1)]) hx hb dX10_isAcross_26 hl (k := 0) rfl (by rw [e_y3_7]; rfl) (by decide) rfl (fun ls hl => ?_)
      refine lv_goto (tgt := 2) hx hb dX10_isAcross_29 (by decide) ?_
      exact ih y3_7 _ _ _ h ⟨hP, hD, hS, lv_sub (l' := [(3, .int y3_7), (0, .ref z), (1, .long x1)]) hl [0, 1, 2] rfl⟩
    · have h := gx_f c_6 h
      refine lv_iconst (v := 0) hx hb dX10_isAcross_24 (by decide) ?_
      cases h
      exact gRz hx hb hr hlocks rfl hP hD hS dX10_isAcross_25

def fL_X10_isFailing_18 (K : Nat) (l5 : Int32) (u0_1 : Int32) : Nat → Int32 × Int64 → Option (Int32 × Int64)
  | 0, _ => none
  | k + 1, (l6, l3) =>
    if u0_1 ≤ l6 then
      some (l6, l3)
    else
      gLet ((gLshl 1 l5) - 1) fun y7_4 =>
      gLet ((gLshr l3 l6) &&& y7_4) fun y9_5 =>
      gLet ((gLshr l3 (l6 + l5)) &&& y7_4) fun y11_6 =>
      gLet (l3 &&& ((gLshl ((gLshl y7_4 l5) ||| y7_4) l6) ^^^ (-1))) fun y3_7 =>
      gLet (y3_7 ||| ((gLshl (y9_5 ||| y11_6) l6) ||| (gLshl (y9_5 &&& y11_6) (l6 + l5)))) fun y3_8 =>
      gLet (l6 + (2 * l5)) fun y6_9 =>
      fL_X10_isFailing_18 K l5 u0_1 k (y6_9, y3_8)
def fL_X10_isFailing_10 (K : Nat) (u0_1 : Int32) : Nat → Int32 × Int64 → Option (Int32 × Int64)
  | 0, _ => none
  | k + 1, (l5, l3) =>
    if l5 ≤ 0 then
      some (l5, l3)
    else
      Option.bind (fL_X10_isFailing_18 K l5 u0_1 K (0, l3)) fun (o_10, o_11) =>
      gLet (l5 / 2) fun y5_12 =>
      fL_X10_isFailing_10 K u0_1 k (y5_12, o_11)
def fL_X10_isFailing_124 (K : Nat) (l3 : Int64) (u0_1 : Int32) (u1 : Nat → Int32) : Nat → Int32 × Int32 → Option (Int32 × Int32)
  | 0, _ => none
  | k + 1, (l6, l5) =>
    if u0_1 ≤ l6 then
      some (l6, l5)
    else
      Option.bind (α := Int32) (
        if l5 = 0 then
          gIx l6 32 <|
          if (u1 (Int32.toNatClampNeg l6)) = 0 then
            some 0
          else
            if (lg_cmp ((gLshr l3 l6) &&& 1) 1) = 0 then
              some 1
            else
              some 0
        else
          some 1) fun ms_16 =>
      gLet (l6 + 1) fun y6_20 =>
      fL_X10_isFailing_124 K l3 u0_1 u1 k (y6_20, ms_16)
def f_X10_isFailing (K : Nat) (x1 : Int64) (v_size : Int32) (v_isGoodc : Nat → Int32) : Option (Int32) :=
  gLet (v_size / 2) fun y5_1 =>
  Option.bind (fL_X10_isFailing_10 K v_size K (y5_1, x1)) fun (o_13, o_14) =>
  Option.bind (fL_X10_isFailing_124 K o_14 v_size v_isGoodc K (0, 0)) fun (o_21, o_22) =>
  gBool o_22 <|
  some o_22
set_option maxHeartbeats 4000000 in
set_option maxRecDepth 100000 in
theorem c_X10_isFailing (l : Launch) (D : va_G) (cy : Nat → ClassId) (t sz K : Nat) (z : Nat) (z_isGood : Nat) (z_frozen : Nat) (z_sheetSize : Nat) (z_sheetLane : Nat) (z_sheet : Nat) (z_hands : Nat) (z_seen : Nat) (z_work : Nat) (z_known : Nat) (z_next : Nat) (z_counts : Nat) (z_acrosses : Nat) (z_failings : Nat) (z_given : Nat) (v_fault : Int32) (v_size : Int32) (v_upper : Int32) (v_base : Int32) (v_wide : Int32) (v_mask : Int64) (v_paths : Int32) (v_come : Int32) (v_isCounted : Int32) (v_basis : Int32) (v_trace : Int32) (v_isGoodc : Nat → Int32) (x1 : Int64) (r_ : Int32) (h : f_X10_isFailing K x1 v_size v_isGoodc = some r_) : gMi l D cy t sz yX10_isFailing wsX10_isFailing 0 0 [.ref z, .long x1] [(z, .inr (9, [.int v_fault, .int v_size, .int v_upper, .int v_base, .ref z_isGood, .ref z_frozen, .ref z_sheetSize, .ref z_sheetLane, .ref z_sheet, .ref z_hands, .int v_wide, .long v_mask, .int v_paths, .ref z_seen, .ref z_work, .ref z_known, .ref z_next, .int v_come, .int v_isCounted, .ref z_counts, .ref z_acrosses, .ref z_failings, .int v_basis, .ref z_given, .int v_trace])), (z_isGood, .inl (cy 2, 32, .inl v_isGoodc))] r_ [(z, .inr (9, [.int v_fault, .int v_size, .int v_upper, .int v_base, .ref z_isGood, .ref z_frozen, .ref z_sheetSize, .ref z_sheetLane, .ref z_sheet, .ref z_hands, .int v_wide, .long v_mask, .int v_paths, .ref z_seen, .ref z_work, .ref z_known, .ref z_next, .int v_come, .int v_isCounted, .ref z_counts, .ref z_acrosses, .ref z_failings, .int v_basis, .ref z_given, .int v_trace])), (z_isGood, .inl (cy 2, 32, .inl v_isGoodc))] := by
  refine gBi (cc := cX10_isFailing) (maxL := 13) (ret := (some .boolean)) (by decide) rfl (Nat.le_of_ble_eq_true rfl) ?_
  intro p e s m below meth c A ls hAt hl
  obtain ⟨hx, hb, hml, hr, hts, hown, hlocks, hin, hK, hG, hA, hP, hD⟩ := hAt
  have hS : va_S A s.heap s.heap [] := va_S.rf
  have hl : lv_has ls 13 [(0, .ref z), (1, .long x1)] := hl
  have f54 := hts (.fieldLink RX10 54 "PlainLinesModel" "size" "I") (by decide +kernel)
  have iX10 := (by decide +kernel : ∀ w ∈ u_ws RX10 TX10 25, w ∈ wsX10_isFailing)
  have f7 := hts (.fieldLink RX10 7 "PlainLinesModel" "isGood" "[Z") (by decide +kernel)
  have k91 := hts (.constantLong RX10 91 (-1)) (by decide +kernel)
  rw [f_X10_isFailing] at h
  refine lv_lload_n hx hb dX10_isFailing_0 rfl (lv_at hl 1 rfl) ?_
  refine lv_lstore_n (lv' := [(3, .long x1), (0, .ref z), (1, .long x1)]) hx hb dX10_isFailing_1 rfl hl (by decide) rfl (fun ls hl => ?_)
  refine lv_aload_n hx hb dX10_isFailing_2 rfl (lv_at hl 1 rfl) ?_
  refine va_get (D := D) (ci := 9) (v := .int v_size) (C := RX10) (T := TX10) (N := 25) hx hb hts iX10 hown hK hP 0 rfl rfl 1 (by decide) f54 (fun _ h9 => h9) rfl dX10_isFailing_3 ?_
  refine lv_iconst (v := 2) hx hb dX10_isFailing_6 (by decide) ?_
  refine lv_idiv hx hb dX10_isFailing_7 (by decide) ?_
  refine lv_topi (fun y5_1 e_y5_1 => ?_)
  have h := gx_let e_y5_1 h
  refine lv_istore (lv' := [(5, .int y5_1), (3, .long x1), (0, .ref z), (1, .long x1)]) hx hb dX10_isFailing_8 hl (by decide) rfl (fun ls hl => ?_)
  obtain ⟨⟨o_2, o_3⟩, hL_4, h⟩ := gx_b h
  refine gJoin (Pj := fun H locs ls => va_P D vwCl [(z, .inr (9, [.int v_fault, .int v_size, .int v_upper, .int v_base, .ref z_isGood, .ref z_frozen, .ref z_sheetSize, .ref z_sheetLane, .ref z_sheet, .ref z_hands, .int v_wide, .long v_mask, .int v_paths, .ref z_seen, .ref z_work, .ref z_known, .ref z_next, .int v_come, .int v_isCounted, .ref z_counts, .ref z_acrosses, .ref z_failings, .int v_basis, .ref z_given, .int v_trace])), (z_isGood, .inl (cy 2, 32, .inl v_isGoodc))] H ∧ va_D A [(z, .inr (9, [.int v_fault, .int v_size, .int v_upper, .int v_base, .ref z_isGood, .ref z_frozen, .ref z_sheetSize, .ref z_sheetLane, .ref z_sheet, .ref z_hands, .int v_wide, .long v_mask, .int v_paths, .ref z_seen, .ref z_work, .ref z_known, .ref z_next, .int v_come, .int v_isCounted, .ref z_counts, .ref z_acrosses, .ref z_failings, .int v_basis, .ref z_given, .int v_trace])), (z_isGood, .inl (cy 2, 32, .inl v_isGoodc))] ∧ va_S A s.heap H locs ∧ lv_has ls 13 [(5, .int o_2), (3, .long o_3), (0, .ref z), (1, .long x1)]) (pcM := 118) (st := []) ?_ (fun hJ118 => ?_)
  · intro H locs ls hp_
    obtain ⟨hP, hD, hS, hl⟩ := hp_
    clear hL_4
    refine lv_iconst (v := 0) hx hb dX10_isFailing_118 (by decide) ?_
    refine lv_istore (lv' := [(5, .int 0), (3, .long o_3), (0, .ref z), (1, .long x1)]) hx hb dX10_isFailing_119 hl (by decide) rfl (fun ls hl => ?_)
    refine lv_iconst (v := 0) hx hb dX10_isFailing_121 (by decide) ?_
    refine lv_istore (lv' := [(6, .int 0), (5, .int 0), (3, .long o_3), (0, .ref z), (1, .long x1)]) hx hb dX10_isFailing_122 hl (by decide) rfl (fun ls hl => ?_)
    obtain ⟨⟨o_5, o_6⟩, hL_7, h⟩ := gx_b h
    refine gJoin (Pj := fun H locs ls => va_P D vwCl [(z, .inr (9, [.int v_fault, .int v_size, .int v_upper, .int v_base, .ref z_isGood, .ref z_frozen, .ref z_sheetSize, .ref z_sheetLane, .ref z_sheet, .ref z_hands, .int v_wide, .long v_mask, .int v_paths, .ref z_seen, .ref z_work, .ref z_known, .ref z_next, .int v_come, .int v_isCounted, .ref z_counts, .ref z_acrosses, .ref z_failings, .int v_basis, .ref z_given, .int v_trace])), (z_isGood, .inl (cy 2, 32, .inl v_isGoodc))] H ∧ va_D A [(z, .inr (9, [.int v_fault, .int v_size, .int v_upper, .int v_base, .ref z_isGood, .ref z_frozen, .ref z_sheetSize, .ref z_sheetLane, .ref z_sheet, .ref z_hands, .int v_wide, .long v_mask, .int v_paths, .ref z_seen, .ref z_work, .ref z_known, .ref z_next, .int v_come, .int v_isCounted, .ref z_counts, .ref z_acrosses, .ref z_failings, .int v_basis, .ref z_given, .int v_trace])), (z_isGood, .inl (cy 2, 32, .inl v_isGoodc))] ∧ va_S A s.heap H locs ∧ lv_has ls 13 [(6, .int o_5), (5, .int o_6), (3, .long o_3), (0, .ref z), (1, .long x1)]) (pcM := 172) (st := []) ?_ (fun hJ172 => ?_)
    · intro H locs ls hp_
      obtain ⟨hP, hD, hS, hl⟩ := hp_
      clear hL_7
      refine lv_iload hx hb dX10_isFailing_172 (lv_at hl 1 rfl) ?_
      obtain ⟨hn_, h⟩ := gx_bool h
      cases h
      exact gRz hx hb hr hlocks hn_ hP hD hS dX10_isFailing_174
    · refine gLoop (Hy := fun k_ v_ => fL_X10_isFailing_124 K o_3 v_size v_isGoodc k_ v_ = some (o_5, o_6)) (Pl := fun (v_ : Int32 × Int32) H locs ls => match v_ with | (a_8, a_9) => va_P D vwCl [(z, .inr (9, [.int v_fault, .int v_size, .int v_upper, .int v_base, .ref z_isGood, .ref z_frozen, .ref z_sheetSize, .ref z_sheetLane, .ref z_sheet, .ref z_hands, .int v_wide, .long v_mask, .int v_paths, .ref z_seen, .ref z_work, .ref z_known, .ref z_next, .int v_come, .int v_isCounted, .ref z_counts, .ref z_acrosses, .ref z_failings, .int v_basis, .ref z_given, .int v_trace])), (z_isGood, .inl (cy 2, 32, .inl v_isGoodc))] H ∧ va_D A [(z, .inr (9, [.int v_fault, .int v_size, .int v_upper, .int v_base, .ref z_isGood, .ref z_frozen, .ref z_sheetSize, .ref z_sheetLane, .ref z_sheet, .ref z_hands, .int v_wide, .long v_mask, .int v_paths, .ref z_seen, .ref z_work, .ref z_known, .ref z_next, .int v_come, .int v_isCounted, .ref z_counts, .ref z_acrosses, .ref z_failings, .int v_basis, .ref z_given, .int v_trace])), (z_isGood, .inl (cy 2, 32, .inl v_isGoodc))] ∧ va_S A s.heap H locs ∧ lv_has ls 13 [(6, .int a_8), (5, .int a_9), (3, .long o_3), (0, .ref z), (1, .long x1)]) (pcH := 124) (fun _ q_ => by cases q_) ?_ K (0, 0) hL_7 ⟨hP, hD, hS, hl⟩
      clear hL_7 h hP hD hS hl
      intro k_ ih ⟨a_8, a_9⟩ H locs ls h hp_
      obtain ⟨hP, hD, hS, hl⟩ := hp_
      have hP : va_P D vwCl [(z, .inr (9, [.int v_fault, .int v_size, .int v_upper, .int v_base, .ref z_isGood, .ref z_frozen, .ref z_sheetSize, .ref z_sheetLane, .ref z_sheet, .ref z_hands, .int v_wide, .long v_mask, .int v_paths, .ref z_seen, .ref z_work, .ref z_known, .ref z_next, .int v_come, .int v_isCounted, .ref z_counts, .ref z_acrosses, .ref z_failings, .int v_basis, .ref z_given, .int v_trace])), (z_isGood, .inl (cy 2, 32, .inl v_isGoodc))] H := hP
      have hD : va_D A [(z, .inr (9, [.int v_fault, .int v_size, .int v_upper, .int v_base, .ref z_isGood, .ref z_frozen, .ref z_sheetSize, .ref z_sheetLane, .ref z_sheet, .ref z_hands, .int v_wide, .long v_mask, .int v_paths, .ref z_seen, .ref z_work, .ref z_known, .ref z_next, .int v_come, .int v_isCounted, .ref z_counts, .ref z_acrosses, .ref z_failings, .int v_basis, .ref z_given, .int v_trace])), (z_isGood, .inl (cy 2, 32, .inl v_isGoodc))] := hD
      have hl : lv_has ls 13 [(6, .int a_8), (5, .int a_9), (3, .long o_3), (0, .ref z), (1, .long x1)] := hl
      change fL_X10_isFailing_124 K o_3 v_size v_isGoodc (k_ + 1) (a_8, a_9) = _ at h
      rw [fL_X10_isFailing_124] at h
      refine lv_iload hx hb dX10_isFailing_124 (lv_at hl 0 rfl) ?_
      refine lv_aload_n hx hb dX10_isFailing_126 rfl (lv_at hl 3 rfl) ?_
      refine va_get (D := D) (ci := 9) (v := .int v_size) (C := RX10) (T := TX10) (N := 25) hx hb hts iX10 hown hK hP 0 rfl rfl 1 (by decide) f54 (fun _ h9 => h9) rfl dX10_isFailing_127 ?_
      refine lv_icmp_ge (tgt := 172) hx hb dX10_isFailing_130 (by decide) (fun c_10 => ?_) (fun c_10 => ?_)
      · have h := gx_t c_10 h
        have hl := lv_sub (l' := [(6, .int a_8), (5, .int a_9), (3, .long o_3), (0, .ref z), (1, .long x1)]) hl [0, 1, 2, 3, 4] rfl
        cases h
        exact hJ172 _ _ _ ⟨hP, hD, hS, hl⟩
      · have h := gx_f c_10 h
        refine lv_iload hx hb dX10_isFailing_133 (lv_at hl 1 rfl) ?_
        obtain ⟨ms_11, hR_12, h⟩ := gx_b h
        refine gJoin (Pj := fun H locs ls => va_P D vwCl [(z, .inr (9, [.int v_fault, .int v_size, .int v_upper, .int v_base, .ref z_isGood, .ref z_frozen, .ref z_sheetSize, .ref z_sheetLane, .ref z_sheet, .ref z_hands, .int v_wide, .long v_mask, .int v_paths, .ref z_seen, .ref z_work, .ref z_known, .ref z_next, .int v_come, .int v_isCounted, .ref z_counts, .ref z_acrosses, .ref z_failings, .int v_basis, .ref z_given, .int v_trace])), (z_isGood, .inl (cy 2, 32, .inl v_isGoodc))] H ∧ va_D A [(z, .inr (9, [.int v_fault, .int v_size, .int v_upper, .int v_base, .ref z_isGood, .ref z_frozen, .ref z_sheetSize, .ref z_sheetLane, .ref z_sheet, .ref z_hands, .int v_wide, .long v_mask, .int v_paths, .ref z_seen, .ref z_work, .ref z_known, .ref z_next, .int v_come, .int v_isCounted, .ref z_counts, .ref z_acrosses, .ref z_failings, .int v_basis, .ref z_given, .int v_trace])), (z_isGood, .inl (cy 2, 32, .inl v_isGoodc))] ∧ va_S A s.heap H locs ∧ lv_has ls 13 [(6, .int a_8), (5, .int a_9), (3, .long o_3), (0, .ref z), (1, .long x1)]) (pcM := 164) (st := [.int ms_11]) ?_ (fun hJ164 => ?_)
        · intro H locs ls hp_
          obtain ⟨hP, hD, hS, hl⟩ := hp_
          clear hR_12
          refine lv_istore (lv' := [(5, .int ms_11), (6, .int a_8), (3, .long o_3), (0, .ref z), (1, .long x1)]) hx hb dX10_isFailing_164 hl (by decide) rfl (fun ls hl => ?_)
          obtain ⟨y6_13, e_y6_13⟩ : ∃ y : Int32, y = (a_8 + 1) := ⟨_, rfl⟩
          have h := gx_let e_y6_13 h
          refine lv_iinc (v := y6_13) (lv' := [(6, .int y6_13), (5, .int ms_11), (3, .long o_3), (0, .ref z), (1, .long x1)]) hx hb dX10_isFailing_166 hl (k := 1) rfl (by rw [e_y6_13]; rfl) (by decide) rfl (fun ls hl => ?_)
          refine lv_goto (tgt := 124) hx hb dX10_isFailing_169 (by decide) ?_
          exact ih (y6_13, ms_11) _ _ _ h ⟨hP, hD, hS, lv_sub (l' := [(6, .int y6_13), (5, .int ms_11), (3, .long o_3), (0, .ref z), (1, .long x1)]) hl [0, 1, 2, 3, 4] rfl⟩
        · have h := hR_12
          refine lv_if_ne (tgt := 159) hx hb dX10_isFailing_135 (by decide) (fun c_14 => ?_) (fun c_14 => ?_)
          · have h := gx_f c_14 h
            refine lv_iconst (v := 1) hx hb dX10_isFailing_159 (by decide) ?_
            refine lv_goto (tgt := 164) hx hb dX10_isFailing_160 (by decide) ?_
            have hl := lv_sub (l' := [(6, .int a_8), (5, .int a_9), (3, .long o_3), (0, .ref z), (1, .long x1)]) hl [0, 1, 2, 3, 4] rfl
            cases h
            exact hJ164 _ _ _ ⟨hP, hD, hS, hl⟩
          · have h := gx_t c_14 h
            refine lv_aload_n hx hb dX10_isFailing_138 rfl (lv_at hl 3 rfl) ?_
            refine va_get (D := D) (ci := 9) (v := .ref z_isGood) (C := RX10) (T := TX10) (N := 25) hx hb hts iX10 hown hK hP 0 rfl rfl 4 (by decide) f7 (fun _ h9 => h9) rfl dX10_isFailing_139 ?_
            refine lv_iload hx hb dX10_isFailing_142 (lv_at hl 0 rfl) ?_
            obtain ⟨hi_, h⟩ := gx_ix h
            refine va_zald hx hb hK hP 1 2 rfl rfl hi_ dX10_isFailing_144 ?_
            refine lv_if_eq (tgt := 163) hx hb dX10_isFailing_145 (by decide) (fun c_15 => ?_) (fun c_15 => ?_)
            · have h := gx_t c_15 h
              refine lv_iconst (v := 0) hx hb dX10_isFailing_163 (by decide) ?_
              have hl := lv_sub (l' := [(6, .int a_8), (5, .int a_9), (3, .long o_3), (0, .ref z), (1, .long x1)]) hl [0, 1, 2, 3, 4] rfl
              cases h
              exact hJ164 _ _ _ ⟨hP, hD, hS, hl⟩
            · have h := gx_f c_15 h
              refine lv_lload_n hx hb dX10_isFailing_148 rfl (lv_at hl 2 rfl) ?_
              refine lv_iload hx hb dX10_isFailing_149 (lv_at hl 0 rfl) ?_
              refine lv_lshr (v := (gLshr o_3 a_8)) hx hb dX10_isFailing_151 rfl ?_
              refine lv_lconst (v := 1) hx hb dX10_isFailing_152 (by decide) ?_
              refine lv_land hx hb dX10_isFailing_153 ?_
              refine lv_lconst (v := 1) hx hb dX10_isFailing_154 (by decide) ?_
              refine W.lcmp hx hb dX10_isFailing_155 ?_
              refine lv_if_ne (tgt := 163) hx hb dX10_isFailing_156 (by decide) (fun c_16 => ?_) (fun c_16 => ?_)
              · have h := gx_f c_16 h
                refine lv_iconst (v := 0) hx hb dX10_isFailing_163 (by decide) ?_
                have hl := lv_sub (l' := [(6, .int a_8), (5, .int a_9), (3, .long o_3), (0, .ref z), (1, .long x1)]) hl [0, 1, 2, 3, 4] rfl
                cases h
                exact hJ164 _ _ _ ⟨hP, hD, hS, hl⟩
              · have h := gx_t c_16 h
                refine lv_iconst (v := 1) hx hb dX10_isFailing_159 (by decide) ?_
                refine lv_goto (tgt := 164) hx hb dX10_isFailing_160 (by decide) ?_
                have hl := lv_sub (l' := [(6, .int a_8), (5, .int a_9), (3, .long o_3), (0, .ref z), (1, .long x1)]) hl [0, 1, 2, 3, 4] rfl
                cases h
                exact hJ164 _ _ _ ⟨hP, hD, hS, hl⟩
  · refine gLoop (Hy := fun k_ v_ => fL_X10_isFailing_10 K v_size k_ v_ = some (o_2, o_3)) (Pl := fun (v_ : Int32 × Int64) H locs ls => match v_ with | (a_17, a_18) => va_P D vwCl [(z, .inr (9, [.int v_fault, .int v_size, .int v_upper, .int v_base, .ref z_isGood, .ref z_frozen, .ref z_sheetSize, .ref z_sheetLane, .ref z_sheet, .ref z_hands, .int v_wide, .long v_mask, .int v_paths, .ref z_seen, .ref z_work, .ref z_known, .ref z_next, .int v_come, .int v_isCounted, .ref z_counts, .ref z_acrosses, .ref z_failings, .int v_basis, .ref z_given, .int v_trace])), (z_isGood, .inl (cy 2, 32, .inl v_isGoodc))] H ∧ va_D A [(z, .inr (9, [.int v_fault, .int v_size, .int v_upper, .int v_base, .ref z_isGood, .ref z_frozen, .ref z_sheetSize, .ref z_sheetLane, .ref z_sheet, .ref z_hands, .int v_wide, .long v_mask, .int v_paths, .ref z_seen, .ref z_work, .ref z_known, .ref z_next, .int v_come, .int v_isCounted, .ref z_counts, .ref z_acrosses, .ref z_failings, .int v_basis, .ref z_given, .int v_trace])), (z_isGood, .inl (cy 2, 32, .inl v_isGoodc))] ∧ va_S A s.heap H locs ∧ lv_has ls 13 [(5, .int a_17), (3, .long a_18), (0, .ref z), (1, .long x1)]) (pcH := 10) (fun _ q_ => by cases q_) ?_ K (y5_1, x1) hL_4 ⟨hP, hD, hS, hl⟩
    clear hL_4 h hP hD hS hl
    intro k_ ih ⟨a_17, a_18⟩ H locs ls h hp_
    obtain ⟨hP, hD, hS, hl⟩ := hp_
    have hP : va_P D vwCl [(z, .inr (9, [.int v_fault, .int v_size, .int v_upper, .int v_base, .ref z_isGood, .ref z_frozen, .ref z_sheetSize, .ref z_sheetLane, .ref z_sheet, .ref z_hands, .int v_wide, .long v_mask, .int v_paths, .ref z_seen, .ref z_work, .ref z_known, .ref z_next, .int v_come, .int v_isCounted, .ref z_counts, .ref z_acrosses, .ref z_failings, .int v_basis, .ref z_given, .int v_trace])), (z_isGood, .inl (cy 2, 32, .inl v_isGoodc))] H := hP
    have hD : va_D A [(z, .inr (9, [.int v_fault, .int v_size, .int v_upper, .int v_base, .ref z_isGood, .ref z_frozen, .ref z_sheetSize, .ref z_sheetLane, .ref z_sheet, .ref z_hands, .int v_wide, .long v_mask, .int v_paths, .ref z_seen, .ref z_work, .ref z_known, .ref z_next, .int v_come, .int v_isCounted, .ref z_counts, .ref z_acrosses, .ref z_failings, .int v_basis, .ref z_given, .int v_trace])), (z_isGood, .inl (cy 2, 32, .inl v_isGoodc))] := hD
    have hl : lv_has ls 13 [(5, .int a_17), (3, .long a_18), (0, .ref z), (1, .long x1)] := hl
    change fL_X10_isFailing_10 K v_size (k_ + 1) (a_17, a_18) = _ at h
    rw [fL_X10_isFailing_10] at h
    refine lv_iload hx hb dX10_isFailing_10 (lv_at hl 0 rfl) ?_
    refine lv_if_le (tgt := 118) hx hb dX10_isFailing_12 (by decide) (fun c_19 => ?_) (fun c_19 => ?_)
    · have h := gx_t c_19 h
      have hl := lv_sub (l' := [(5, .int a_17), (3, .long a_18), (0, .ref z), (1, .long x1)]) hl [0, 1, 2, 3] rfl
      cases h
      exact hJ118 _ _ _ ⟨hP, hD, hS, hl⟩
    · have h := gx_f c_19 h
      refine lv_iconst (v := 0) hx hb dX10_isFailing_15 (by decide) ?_
      refine lv_istore (lv' := [(6, .int 0), (5, .int a_17), (3, .long a_18), (0, .ref z), (1, .long x1)]) hx hb dX10_isFailing_16 hl (by decide) rfl (fun ls hl => ?_)
      obtain ⟨⟨o_20, o_21⟩, hL_22, h⟩ := gx_b h
      refine gJoin (Pj := fun H locs ls => va_P D vwCl [(z, .inr (9, [.int v_fault, .int v_size, .int v_upper, .int v_base, .ref z_isGood, .ref z_frozen, .ref z_sheetSize, .ref z_sheetLane, .ref z_sheet, .ref z_hands, .int v_wide, .long v_mask, .int v_paths, .ref z_seen, .ref z_work, .ref z_known, .ref z_next, .int v_come, .int v_isCounted, .ref z_counts, .ref z_acrosses, .ref z_failings, .int v_basis, .ref z_given, .int v_trace])), (z_isGood, .inl (cy 2, 32, .inl v_isGoodc))] H ∧ va_D A [(z, .inr (9, [.int v_fault, .int v_size, .int v_upper, .int v_base, .ref z_isGood, .ref z_frozen, .ref z_sheetSize, .ref z_sheetLane, .ref z_sheet, .ref z_hands, .int v_wide, .long v_mask, .int v_paths, .ref z_seen, .ref z_work, .ref z_known, .ref z_next, .int v_come, .int v_isCounted, .ref z_counts, .ref z_acrosses, .ref z_failings, .int v_basis, .ref z_given, .int v_trace])), (z_isGood, .inl (cy 2, 32, .inl v_isGoodc))] ∧ va_S A s.heap H locs ∧ lv_has ls 13 [(6, .int o_20), (5, .int a_17), (3, .long o_21), (0, .ref z), (1, .long x1)]) (pcM := 109) (st := []) ?_ (fun hJ109 => ?_)
      · intro H locs ls hp_
        obtain ⟨hP, hD, hS, hl⟩ := hp_
        clear hL_22
        refine lv_iload hx hb dX10_isFailing_109 (lv_at hl 1 rfl) ?_
        refine lv_iconst (v := 2) hx hb dX10_isFailing_111 (by decide) ?_
        refine lv_idiv hx hb dX10_isFailing_112 (by decide) ?_
        refine lv_topi (fun y5_23 e_y5_23 => ?_)
        have h := gx_let e_y5_23 h
        refine lv_istore (lv' := [(5, .int y5_23), (6, .int o_20), (3, .long o_21), (0, .ref z), (1, .long x1)]) hx hb dX10_isFailing_113 hl (by decide) rfl (fun ls hl => ?_)
        refine lv_goto (tgt := 10) hx hb dX10_isFailing_115 (by decide) ?_
        exact ih (y5_23, o_21) _ _ _ h ⟨hP, hD, hS, lv_sub (l' := [(5, .int y5_23), (3, .long o_21), (0, .ref z), (1, .long x1)]) hl [0, 2, 3, 4] rfl⟩
      · refine gLoop (Hy := fun k_ v_ => fL_X10_isFailing_18 K a_17 v_size k_ v_ = some (o_20, o_21)) (Pl := fun (v_ : Int32 × Int64) H locs ls => match v_ with | (a_24, a_25) => va_P D vwCl [(z, .inr (9, [.int v_fault, .int v_size, .int v_upper, .int v_base, .ref z_isGood, .ref z_frozen, .ref z_sheetSize, .ref z_sheetLane, .ref z_sheet, .ref z_hands, .int v_wide, .long v_mask, .int v_paths, .ref z_seen, .ref z_work, .ref z_known, .ref z_next, .int v_come, .int v_isCounted, .ref z_counts, .ref z_acrosses, .ref z_failings, .int v_basis, .ref z_given, .int v_trace])), (z_isGood, .inl (cy 2, 32, .inl v_isGoodc))] H ∧ va_D A [(z, .inr (9, [.int v_fault, .int v_size, .int v_upper, .int v_base, .ref z_isGood, .ref z_frozen, .ref z_sheetSize, .ref z_sheetLane, .ref z_sheet, .ref z_hands, .int v_wide, .long v_mask, .int v_paths, .ref z_seen, .ref z_work, .ref z_known, .ref z_next, .int v_come, .int v_isCounted, .ref z_counts, .ref z_acrosses, .ref z_failings, .int v_basis, .ref z_given, .int v_trace])), (z_isGood, .inl (cy 2, 32, .inl v_isGoodc))] ∧ va_S A s.heap H locs ∧ lv_has ls 13 [(6, .int a_24), (5, .int a_17), (3, .long a_25), (0, .ref z), (1, .long x1)]) (pcH := 18) (fun _ q_ => by cases q_) ?_ K (0, a_18) hL_22 ⟨hP, hD, hS, hl⟩
        clear hL_22 h hP hD hS hl
        intro k_ ih ⟨a_24, a_25⟩ H locs ls h hp_
        obtain ⟨hP, hD, hS, hl⟩ := hp_
        have hP : va_P D vwCl [(z, .inr (9, [.int v_fault, .int v_size, .int v_upper, .int v_base, .ref z_isGood, .ref z_frozen, .ref z_sheetSize, .ref z_sheetLane, .ref z_sheet, .ref z_hands, .int v_wide, .long v_mask, .int v_paths, .ref z_seen, .ref z_work, .ref z_known, .ref z_next, .int v_come, .int v_isCounted, .ref z_counts, .ref z_acrosses, .ref z_failings, .int v_basis, .ref z_given, .int v_trace])), (z_isGood, .inl (cy 2, 32, .inl v_isGoodc))] H := hP
        have hD : va_D A [(z, .inr (9, [.int v_fault, .int v_size, .int v_upper, .int v_base, .ref z_isGood, .ref z_frozen, .ref z_sheetSize, .ref z_sheetLane, .ref z_sheet, .ref z_hands, .int v_wide, .long v_mask, .int v_paths, .ref z_seen, .ref z_work, .ref z_known, .ref z_next, .int v_come, .int v_isCounted, .ref z_counts, .ref z_acrosses, .ref z_failings, .int v_basis, .ref z_given, .int v_trace])), (z_isGood, .inl (cy 2, 32, .inl v_isGoodc))] := hD
        have hl : lv_has ls 13 [(6, .int a_24), (5, .int a_17), (3, .long a_25), (0, .ref z), (1, .long x1)] := hl
        change fL_X10_isFailing_18 K a_17 v_size (k_ + 1) (a_24, a_25) = _ at h
        rw [fL_X10_isFailing_18] at h
        refine lv_iload hx hb dX10_isFailing_18 (lv_at hl 0 rfl) ?_
        refine lv_aload_n hx hb dX10_isFailing_20 rfl (lv_at hl 3 rfl) ?_
        refine va_get (D := D) (ci := 9) (v := .int v_size) (C := RX10) (T := TX10) (N := 25) hx hb hts iX10 hown hK hP 0 rfl rfl 1 (by decide) f54 (fun _ h9 => h9) rfl dX10_isFailing_21 ?_
        refine lv_icmp_ge (tgt := 109) hx hb dX10_isFailing_24 (by decide) (fun c_26 => ?_) (fun c_26 => ?_)
        · have h := gx_t c_26 h
          have hl := lv_sub (l' := [(6, .int a_24), (5, .int a_17), (3, .long a_25), (0, .ref z), (1, .long x1)]) hl [0, 1, 2, 3, 4] rfl
          cases h
          exact hJ109 _ _ _ ⟨hP, hD, hS, hl⟩
        · have h := gx_f c_26 h
          refine lv_lconst (v := 1) hx hb dX10_isFailing_27 (by decide) ?_
          refine lv_iload hx hb dX10_isFailing_28 (lv_at hl 1 rfl) ?_
          refine lv_lshl (v := (gLshl 1 a_17)) hx hb dX10_isFailing_30 rfl ?_
          refine lv_lconst (v := 1) hx hb dX10_isFailing_31 (by decide) ?_
          refine lv_lsub hx hb dX10_isFailing_32 ?_
          refine lv_topl (fun y7_27 e_y7_27 => ?_)
          have h := gx_let e_y7_27 h
          refine lv_lstore (lv' := [(7, .long y7_27), (6, .int a_24), (5, .int a_17), (3, .long a_25), (0, .ref z), (1, .long x1)]) hx hb dX10_isFailing_33 hl (by decide) rfl (fun ls hl => ?_)
          refine lv_lload_n hx hb dX10_isFailing_35 rfl (lv_at hl 3 rfl) ?_
          refine lv_iload hx hb dX10_isFailing_36 (lv_at hl 1 rfl) ?_
          refine lv_lshr (v := (gLshr a_25 a_24)) hx hb dX10_isFailing_38 rfl ?_
          refine lv_lload hx hb dX10_isFailing_39 (lv_at hl 0 rfl) ?_
          refine lv_land hx hb dX10_isFailing_41 ?_
          refine lv_topl (fun y9_28 e_y9_28 => ?_)
          have h := gx_let e_y9_28 h
          refine lv_lstore (lv' := [(9, .long y9_28), (7, .long y7_27), (6, .int a_24), (5, .int a_17), (3, .long a_25), (0, .ref z), (1, .long x1)]) hx hb dX10_isFailing_42 hl (by decide) rfl (fun ls hl => ?_)
          refine lv_lload_n hx hb dX10_isFailing_44 rfl (lv_at hl 4 rfl) ?_
          refine lv_iload hx hb dX10_isFailing_45 (lv_at hl 2 rfl) ?_
          refine lv_iload hx hb dX10_isFailing_47 (lv_at hl 3 rfl) ?_
          refine lv_iadd hx hb dX10_isFailing_49 ?_
          refine lv_lshr (v := (gLshr a_25 (a_24 + a_17))) hx hb dX10_isFailing_50 rfl ?_
          refine lv_lload hx hb dX10_isFailing_51 (lv_at hl 1 rfl) ?_
          refine lv_land hx hb dX10_isFailing_53 ?_
          refine lv_topl (fun y11_29 e_y11_29 => ?_)
          have h := gx_let e_y11_29 h
          refine lv_lstore (lv' := [(11, .long y11_29), (9, .long y9_28), (7, .long y7_27), (6, .int a_24), (5, .int a_17), (3, .long a_25), (0, .ref z), (1, .long x1)]) hx hb dX10_isFailing_54 hl (by decide) rfl (fun ls hl => ?_)
          refine lv_lload_n hx hb dX10_isFailing_56 rfl (lv_at hl 5 rfl) ?_
          refine lv_lload hx hb dX10_isFailing_57 (lv_at hl 2 rfl) ?_
          refine lv_iload hx hb dX10_isFailing_59 (lv_at hl 4 rfl) ?_
          refine lv_lshl (v := (gLshl y7_27 a_17)) hx hb dX10_isFailing_61 rfl ?_
          refine lv_lload hx hb dX10_isFailing_62 (lv_at hl 2 rfl) ?_
          refine lv_lor hx hb dX10_isFailing_64 ?_
          refine lv_iload hx hb dX10_isFailing_65 (lv_at hl 3 rfl) ?_
          refine lv_lshl (v := (gLshl ((gLshl y7_27 a_17) ||| y7_27) a_24)) hx hb dX10_isFailing_67 rfl ?_
          refine lv_ldc2 hx hb hown k91 dX10_isFailing_68 ?_
          refine lv_lxor hx hb dX10_isFailing_71 ?_
          refine lv_land hx hb dX10_isFailing_72 ?_
          refine lv_topl (fun y3_30 e_y3_30 => ?_)
          have h := gx_let e_y3_30 h
          refine lv_lstore_n (lv' := [(3, .long y3_30), (11, .long y11_29), (9, .long y9_28), (7, .long y7_27), (6, .int a_24), (5, .int a_17), (0, .ref z), (1, .long x1)]) hx hb dX10_isFailing_73 rfl hl (by decide) rfl (fun ls hl => ?_)
          refine lv_lload_n hx hb dX10_isFailing_74 rfl (lv_at hl 0 rfl) ?_
          refine lv_lload hx hb dX10_isFailing_75 (lv_at hl 2 rfl) ?_
          refine lv_lload hx hb dX10_isFailing_77 (lv_at hl 1 rfl) ?_
          refine lv_lor hx hb dX10_isFailing_79 ?_
          refine lv_iload hx hb dX10_isFailing_80 (lv_at hl 4 rfl) ?_
          refine lv_lshl (v := (gLshl (y9_28 ||| y11_29) a_24)) hx hb dX10_isFailing_82 rfl ?_
          refine lv_lload hx hb dX10_isFailing_83 (lv_at hl 2 rfl) ?_
          refine lv_lload hx hb dX10_isFailing_85 (lv_at hl 1 rfl) ?_
          refine lv_land hx hb dX10_isFailing_87 ?_
          refine lv_iload hx hb dX10_isFailing_88 (lv_at hl 4 rfl) ?_
          refine lv_iload hx hb dX10_isFailing_90 (lv_at hl 5 rfl) ?_
          refine lv_iadd hx hb dX10_isFailing_92 ?_
          refine lv_lshl (v := (gLshl (y9_28 &&& y11_29) (a_24 + a_17))) hx hb dX10_isFailing_93 rfl ?_
          refine lv_lor hx hb dX10_isFailing_94 ?_
          refine lv_lor hx hb dX10_isFailing_95 ?_
          refine lv_topl (fun y3_31 e_y3_31 => ?_)
          have h := gx_let e_y3_31 h
          refine lv_lstore_n (lv' := [(3, .long y3_31), (11, .long y11_29), (9, .long y9_28), (7, .long y7_27), (6, .int a_24), (5, .int a_17), (0, .ref z), (1, .long x1)]) hx hb dX10_isFailing_96 rfl hl (by decide) rfl (fun ls hl => ?_)
          refine lv_iload hx hb dX10_isFailing_97 (lv_at hl 4 rfl) ?_
          refine lv_iconst (v := 2) hx hb dX10_isFailing_99 (by decide) ?_
          refine lv_iload hx hb dX10_isFailing_100 (lv_at hl 5 rfl) ?_
          refine lv_imul hx hb dX10_isFailing_102 ?_
          refine lv_iadd hx hb dX10_isFailing_103 ?_
          refine lv_topi (fun y6_32 e_y6_32 => ?_)
          have h := gx_let e_y6_32 h
          refine lv_istore (lv' := [(6, .int y6_32), (3, .long y3_31), (11, .long y11_29), (9, .long y9_28), (7, .long y7_27), (5, .int a_17), (0, .ref z), (1, .long x1)]) hx hb dX10_isFailing_104 hl (by decide) rfl (fun ls hl => ?_)
          refine lv_goto (tgt := 18) hx hb dX10_isFailing_106 (by decide) ?_
          exact ih (y6_32, y3_31) _ _ _ h ⟨hP, hD, hS, lv_sub (l' := [(6, .int y6_32), (5, .int a_17), (3, .long y3_31), (0, .ref z), (1, .long x1)]) hl [0, 5, 1, 6, 7] rfl⟩

def fL_X10_countAll_15 (K : Nat) : Nat → Int32 × (Nat → Int32) × (Nat → Int32) × (Nat → Int32) → Option (Int32 × (Nat → Int32) × (Nat → Int32) × (Nat → Int32))
  | 0, _ => none
  | k + 1, (l1, u1, u2, u3) =>
    if 33 ≤ l1 then
      some (l1, u1, u2, u3)
    else
      gIx l1 33 <|
      gLet (upd u1 (Int32.toNatClampNeg l1) 0) fun w_8 =>
      gIx l1 33 <|
      gLet (upd u2 (Int32.toNatClampNeg l1) 0) fun w_9 =>
      gIx l1 33 <|
      gLet (upd u3 (Int32.toNatClampNeg l1) 0) fun w_10 =>
      gLet (l1 + 1) fun y1_11 =>
      fL_X10_countAll_15 K k (y1_11, w_8, w_9, w_10)
def fL_X10_countAll_59 (K : Nat) (u0_1 : Int32) (u4 : Nat → Int32) (u5 : Nat → Int32) : Nat → Int64 × (Nat → Int32) → Option (Int64 × (Nat → Int32))
  | 0, _ => none
  | k + 1, (l1, u1) =>
    Option.bind (f_X10_goods K u0_1 u4) fun r_26 =>
    if 0 ≤ (lg_cmp l1 (gLshl 1 r_26)) then
      some (l1, u1)
    else
      Option.bind (f_X10_rowOf K l1 u0_1 u4 u5) fun r_28 =>
      Option.bind (f_X10_folded K r_28 u0_1) fun r_29 =>
      Option.bind (f_X10_ones K r_29) fun r_30 =>
      gIx r_30 33 <|
      gLet ((u1 (Int32.toNatClampNeg r_30)) + 1) fun y_31 =>
      gIx r_30 33 <|
      gLet (upd u1 (Int32.toNatClampNeg r_30) y_31) fun w_32 =>
      gLet (l1 + 1) fun y1_33 =>
      fL_X10_countAll_59 K u0_1 u4 u5 k (y1_33, w_32)
def fL_X10_countAll_108 (K : Nat) (u0_1 : Int32) (u4 : Nat → Int32) : Nat → Int32 × Int32 × (Nat → Int64) → Option (Int32 × Int32 × (Nat → Int64))
  | 0, _ => none
  | k + 1, (l1, u0_22, u6) =>
    if u0_1 ≤ l1 then
      some (l1, u0_22, u6)
    else
      gIx l1 32 <|
      if (u4 (Int32.toNatClampNeg l1)) = 0 then
        gLet (l1 + 1) fun y1_30 =>
        fL_X10_countAll_108 K u0_1 u4 k (y1_30, u0_22, u6)
      else
        Option.bind (f_X10_folded K (gLshl 1 l1) u0_1) fun r_31 =>
        gIx u0_22 32 <|
        gLet (vp_updL u6 (Int32.toNatClampNeg u0_22) r_31) fun w_32 =>
        gLet (u0_22 + 1) fun y_33 =>
        gLet (l1 + 1) fun y1_34 =>
        fL_X10_countAll_108 K u0_1 u4 k (y1_34, y_33, w_32)
def fL_X10_countAll_171 (K : Nat) (u0_1 : Int32) (u0_22 : Int32) (u4 : Nat → Int32) (u6 : Nat → Int64) : Nat → Int64 × (Nat → Int32) × (Nat → Int32) → Option (Int64 × (Nat → Int32) × (Nat → Int32))
  | 0, _ => none
  | k + 1, (l1, u2, u3) =>
    Option.bind (f_X10_all K u0_1) fun r_53 =>
    if 0 < (lg_cmp l1 r_53) then
      some (l1, u2, u3)
    else
      Option.bind (f_X10_ones K l1) fun r_55 =>
      gIx r_55 33 <|
      Option.bind (f_X10_isAcross K l1 u0_22 u6) fun r_56 =>
      Option.bind (α := Int32) (
        if r_56 = 0 then
          some 0
        else
          some 1) fun ms_57 =>
      gLet ((u2 (Int32.toNatClampNeg r_55)) + ms_57) fun y_59 =>
      gIx r_55 33 <|
      gLet (upd u2 (Int32.toNatClampNeg r_55) y_59) fun w_60 =>
      gIx r_55 33 <|
      Option.bind (f_X10_isFailing K l1 u0_1 u4) fun r_61 =>
      Option.bind (α := Int32) (
        if r_61 = 0 then
          some 0
        else
          some 1) fun ms_62 =>
      gLet ((u3 (Int32.toNatClampNeg r_55)) + ms_62) fun y_64 =>
      gIx r_55 33 <|
      gLet (upd u3 (Int32.toNatClampNeg r_55) y_64) fun w_65 =>
      gLet (l1 + 1) fun y1_66 =>
      fL_X10_countAll_171 K u0_1 u0_22 u4 u6 k (y1_66, w_60, w_65)
def f_X10_countAll (K : Nat) (v_size : Int32) (v_isCounted : Int32) (v_basis : Int32) (v_countsc : Nat → Int32) (v_acrossesc : Nat → Int32) (v_failingsc : Nat → Int32) (v_isGoodc : Nat → Int32) (v_frozenc : Nat → Int32) (v_givenc : Nat → Int64) : Option (Int32 × Int32 × (Nat → Int32) × (Nat → Int32) × (Nat → Int32) × (Nat → Int64)) :=
  if v_isCounted = 0 then
    Option.bind (fL_X10_countAll_15 K K (0, v_countsc, v_acrossesc, v_failingsc)) fun (o_12, o_13, o_14, o_15) =>
    Option.bind (f_X10_goods K v_size v_isGoodc) fun r_16 =>
    Option.bind (α := (Nat → Int32)) (
      if 12 < r_16 then
        some o_13
      else
        Option.bind (fL_X10_countAll_59 K v_size v_isGoodc v_frozenc K (0, o_13)) fun (o_19, o_20) =>
        some o_20) fun mc_17 =>
    Option.bind (fL_X10_countAll_108 K v_size v_isGoodc K (0, 0, v_givenc)) fun (o_35, o_36, o_37) =>
    if 16 < v_size then
      some (1, o_36, mc_17, o_14, o_15, o_37)
    else
      Option.bind (fL_X10_countAll_171 K v_size o_36 v_isGoodc o_37 K (0, o_14, o_15)) fun (o_67, o_68, o_69) =>
      some (1, o_36, mc_17, o_68, o_69, o_37)
  else
    some (v_isCounted, v_basis, v_countsc, v_acrossesc, v_failingsc, v_givenc)
set_option maxHeartbeats 4000000 in
set_option maxRecDepth 100000 in
theorem c_X10_countAll (l : Launch) (D : va_G) (cy : Nat → ClassId) (t sz K : Nat) (z : Nat) (z_counts : Nat) (z_acrosses : Nat) (z_failings : Nat) (z_isGood : Nat) (z_frozen : Nat) (z_given : Nat) (z_sheetSize : Nat) (z_sheetLane : Nat) (z_sheet : Nat) (z_hands : Nat) (z_seen : Nat) (z_work : Nat) (z_known : Nat) (z_next : Nat) (v_fault : Int32) (v_size : Int32) (v_upper : Int32) (v_base : Int32) (v_wide : Int32) (v_mask : Int64) (v_paths : Int32) (v_come : Int32) (v_isCounted : Int32) (v_basis : Int32) (v_trace : Int32) (v_countsc : Nat → Int32) (v_acrossesc : Nat → Int32) (v_failingsc : Nat → Int32) (v_isGoodc : Nat → Int32) (v_frozenc : Nat → Int32) (v_givenc : Nat → Int64) (o_v_isCounted : Int32) (o_v_basis : Int32) (o_v_countsc : Nat → Int32) (o_v_acrossesc : Nat → Int32) (o_v_failingsc : Nat → Int32) (o_v_givenc : Nat → Int64) (h : f_X10_countAll K v_size v_isCounted v_basis v_countsc v_acrossesc v_failingsc v_isGoodc v_frozenc v_givenc = some (o_v_isCounted, o_v_basis, o_v_countsc, o_v_acrossesc, o_v_failingsc, o_v_givenc)) : gMv l D cy t sz yX10_countAll wsX10_countAll 2 46 [.ref z] [(z, .inr (9, [.int v_fault, .int v_size, .int v_upper, .int v_base, .ref z_isGood, .ref z_frozen, .ref z_sheetSize, .ref z_sheetLane, .ref z_sheet, .ref z_hands, .int v_wide, .long v_mask, .int v_paths, .ref z_seen, .ref z_work, .ref z_known, .ref z_next, .int v_come, .int v_isCounted, .ref z_counts, .ref z_acrosses, .ref z_failings, .int v_basis, .ref z_given, .int v_trace])), (z_counts, .inl (cy 0, 33, .inl v_countsc)), (z_acrosses, .inl (cy 0, 33, .inl v_acrossesc)), (z_failings, .inl (cy 0, 33, .inl v_failingsc)), (z_isGood, .inl (cy 2, 32, .inl v_isGoodc)), (z_frozen, .inl (cy 0, 32, .inl v_frozenc)), (z_given, .inl (cy 1, 32, .inr (.inl v_givenc)))] [(z, .inr (9, [.int v_fault, .int v_size, .int v_upper, .int v_base, .ref z_isGood, .ref z_frozen, .ref z_sheetSize, .ref z_sheetLane, .ref z_sheet, .ref z_hands, .int v_wide, .long v_mask, .int v_paths, .ref z_seen, .ref z_work, .ref z_known, .ref z_next, .int v_come, .int o_v_isCounted, .ref z_counts, .ref z_acrosses, .ref z_failings, .int o_v_basis, .ref z_given, .int v_trace])), (z_counts, .inl (cy 0, 33, .inl o_v_countsc)), (z_acrosses, .inl (cy 0, 33, .inl o_v_acrossesc)), (z_failings, .inl (cy 0, 33, .inl o_v_failingsc)), (z_isGood, .inl (cy 2, 32, .inl v_isGoodc)), (z_frozen, .inl (cy 0, 32, .inl v_frozenc)), (z_given, .inl (cy 1, 32, .inr (.inl o_v_givenc)))] := by
  refine gBv (cc := cX10_countAll) (maxL := 4) (ret := none) (by decide) rfl (Nat.le_of_ble_eq_true rfl) ?_
  intro p e s m below meth c A ls hAt hl
  obtain ⟨hx, hb, hml, hr, hts, hown, hlocks, hin, hK, hG, hA, hP, hD⟩ := hAt
  have hS : va_S A s.heap s.heap [] := va_S.rf
  have hl : lv_has ls 4 [(0, .ref z)] := hl
  have f83 := hts (.fieldLink RX10 83 "PlainLinesModel" "isCounted" "Z") (by decide +kernel)
  have iX10 := (by decide +kernel : ∀ w ∈ u_ws RX10 TX10 25, w ∈ wsX10_countAll)
  have f191 := hts (.fieldLink RX10 191 "PlainLinesModel" "basis" "I") (by decide +kernel)
  have f54 := hts (.fieldLink RX10 54 "PlainLinesModel" "size" "I") (by decide +kernel)
  have f45 := hts (.fieldLink RX10 45 "PlainLinesModel" "acrosses" "[I") (by decide +kernel)
  have f48 := hts (.fieldLink RX10 48 "PlainLinesModel" "failings" "[I") (by decide +kernel)
  have f7 := hts (.fieldLink RX10 7 "PlainLinesModel" "isGood" "[Z") (by decide +kernel)
  have f51 := hts (.fieldLink RX10 51 "PlainLinesModel" "given" "[J") (by decide +kernel)
  have f42 := hts (.fieldLink RX10 42 "PlainLinesModel" "counts" "[I") (by decide +kernel)
  rw [f_X10_countAll] at h
  refine lv_aload_n hx hb dX10_countAll_0 rfl (lv_at hl 0 rfl) ?_
  refine va_get (D := D) (ci := 9) (v := .int v_isCounted) (C := RX10) (T := TX10) (N := 25) hx hb hts iX10 hown hK hP 0 rfl rfl 18 (by decide) f83 (fun _ h9 => h9) rfl dX10_countAll_1 ?_
  refine lv_if_eq (tgt := 8) hx hb dX10_countAll_4 (by decide) (fun c_1 => ?_) (fun c_1 => ?_)
  · have h := gx_t c_1 h
    refine lv_aload_n hx hb dX10_countAll_8 rfl (lv_at hl 0 rfl) ?_
    refine lv_iconst (v := 1) hx hb dX10_countAll_9 (by decide) ?_
    refine va_put (D := D) (ci := 9) (v := .int 1) (ty := .boolean) (C := RX10) (T := TX10) (N := 25) hx hb hts iX10 tyX10 tyX10_ok nmX10 hown hK hP hD hS 0 rfl rfl 18 (by decide) f83 (fun _ h9 => h9) rfl (by decide +kernel) rfl rfl (Nat.le_of_ble_eq_true rfl) dX10_countAll_10 (fun H locs hP hD hS => ?_)
    have hP : va_P D vwCl [(z, .inr (9, [.int v_fault, .int v_size, .int v_upper, .int v_base, .ref z_isGood, .ref z_frozen, .ref z_sheetSize, .ref z_sheetLane, .ref z_sheet, .ref z_hands, .int v_wide, .long v_mask, .int v_paths, .ref z_seen, .ref z_work, .ref z_known, .ref z_next, .int v_come, .int 1, .ref z_counts, .ref z_acrosses, .ref z_failings, .int v_basis, .ref z_given, .int v_trace])), (z_counts, .inl (cy 0, 33, .inl v_countsc)), (z_acrosses, .inl (cy 0, 33, .inl v_acrossesc)), (z_failings, .inl (cy 0, 33, .inl v_failingsc)), (z_isGood, .inl (cy 2, 32, .inl v_isGoodc)), (z_frozen, .inl (cy 0, 32, .inl v_frozenc)), (z_given, .inl (cy 1, 32, .inr (.inl v_givenc)))] H := hP
    have hD : va_D A [(z, .inr (9, [.int v_fault, .int v_size, .int v_upper, .int v_base, .ref z_isGood, .ref z_frozen, .ref z_sheetSize, .ref z_sheetLane, .ref z_sheet, .ref z_hands, .int v_wide, .long v_mask, .int v_paths, .ref z_seen, .ref z_work, .ref z_known, .ref z_next, .int v_come, .int 1, .ref z_counts, .ref z_acrosses, .ref z_failings, .int v_basis, .ref z_given, .int v_trace])), (z_counts, .inl (cy 0, 33, .inl v_countsc)), (z_acrosses, .inl (cy 0, 33, .inl v_acrossesc)), (z_failings, .inl (cy 0, 33, .inl v_failingsc)), (z_isGood, .inl (cy 2, 32, .inl v_isGoodc)), (z_frozen, .inl (cy 0, 32, .inl v_frozenc)), (z_given, .inl (cy 1, 32, .inr (.inl v_givenc)))] := hD
    refine lv_iconst (v := 0) hx hb dX10_countAll_13 (by decide) ?_
    refine lv_istore_n (lv' := [(1, .int 0), (0, .ref z)]) hx hb dX10_countAll_14 rfl hl (by decide) rfl (fun ls hl => ?_)
    obtain ⟨⟨o_2, o_3, o_4, o_5⟩, hL_6, h⟩ := gx_b h
    refine gJoin (Pj := fun H locs ls => va_P D vwCl [(z, .inr (9, [.int v_fault, .int v_size, .int v_upper, .int v_base, .ref z_isGood, .ref z_frozen, .ref z_sheetSize, .ref z_sheetLane, .ref z_sheet, .ref z_hands, .int v_wide, .long v_mask, .int v_paths, .ref z_seen, .ref z_work, .ref z_known, .ref z_next, .int v_come, .int 1, .ref z_counts, .ref z_acrosses, .ref z_failings, .int v_basis, .ref z_given, .int v_trace])), (z_counts, .inl (cy 0, 33, .inl o_3)), (z_acrosses, .inl (cy 0, 33, .inl o_4)), (z_failings, .inl (cy 0, 33, .inl o_5)), (z_isGood, .inl (cy 2, 32, .inl v_isGoodc)), (z_frozen, .inl (cy 0, 32, .inl v_frozenc)), (z_given, .inl (cy 1, 32, .inr (.inl v_givenc)))] H ∧ va_D A [(z, .inr (9, [.int v_fault, .int v_size, .int v_upper, .int v_base, .ref z_isGood, .ref z_frozen, .ref z_sheetSize, .ref z_sheetLane, .ref z_sheet, .ref z_hands, .int v_wide, .long v_mask, .int v_paths, .ref z_seen, .ref z_work, .ref z_known, .ref z_next, .int v_come, .int 1, .ref z_counts, .ref z_acrosses, .ref z_failings, .int v_basis, .ref z_given, .int v_trace])), (z_counts, .inl (cy 0, 33, .inl o_3)), (z_acrosses, .inl (cy 0, 33, .inl o_4)), (z_failings, .inl (cy 0, 33, .inl o_5)), (z_isGood, .inl (cy 2, 32, .inl v_isGoodc)), (z_frozen, .inl (cy 0, 32, .inl v_frozenc)), (z_given, .inl (cy 1, 32, .inr (.inl v_givenc)))] ∧ va_S A s.heap H locs ∧ lv_has ls 4 [(1, .int o_2), (0, .ref z)]) (pcM := 48) (st := []) ?_ (fun hJ48 => ?_)
    · intro H locs ls hp_
      obtain ⟨hP, hD, hS, hl⟩ := hp_
      clear hL_6
      refine lv_aload_n hx hb dX10_countAll_48 rfl (lv_at hl 1 rfl) ?_
      obtain ⟨r_7, hc_8, h⟩ := gx_b h
      refine gCalli (wr := [(z_counts, .inl (cy 0, 33, .inl o_3)), (z_acrosses, .inl (cy 0, 33, .inl o_4)), (z_failings, .inl (cy 0, 33, .inl o_5)), (z_frozen, .inl (cy 0, 32, .inl v_frozenc)), (z_given, .inl (cy 1, 32, .inr (.inl v_givenc)))]) (va_runV (As := []) (rest := []) ⟨hx, hb, hml, hown, hts⟩ (c_X10_goods l D cy t H.size K z z_isGood z_frozen z_sheetSize z_sheetLane z_sheet z_hands z_seen z_work z_known z_next z_counts z_acrosses z_failings z_given v_fault v_size v_upper v_base v_wide v_mask v_paths v_come 1 v_basis v_trace v_isGoodc r_7 hc_8) (cwV 0 hts gX10_countAll_X10_goods rfl rfl rfl (by decide +kernel) ⟨Nat.le_of_ble_eq_true rfl, Nat.le_of_ble_eq_true rfl⟩) ⟨gBlind, va_recv hK hP (ci := 9) (q0 := 0) rfl rfl, fun U hU hW => ⟨rfl, gPre.call hK hG hA hP hD hS [0, 4] (by decide) rfl U hU hW⟩⟩ rfl rfl hl.1 rfl (lv_room (Nat.le_of_ble_eq_true rfl)) dX10_countAll_49 ⟨Nat.le_of_ble_eq_true rfl, Nat.le_of_ble_eq_true rfl⟩) hA hP hD hS [0, 4] [1, 2, 3, 5, 6] rfl rfl (by decide) (by decide) (fun H locs hP hD hS => ?_)
      have hP := hP.sub (ws' := [(z, .inr (9, [.int v_fault, .int v_size, .int v_upper, .int v_base, .ref z_isGood, .ref z_frozen, .ref z_sheetSize, .ref z_sheetLane, .ref z_sheet, .ref z_hands, .int v_wide, .long v_mask, .int v_paths, .ref z_seen, .ref z_work, .ref z_known, .ref z_next, .int v_come, .int 1, .ref z_counts, .ref z_acrosses, .ref z_failings, .int v_basis, .ref z_given, .int v_trace])), (z_counts, .inl (cy 0, 33, .inl o_3)), (z_acrosses, .inl (cy 0, 33, .inl o_4)), (z_failings, .inl (cy 0, 33, .inl o_5)), (z_isGood, .inl (cy 2, 32, .inl v_isGoodc)), (z_frozen, .inl (cy 0, 32, .inl v_frozenc)), (z_given, .inl (cy 1, 32, .inr (.inl v_givenc)))]) [5, 0, 1, 2, 6, 3, 4] rfl
      have hD := hD.sub (ws' := [(z, .inr (9, [.int v_fault, .int v_size, .int v_upper, .int v_base, .ref z_isGood, .ref z_frozen, .ref z_sheetSize, .ref z_sheetLane, .ref z_sheet, .ref z_hands, .int v_wide, .long v_mask, .int v_paths, .ref z_seen, .ref z_work, .ref z_known, .ref z_next, .int v_come, .int 1, .ref z_counts, .ref z_acrosses, .ref z_failings, .int v_basis, .ref z_given, .int v_trace])), (z_counts, .inl (cy 0, 33, .inl o_3)), (z_acrosses, .inl (cy 0, 33, .inl o_4)), (z_failings, .inl (cy 0, 33, .inl o_5)), (z_isGood, .inl (cy 2, 32, .inl v_isGoodc)), (z_frozen, .inl (cy 0, 32, .inl v_frozenc)), (z_given, .inl (cy 1, 32, .inr (.inl v_givenc)))]) [5, 0, 1, 2, 6, 3, 4] (by decide) rfl
      refine lv_bipush (v := 12) hx hb dX10_countAll_52 (by decide) ?_
      obtain ⟨mc_9, hR_10, h⟩ := gx_b h
      refine gJoin (Pj := fun H locs ls => va_P D vwCl [(z, .inr (9, [.int v_fault, .int v_size, .int v_upper, .int v_base, .ref z_isGood, .ref z_frozen, .ref z_sheetSize, .ref z_sheetLane, .ref z_sheet, .ref z_hands, .int v_wide, .long v_mask, .int v_paths, .ref z_seen, .ref z_work, .ref z_known, .ref z_next, .int v_come, .int 1, .ref z_counts, .ref z_acrosses, .ref z_failings, .int v_basis, .ref z_given, .int v_trace])), (z_counts, .inl (cy 0, 33, .inl mc_9)), (z_acrosses, .inl (cy 0, 33, .inl o_4)), (z_failings, .inl (cy 0, 33, .inl o_5)), (z_isGood, .inl (cy 2, 32, .inl v_isGoodc)), (z_frozen, .inl (cy 0, 32, .inl v_frozenc)), (z_given, .inl (cy 1, 32, .inr (.inl v_givenc)))] H ∧ va_D A [(z, .inr (9, [.int v_fault, .int v_size, .int v_upper, .int v_base, .ref z_isGood, .ref z_frozen, .ref z_sheetSize, .ref z_sheetLane, .ref z_sheet, .ref z_hands, .int v_wide, .long v_mask, .int v_paths, .ref z_seen, .ref z_work, .ref z_known, .ref z_next, .int v_come, .int 1, .ref z_counts, .ref z_acrosses, .ref z_failings, .int v_basis, .ref z_given, .int v_trace])), (z_counts, .inl (cy 0, 33, .inl mc_9)), (z_acrosses, .inl (cy 0, 33, .inl o_4)), (z_failings, .inl (cy 0, 33, .inl o_5)), (z_isGood, .inl (cy 2, 32, .inl v_isGoodc)), (z_frozen, .inl (cy 0, 32, .inl v_frozenc)), (z_given, .inl (cy 1, 32, .inr (.inl v_givenc)))] ∧ va_S A s.heap H locs ∧ lv_has ls 4 [(0, .ref z)]) (pcM := 101) (st := []) ?_ (fun hJ101 => ?_)
      · intro H locs ls hp_
        obtain ⟨hP, hD, hS, hl⟩ := hp_
        clear hR_10
        refine lv_aload_n hx hb dX10_countAll_101 rfl (lv_at hl 0 rfl) ?_
        refine lv_iconst (v := 0) hx hb dX10_countAll_102 (by decide) ?_
        refine va_put (D := D) (ci := 9) (v := .int 0) (ty := .int) (C := RX10) (T := TX10) (N := 25) hx hb hts iX10 tyX10 tyX10_ok nmX10 hown hK hP hD hS 0 rfl rfl 22 (by decide) f191 (fun _ h9 => h9) rfl (by decide +kernel) rfl rfl (Nat.le_of_ble_eq_true rfl) dX10_countAll_103 (fun H locs hP hD hS => ?_)
        have hP : va_P D vwCl [(z, .inr (9, [.int v_fault, .int v_size, .int v_upper, .int v_base, .ref z_isGood, .ref z_frozen, .ref z_sheetSize, .ref z_sheetLane, .ref z_sheet, .ref z_hands, .int v_wide, .long v_mask, .int v_paths, .ref z_seen, .ref z_work, .ref z_known, .ref z_next, .int v_come, .int 1, .ref z_counts, .ref z_acrosses, .ref z_failings, .int 0, .ref z_given, .int v_trace])), (z_counts, .inl (cy 0, 33, .inl mc_9)), (z_acrosses, .inl (cy 0, 33, .inl o_4)), (z_failings, .inl (cy 0, 33, .inl o_5)), (z_isGood, .inl (cy 2, 32, .inl v_isGoodc)), (z_frozen, .inl (cy 0, 32, .inl v_frozenc)), (z_given, .inl (cy 1, 32, .inr (.inl v_givenc)))] H := hP
        have hD : va_D A [(z, .inr (9, [.int v_fault, .int v_size, .int v_upper, .int v_base, .ref z_isGood, .ref z_frozen, .ref z_sheetSize, .ref z_sheetLane, .ref z_sheet, .ref z_hands, .int v_wide, .long v_mask, .int v_paths, .ref z_seen, .ref z_work, .ref z_known, .ref z_next, .int v_come, .int 1, .ref z_counts, .ref z_acrosses, .ref z_failings, .int 0, .ref z_given, .int v_trace])), (z_counts, .inl (cy 0, 33, .inl mc_9)), (z_acrosses, .inl (cy 0, 33, .inl o_4)), (z_failings, .inl (cy 0, 33, .inl o_5)), (z_isGood, .inl (cy 2, 32, .inl v_isGoodc)), (z_frozen, .inl (cy 0, 32, .inl v_frozenc)), (z_given, .inl (cy 1, 32, .inr (.inl v_givenc)))] := hD
        refine lv_iconst (v := 0) hx hb dX10_countAll_106 (by decide) ?_
        refine lv_istore_n (lv' := [(1, .int 0), (0, .ref z)]) hx hb dX10_countAll_107 rfl hl (by decide) rfl (fun ls hl => ?_)
        obtain ⟨⟨o_11, o_12, o_13⟩, hL_14, h⟩ := gx_b h
        refine gJoin (Pj := fun H locs ls => va_P D vwCl [(z, .inr (9, [.int v_fault, .int v_size, .int v_upper, .int v_base, .ref z_isGood, .ref z_frozen, .ref z_sheetSize, .ref z_sheetLane, .ref z_sheet, .ref z_hands, .int v_wide, .long v_mask, .int v_paths, .ref z_seen, .ref z_work, .ref z_known, .ref z_next, .int v_come, .int 1, .ref z_counts, .ref z_acrosses, .ref z_failings, .int o_12, .ref z_given, .int v_trace])), (z_counts, .inl (cy 0, 33, .inl mc_9)), (z_acrosses, .inl (cy 0, 33, .inl o_4)), (z_failings, .inl (cy 0, 33, .inl o_5)), (z_isGood, .inl (cy 2, 32, .inl v_isGoodc)), (z_frozen, .inl (cy 0, 32, .inl v_frozenc)), (z_given, .inl (cy 1, 32, .inr (.inl o_13)))] H ∧ va_D A [(z, .inr (9, [.int v_fault, .int v_size, .int v_upper, .int v_base, .ref z_isGood, .ref z_frozen, .ref z_sheetSize, .ref z_sheetLane, .ref z_sheet, .ref z_hands, .int v_wide, .long v_mask, .int v_paths, .ref z_seen, .ref z_work, .ref z_known, .ref z_next, .int v_come, .int 1, .ref z_counts, .ref z_acrosses, .ref z_failings, .int o_12, .ref z_given, .int v_trace])), (z_counts, .inl (cy 0, 33, .inl mc_9)), (z_acrosses, .inl (cy 0, 33, .inl o_4)), (z_failings, .inl (cy 0, 33, .inl o_5)), (z_isGood, .inl (cy 2, 32, .inl v_isGoodc)), (z_frozen, .inl (cy 0, 32, .inl v_frozenc)), (z_given, .inl (cy 1, 32, .inr (.inl o_13)))] ∧ va_S A s.heap H locs ∧ lv_has ls 4 [(1, .int o_11), (0, .ref z)]) (pcM := 160) (st := []) ?_ (fun hJ160 => ?_)
        · intro H locs ls hp_
          obtain ⟨hP, hD, hS, hl⟩ := hp_
          clear hL_14
          refine lv_aload_n hx hb dX10_countAll_160 rfl (lv_at hl 1 rfl) ?_
          refine va_get (D := D) (ci := 9) (v := .int v_size) (C := RX10) (T := TX10) (N := 25) hx hb hts iX10 hown hK hP 0 rfl rfl 1 (by decide) f54 (fun _ h9 => h9) rfl dX10_countAll_161 ?_
          refine lv_bipush (v := 16) hx hb dX10_countAll_164 (by decide) ?_
          refine lv_icmp_gt (tgt := 236) hx hb dX10_countAll_166 (by decide) (fun c_15 => ?_) (fun c_15 => ?_)
          · have h := gx_t c_15 h
            cases h
            exact gRv hx hb hr hlocks hP hD hS dX10_countAll_236
          · have h := gx_f c_15 h
            refine lv_lconst (v := 0) hx hb dX10_countAll_169 (by decide) ?_
            refine lv_lstore_n (lv' := [(1, .long 0), (0, .ref z)]) hx hb dX10_countAll_170 rfl hl (by decide) rfl (fun ls hl => ?_)
            obtain ⟨⟨o_16, o_17, o_18⟩, hL_19, h⟩ := gx_b h
            refine gJoin (Pj := fun H locs ls => va_P D vwCl [(z, .inr (9, [.int v_fault, .int v_size, .int v_upper, .int v_base, .ref z_isGood, .ref z_frozen, .ref z_sheetSize, .ref z_sheetLane, .ref z_sheet, .ref z_hands, .int v_wide, .long v_mask, .int v_paths, .ref z_seen, .ref z_work, .ref z_known, .ref z_next, .int v_come, .int 1, .ref z_counts, .ref z_acrosses, .ref z_failings, .int o_12, .ref z_given, .int v_trace])), (z_counts, .inl (cy 0, 33, .inl mc_9)), (z_acrosses, .inl (cy 0, 33, .inl o_17)), (z_failings, .inl (cy 0, 33, .inl o_18)), (z_isGood, .inl (cy 2, 32, .inl v_isGoodc)), (z_frozen, .inl (cy 0, 32, .inl v_frozenc)), (z_given, .inl (cy 1, 32, .inr (.inl o_13)))] H ∧ va_D A [(z, .inr (9, [.int v_fault, .int v_size, .int v_upper, .int v_base, .ref z_isGood, .ref z_frozen, .ref z_sheetSize, .ref z_sheetLane, .ref z_sheet, .ref z_hands, .int v_wide, .long v_mask, .int v_paths, .ref z_seen, .ref z_work, .ref z_known, .ref z_next, .int v_come, .int 1, .ref z_counts, .ref z_acrosses, .ref z_failings, .int o_12, .ref z_given, .int v_trace])), (z_counts, .inl (cy 0, 33, .inl mc_9)), (z_acrosses, .inl (cy 0, 33, .inl o_17)), (z_failings, .inl (cy 0, 33, .inl o_18)), (z_isGood, .inl (cy 2, 32, .inl v_isGoodc)), (z_frozen, .inl (cy 0, 32, .inl v_frozenc)), (z_given, .inl (cy 1, 32, .inr (.inl o_13)))] ∧ va_S A s.heap H locs ∧ lv_has ls 4 [(1, .long o_16), (0, .ref z)]) (pcM := 236) (st := []) ?_ (fun hJ236 => ?_)
            · intro H locs ls hp_
              obtain ⟨hP, hD, hS, hl⟩ := hp_
              clear hL_19
              cases h
              exact gRv hx hb hr hlocks hP hD hS dX10_countAll_236
            · refine gLoop (Hy := fun k_ v_ => fL_X10_countAll_171 K v_size o_12 v_isGoodc o_13 k_ v_ = some (o_16, o_17, o_18)) (Pl := fun (v_ : Int64 × (Nat → Int32) × (Nat → Int32)) H locs ls => match v_ with | (a_20, a_21, a_22) => va_P D vwCl [(z, .inr (9, [.int v_fault, .int v_size, .int v_upper, .int v_base, .ref z_isGood, .ref z_frozen, .ref z_sheetSize, .ref z_sheetLane, .ref z_sheet, .ref z_hands, .int v_wide, .long v_mask, .int v_paths, .ref z_seen, .ref z_work, .ref z_known, .ref z_next, .int v_come, .int 1, .ref z_counts, .ref z_acrosses, .ref z_failings, .int o_12, .ref z_given, .int v_trace])), (z_counts, .inl (cy 0, 33, .inl mc_9)), (z_acrosses, .inl (cy 0, 33, .inl a_21)), (z_failings, .inl (cy 0, 33, .inl a_22)), (z_isGood, .inl (cy 2, 32, .inl v_isGoodc)), (z_frozen, .inl (cy 0, 32, .inl v_frozenc)), (z_given, .inl (cy 1, 32, .inr (.inl o_13)))] H ∧ va_D A [(z, .inr (9, [.int v_fault, .int v_size, .int v_upper, .int v_base, .ref z_isGood, .ref z_frozen, .ref z_sheetSize, .ref z_sheetLane, .ref z_sheet, .ref z_hands, .int v_wide, .long v_mask, .int v_paths, .ref z_seen, .ref z_work, .ref z_known, .ref z_next, .int v_come, .int 1, .ref z_counts, .ref z_acrosses, .ref z_failings, .int o_12, .ref z_given, .int v_trace])), (z_counts, .inl (cy 0, 33, .inl mc_9)), (z_acrosses, .inl (cy 0, 33, .inl a_21)), (z_failings, .inl (cy 0, 33, .inl a_22)), (z_isGood, .inl (cy 2, 32, .inl v_isGoodc)), (z_frozen, .inl (cy 0, 32, .inl v_frozenc)), (z_given, .inl (cy 1, 32, .inr (.inl o_13)))] ∧ va_S A s.heap H locs ∧ lv_has ls 4 [(1, .long a_20), (0, .ref z)]) (pcH := 171) (fun _ q_ => by cases q_) ?_ K (0, o_4, o_5) hL_19 ⟨hP, hD, hS, hl⟩
              clear hL_19 h hP hD hS hl
              intro k_ ih ⟨a_20, a_21, a_22⟩ H locs ls h hp_
              obtain ⟨hP, hD, hS, hl⟩ := hp_
              have hP : va_P D vwCl [(z, .inr (9, [.int v_fault, .int v_size, .int v_upper, .int v_base, .ref z_isGood, .ref z_frozen, .ref z_sheetSize, .ref z_sheetLane, .ref z_sheet, .ref z_hands, .int v_wide, .long v_mask, .int v_paths, .ref z_seen, .ref z_work, .ref z_known, .ref z_next, .int v_come, .int 1, .ref z_counts, .ref z_acrosses, .ref z_failings, .int o_12, .ref z_given, .int v_trace])), (z_counts, .inl (cy 0, 33, .inl mc_9)), (z_acrosses, .inl (cy 0, 33, .inl a_21)), (z_failings, .inl (cy 0, 33, .inl a_22)), (z_isGood, .inl (cy 2, 32, .inl v_isGoodc)), (z_frozen, .inl (cy 0, 32, .inl v_frozenc)), (z_given, .inl (cy 1, 32, .inr (.inl o_13)))] H := hP
              have hD : va_D A [(z, .inr (9, [.int v_fault, .int v_size, .int v_upper, .int v_base, .ref z_isGood, .ref z_frozen, .ref z_sheetSize, .ref z_sheetLane, .ref z_sheet, .ref z_hands, .int v_wide, .long v_mask, .int v_paths, .ref z_seen, .ref z_work, .ref z_known, .ref z_next, .int v_come, .int 1, .ref z_counts, .ref z_acrosses, .ref z_failings, .int o_12, .ref z_given, .int v_trace])), (z_counts, .inl (cy 0, 33, .inl mc_9)), (z_acrosses, .inl (cy 0, 33, .inl a_21)), (z_failings, .inl (cy 0, 33, .inl a_22)), (z_isGood, .inl (cy 2, 32, .inl v_isGoodc)), (z_frozen, .inl (cy 0, 32, .inl v_frozenc)), (z_given, .inl (cy 1, 32, .inr (.inl o_13)))] := hD
              have hl : lv_has ls 4 [(1, .long a_20), (0, .ref z)] := hl
              change fL_X10_countAll_171 K v_size o_12 v_isGoodc o_13 (k_ + 1) (a_20, a_21, a_22) = _ at h
              rw [fL_X10_countAll_171] at h
              refine lv_lload_n hx hb dX10_countAll_171 rfl (lv_at hl 0 rfl) ?_
              refine lv_aload_n hx hb dX10_countAll_172 rfl (lv_at hl 1 rfl) ?_
              obtain ⟨r_23, hc_24, h⟩ := gx_b h
              refine gCalll (wr := [(z_counts, .inl (cy 0, 33, .inl mc_9)), (z_acrosses, .inl (cy 0, 33, .inl a_21)), (z_failings, .inl (cy 0, 33, .inl a_22)), (z_isGood, .inl (cy 2, 32, .inl v_isGoodc)), (z_frozen, .inl (cy 0, 32, .inl v_frozenc)), (z_given, .inl (cy 1, 32, .inr (.inl o_13)))]) (va_runV (As := []) (rest := [.long a_20]) ⟨hx, hb, hml, hown, hts⟩ (c_X10_all l D cy t H.size K z z_isGood z_frozen z_sheetSize z_sheetLane z_sheet z_hands z_seen z_work z_known z_next z_counts z_acrosses z_failings z_given v_fault v_size v_upper v_base v_wide v_mask v_paths v_come 1 o_12 v_trace r_23 hc_24) (cwV 0 hts gX10_countAll_X10_all rfl rfl rfl (by decide +kernel) ⟨Nat.le_of_ble_eq_true rfl, Nat.le_of_ble_eq_true rfl⟩) ⟨gBlind, va_recv hK hP (ci := 9) (q0 := 0) rfl rfl, fun U hU hW => ⟨rfl, gPre.call hK hG hA hP hD hS [0] (by decide) rfl U hU hW⟩⟩ rfl rfl hl.1 rfl (lv_room (Nat.le_of_ble_eq_true rfl)) dX10_countAll_173 ⟨Nat.le_of_ble_eq_true rfl, Nat.le_of_ble_eq_true rfl⟩) hA hP hD hS [0] [1, 2, 3, 4, 5, 6] rfl rfl (by decide) (by decide) (fun H locs hP hD hS => ?_)
              have hP := hP.sub (ws' := [(z, .inr (9, [.int v_fault, .int v_size, .int v_upper, .int v_base, .ref z_isGood, .ref z_frozen, .ref z_sheetSize, .ref z_sheetLane, .ref z_sheet, .ref z_hands, .int v_wide, .long v_mask, .int v_paths, .ref z_seen, .ref z_work, .ref z_known, .ref z_next, .int v_come, .int 1, .ref z_counts, .ref z_acrosses, .ref z_failings, .int o_12, .ref z_given, .int v_trace])), (z_counts, .inl (cy 0, 33, .inl mc_9)), (z_acrosses, .inl (cy 0, 33, .inl a_21)), (z_failings, .inl (cy 0, 33, .inl a_22)), (z_isGood, .inl (cy 2, 32, .inl v_isGoodc)), (z_frozen, .inl (cy 0, 32, .inl v_frozenc)), (z_given, .inl (cy 1, 32, .inr (.inl o_13)))]) [6, 0, 1, 2, 3, 4, 5] rfl
              have hD := hD.sub (ws' := [(z, .inr (9, [.int v_fault, .int v_size, .int v_upper, .int v_base, .ref z_isGood, .ref z_frozen, .ref z_sheetSize, .ref z_sheetLane, .ref z_sheet, .ref z_hands, .int v_wide, .long v_mask, .int v_paths, .ref z_seen, .ref z_work, .ref z_known, .ref z_next, .int v_come, .int 1, .ref z_counts, .ref z_acrosses, .ref z_failings, .int o_12, .ref z_given, .int v_trace])), (z_counts, .inl (cy 0, 33, .inl mc_9)), (z_acrosses, .inl (cy 0, 33, .inl a_21)), (z_failings, .inl (cy 0, 33, .inl a_22)), (z_isGood, .inl (cy 2, 32, .inl v_isGoodc)), (z_frozen, .inl (cy 0, 32, .inl v_frozenc)), (z_given, .inl (cy 1, 32, .inr (.inl o_13)))]) [6, 0, 1, 2, 3, 4, 5] (by decide) rfl
              refine W.lcmp hx hb dX10_countAll_176 ?_
              refine lv_if_gt (tgt := 236) hx hb dX10_countAll_177 (by decide) (fun c_25 => ?_) (fun c_25 => ?_)
              · have h := gx_t c_25 h
                have hl := lv_sub (l' := [(1, .long a_20), (0, .ref z)]) hl [0, 1] rfl
                cases h
                exact hJ236 _ _ _ ⟨hP, hD, hS, hl⟩
              · have h := gx_f c_25 h
                refine lv_lload_n hx hb dX10_countAll_180 rfl (lv_at hl 0 rfl) ?_
                obtain ⟨r_26, hc_27, h⟩ := gx_b h
                refine gCalli (wr := [(z, .inr (9, [.int v_fault, .int v_size, .int v_upper, .int v_base, .ref z_isGood, .ref z_frozen, .ref z_sheetSize, .ref z_sheetLane, .ref z_sheet, .ref z_hands, .int v_wide, .long v_mask, .int v_paths, .ref z_seen, .ref z_work, .ref z_known, .ref z_next, .int v_come, .int 1, .ref z_counts, .ref z_acrosses, .ref z_failings, .int o_12, .ref z_given, .int v_trace])), (z_counts, .inl (cy 0, 33, .inl mc_9)), (z_acrosses, .inl (cy 0, 33, .inl a_21)), (z_failings, .inl (cy 0, 33, .inl a_22)), (z_isGood, .inl (cy 2, 32, .inl v_isGoodc)), (z_frozen, .inl (cy 0, 32, .inl v_frozenc)), (z_given, .inl (cy 1, 32, .inr (.inl o_13)))]) (va_runS (As := [.long a_20]) (rest := []) ⟨hx, hb, hml, hown, hts⟩ (c_X10_ones l D cy t H.size K a_20 r_26 hc_27) (va_cwS 1 hts gX10_countAll_X10_ones rfl rfl rfl (by decide +kernel) ⟨Nat.le_of_ble_eq_true rfl, Nat.le_of_ble_eq_true rfl⟩) ⟨gBlind, fun U hU hW => ⟨rfl, gPre.call hK hG hA hP hD hS [] (by decide) rfl U hU hW⟩⟩ rfl rfl hl.1 rfl (lv_room (Nat.le_of_ble_eq_true rfl)) dX10_countAll_181 ⟨Nat.le_of_ble_eq_true rfl, Nat.le_of_ble_eq_true rfl⟩) hA hP hD hS [] [0, 1, 2, 3, 4, 5, 6] rfl rfl (by decide) (by decide) (fun H locs hP hD hS => ?_)
                have hP : va_P D vwCl [(z, .inr (9, [.int v_fault, .int v_size, .int v_upper, .int v_base, .ref z_isGood, .ref z_frozen, .ref z_sheetSize, .ref z_sheetLane, .ref z_sheet, .ref z_hands, .int v_wide, .long v_mask, .int v_paths, .ref z_seen, .ref z_work, .ref z_known, .ref z_next, .int v_come, .int 1, .ref z_counts, .ref z_acrosses, .ref z_failings, .int o_12, .ref z_given, .int v_trace])), (z_counts, .inl (cy 0, 33, .inl mc_9)), (z_acrosses, .inl (cy 0, 33, .inl a_21)), (z_failings, .inl (cy 0, 33, .inl a_22)), (z_isGood, .inl (cy 2, 32, .inl v_isGoodc)), (z_frozen, .inl (cy 0, 32, .inl v_frozenc)), (z_given, .inl (cy 1, 32, .inr (.inl o_13)))] H := hP
                have hD : va_D A [(z, .inr (9, [.int v_fault, .int v_size, .int v_upper, .int v_base, .ref z_isGood, .ref z_frozen, .ref z_sheetSize, .ref z_sheetLane, .ref z_sheet, .ref z_hands, .int v_wide, .long v_mask, .int v_paths, .ref z_seen, .ref z_work, .ref z_known, .ref z_next, .int v_come, .int 1, .ref z_counts, .ref z_acrosses, .ref z_failings, .int o_12, .ref z_given, .int v_trace])), (z_counts, .inl (cy 0, 33, .inl mc_9)), (z_acrosses, .inl (cy 0, 33, .inl a_21)), (z_failings, .inl (cy 0, 33, .inl a_22)), (z_isGood, .inl (cy 2, 32, .inl v_isGoodc)), (z_frozen, .inl (cy 0, 32, .inl v_frozenc)), (z_given, .inl (cy 1, 32, .inr (.inl o_13)))] := hD
                refine lv_istore_n (lv' := [(3, .int r_26), (1, .long a_20), (0, .ref z)]) hx hb dX10_countAll_184 rfl hl (by decide) rfl (fun ls hl => ?_)
                refine lv_aload_n hx hb dX10_countAll_185 rfl (lv_at hl 2 rfl) ?_
                refine va_get (D := D) (ci := 9) (v := .ref z_acrosses) (C := RX10) (T := TX10) (N := 25) hx hb hts iX10 hown hK hP 0 rfl rfl 20 (by decide) f45 (fun _ h9 => h9) rfl dX10_countAll_186 ?_
                refine lv_iload_n hx hb dX10_countAll_189 rfl (lv_at hl 0 rfl) ?_
                refine lv_dup2_11 hx hb dX10_countAll_190 rfl rfl ?_
                obtain ⟨hi_, h⟩ := gx_ix h
                refine va_iald hx hb hK hP 2 0 rfl rfl hi_ dX10_countAll_191 ?_
                refine lv_aload_n hx hb dX10_countAll_192 rfl (lv_at hl 2 rfl) ?_
                refine lv_lload_n hx hb dX10_countAll_193 rfl (lv_at hl 1 rfl) ?_
                obtain ⟨r_28, hc_29, h⟩ := gx_b h
                refine gCalli (wr := [(z_counts, .inl (cy 0, 33, .inl mc_9)), (z_acrosses, .inl (cy 0, 33, .inl a_21)), (z_failings, .inl (cy 0, 33, .inl a_22)), (z_isGood, .inl (cy 2, 32, .inl v_isGoodc)), (z_frozen, .inl (cy 0, 32, .inl v_frozenc))]) (va_runV (As := [.long a_20]) (rest := [.int (a_21 (Int32.toNatClampNeg r_26)), .int r_26, .ref z_acrosses]) ⟨hx, hb, hml, hown, hts⟩ (c_X10_isAcross l D cy t H.size K z z_given z_isGood z_frozen z_sheetSize z_sheetLane z_sheet z_hands z_seen z_work z_known z_next z_counts z_acrosses z_failings v_fault v_size v_upper v_base v_wide v_mask v_paths v_come 1 o_12 v_trace o_13 a_20 r_28 hc_29) (cwV 1 hts gX10_countAll_X10_isAcross rfl rfl rfl (by decide +kernel) ⟨Nat.le_of_ble_eq_true rfl, Nat.le_of_ble_eq_true rfl⟩) ⟨gBlind, va_recv hK hP (ci := 9) (q0 := 0) rfl rfl, fun U hU hW => ⟨rfl, gPre.call hK hG hA hP hD hS [0, 6] (by decide) rfl U hU hW⟩⟩ rfl rfl hl.1 rfl (lv_room (Nat.le_of_ble_eq_true rfl)) dX10_countAll_194 ⟨Nat.le_of_ble_eq_true rfl, Nat.le_of_ble_eq_true rfl⟩) hA hP hD hS [0, 6] [1, 2, 3, 4, 5] rfl rfl (by decide) (by decide) (fun H locs hP hD hS => ?_)
                have hP := hP.sub (ws' := [(z, .inr (9, [.int v_fault, .int v_size, .int v_upper, .int v_base, .ref z_isGood, .ref z_frozen, .ref z_sheetSize, .ref z_sheetLane, .ref z_sheet, .ref z_hands, .int v_wide, .long v_mask, .int v_paths, .ref z_seen, .ref z_work, .ref z_known, .ref z_next, .int v_come, .int 1, .ref z_counts, .ref z_acrosses, .ref z_failings, .int o_12, .ref z_given, .int v_trace])), (z_counts, .inl (cy 0, 33, .inl mc_9)), (z_acrosses, .inl (cy 0, 33, .inl a_21)), (z_failings, .inl (cy 0, 33, .inl a_22)), (z_isGood, .inl (cy 2, 32, .inl v_isGoodc)), (z_frozen, .inl (cy 0, 32, .inl v_frozenc)), (z_given, .inl (cy 1, 32, .inr (.inl o_13)))]) [5, 0, 1, 2, 3, 4, 6] rfl
                have hD := hD.sub (ws' := [(z, .inr (9, [.int v_fault, .int v_size, .int v_upper, .int v_base, .ref z_isGood, .ref z_frozen, .ref z_sheetSize, .ref z_sheetLane, .ref z_sheet, .ref z_hands, .int v_wide, .long v_mask, .int v_paths, .ref z_seen, .ref z_work, .ref z_known, .ref z_next, .int v_come, .int 1, .ref z_counts, .ref z_acrosses, .ref z_failings, .int o_12, .ref z_given, .int v_trace])), (z_counts, .inl (cy 0, 33, .inl mc_9)), (z_acrosses, .inl (cy 0, 33, .inl a_21)), (z_failings, .inl (cy 0, 33, .inl a_22)), (z_isGood, .inl (cy 2, 32, .inl v_isGoodc)), (z_frozen, .inl (cy 0, 32, .inl v_frozenc)), (z_given, .inl (cy 1, 32, .inr (.inl o_13)))]) [5, 0, 1, 2, 3, 4, 6] (by decide) rfl
                obtain ⟨ms_30, hR_31, h⟩ := gx_b h
                refine gJoin (Pj := fun H locs ls => va_P D vwCl [(z, .inr (9, [.int v_fault, .int v_size, .int v_upper, .int v_base, .ref z_isGood, .ref z_frozen, .ref z_sheetSize, .ref z_sheetLane, .ref z_sheet, .ref z_hands, .int v_wide, .long v_mask, .int v_paths, .ref z_seen, .ref z_work, .ref z_known, .ref z_next, .int v_come, .int 1, .ref z_counts, .ref z_acrosses, .ref z_failings, .int o_12, .ref z_given, .int v_trace])), (z_counts, .inl (cy 0, 33, .inl mc_9)), (z_acrosses, .inl (cy 0, 33, .inl a_21)), (z_failings, .inl (cy 0, 33, .inl a_22)), (z_isGood, .inl (cy 2, 32, .inl v_isGoodc)), (z_frozen, .inl (cy 0, 32, .inl v_frozenc)), (z_given, .inl (cy 1, 32, .inr (.inl o_13)))] H ∧ va_D A [(z, .inr (9, [.int v_fault, .int v_size, .int v_upper, .int v_base, .ref z_isGood, .ref z_frozen, .ref z_sheetSize, .ref z_sheetLane, .ref z_sheet, .ref z_hands, .int v_wide, .long v_mask, .int v_paths, .ref z_seen, .ref z_work, .ref z_known, .ref z_next, .int v_come, .int 1, .ref z_counts, .ref z_acrosses, .ref z_failings, .int o_12, .ref z_given, .int v_trace])), (z_counts, .inl (cy 0, 33, .inl mc_9)), (z_acrosses, .inl (cy 0, 33, .inl a_21)), (z_failings, .inl (cy 0, 33, .inl a_22)), (z_isGood, .inl (cy 2, 32, .inl v_isGoodc)), (z_frozen, .inl (cy 0, 32, .inl v_frozenc)), (z_given, .inl (cy 1, 32, .inr (.inl o_13)))] ∧ va_S A s.heap H locs ∧ lv_has ls 4 [(3, .int r_26), (1, .long a_20), (0, .ref z)]) (pcM := 205) (st := [.int ms_30, .int (a_21 (Int32.toNatClampNeg r_26)), .int r_26, .ref z_acrosses]) ?_ (fun hJ205 => ?_)
                · intro H locs ls hp_
                  obtain ⟨hP, hD, hS, hl⟩ := hp_
                  clear hR_31
                  refine lv_iadd hx hb dX10_countAll_205 ?_
                  refine lv_topi (fun y_32 e_y_32 => ?_)
                  have h := gx_let e_y_32 h
                  obtain ⟨hi_, h⟩ := gx_ix h
                  refine va_iast hx hb hK hP hD hS 2 0 rfl rfl hi_ dX10_countAll_206 (fun H locs hP hD hS => ?_)
                  obtain ⟨w_33, e_w_33⟩ : ∃ y : Nat → Int32, y = (upd a_21 (Int32.toNatClampNeg r_26) y_32) := ⟨_, rfl⟩
                  have h := gx_let e_w_33 h
                  have hP : va_P D vwCl [(z, .inr (9, [.int v_fault, .int v_size, .int v_upper, .int v_base, .ref z_isGood, .ref z_frozen, .ref z_sheetSize, .ref z_sheetLane, .ref z_sheet, .ref z_hands, .int v_wide, .long v_mask, .int v_paths, .ref z_seen, .ref z_work, .ref z_known, .ref z_next, .int v_come, .int 1, .ref z_counts, .ref z_acrosses, .ref z_failings, .int o_12, .ref z_given, .int v_trace])), (z_counts, .inl (cy 0, 33, .inl mc_9)), (z_acrosses, .inl (cy 0, 33, .inl (upd a_21 (Int32.toNatClampNeg r_26) y_32))), (z_failings, .inl (cy 0, 33, .inl a_22)), (z_isGood, .inl (cy 2, 32, .inl v_isGoodc)), (z_frozen, .inl (cy 0, 32, .inl v_frozenc)), (z_given, .inl (cy 1, 32, .inr (.inl o_13)))] H := hP
                  have hD : va_D A [(z, .inr (9, [.int v_fault, .int v_size, .int v_upper, .int v_base, .ref z_isGood, .ref z_frozen, .ref z_sheetSize, .ref z_sheetLane, .ref z_sheet, .ref z_hands, .int v_wide, .long v_mask, .int v_paths, .ref z_seen, .ref z_work, .ref z_known, .ref z_next, .int v_come, .int 1, .ref z_counts, .ref z_acrosses, .ref z_failings, .int o_12, .ref z_given, .int v_trace])), (z_counts, .inl (cy 0, 33, .inl mc_9)), (z_acrosses, .inl (cy 0, 33, .inl (upd a_21 (Int32.toNatClampNeg r_26) y_32))), (z_failings, .inl (cy 0, 33, .inl a_22)), (z_isGood, .inl (cy 2, 32, .inl v_isGoodc)), (z_frozen, .inl (cy 0, 32, .inl v_frozenc)), (z_given, .inl (cy 1, 32, .inr (.inl o_13)))] := hD
                  rw [← e_w_33] at hP hD
                  refine lv_aload_n hx hb dX10_countAll_207 rfl (lv_at hl 2 rfl) ?_
                  refine va_get (D := D) (ci := 9) (v := .ref z_failings) (C := RX10) (T := TX10) (N := 25) hx hb hts iX10 hown hK hP 0 rfl rfl 21 (by decide) f48 (fun _ h9 => h9) rfl dX10_countAll_208 ?_
                  refine lv_iload_n hx hb dX10_countAll_211 rfl (lv_at hl 0 rfl) ?_
                  refine lv_dup2_11 hx hb dX10_countAll_212 rfl rfl ?_
                  obtain ⟨hi_, h⟩ := gx_ix h
                  refine va_iald hx hb hK hP 3 0 rfl rfl hi_ dX10_countAll_213 ?_
                  refine lv_aload_n hx hb dX10_countAll_214 rfl (lv_at hl 2 rfl) ?_
                  refine lv_lload_n hx hb dX10_countAll_215 rfl (lv_at hl 1 rfl) ?_
                  obtain ⟨r_34, hc_35, h⟩ := gx_b h
                  refine gCalli (wr := [(z_counts, .inl (cy 0, 33, .inl mc_9)), (z_acrosses, .inl (cy 0, 33, .inl w_33)), (z_failings, .inl (cy 0, 33, .inl a_22)), (z_frozen, .inl (cy 0, 32, .inl v_frozenc)), (z_given, .inl (cy 1, 32, .inr (.inl o_13)))]) (va_runV (As := [.long a_20]) (rest := [.int (a_22 (Int32.toNatClampNeg r_26)), .int r_26, .ref z_failings]) ⟨hx, hb, hml, hown, hts⟩ (c_X10_isFailing l D cy t H.size K z z_isGood z_frozen z_sheetSize z_sheetLane z_sheet z_hands z_seen z_work z_known z_next z_counts z_acrosses z_failings z_given v_fault v_size v_upper v_base v_wide v_mask v_paths v_come 1 o_12 v_trace v_isGoodc a_20 r_34 hc_35) (cwV 1 hts gX10_countAll_X10_isFailing rfl rfl rfl (by decide +kernel) ⟨Nat.le_of_ble_eq_true rfl, Nat.le_of_ble_eq_true rfl⟩) ⟨gBlind, va_recv hK hP (ci := 9) (q0 := 0) rfl rfl, fun U hU hW => ⟨rfl, gPre.call hK hG hA hP hD hS [0, 4] (by decide) rfl U hU hW⟩⟩ rfl rfl hl.1 rfl (lv_room (Nat.le_of_ble_eq_true rfl)) dX10_countAll_216 ⟨Nat.le_of_ble_eq_true rfl, Nat.le_of_ble_eq_true rfl⟩) hA hP hD hS [0, 4] [1, 2, 3, 5, 6] rfl rfl (by decide) (by decide) (fun H locs hP hD hS => ?_)
                  have hP := hP.sub (ws' := [(z, .inr (9, [.int v_fault, .int v_size, .int v_upper, .int v_base, .ref z_isGood, .ref z_frozen, .ref z_sheetSize, .ref z_sheetLane, .ref z_sheet, .ref z_hands, .int v_wide, .long v_mask, .int v_paths, .ref z_seen, .ref z_work, .ref z_known, .ref z_next, .int v_come, .int 1, .ref z_counts, .ref z_acrosses, .ref z_failings, .int o_12, .ref z_given, .int v_trace])), (z_counts, .inl (cy 0, 33, .inl mc_9)), (z_acrosses, .inl (cy 0, 33, .inl w_33)), (z_failings, .inl (cy 0, 33, .inl a_22)), (z_isGood, .inl (cy 2, 32, .inl v_isGoodc)), (z_frozen, .inl (cy 0, 32, .inl v_frozenc)), (z_given, .inl (cy 1, 32, .inr (.inl o_13)))]) [5, 0, 1, 2, 6, 3, 4] rfl
                  have hD := hD.sub (ws' := [(z, .inr (9, [.int v_fault, .int v_size, .int v_upper, .int v_base, .ref z_isGood, .ref z_frozen, .ref z_sheetSize, .ref z_sheetLane, .ref z_sheet, .ref z_hands, .int v_wide, .long v_mask, .int v_paths, .ref z_seen, .ref z_work, .ref z_known, .ref z_next, .int v_come, .int 1, .ref z_counts, .ref z_acrosses, .ref z_failings, .int o_12, .ref z_given, .int v_trace])), (z_counts, .inl (cy 0, 33, .inl mc_9)), (z_acrosses, .inl (cy 0, 33, .inl w_33)), (z_failings, .inl (cy 0, 33, .inl a_22)), (z_isGood, .inl (cy 2, 32, .inl v_isGoodc)), (z_frozen, .inl (cy 0, 32, .inl v_frozenc)), (z_given, .inl (cy 1, 32, .inr (.inl o_13)))]) [5, 0, 1, 2, 6, 3, 4] (by decide) rfl
                  obtain ⟨ms_36, hR_37, h⟩ := gx_b h
                  refine gJoin (Pj := fun H locs ls => va_P D vwCl [(z, .inr (9, [.int v_fault, .int v_size, .int v_upper, .int v_base, .ref z_isGood, .ref z_frozen, .ref z_sheetSize, .ref z_sheetLane, .ref z_sheet, .ref z_hands, .int v_wide, .long v_mask, .int v_paths, .ref z_seen, .ref z_work, .ref z_known, .ref z_next, .int v_come, .int 1, .ref z_counts, .ref z_acrosses, .ref z_failings, .int o_12, .ref z_given, .int v_trace])), (z_counts, .inl (cy 0, 33, .inl mc_9)), (z_acrosses, .inl (cy 0, 33, .inl w_33)), (z_failings, .inl (cy 0, 33, .inl a_22)), (z_isGood, .inl (cy 2, 32, .inl v_isGoodc)), (z_frozen, .inl (cy 0, 32, .inl v_frozenc)), (z_given, .inl (cy 1, 32, .inr (.inl o_13)))] H ∧ va_D A [(z, .inr (9, [.int v_fault, .int v_size, .int v_upper, .int v_base, .ref z_isGood, .ref z_frozen, .ref z_sheetSize, .ref z_sheetLane, .ref z_sheet, .ref z_hands, .int v_wide, .long v_mask, .int v_paths, .ref z_seen, .ref z_work, .ref z_known, .ref z_next, .int v_come, .int 1, .ref z_counts, .ref z_acrosses, .ref z_failings, .int o_12, .ref z_given, .int v_trace])), (z_counts, .inl (cy 0, 33, .inl mc_9)), (z_acrosses, .inl (cy 0, 33, .inl w_33)), (z_failings, .inl (cy 0, 33, .inl a_22)), (z_isGood, .inl (cy 2, 32, .inl v_isGoodc)), (z_frozen, .inl (cy 0, 32, .inl v_frozenc)), (z_given, .inl (cy 1, 32, .inr (.inl o_13)))] ∧ va_S A s.heap H locs ∧ lv_has ls 4 [(3, .int r_26), (1, .long a_20), (0, .ref z)]) (pcM := 227) (st := [.int ms_36, .int (a_22 (Int32.toNatClampNeg r_26)), .int r_26, .ref z_failings]) ?_ (fun hJ227 => ?_)
                  · intro H locs ls hp_
                    obtain ⟨hP, hD, hS, hl⟩ := hp_
                    clear hR_37
                    refine lv_iadd hx hb dX10_countAll_227 ?_
                    refine lv_topi (fun y_38 e_y_38 => ?_)
                    have h := gx_let e_y_38 h
                    obtain ⟨hi_, h⟩ := gx_ix h
                    refine va_iast hx hb hK hP hD hS 3 0 rfl rfl hi_ dX10_countAll_228 (fun H locs hP hD hS => ?_)
                    obtain ⟨w_39, e_w_39⟩ : ∃ y : Nat → Int32, y = (upd a_22 (Int32.toNatClampNeg r_26) y_38) := ⟨_, rfl⟩
                    have h := gx_let e_w_39 h
                    have hP : va_P D vwCl [(z, .inr (9, [.int v_fault, .int v_size, .int v_upper, .int v_base, .ref z_isGood, .ref z_frozen, .ref z_sheetSize, .ref z_sheetLane, .ref z_sheet, .ref z_hands, .int v_wide, .long v_mask, .int v_paths, .ref z_seen, .ref z_work, .ref z_known, .ref z_next, .int v_come, .int 1, .ref z_counts, .ref z_acrosses, .ref z_failings, .int o_12, .ref z_given, .int v_trace])), (z_counts, .inl (cy 0, 33, .inl mc_9)), (z_acrosses, .inl (cy 0, 33, .inl w_33)), (z_failings, .inl (cy 0, 33, .inl (upd a_22 (Int32.toNatClampNeg r_26) y_38))), (z_isGood, .inl (cy 2, 32, .inl v_isGoodc)), (z_frozen, .inl (cy 0, 32, .inl v_frozenc)), (z_given, .inl (cy 1, 32, .inr (.inl o_13)))] H := hP
                    have hD : va_D A [(z, .inr (9, [.int v_fault, .int v_size, .int v_upper, .int v_base, .ref z_isGood, .ref z_frozen, .ref z_sheetSize, .ref z_sheetLane, .ref z_sheet, .ref z_hands, .int v_wide, .long v_mask, .int v_paths, .ref z_seen, .ref z_work, .ref z_known, .ref z_next, .int v_come, .int 1, .ref z_counts, .ref z_acrosses, .ref z_failings, .int o_12, .ref z_given, .int v_trace])), (z_counts, .inl (cy 0, 33, .inl mc_9)), (z_acrosses, .inl (cy 0, 33, .inl w_33)), (z_failings, .inl (cy 0, 33, .inl (upd a_22 (Int32.toNatClampNeg r_26) y_38))), (z_isGood, .inl (cy 2, 32, .inl v_isGoodc)), (z_frozen, .inl (cy 0, 32, .inl v_frozenc)), (z_given, .inl (cy 1, 32, .inr (.inl o_13)))] := hD
                    rw [← e_w_39] at hP hD
                    refine lv_lload_n hx hb dX10_countAll_229 rfl (lv_at hl 1 rfl) ?_
                    refine lv_lconst (v := 1) hx hb dX10_countAll_230 (by decide) ?_
                    refine lv_ladd hx hb dX10_countAll_231 ?_
                    refine lv_topl (fun y1_40 e_y1_40 => ?_)
                    have h := gx_let e_y1_40 h
                    refine lv_lstore_n (lv' := [(1, .long y1_40), (3, .int r_26), (0, .ref z)]) hx hb dX10_countAll_232 rfl hl (by decide) rfl (fun ls hl => ?_)
                    refine lv_goto (tgt := 171) hx hb dX10_countAll_233 (by decide) ?_
                    exact ih (y1_40, w_33, w_39) _ _ _ h ⟨hP, hD, hS, lv_sub (l' := [(1, .long y1_40), (0, .ref z)]) hl [0, 2] rfl⟩
                  · have h := hR_37
                    refine lv_if_eq (tgt := 226) hx hb dX10_countAll_219 (by decide) (fun c_41 => ?_) (fun c_41 => ?_)
                    · have h := gx_t c_41 h
                      refine lv_iconst (v := 0) hx hb dX10_countAll_226 (by decide) ?_
                      have hl := lv_sub (l' := [(3, .int r_26), (1, .long a_20), (0, .ref z)]) hl [0, 1, 2] rfl
                      cases h
                      exact hJ227 _ _ _ ⟨hP, hD, hS, hl⟩
                    · have h := gx_f c_41 h
                      refine lv_iconst (v := 1) hx hb dX10_countAll_222 (by decide) ?_
                      refine lv_goto (tgt := 227) hx hb dX10_countAll_223 (by decide) ?_
                      have hl := lv_sub (l' := [(3, .int r_26), (1, .long a_20), (0, .ref z)]) hl [0, 1, 2] rfl
                      cases h
                      exact hJ227 _ _ _ ⟨hP, hD, hS, hl⟩
                · have h := hR_31
                  refine lv_if_eq (tgt := 204) hx hb dX10_countAll_197 (by decide) (fun c_42 => ?_) (fun c_42 => ?_)
                  · have h := gx_t c_42 h
                    refine lv_iconst (v := 0) hx hb dX10_countAll_204 (by decide) ?_
                    have hl := lv_sub (l' := [(3, .int r_26), (1, .long a_20), (0, .ref z)]) hl [0, 1, 2] rfl
                    cases h
                    exact hJ205 _ _ _ ⟨hP, hD, hS, hl⟩
                  · have h := gx_f c_42 h
                    refine lv_iconst (v := 1) hx hb dX10_countAll_200 (by decide) ?_
                    refine lv_goto (tgt := 205) hx hb dX10_countAll_201 (by decide) ?_
                    have hl := lv_sub (l' := [(3, .int r_26), (1, .long a_20), (0, .ref z)]) hl [0, 1, 2] rfl
                    cases h
                    exact hJ205 _ _ _ ⟨hP, hD, hS, hl⟩
        · refine gLoop (Hy := fun k_ v_ => fL_X10_countAll_108 K v_size v_isGoodc k_ v_ = some (o_11, o_12, o_13)) (Pl := fun (v_ : Int32 × Int32 × (Nat → Int64)) H locs ls => match v_ with | (a_43, a_44, a_45) => va_P D vwCl [(z, .inr (9, [.int v_fault, .int v_size, .int v_upper, .int v_base, .ref z_isGood, .ref z_frozen, .ref z_sheetSize, .ref z_sheetLane, .ref z_sheet, .ref z_hands, .int v_wide, .long v_mask, .int v_paths, .ref z_seen, .ref z_work, .ref z_known, .ref z_next, .int v_come, .int 1, .ref z_counts, .ref z_acrosses, .ref z_failings, .int a_44, .ref z_given, .int v_trace])), (z_counts, .inl (cy 0, 33, .inl mc_9)), (z_acrosses, .inl (cy 0, 33, .inl o_4)), (z_failings, .inl (cy 0, 33, .inl o_5)), (z_isGood, .inl (cy 2, 32, .inl v_isGoodc)), (z_frozen, .inl (cy 0, 32, .inl v_frozenc)), (z_given, .inl (cy 1, 32, .inr (.inl a_45)))] H ∧ va_D A [(z, .inr (9, [.int v_fault, .int v_size, .int v_upper, .int v_base, .ref z_isGood, .ref z_frozen, .ref z_sheetSize, .ref z_sheetLane, .ref z_sheet, .ref z_hands, .int v_wide, .long v_mask, .int v_paths, .ref z_seen, .ref z_work, .ref z_known, .ref z_next, .int v_come, .int 1, .ref z_counts, .ref z_acrosses, .ref z_failings, .int a_44, .ref z_given, .int v_trace])), (z_counts, .inl (cy 0, 33, .inl mc_9)), (z_acrosses, .inl (cy 0, 33, .inl o_4)), (z_failings, .inl (cy 0, 33, .inl o_5)), (z_isGood, .inl (cy 2, 32, .inl v_isGoodc)), (z_frozen, .inl (cy 0, 32, .inl v_frozenc)), (z_given, .inl (cy 1, 32, .inr (.inl a_45)))] ∧ va_S A s.heap H locs ∧ lv_has ls 4 [(1, .int a_43), (0, .ref z)]) (pcH := 108) (fun _ q_ => by cases q_) ?_ K (0, 0, v_givenc) hL_14 ⟨hP, hD, hS, hl⟩
          clear hL_14 h hP hD hS hl
          intro k_ ih ⟨a_43, a_44, a_45⟩ H locs ls h hp_
          obtain ⟨hP, hD, hS, hl⟩ := hp_
          have hP : va_P D vwCl [(z, .inr (9, [.int v_fault, .int v_size, .int v_upper, .int v_base, .ref z_isGood, .ref z_frozen, .ref z_sheetSize, .ref z_sheetLane, .ref z_sheet, .ref z_hands, .int v_wide, .long v_mask, .int v_paths, .ref z_seen, .ref z_work, .ref z_known, .ref z_next, .int v_come, .int 1, .ref z_counts, .ref z_acrosses, .ref z_failings, .int a_44, .ref z_given, .int v_trace])), (z_counts, .inl (cy 0, 33, .inl mc_9)), (z_acrosses, .inl (cy 0, 33, .inl o_4)), (z_failings, .inl (cy 0, 33, .inl o_5)), (z_isGood, .inl (cy 2, 32, .inl v_isGoodc)), (z_frozen, .inl (cy 0, 32, .inl v_frozenc)), (z_given, .inl (cy 1, 32, .inr (.inl a_45)))] H := hP
          have hD : va_D A [(z, .inr (9, [.int v_fault, .int v_size, .int v_upper, .int v_base, .ref z_isGood, .ref z_frozen, .ref z_sheetSize, .ref z_sheetLane, .ref z_sheet, .ref z_hands, .int v_wide, .long v_mask, .int v_paths, .ref z_seen, .ref z_work, .ref z_known, .ref z_next, .int v_come, .int 1, .ref z_counts, .ref z_acrosses, .ref z_failings, .int a_44, .ref z_given, .int v_trace])), (z_counts, .inl (cy 0, 33, .inl mc_9)), (z_acrosses, .inl (cy 0, 33, .inl o_4)), (z_failings, .inl (cy 0, 33, .inl o_5)), (z_isGood, .inl (cy 2, 32, .inl v_isGoodc)), (z_frozen, .inl (cy 0, 32, .inl v_frozenc)), (z_given, .inl (cy 1, 32, .inr (.inl a_45)))] := hD
          have hl : lv_has ls 4 [(1, .int a_43), (0, .ref z)] := hl
          change fL_X10_countAll_108 K v_size v_isGoodc (k_ + 1) (a_43, a_44, a_45) = _ at h
          rw [fL_X10_countAll_108] at h
          refine lv_iload_n hx hb dX10_countAll_108 rfl (lv_at hl 0 rfl) ?_
          refine lv_aload_n hx hb dX10_countAll_109 rfl (lv_at hl 1 rfl) ?_
          refine va_get (D := D) (ci := 9) (v := .int v_size) (C := RX10) (T := TX10) (N := 25) hx hb hts iX10 hown hK hP 0 rfl rfl 1 (by decide) f54 (fun _ h9 => h9) rfl dX10_countAll_110 ?_
          refine lv_icmp_ge (tgt := 160) hx hb dX10_countAll_113 (by decide) (fun c_46 => ?_) (fun c_46 => ?_)
          · have h := gx_t c_46 h
            have hl := lv_sub (l' := [(1, .int a_43), (0, .ref z)]) hl [0, 1] rfl
            cases h
            exact hJ160 _ _ _ ⟨hP, hD, hS, hl⟩
          · have h := gx_f c_46 h
            refine lv_aload_n hx hb dX10_countAll_116 rfl (lv_at hl 1 rfl) ?_
            refine va_get (D := D) (ci := 9) (v := .ref z_isGood) (C := RX10) (T := TX10) (N := 25) hx hb hts iX10 hown hK hP 0 rfl rfl 4 (by decide) f7 (fun _ h9 => h9) rfl dX10_countAll_117 ?_
            refine lv_iload_n hx hb dX10_countAll_120 rfl (lv_at hl 0 rfl) ?_
            obtain ⟨hi_, h⟩ := gx_ix h
            refine va_zald hx hb hK hP 4 2 rfl rfl hi_ dX10_countAll_121 ?_
            refine lv_if_eq (tgt := 154) hx hb dX10_countAll_122 (by decide) (fun c_47 => ?_) (fun c_47 => ?_)
            · have h := gx_t c_47 h
              obtain ⟨y1_48, e_y1_48⟩ : ∃ y : Int32, y = (a_43 + 1) := ⟨_, rfl⟩
              have h := gx_let e_y1_48 h
              refine lv_iinc (v := y1_48) (lv' := [(1, .int y1_48), (0, .ref z)]) hx hb dX10_countAll_154 hl (k := 0) rfl (by rw [e_y1_48]; rfl) (by decide) rfl (fun ls hl => ?_)
              refine lv_goto (tgt := 108) hx hb dX10_countAll_157 (by decide) ?_
              exact ih (y1_48, a_44, a_45) _ _ _ h ⟨hP, hD, hS, lv_sub (l' := [(1, .int y1_48), (0, .ref z)]) hl [0, 1] rfl⟩
            · have h := gx_f c_47 h
              refine lv_aload_n hx hb dX10_countAll_125 rfl (lv_at hl 1 rfl) ?_
              refine va_get (D := D) (ci := 9) (v := .ref z_given) (C := RX10) (T := TX10) (N := 25) hx hb hts iX10 hown hK hP 0 rfl rfl 23 (by decide) f51 (fun _ h9 => h9) rfl dX10_countAll_126 ?_
              refine lv_aload_n hx hb dX10_countAll_129 rfl (lv_at hl 1 rfl) ?_
              refine va_get (D := D) (ci := 9) (v := .int a_44) (C := RX10) (T := TX10) (N := 25) hx hb hts iX10 hown hK hP 0 rfl rfl 22 (by decide) f191 (fun _ h9 => h9) rfl dX10_countAll_130 ?_
              refine lv_lconst (v := 1) hx hb dX10_countAll_133 (by decide) ?_
              refine lv_iload_n hx hb dX10_countAll_134 rfl (lv_at hl 0 rfl) ?_
              refine lv_lshl (v := (gLshl 1 a_43)) hx hb dX10_countAll_135 rfl ?_
              refine lv_aload_n hx hb dX10_countAll_136 rfl (lv_at hl 1 rfl) ?_
              refine va_get (D := D) (ci := 9) (v := .int v_size) (C := RX10) (T := TX10) (N := 25) hx hb hts iX10 hown hK hP 0 rfl rfl 1 (by decide) f54 (fun _ h9 => h9) rfl dX10_countAll_137 ?_
              obtain ⟨r_49, hc_50, h⟩ := gx_b h
              refine gCalll (wr := [(z, .inr (9, [.int v_fault, .int v_size, .int v_upper, .int v_base, .ref z_isGood, .ref z_frozen, .ref z_sheetSize, .ref z_sheetLane, .ref z_sheet, .ref z_hands, .int v_wide, .long v_mask, .int v_paths, .ref z_seen, .ref z_work, .ref z_known, .ref z_next, .int v_come, .int 1, .ref z_counts, .ref z_acrosses, .ref z_failings, .int a_44, .ref z_given, .int v_trace])), (z_counts, .inl (cy 0, 33, .inl mc_9)), (z_acrosses, .inl (cy 0, 33, .inl o_4)), (z_failings, .inl (cy 0, 33, .inl o_5)), (z_isGood, .inl (cy 2, 32, .inl v_isGoodc)), (z_frozen, .inl (cy 0, 32, .inl v_frozenc)), (z_given, .inl (cy 1, 32, .inr (.inl a_45)))]) (va_runS (As := [.long (gLshl 1 a_43), .int v_size]) (rest := [.int a_44, .ref z_given]) ⟨hx, hb, hml, hown, hts⟩ (c_X10_folded l D cy t H.size K (gLshl 1 a_43) v_size r_49 hc_50) (va_cwS 2 hts gX10_countAll_X10_folded rfl rfl rfl (by decide +kernel) ⟨Nat.le_of_ble_eq_true rfl, Nat.le_of_ble_eq_true rfl⟩) ⟨gBlind, fun U hU hW => ⟨rfl, gPre.call hK hG hA hP hD hS [] (by decide) rfl U hU hW⟩⟩ rfl rfl hl.1 rfl (lv_room (Nat.le_of_ble_eq_true rfl)) dX10_countAll_140 ⟨Nat.le_of_ble_eq_true rfl, Nat.le_of_ble_eq_true rfl⟩) hA hP hD hS [] [0, 1, 2, 3, 4, 5, 6] rfl rfl (by decide) (by decide) (fun H locs hP hD hS => ?_)
              have hP : va_P D vwCl [(z, .inr (9, [.int v_fault, .int v_size, .int v_upper, .int v_base, .ref z_isGood, .ref z_frozen, .ref z_sheetSize, .ref z_sheetLane, .ref z_sheet, .ref z_hands, .int v_wide, .long v_mask, .int v_paths, .ref z_seen, .ref z_work, .ref z_known, .ref z_next, .int v_come, .int 1, .ref z_counts, .ref z_acrosses, .ref z_failings, .int a_44, .ref z_given, .int v_trace])), (z_counts, .inl (cy 0, 33, .inl mc_9)), (z_acrosses, .inl (cy 0, 33, .inl o_4)), (z_failings, .inl (cy 0, 33, .inl o_5)), (z_isGood, .inl (cy 2, 32, .inl v_isGoodc)), (z_frozen, .inl (cy 0, 32, .inl v_frozenc)), (z_given, .inl (cy 1, 32, .inr (.inl a_45)))] H := hP
              have hD : va_D A [(z, .inr (9, [.int v_fault, .int v_size, .int v_upper, .int v_base, .ref z_isGood, .ref z_frozen, .ref z_sheetSize, .ref z_sheetLane, .ref z_sheet, .ref z_hands, .int v_wide, .long v_mask, .int v_paths, .ref z_seen, .ref z_work, .ref z_known, .ref z_next, .int v_come, .int 1, .ref z_counts, .ref z_acrosses, .ref z_failings, .int a_44, .ref z_given, .int v_trace])), (z_counts, .inl (cy 0, 33, .inl mc_9)), (z_acrosses, .inl (cy 0, 33, .inl o_4)), (z_failings, .inl (cy 0, 33, .inl o_5)), (z_isGood, .inl (cy 2, 32, .inl v_isGoodc)), (z_frozen, .inl (cy 0, 32, .inl v_frozenc)), (z_given, .inl (cy 1, 32, .inr (.inl a_45)))] := hD
              obtain ⟨hi_, h⟩ := gx_ix h
              refine va_last hx hb hK hP hD hS 6 1 rfl rfl hi_ dX10_countAll_143 (fun H locs hP hD hS => ?_)
              obtain ⟨w_51, e_w_51⟩ : ∃ y : Nat → Int64, y = (vp_updL a_45 (Int32.toNatClampNeg a_44) r_49) := ⟨_, rfl⟩
              have h := gx_let e_w_51 h
              have hP : va_P D vwCl [(z, .inr (9, [.int v_fault, .int v_size, .int v_upper, .int v_base, .ref z_isGood, .ref z_frozen, .ref z_sheetSize, .ref z_sheetLane, .ref z_sheet, .ref z_hands, .int v_wide, .long v_mask, .int v_paths, .ref z_seen, .ref z_work, .ref z_known, .ref z_next, .int v_come, .int 1, .ref z_counts, .ref z_acrosses, .ref z_failings, .int a_44, .ref z_given, .int v_trace])), (z_counts, .inl (cy 0, 33, .inl mc_9)), (z_acrosses, .inl (cy 0, 33, .inl o_4)), (z_failings, .inl (cy 0, 33, .inl o_5)), (z_isGood, .inl (cy 2, 32, .inl v_isGoodc)), (z_frozen, .inl (cy 0, 32, .inl v_frozenc)), (z_given, .inl (cy 1, 32, .inr (.inl (vp_updL a_45 (Int32.toNatClampNeg a_44) r_49))))] H := hP
              have hD : va_D A [(z, .inr (9, [.int v_fault, .int v_size, .int v_upper, .int v_base, .ref z_isGood, .ref z_frozen, .ref z_sheetSize, .ref z_sheetLane, .ref z_sheet, .ref z_hands, .int v_wide, .long v_mask, .int v_paths, .ref z_seen, .ref z_work, .ref z_known, .ref z_next, .int v_come, .int 1, .ref z_counts, .ref z_acrosses, .ref z_failings, .int a_44, .ref z_given, .int v_trace])), (z_counts, .inl (cy 0, 33, .inl mc_9)), (z_acrosses, .inl (cy 0, 33, .inl o_4)), (z_failings, .inl (cy 0, 33, .inl o_5)), (z_isGood, .inl (cy 2, 32, .inl v_isGoodc)), (z_frozen, .inl (cy 0, 32, .inl v_frozenc)), (z_given, .inl (cy 1, 32, .inr (.inl (vp_updL a_45 (Int32.toNatClampNeg a_44) r_49))))] := hD
              rw [← e_w_51] at hP hD
              refine lv_aload_n hx hb dX10_countAll_144 rfl (lv_at hl 1 rfl) ?_
              refine lv_dup hx hb dX10_countAll_145 rfl ?_
              refine va_get (D := D) (ci := 9) (v := .int a_44) (C := RX10) (T := TX10) (N := 25) hx hb hts iX10 hown hK hP 0 rfl rfl 22 (by decide) f191 (fun _ h9 => h9) rfl dX10_countAll_146 ?_
              refine lv_iconst (v := 1) hx hb dX10_countAll_149 (by decide) ?_
              refine lv_iadd hx hb dX10_countAll_150 ?_
              refine lv_topi (fun y_52 e_y_52 => ?_)
              have h := gx_let e_y_52 h
              refine va_put (D := D) (ci := 9) (v := .int y_52) (ty := .int) (C := RX10) (T := TX10) (N := 25) hx hb hts iX10 tyX10 tyX10_ok nmX10 hown hK hP hD hS 0 rfl rfl 22 (by decide) f191 (fun _ h9 => h9) rfl (by decide +kernel) rfl rfl (Nat.le_of_ble_eq_true rfl) dX10_countAll_151 (fun H locs hP hD hS => ?_)
              have hP : va_P D vwCl [(z, .inr (9, [.int v_fault, .int v_size, .int v_upper, .int v_base, .ref z_isGood, .ref z_frozen, .ref z_sheetSize, .ref z_sheetLane, .ref z_sheet, .ref z_hands, .int v_wide, .long v_mask, .int v_paths, .ref z_seen, .ref z_work, .ref z_known, .ref z_next, .int v_come, .int 1, .ref z_counts, .ref z_acrosses, .ref z_failings, .int y_52, .ref z_given, .int v_trace])), (z_counts, .inl (cy 0, 33, .inl mc_9)), (z_acrosses, .inl (cy 0, 33, .inl o_4)), (z_failings, .inl (cy 0, 33, .inl o_5)), (z_isGood, .inl (cy 2, 32, .inl v_isGoodc)), (z_frozen, .inl (cy 0, 32, .inl v_frozenc)), (z_given, .inl (cy 1, 32, .inr (.inl w_51)))] H := hP
              have hD : va_D A [(z, .inr (9, [.int v_fault, .int v_size, .int v_upper, .int v_base, .ref z_isGood, .ref z_frozen, .ref z_sheetSize, .ref z_sheetLane, .ref z_sheet, .ref z_hands, .int v_wide, .long v_mask, .int v_paths, .ref z_seen, .ref z_work, .ref z_known, .ref z_next, .int v_come, .int 1, .ref z_counts, .ref z_acrosses, .ref z_failings, .int y_52, .ref z_given, .int v_trace])), (z_counts, .inl (cy 0, 33, .inl mc_9)), (z_acrosses, .inl (cy 0, 33, .inl o_4)), (z_failings, .inl (cy 0, 33, .inl o_5)), (z_isGood, .inl (cy 2, 32, .inl v_isGoodc)), (z_frozen, .inl (cy 0, 32, .inl v_frozenc)), (z_given, .inl (cy 1, 32, .inr (.inl w_51)))] := hD
              obtain ⟨y1_53, e_y1_53⟩ : ∃ y : Int32, y = (a_43 + 1) := ⟨_, rfl⟩
              have h := gx_let e_y1_53 h
              refine lv_iinc (v := y1_53) (lv' := [(1, .int y1_53), (0, .ref z)]) hx hb dX10_countAll_154 hl (k := 0) rfl (by rw [e_y1_53]; rfl) (by decide) rfl (fun ls hl => ?_)
              refine lv_goto (tgt := 108) hx hb dX10_countAll_157 (by decide) ?_
              exact ih (y1_53, y_52, w_51) _ _ _ h ⟨hP, hD, hS, lv_sub (l' := [(1, .int y1_53), (0, .ref z)]) hl [0, 1] rfl⟩
      · have h := hR_10
        refine lv_icmp_gt (tgt := 101) hx hb dX10_countAll_54 (by decide) (fun c_54 => ?_) (fun c_54 => ?_)
        · have h := gx_t c_54 h
          have hl := lv_sub (l' := [(0, .ref z)]) hl [1] rfl
          cases h
          exact hJ101 _ _ _ ⟨hP, hD, hS, hl⟩
        · have h := gx_f c_54 h
          refine lv_lconst (v := 0) hx hb dX10_countAll_57 (by decide) ?_
          refine lv_lstore_n (lv' := [(1, .long 0), (0, .ref z)]) hx hb dX10_countAll_58 rfl hl (by decide) rfl (fun ls hl => ?_)
          obtain ⟨⟨o_55, o_56⟩, hL_57, h⟩ := gx_b h
          refine gJoin (Pj := fun H locs ls => va_P D vwCl [(z, .inr (9, [.int v_fault, .int v_size, .int v_upper, .int v_base, .ref z_isGood, .ref z_frozen, .ref z_sheetSize, .ref z_sheetLane, .ref z_sheet, .ref z_hands, .int v_wide, .long v_mask, .int v_paths, .ref z_seen, .ref z_work, .ref z_known, .ref z_next, .int v_come, .int 1, .ref z_counts, .ref z_acrosses, .ref z_failings, .int v_basis, .ref z_given, .int v_trace])), (z_counts, .inl (cy 0, 33, .inl o_56)), (z_acrosses, .inl (cy 0, 33, .inl o_4)), (z_failings, .inl (cy 0, 33, .inl o_5)), (z_isGood, .inl (cy 2, 32, .inl v_isGoodc)), (z_frozen, .inl (cy 0, 32, .inl v_frozenc)), (z_given, .inl (cy 1, 32, .inr (.inl v_givenc)))] H ∧ va_D A [(z, .inr (9, [.int v_fault, .int v_size, .int v_upper, .int v_base, .ref z_isGood, .ref z_frozen, .ref z_sheetSize, .ref z_sheetLane, .ref z_sheet, .ref z_hands, .int v_wide, .long v_mask, .int v_paths, .ref z_seen, .ref z_work, .ref z_known, .ref z_next, .int v_come, .int 1, .ref z_counts, .ref z_acrosses, .ref z_failings, .int v_basis, .ref z_given, .int v_trace])), (z_counts, .inl (cy 0, 33, .inl o_56)), (z_acrosses, .inl (cy 0, 33, .inl o_4)), (z_failings, .inl (cy 0, 33, .inl o_5)), (z_isGood, .inl (cy 2, 32, .inl v_isGoodc)), (z_frozen, .inl (cy 0, 32, .inl v_frozenc)), (z_given, .inl (cy 1, 32, .inr (.inl v_givenc)))] ∧ va_S A s.heap H locs ∧ lv_has ls 4 [(1, .long o_55), (0, .ref z)]) (pcM := 101) (st := []) ?_ (fun hJ101 => ?_)
          · intro H locs ls hp_
            obtain ⟨hP, hD, hS, hl⟩ := hp_
            clear hL_57
            have hl := lv_sub (l' := [(0, .ref z)]) hl [1] rfl
            cases h
            exact hJ101 _ _ _ ⟨hP, hD, hS, hl⟩
          · refine gLoop (Hy := fun k_ v_ => fL_X10_countAll_59 K v_size v_isGoodc v_frozenc k_ v_ = some (o_55, o_56)) (Pl := fun (v_ : Int64 × (Nat → Int32)) H locs ls => match v_ with | (a_58, a_59) => va_P D vwCl [(z, .inr (9, [.int v_fault, .int v_size, .int v_upper, .int v_base, .ref z_isGood, .ref z_frozen, .ref z_sheetSize, .ref z_sheetLane, .ref z_sheet, .ref z_hands, .int v_wide, .long v_mask, .int v_paths, .ref z_seen, .ref z_work, .ref z_known, .ref z_next, .int v_come, .int 1, .ref z_counts, .ref z_acrosses, .ref z_failings, .int v_basis, .ref z_given, .int v_trace])), (z_counts, .inl (cy 0, 33, .inl a_59)), (z_acrosses, .inl (cy 0, 33, .inl o_4)), (z_failings, .inl (cy 0, 33, .inl o_5)), (z_isGood, .inl (cy 2, 32, .inl v_isGoodc)), (z_frozen, .inl (cy 0, 32, .inl v_frozenc)), (z_given, .inl (cy 1, 32, .inr (.inl v_givenc)))] H ∧ va_D A [(z, .inr (9, [.int v_fault, .int v_size, .int v_upper, .int v_base, .ref z_isGood, .ref z_frozen, .ref z_sheetSize, .ref z_sheetLane, .ref z_sheet, .ref z_hands, .int v_wide, .long v_mask, .int v_paths, .ref z_seen, .ref z_work, .ref z_known, .ref z_next, .int v_come, .int 1, .ref z_counts, .ref z_acrosses, .ref z_failings, .int v_basis, .ref z_given, .int v_trace])), (z_counts, .inl (cy 0, 33, .inl a_59)), (z_acrosses, .inl (cy 0, 33, .inl o_4)), (z_failings, .inl (cy 0, 33, .inl o_5)), (z_isGood, .inl (cy 2, 32, .inl v_isGoodc)), (z_frozen, .inl (cy 0, 32, .inl v_frozenc)), (z_given, .inl (cy 1, 32, .inr (.inl v_givenc)))] ∧ va_S A s.heap H locs ∧ lv_has ls 4 [(1, .long a_58), (0, .ref z)]) (pcH := 59) (fun _ q_ => by cases q_) ?_ K (0, o_3) hL_57 ⟨hP, hD, hS, hl⟩
            clear hL_57 h hP hD hS hl
            intro k_ ih ⟨a_58, a_59⟩ H locs ls h hp_
            obtain ⟨hP, hD, hS, hl⟩ := hp_
            have hP : va_P D vwCl [(z, .inr (9, [.int v_fault, .int v_size, .int v_upper, .int v_base, .ref z_isGood, .ref z_frozen, .ref z_sheetSize, .ref z_sheetLane, .ref z_sheet, .ref z_hands, .int v_wide, .long v_mask, .int v_paths, .ref z_seen, .ref z_work, .ref z_known, .ref z_next, .int v_come, .int 1, .ref z_counts, .ref z_acrosses, .ref z_failings, .int v_basis, .ref z_given, .int v_trace])), (z_counts, .inl (cy 0, 33, .inl a_59)), (z_acrosses, .inl (cy 0, 33, .inl o_4)), (z_failings, .inl (cy 0, 33, .inl o_5)), (z_isGood, .inl (cy 2, 32, .inl v_isGoodc)), (z_frozen, .inl (cy 0, 32, .inl v_frozenc)), (z_given, .inl (cy 1, 32, .inr (.inl v_givenc)))] H := hP
            have hD : va_D A [(z, .inr (9, [.int v_fault, .int v_size, .int v_upper, .int v_base, .ref z_isGood, .ref z_frozen, .ref z_sheetSize, .ref z_sheetLane, .ref z_sheet, .ref z_hands, .int v_wide, .long v_mask, .int v_paths, .ref z_seen, .ref z_work, .ref z_known, .ref z_next, .int v_come, .int 1, .ref z_counts, .ref z_acrosses, .ref z_failings, .int v_basis, .ref z_given, .int v_trace])), (z_counts, .inl (cy 0, 33, .inl a_59)), (z_acrosses, .inl (cy 0, 33, .inl o_4)), (z_failings, .inl (cy 0, 33, .inl o_5)), (z_isGood, .inl (cy 2, 32, .inl v_isGoodc)), (z_frozen, .inl (cy 0, 32, .inl v_frozenc)), (z_given, .inl (cy 1, 32, .inr (.inl v_givenc)))] := hD
            have hl : lv_has ls 4 [(1, .long a_58), (0, .ref z)] := hl
            change fL_X10_countAll_59 K v_size v_isGoodc v_frozenc (k_ + 1) (a_58, a_59) = _ at h
            rw [fL_X10_countAll_59] at h
            refine lv_lload_n hx hb dX10_countAll_59 rfl (lv_at hl 0 rfl) ?_
            refine lv_lconst (v := 1) hx hb dX10_countAll_60 (by decide) ?_
            refine lv_aload_n hx hb dX10_countAll_61 rfl (lv_at hl 1 rfl) ?_
            obtain ⟨r_60, hc_61, h⟩ := gx_b h
            refine gCalli (wr := [(z_counts, .inl (cy 0, 33, .inl a_59)), (z_acrosses, .inl (cy 0, 33, .inl o_4)), (z_failings, .inl (cy 0, 33, .inl o_5)), (z_frozen, .inl (cy 0, 32, .inl v_frozenc)), (z_given, .inl (cy 1, 32, .inr (.inl v_givenc)))]) (va_runV (As := []) (rest := [.long 1, .long a_58]) ⟨hx, hb, hml, hown, hts⟩ (c_X10_goods l D cy t H.size K z z_isGood z_frozen z_sheetSize z_sheetLane z_sheet z_hands z_seen z_work z_known z_next z_counts z_acrosses z_failings z_given v_fault v_size v_upper v_base v_wide v_mask v_paths v_come 1 v_basis v_trace v_isGoodc r_60 hc_61) (cwV 0 hts gX10_countAll_X10_goods rfl rfl rfl (by decide +kernel) ⟨Nat.le_of_ble_eq_true rfl, Nat.le_of_ble_eq_true rfl⟩) ⟨gBlind, va_recv hK hP (ci := 9) (q0 := 0) rfl rfl, fun U hU hW => ⟨rfl, gPre.call hK hG hA hP hD hS [0, 4] (by decide) rfl U hU hW⟩⟩ rfl rfl hl.1 rfl (lv_room (Nat.le_of_ble_eq_true rfl)) dX10_countAll_62 ⟨Nat.le_of_ble_eq_true rfl, Nat.le_of_ble_eq_true rfl⟩) hA hP hD hS [0, 4] [1, 2, 3, 5, 6] rfl rfl (by decide) (by decide) (fun H locs hP hD hS => ?_)
            have hP := hP.sub (ws' := [(z, .inr (9, [.int v_fault, .int v_size, .int v_upper, .int v_base, .ref z_isGood, .ref z_frozen, .ref z_sheetSize, .ref z_sheetLane, .ref z_sheet, .ref z_hands, .int v_wide, .long v_mask, .int v_paths, .ref z_seen, .ref z_work, .ref z_known, .ref z_next, .int v_come, .int 1, .ref z_counts, .ref z_acrosses, .ref z_failings, .int v_basis, .ref z_given, .int v_trace])), (z_counts, .inl (cy 0, 33, .inl a_59)), (z_acrosses, .inl (cy 0, 33, .inl o_4)), (z_failings, .inl (cy 0, 33, .inl o_5)), (z_isGood, .inl (cy 2, 32, .inl v_isGoodc)), (z_frozen, .inl (cy 0, 32, .inl v_frozenc)), (z_given, .inl (cy 1, 32, .inr (.inl v_givenc)))]) [5, 0, 1, 2, 6, 3, 4] rfl
            have hD := hD.sub (ws' := [(z, .inr (9, [.int v_fault, .int v_size, .int v_upper, .int v_base, .ref z_isGood, .ref z_frozen, .ref z_sheetSize, .ref z_sheetLane, .ref z_sheet, .ref z_hands, .int v_wide, .long v_mask, .int v_paths, .ref z_seen, .ref z_work, .ref z_known, .ref z_next, .int v_come, .int 1, .ref z_counts, .ref z_acrosses, .ref z_failings, .int v_basis, .ref z_given, .int v_trace])), (z_counts, .inl (cy 0, 33, .inl a_59)), (z_acrosses, .inl (cy 0, 33, .inl o_4)), (z_failings, .inl (cy 0, 33, .inl o_5)), (z_isGood, .inl (cy 2, 32, .inl v_isGoodc)), (z_frozen, .inl (cy 0, 32, .inl v_frozenc)), (z_given, .inl (cy 1, 32, .inr (.inl v_givenc)))]) [5, 0, 1, 2, 6, 3, 4] (by decide) rfl
            refine lv_lshl (v := (gLshl 1 r_60)) hx hb dX10_countAll_65 rfl ?_
            refine W.lcmp hx hb dX10_countAll_66 ?_
            refine lv_if_ge (tgt := 101) hx hb dX10_countAll_67 (by decide) (fun c_62 => ?_) (fun c_62 => ?_)
            · have h := gx_t c_62 h
              have hl := lv_sub (l' := [(1, .long a_58), (0, .ref z)]) hl [0, 1] rfl
              cases h
              exact hJ101 _ _ _ ⟨hP, hD, hS, hl⟩
            · have h := gx_f c_62 h
              refine lv_aload_n hx hb dX10_countAll_70 rfl (lv_at hl 1 rfl) ?_
              refine va_get (D := D) (ci := 9) (v := .ref z_counts) (C := RX10) (T := TX10) (N := 25) hx hb hts iX10 hown hK hP 0 rfl rfl 19 (by decide) f42 (fun _ h9 => h9) rfl dX10_countAll_71 ?_
              refine lv_aload_n hx hb dX10_countAll_74 rfl (lv_at hl 1 rfl) ?_
              refine lv_lload_n hx hb dX10_countAll_75 rfl (lv_at hl 0 rfl) ?_
              obtain ⟨r_63, hc_64, h⟩ := gx_b h
              refine gCalll (wr := [(z_counts, .inl (cy 0, 33, .inl a_59)), (z_acrosses, .inl (cy 0, 33, .inl o_4)), (z_failings, .inl (cy 0, 33, .inl o_5)), (z_given, .inl (cy 1, 32, .inr (.inl v_givenc)))]) (va_runV (As := [.long a_58]) (rest := [.ref z_counts]) ⟨hx, hb, hml, hown, hts⟩ (c_X10_rowOf l D cy t H.size K z z_isGood z_frozen z_sheetSize z_sheetLane z_sheet z_hands z_seen z_work z_known z_next z_counts z_acrosses z_failings z_given v_fault v_size v_upper v_base v_wide v_mask v_paths v_come 1 v_basis v_trace v_isGoodc v_frozenc a_58 r_63 hc_64) (cwV 1 hts gX10_countAll_X10_rowOf rfl rfl rfl (by decide +kernel) ⟨Nat.le_of_ble_eq_true rfl, Nat.le_of_ble_eq_true rfl⟩) ⟨gBlind, va_recv hK hP (ci := 9) (q0 := 0) rfl rfl, fun U hU hW => ⟨rfl, gPre.call hK hG hA hP hD hS [0, 4, 5] (by decide) rfl U hU hW⟩⟩ rfl rfl hl.1 rfl (lv_room (Nat.le_of_ble_eq_true rfl)) dX10_countAll_76 ⟨Nat.le_of_ble_eq_true rfl, Nat.le_of_ble_eq_true rfl⟩) hA hP hD hS [0, 4, 5] [1, 2, 3, 6] rfl rfl (by decide) (by decide) (fun H locs hP hD hS => ?_)
              have hP := hP.sub (ws' := [(z, .inr (9, [.int v_fault, .int v_size, .int v_upper, .int v_base, .ref z_isGood, .ref z_frozen, .ref z_sheetSize, .ref z_sheetLane, .ref z_sheet, .ref z_hands, .int v_wide, .long v_mask, .int v_paths, .ref z_seen, .ref z_work, .ref z_known, .ref z_next, .int v_come, .int 1, .ref z_counts, .ref z_acrosses, .ref z_failings, .int v_basis, .ref z_given, .int v_trace])), (z_counts, .inl (cy 0, 33, .inl a_59)), (z_acrosses, .inl (cy 0, 33, .inl o_4)), (z_failings, .inl (cy 0, 33, .inl o_5)), (z_isGood, .inl (cy 2, 32, .inl v_isGoodc)), (z_frozen, .inl (cy 0, 32, .inl v_frozenc)), (z_given, .inl (cy 1, 32, .inr (.inl v_givenc)))]) [4, 0, 1, 2, 5, 6, 3] rfl
              have hD := hD.sub (ws' := [(z, .inr (9, [.int v_fault, .int v_size, .int v_upper, .int v_base, .ref z_isGood, .ref z_frozen, .ref z_sheetSize, .ref z_sheetLane, .ref z_sheet, .ref z_hands, .int v_wide, .long v_mask, .int v_paths, .ref z_seen, .ref z_work, .ref z_known, .ref z_next, .int v_come, .int 1, .ref z_counts, .ref z_acrosses, .ref z_failings, .int v_basis, .ref z_given, .int v_trace])), (z_counts, .inl (cy 0, 33, .inl a_59)), (z_acrosses, .inl (cy 0, 33, .inl o_4)), (z_failings, .inl (cy 0, 33, .inl o_5)), (z_isGood, .inl (cy 2, 32, .inl v_isGoodc)), (z_frozen, .inl (cy 0, 32, .inl v_frozenc)), (z_given, .inl (cy 1, 32, .inr (.inl v_givenc)))]) [4, 0, 1, 2, 5, 6, 3] (by decide) rfl
              refine lv_aload_n hx hb dX10_countAll_79 rfl (lv_at hl 1 rfl) ?_
              refine va_get (D := D) (ci := 9) (v := .int v_size) (C := RX10) (T := TX10) (N := 25) hx hb hts iX10 hown hK hP 0 rfl rfl 1 (by decide) f54 (fun _ h9 => h9) rfl dX10_countAll_80 ?_
              obtain ⟨r_65, hc_66, h⟩ := gx_b h
              refine gCalll (wr := [(z, .inr (9, [.int v_fault, .int v_size, .int v_upper, .int v_base, .ref z_isGood, .ref z_frozen, .ref z_sheetSize, .ref z_sheetLane, .ref z_sheet, .ref z_hands, .int v_wide, .long v_mask, .int v_paths, .ref z_seen, .ref z_work, .ref z_known, .ref z_next, .int v_come, .int 1, .ref z_counts, .ref z_acrosses, .ref z_failings, .int v_basis, .ref z_given, .int v_trace])), (z_counts, .inl (cy 0, 33, .inl a_59)), (z_acrosses, .inl (cy 0, 33, .inl o_4)), (z_failings, .inl (cy 0, 33, .inl o_5)), (z_isGood, .inl (cy 2, 32, .inl v_isGoodc)), (z_frozen, .inl (cy 0, 32, .inl v_frozenc)), (z_given, .inl (cy 1, 32, .inr (.inl v_givenc)))]) (va_runS (As := [.long r_63, .int v_size]) (rest := [.ref z_counts]) ⟨hx, hb, hml, hown, hts⟩ (c_X10_folded l D cy t H.size K r_63 v_size r_65 hc_66) (va_cwS 2 hts gX10_countAll_X10_folded rfl rfl rfl (by decide +kernel) ⟨Nat.le_of_ble_eq_true rfl, Nat.le_of_ble_eq_true rfl⟩) ⟨gBlind, fun U hU hW => ⟨rfl, gPre.call hK hG hA hP hD hS [] (by decide) rfl U hU hW⟩⟩ rfl rfl hl.1 rfl (lv_room (Nat.le_of_ble_eq_true rfl)) dX10_countAll_83 ⟨Nat.le_of_ble_eq_true rfl, Nat.le_of_ble_eq_true rfl⟩) hA hP hD hS [] [0, 1, 2, 3, 4, 5, 6] rfl rfl (by decide) (by decide) (fun H locs hP hD hS => ?_)
              have hP : va_P D vwCl [(z, .inr (9, [.int v_fault, .int v_size, .int v_upper, .int v_base, .ref z_isGood, .ref z_frozen, .ref z_sheetSize, .ref z_sheetLane, .ref z_sheet, .ref z_hands, .int v_wide, .long v_mask, .int v_paths, .ref z_seen, .ref z_work, .ref z_known, .ref z_next, .int v_come, .int 1, .ref z_counts, .ref z_acrosses, .ref z_failings, .int v_basis, .ref z_given, .int v_trace])), (z_counts, .inl (cy 0, 33, .inl a_59)), (z_acrosses, .inl (cy 0, 33, .inl o_4)), (z_failings, .inl (cy 0, 33, .inl o_5)), (z_isGood, .inl (cy 2, 32, .inl v_isGoodc)), (z_frozen, .inl (cy 0, 32, .inl v_frozenc)), (z_given, .inl (cy 1, 32, .inr (.inl v_givenc)))] H := hP
              have hD : va_D A [(z, .inr (9, [.int v_fault, .int v_size, .int v_upper, .int v_base, .ref z_isGood, .ref z_frozen, .ref z_sheetSize, .ref z_sheetLane, .ref z_sheet, .ref z_hands, .int v_wide, .long v_mask, .int v_paths, .ref z_seen, .ref z_work, .ref z_known, .ref z_next, .int v_come, .int 1, .ref z_counts, .ref z_acrosses, .ref z_failings, .int v_basis, .ref z_given, .int v_trace])), (z_counts, .inl (cy 0, 33, .inl a_59)), (z_acrosses, .inl (cy 0, 33, .inl o_4)), (z_failings, .inl (cy 0, 33, .inl o_5)), (z_isGood, .inl (cy 2, 32, .inl v_isGoodc)), (z_frozen, .inl (cy 0, 32, .inl v_frozenc)), (z_given, .inl (cy 1, 32, .inr (.inl v_givenc)))] := hD
              obtain ⟨r_67, hc_68, h⟩ := gx_b h
              refine gCalli (wr := [(z, .inr (9, [.int v_fault, .int v_size, .int v_upper, .int v_base, .ref z_isGood, .ref z_frozen, .ref z_sheetSize, .ref z_sheetLane, .ref z_sheet, .ref z_hands, .int v_wide, .long v_mask, .int v_paths, .ref z_seen, .ref z_work, .ref z_known, .ref z_next, .int v_come, .int 1, .ref z_counts, .ref z_acrosses, .ref z_failings, .int v_basis, .ref z_given, .int v_trace])), (z_counts, .inl (cy 0, 33, .inl a_59)), (z_acrosses, .inl (cy 0, 33, .inl o_4)), (z_failings, .inl (cy 0, 33, .inl o_5)), (z_isGood, .inl (cy 2, 32, .inl v_isGoodc)), (z_frozen, .inl (cy 0, 32, .inl v_frozenc)), (z_given, .inl (cy 1, 32, .inr (.inl v_givenc)))]) (va_runS (As := [.long r_65]) (rest := [.ref z_counts]) ⟨hx, hb, hml, hown, hts⟩ (c_X10_ones l D cy t H.size K r_65 r_67 hc_68) (va_cwS 1 hts gX10_countAll_X10_ones rfl rfl rfl (by decide +kernel) ⟨Nat.le_of_ble_eq_true rfl, Nat.le_of_ble_eq_true rfl⟩) ⟨gBlind, fun U hU hW => ⟨rfl, gPre.call hK hG hA hP hD hS [] (by decide) rfl U hU hW⟩⟩ rfl rfl hl.1 rfl (lv_room (Nat.le_of_ble_eq_true rfl)) dX10_countAll_86 ⟨Nat.le_of_ble_eq_true rfl, Nat.le_of_ble_eq_true rfl⟩) hA hP hD hS [] [0, 1, 2, 3, 4, 5, 6] rfl rfl (by decide) (by decide) (fun H locs hP hD hS => ?_)
              have hP : va_P D vwCl [(z, .inr (9, [.int v_fault, .int v_size, .int v_upper, .int v_base, .ref z_isGood, .ref z_frozen, .ref z_sheetSize, .ref z_sheetLane, .ref z_sheet, .ref z_hands, .int v_wide, .long v_mask, .int v_paths, .ref z_seen, .ref z_work, .ref z_known, .ref z_next, .int v_come, .int 1, .ref z_counts, .ref z_acrosses, .ref z_failings, .int v_basis, .ref z_given, .int v_trace])), (z_counts, .inl (cy 0, 33, .inl a_59)), (z_acrosses, .inl (cy 0, 33, .inl o_4)), (z_failings, .inl (cy 0, 33, .inl o_5)), (z_isGood, .inl (cy 2, 32, .inl v_isGoodc)), (z_frozen, .inl (cy 0, 32, .inl v_frozenc)), (z_given, .inl (cy 1, 32, .inr (.inl v_givenc)))] H := hP
              have hD : va_D A [(z, .inr (9, [.int v_fault, .int v_size, .int v_upper, .int v_base, .ref z_isGood, .ref z_frozen, .ref z_sheetSize, .ref z_sheetLane, .ref z_sheet, .ref z_hands, .int v_wide, .long v_mask, .int v_paths, .ref z_seen, .ref z_work, .ref z_known, .ref z_next, .int v_come, .int 1, .ref z_counts, .ref z_acrosses, .ref z_failings, .int v_basis, .ref z_given, .int v_trace])), (z_counts, .inl (cy 0, 33, .inl a_59)), (z_acrosses, .inl (cy 0, 33, .inl o_4)), (z_failings, .inl (cy 0, 33, .inl o_5)), (z_isGood, .inl (cy 2, 32, .inl v_isGoodc)), (z_frozen, .inl (cy 0, 32, .inl v_frozenc)), (z_given, .inl (cy 1, 32, .inr (.inl v_givenc)))] := hD
              refine lv_dup2_11 hx hb dX10_countAll_89 rfl rfl ?_
              obtain ⟨hi_, h⟩ := gx_ix h
              refine va_iald hx hb hK hP 1 0 rfl rfl hi_ dX10_countAll_90 ?_
              refine lv_iconst (v := 1) hx hb dX10_countAll_91 (by decide) ?_
              refine lv_iadd hx hb dX10_countAll_92 ?_
              refine lv_topi (fun y_69 e_y_69 => ?_)
              have h := gx_let e_y_69 h
              obtain ⟨hi_, h⟩ := gx_ix h
              refine va_iast hx hb hK hP hD hS 1 0 rfl rfl hi_ dX10_countAll_93 (fun H locs hP hD hS => ?_)
              obtain ⟨w_70, e_w_70⟩ : ∃ y : Nat → Int32, y = (upd a_59 (Int32.toNatClampNeg r_67) y_69) := ⟨_, rfl⟩
              have h := gx_let e_w_70 h
              have hP : va_P D vwCl [(z, .inr (9, [.int v_fault, .int v_size, .int v_upper, .int v_base, .ref z_isGood, .ref z_frozen, .ref z_sheetSize, .ref z_sheetLane, .ref z_sheet, .ref z_hands, .int v_wide, .long v_mask, .int v_paths, .ref z_seen, .ref z_work, .ref z_known, .ref z_next, .int v_come, .int 1, .ref z_counts, .ref z_acrosses, .ref z_failings, .int v_basis, .ref z_given, .int v_trace])), (z_counts, .inl (cy 0, 33, .inl (upd a_59 (Int32.toNatClampNeg r_67) y_69))), (z_acrosses, .inl (cy 0, 33, .inl o_4)), (z_failings, .inl (cy 0, 33, .inl o_5)), (z_isGood, .inl (cy 2, 32, .inl v_isGoodc)), (z_frozen, .inl (cy 0, 32, .inl v_frozenc)), (z_given, .inl (cy 1, 32, .inr (.inl v_givenc)))] H := hP
              have hD : va_D A [(z, .inr (9, [.int v_fault, .int v_size, .int v_upper, .int v_base, .ref z_isGood, .ref z_frozen, .ref z_sheetSize, .ref z_sheetLane, .ref z_sheet, .ref z_hands, .int v_wide, .long v_mask, .int v_paths, .ref z_seen, .ref z_work, .ref z_known, .ref z_next, .int v_come, .int 1, .ref z_counts, .ref z_acrosses, .ref z_failings, .int v_basis, .ref z_given, .int v_trace])), (z_counts, .inl (cy 0, 33, .inl (upd a_59 (Int32.toNatClampNeg r_67) y_69))), (z_acrosses, .inl (cy 0, 33, .inl o_4)), (z_failings, .inl (cy 0, 33, .inl o_5)), (z_isGood, .inl (cy 2, 32, .inl v_isGoodc)), (z_frozen, .inl (cy 0, 32, .inl v_frozenc)), (z_given, .inl (cy 1, 32, .inr (.inl v_givenc)))] := hD
              rw [← e_w_70] at hP hD
              refine lv_lload_n hx hb dX10_countAll_94 rfl (lv_at hl 0 rfl) ?_
              refine lv_lconst (v := 1) hx hb dX10_countAll_95 (by decide) ?_
              refine lv_ladd hx hb dX10_countAll_96 ?_
              refine lv_topl (fun y1_71 e_y1_71 => ?_)
              have h := gx_let e_y1_71 h
              refine lv_lstore_n (lv' := [(1, .long y1_71), (0, .ref z)]) hx hb dX10_countAll_97 rfl hl (by decide) rfl (fun ls hl => ?_)
              refine lv_goto (tgt := 59) hx hb dX10_countAll_98 (by decide) ?_
              exact ih (y1_71, w_70) _ _ _ h ⟨hP, hD, hS, lv_sub (l' := [(1, .long y1_71), (0, .ref z)]) hl [0, 1] rfl⟩
    · refine gLoop (Hy := fun k_ v_ => fL_X10_countAll_15 K k_ v_ = some (o_2, o_3, o_4, o_5)) (Pl := fun (v_ : Int32 × (Nat → Int32) × (Nat → Int32) × (Nat → Int32)) H locs ls => match v_ with | (a_72, a_73, a_74, a_75) => va_P D vwCl [(z, .inr (9, [.int v_fault, .int v_size, .int v_upper, .int v_base, .ref z_isGood, .ref z_frozen, .ref z_sheetSize, .ref z_sheetLane, .ref z_sheet, .ref z_hands, .int v_wide, .long v_mask, .int v_paths, .ref z_seen, .ref z_work, .ref z_known, .ref z_next, .int v_come, .int 1, .ref z_counts, .ref z_acrosses, .ref z_failings, .int v_basis, .ref z_given, .int v_trace])), (z_counts, .inl (cy 0, 33, .inl a_73)), (z_acrosses, .inl (cy 0, 33, .inl a_74)), (z_failings, .inl (cy 0, 33, .inl a_75)), (z_isGood, .inl (cy 2, 32, .inl v_isGoodc)), (z_frozen, .inl (cy 0, 32, .inl v_frozenc)), (z_given, .inl (cy 1, 32, .inr (.inl v_givenc)))] H ∧ va_D A [(z, .inr (9, [.int v_fault, .int v_size, .int v_upper, .int v_base, .ref z_isGood, .ref z_frozen, .ref z_sheetSize, .ref z_sheetLane, .ref z_sheet, .ref z_hands, .int v_wide, .long v_mask, .int v_paths, .ref z_seen, .ref z_work, .ref z_known, .ref z_next, .int v_come, .int 1, .ref z_counts, .ref z_acrosses, .ref z_failings, .int v_basis, .ref z_given, .int v_trace])), (z_counts, .inl (cy 0, 33, .inl a_73)), (z_acrosses, .inl (cy 0, 33, .inl a_74)), (z_failings, .inl (cy 0, 33, .inl a_75)), (z_isGood, .inl (cy 2, 32, .inl v_isGoodc)), (z_frozen, .inl (cy 0, 32, .inl v_frozenc)), (z_given, .inl (cy 1, 32, .inr (.inl v_givenc)))] ∧ va_S A s.heap H locs ∧ lv_has ls 4 [(1, .int a_72), (0, .ref z)]) (pcH := 15) (fun _ q_ => by cases q_) ?_ K (0, v_countsc, v_acrossesc, v_failingsc) hL_6 ⟨hP, hD, hS, hl⟩
      clear hL_6 h hP hD hS hl
      intro k_ ih ⟨a_72, a_73, a_74, a_75⟩ H locs ls h hp_
      obtain ⟨hP, hD, hS, hl⟩ := hp_
      have hP : va_P D vwCl [(z, .inr (9, [.int v_fault, .int v_size, .int v_upper, .int v_base, .ref z_isGood, .ref z_frozen, .ref z_sheetSize, .ref z_sheetLane, .ref z_sheet, .ref z_hands, .int v_wide, .long v_mask, .int v_paths, .ref z_seen, .ref z_work, .ref z_known, .ref z_next, .int v_come, .int 1, .ref z_counts, .ref z_acrosses, .ref z_failings, .int v_basis, .ref z_given, .int v_trace])), (z_counts, .inl (cy 0, 33, .inl a_73)), (z_acrosses, .inl (cy 0, 33, .inl a_74)), (z_failings, .inl (cy 0, 33, .inl a_75)), (z_isGood, .inl (cy 2, 32, .inl v_isGoodc)), (z_frozen, .inl (cy 0, 32, .inl v_frozenc)), (z_given, .inl (cy 1, 32, .inr (.inl v_givenc)))] H := hP
      have hD : va_D A [(z, .inr (9, [.int v_fault, .int v_size, .int v_upper, .int v_base, .ref z_isGood, .ref z_frozen, .ref z_sheetSize, .ref z_sheetLane, .ref z_sheet, .ref z_hands, .int v_wide, .long v_mask, .int v_paths, .ref z_seen, .ref z_work, .ref z_known, .ref z_next, .int v_come, .int 1, .ref z_counts, .ref z_acrosses, .ref z_failings, .int v_basis, .ref z_given, .int v_trace])), (z_counts, .inl (cy 0, 33, .inl a_73)), (z_acrosses, .inl (cy 0, 33, .inl a_74)), (z_failings, .inl (cy 0, 33, .inl a_75)), (z_isGood, .inl (cy 2, 32, .inl v_isGoodc)), (z_frozen, .inl (cy 0, 32, .inl v_frozenc)), (z_given, .inl (cy 1, 32, .inr (.inl v_givenc)))] := hD
      have hl : lv_has ls 4 [(1, .int a_72), (0, .ref z)] := hl
      change fL_X10_countAll_15 K (k_ + 1) (a_72, a_73, a_74, a_75) = _ at h
      rw [fL_X10_countAll_15] at h
      refine lv_iload_n hx hb dX10_countAll_15 rfl (lv_at hl 0 rfl) ?_
      refine lv_bipush (v := 33) hx hb dX10_countAll_16 (by decide) ?_
      refine lv_icmp_ge (tgt := 48) hx hb dX10_countAll_18 (by decide) (fun c_76 => ?_) (fun c_76 => ?_)
      · have h := gx_t c_76 h
        have hl := lv_sub (l' := [(1, .int a_72), (0, .ref z)]) hl [0, 1] rfl
        cases h
        exact hJ48 _ _ _ ⟨hP, hD, hS, hl⟩
      · have h := gx_f c_76 h
        refine lv_aload_n hx hb dX10_countAll_21 rfl (lv_at hl 1 rfl) ?_
        refine va_get (D := D) (ci := 9) (v := .ref z_counts) (C := RX10) (T := TX10) (N := 25) hx hb hts iX10 hown hK hP 0 rfl rfl 19 (by decide) f42 (fun _ h9 => h9) rfl dX10_countAll_22 ?_
        refine lv_iload_n hx hb dX10_countAll_25 rfl (lv_at hl 0 rfl) ?_
        refine lv_iconst (v := 0) hx hb dX10_countAll_26 (by decide) ?_
        obtain ⟨hi_, h⟩ := gx_ix h
        refine va_iast hx hb hK hP hD hS 1 0 rfl rfl hi_ dX10_countAll_27 (fun H locs hP hD hS => ?_)
        obtain ⟨w_77, e_w_77⟩ : ∃ y : Nat → Int32, y = (upd a_73 (Int32.toNatClampNeg a_72) 0) := ⟨_, rfl⟩
        have h := gx_let e_w_77 h
        have hP : va_P D vwCl [(z, .inr (9, [.int v_fault, .int v_size, .int v_upper, .int v_base, .ref z_isGood, .ref z_frozen, .ref z_sheetSize, .ref z_sheetLane, .ref z_sheet, .ref z_hands, .int v_wide, .long v_mask, .int v_paths, .ref z_seen, .ref z_work, .ref z_known, .ref z_next, .int v_come, .int 1, .ref z_counts, .ref z_acrosses, .ref z_failings, .int v_basis, .ref z_given, .int v_trace])), (z_counts, .inl (cy 0, 33, .inl (upd a_73 (Int32.toNatClampNeg a_72) 0))), (z_acrosses, .inl (cy 0, 33, .inl a_74)), (z_failings, .inl (cy 0, 33, .inl a_75)), (z_isGood, .inl (cy 2, 32, .inl v_isGoodc)), (z_frozen, .inl (cy 0, 32, .inl v_frozenc)), (z_given, .inl (cy 1, 32, .inr (.inl v_givenc)))] H := hP
        have hD : va_D A [(z, .inr (9, [.int v_fault, .int v_size, .int v_upper, .int v_base, .ref z_isGood, .ref z_frozen, .ref z_sheetSize, .ref z_sheetLane, .ref z_sheet, .ref z_hands, .int v_wide, .long v_mask, .int v_paths, .ref z_seen, .ref z_work, .ref z_known, .ref z_next, .int v_come, .int 1, .ref z_counts, .ref z_acrosses, .ref z_failings, .int v_basis, .ref z_given, .int v_trace])), (z_counts, .inl (cy 0, 33, .inl (upd a_73 (Int32.toNatClampNeg a_72) 0))), (z_acrosses, .inl (cy 0, 33, .inl a_74)), (z_failings, .inl (cy 0, 33, .inl a_75)), (z_isGood, .inl (cy 2, 32, .inl v_isGoodc)), (z_frozen, .inl (cy 0, 32, .inl v_frozenc)), (z_given, .inl (cy 1, 32, .inr (.inl v_givenc)))] := hD
        rw [← e_w_77] at hP hD
        refine lv_aload_n hx hb dX10_countAll_28 rfl (lv_at hl 1 rfl) ?_
        refine va_get (D := D) (ci := 9) (v := .ref z_acrosses) (C := RX10) (T := TX10) (N := 25) hx hb hts iX10 hown hK hP 0 rfl rfl 20 (by decide) f45 (fun _ h9 => h9) rfl dX10_countAll_29 ?_
        refine lv_iload_n hx hb dX10_countAll_32 rfl (lv_at hl 0 rfl) ?_
        refine lv_iconst (v := 0) hx hb dX10_countAll_33 (by decide) ?_
        obtain ⟨hi_, h⟩ := gx_ix h
        refine va_iast hx hb hK hP hD hS 2 0 rfl rfl hi_ dX10_countAll_34 (fun H locs hP hD hS => ?_)
        obtain ⟨w_78, e_w_78⟩ : ∃ y : Nat → Int32, y = (upd a_74 (Int32.toNatClampNeg a_72) 0) := ⟨_, rfl⟩
        have h := gx_let e_w_78 h
        have hP : va_P D vwCl [(z, .inr (9, [.int v_fault, .int v_size, .int v_upper, .int v_base, .ref z_isGood, .ref z_frozen, .ref z_sheetSize, .ref z_sheetLane, .ref z_sheet, .ref z_hands, .int v_wide, .long v_mask, .int v_paths, .ref z_seen, .ref z_work, .ref z_known, .ref z_next, .int v_come, .int 1, .ref z_counts, .ref z_acrosses, .ref z_failings, .int v_basis, .ref z_given, .int v_trace])), (z_counts, .inl (cy 0, 33, .inl w_77)), (z_acrosses, .inl (cy 0, 33, .inl (upd a_74 (Int32.toNatClampNeg a_72) 0))), (z_failings, .inl (cy 0, 33, .inl a_75)), (z_isGood, .inl (cy 2, 32, .inl v_isGoodc)), (z_frozen, .inl (cy 0, 32, .inl v_frozenc)), (z_given, .inl (cy 1, 32, .inr (.inl v_givenc)))] H := hP
        have hD : va_D A [(z, .inr (9, [.int v_fault, .int v_size, .int v_upper, .int v_base, .ref z_isGood, .ref z_frozen, .ref z_sheetSize, .ref z_sheetLane, .ref z_sheet, .ref z_hands, .int v_wide, .long v_mask, .int v_paths, .ref z_seen, .ref z_work, .ref z_known, .ref z_next, .int v_come, .int 1, .ref z_counts, .ref z_acrosses, .ref z_failings, .int v_basis, .ref z_given, .int v_trace])), (z_counts, .inl (cy 0, 33, .inl w_77)), (z_acrosses, .inl (cy 0, 33, .inl (upd a_74 (Int32.toNatClampNeg a_72) 0))), (z_failings, .inl (cy 0, 33, .inl a_75)), (z_isGood, .inl (cy 2, 32, .inl v_isGoodc)), (z_frozen, .inl (cy 0, 32, .inl v_frozenc)), (z_given, .inl (cy 1, 32, .inr (.inl v_givenc)))] := hD
        rw [← e_w_78] at hP hD
        refine lv_aload_n hx hb dX10_countAll_35 rfl (lv_at hl 1 rfl) ?_
        refine va_get (D := D) (ci := 9) (v := .ref z_failings) (C := RX10) (T := TX10) (N := 25) hx hb hts iX10 hown hK hP 0 rfl rfl 21 (by decide) f48 (fun _ h9 => h9) rfl dX10_countAll_36 ?_
        refine lv_iload_n hx hb dX10_countAll_39 rfl (lv_at hl 0 rfl) ?_
        refine lv_iconst (v := 0) hx hb dX10_countAll_40 (by decide) ?_
        obtain ⟨hi_, h⟩ := gx_ix h
        refine va_iast hx hb hK hP hD hS 3 0 rfl rfl hi_ dX10_countAll_41 (fun H locs hP hD hS => ?_)
        obtain ⟨w_79, e_w_79⟩ : ∃ y : Nat → Int32, y = (upd a_75 (Int32.toNatClampNeg a_72) 0) := ⟨_, rfl⟩
        have h := gx_let e_w_79 h
        have hP : va_P D vwCl [(z, .inr (9, [.int v_fault, .int v_size, .int v_upper, .int v_base, .ref z_isGood, .ref z_frozen, .ref z_sheetSize, .ref z_sheetLane, .ref z_sheet, .ref z_hands, .int v_wide, .long v_mask, .int v_paths, .ref z_seen, .ref z_work, .ref z_known, .ref z_next, .int v_come, .int 1, .ref z_counts, .ref z_acrosses, .ref z_failings, .int v_basis, .ref z_given, .int v_trace])), (z_counts, .inl (cy 0, 33, .inl w_77)), (z_acrosses, .inl (cy 0, 33, .inl w_78)), (z_failings, .inl (cy 0, 33, .inl (upd a_75 (Int32.toNatClampNeg a_72) 0))), (z_isGood, .inl (cy 2, 32, .inl v_isGoodc)), (z_frozen, .inl (cy 0, 32, .inl v_frozenc)), (z_given, .inl (cy 1, 32, .inr (.inl v_givenc)))] H := hP
        have hD : va_D A [(z, .inr (9, [.int v_fault, .int v_size, .int v_upper, .int v_base, .ref z_isGood, .ref z_frozen, .ref z_sheetSize, .ref z_sheetLane, .ref z_sheet, .ref z_hands, .int v_wide, .long v_mask, .int v_paths, .ref z_seen, .ref z_work, .ref z_known, .ref z_next, .int v_come, .int 1, .ref z_counts, .ref z_acrosses, .ref z_failings, .int v_basis, .ref z_given, .int v_trace])), (z_counts, .inl (cy 0, 33, .inl w_77)), (z_acrosses, .inl (cy 0, 33, .inl w_78)), (z_failings, .inl (cy 0, 33, .inl (upd a_75 (Int32.toNatClampNeg a_72) 0))), (z_isGood, .inl (cy 2, 32, .inl v_isGoodc)), (z_frozen, .inl (cy 0, 32, .inl v_frozenc)), (z_given, .inl (cy 1, 32, .inr (.inl v_givenc)))] := hD
        rw [← e_w_79] at hP hD
        obtain ⟨y1_80, e_y1_80⟩ : ∃ y : Int32, y = (a_72 + 1) := ⟨_, rfl⟩
        have h := gx_let e_y1_80 h
        refine lv_iinc (v := y1_80) (lv' := [(1, .int y1_80), (0, .ref z)]) hx hb dX10_countAll_42 hl (k := 0) rfl (by rw [e_y1_80]; rfl) (by decide) rfl (fun ls hl => ?_)
        refine lv_goto (tgt := 15) hx hb dX10_countAll_45 (by decide) ?_
        exact ih (y1_80, w_77, w_78, w_79) _ _ _ h ⟨hP, hD, hS, lv_sub (l' := [(1, .int y1_80), (0, .ref z)]) hl [0, 1] rfl⟩
  · have h := gx_f c_1 h
    cases h
    exact gRv hx hb hr hlocks hP hD hS dX10_countAll_7
