def f_X9_partOf (K : Nat) (x1 : Int32) (v_places_n : Int32) (v_places_p : Int32) (v_places_q : Int32) (v_places_goodOnes : Int64) : Option (Nat) :=
  Option.bind (f_X4_isGood K x1 v_places_goodOnes) fun r_1 =>
  if r_1 = 0 then
    some 0
  else
    Option.bind (f_X4_upperNumber K x1 v_places_n v_places_p v_places_q) fun r_3 =>
    if (lg_cmp r_3 0) = 0 then
      some 2
    else
      some 1
set_option maxHeartbeats 4000000 in
set_option maxRecDepth 100000 in
theorem c_X9_partOf (l : Launch) (D : va_G) (cy : Nat → ClassId) (t sz K : Nat) (z : Nat) (z_places : Nat) (z_reader : Nat) (z_tally : Nat) (z_sheets : Nat) (z_trail : Nat) (z_frozenPart : Nat) (z_goodPart : Nat) (z_bestPart : Nat) (z_places_uppers : Nat) (v_latestFault : Int32) (v_places_n : Int32) (v_places_p : Int32) (v_places_q : Int32) (v_places_goodOnes : Int64) (v_places_frozenOnes : Int64) (x1 : Int32) (r_ : Nat) (a_ : Nat) (h : f_X9_partOf K x1 v_places_n v_places_p v_places_q v_places_goodOnes = some r_) (ha : gPart r_ z_frozenPart z_goodPart z_bestPart = a_) : gMr l D cy t sz yX9_partOf wsX9_partOf 2 49 [.ref z, .int x1] [(z, .inr (8, [.ref z_places, .ref z_reader, .ref z_tally, .ref z_sheets, .ref z_trail, .ref z_frozenPart, .ref z_goodPart, .ref z_bestPart, .int v_latestFault])), (z_places, .inr (3, [.int v_places_n, .int v_places_p, .int v_places_q, .long v_places_goodOnes, .long v_places_frozenOnes, .ref z_places_uppers]))] a_ [(z, .inr (8, [.ref z_places, .ref z_reader, .ref z_tally, .ref z_sheets, .ref z_trail, .ref z_frozenPart, .ref z_goodPart, .ref z_bestPart, .int v_latestFault])), (z_places, .inr (3, [.int v_places_n, .int v_places_p, .int v_places_q, .long v_places_goodOnes, .long v_places_frozenOnes, .ref z_places_uppers]))] := by
  refine gBr (cc := cX9_partOf) (maxL := 2) (ret := (some (.object "PlainLines$Part"))) (by decide) rfl (Nat.le_of_ble_eq_true rfl) ?_
  intro p e s m below meth c A ls hAt hl
  obtain ⟨hx, hb, hml, hr, hts, hown, hlocks, hin, hK, hG, hA, hP, hD⟩ := hAt
  have hS : va_S A s.heap s.heap [] := va_S.rf
  have hl : lv_has ls 2 [(0, .ref z), (1, .int x1)] := hl
  have f12 := hts (.fieldLink RX9 12 "PlainLines" "places" "LPlainLines$Places;") (by decide +kernel)
  have iX9 := (by decide +kernel : ∀ w ∈ u_ws RX9 TX9 9, w ∈ wsX9_partOf)
  have f56 := hts (.fieldLink RX9 56 "PlainLines" "goodPart" "LPlainLines$GoodPart;") (by decide +kernel)
  have f63 := hts (.fieldLink RX9 63 "PlainLines" "bestPart" "LPlainLines$BestPart;") (by decide +kernel)
  have f49 := hts (.fieldLink RX9 49 "PlainLines" "frozenPart" "LPlainLines$FrozenPart;") (by decide +kernel)
  rw [f_X9_partOf] at h
  refine lv_aload_n hx hb dX9_partOf_0 rfl (lv_at hl 0 rfl) ?_
  refine va_get (D := D) (ci := 8) (v := .ref z_places) (C := RX9) (T := TX9) (N := 9) hx hb hts iX9 hown hK hP 0 rfl rfl 0 (by decide) f12 (fun _ h9 => h9) rfl dX9_partOf_1 ?_
  refine lv_iload_n hx hb dX9_partOf_4 rfl (lv_at hl 1 rfl) ?_
  obtain ⟨r_1, hc_2, h⟩ := gx_b h
  refine gCalli (wr := [(z, .inr (8, [.ref z_places, .ref z_reader, .ref z_tally, .ref z_sheets, .ref z_trail, .ref z_frozenPart, .ref z_goodPart, .ref z_bestPart, .int v_latestFault]))]) (va_runV (As := [.int x1]) (rest := []) ⟨hx, hb, hml, hown, hts⟩ (c_X4_isGood l D cy t s.heap.size K z_places z_places_uppers v_places_n v_places_p v_places_q v_places_goodOnes v_places_frozenOnes x1 r_1 hc_2) (cwV 1 hts gX9_partOf_X4_isGood rfl rfl rfl (by decide +kernel) ⟨Nat.le_of_ble_eq_true rfl, Nat.le_of_ble_eq_true rfl⟩) ⟨gBlind, va_recv hK hP (ci := 3) (q0 := 1) rfl rfl, fun U hU hW => ⟨rfl, gPre.call hK hG hA hP hD hS [1] (by decide) rfl U hU hW⟩⟩ rfl rfl hl.1 rfl (lv_room (Nat.le_of_ble_eq_true rfl)) dX9_partOf_5 ⟨Nat.le_of_ble_eq_true rfl, Nat.le_of_ble_eq_true rfl⟩) hA hP hD hS [1] [0] rfl rfl (by decide) (by decide) (fun H locs hP hD hS => ?_)
  have hP : va_P D vwCl [(z, .inr (8, [.ref z_places, .ref z_reader, .ref z_tally, .ref z_sheets, .ref z_trail, .ref z_frozenPart, .ref z_goodPart, .ref z_bestPart, .int v_latestFault])), (z_places, .inr (3, [.int v_places_n, .int v_places_p, .int v_places_q, .long v_places_goodOnes, .long v_places_frozenOnes, .ref z_places_uppers]))] H := hP
  have hD : va_D A [(z, .inr (8, [.ref z_places, .ref z_reader, .ref z_tally, .ref z_sheets, .ref z_trail, .ref z_frozenPart, .ref z_goodPart, .ref z_bestPart, .int v_latestFault])), (z_places, .inr (3, [.int v_places_n, .int v_places_p, .int v_places_q, .long v_places_goodOnes, .long v_places_frozenOnes, .ref z_places_uppers]))] := hD
  refine lv_if_ne (tgt := 16) hx hb dX9_partOf_8 (by decide) (fun c_3 => ?_) (fun c_3 => ?_)
  · have h := gx_f c_3 h
    refine lv_aload_n hx hb dX9_partOf_16 rfl (lv_at hl 0 rfl) ?_
    refine va_get (D := D) (ci := 8) (v := .ref z_places) (C := RX9) (T := TX9) (N := 9) hx hb hts iX9 hown hK hP 0 rfl rfl 0 (by decide) f12 (fun _ h9 => h9) rfl dX9_partOf_17 ?_
    refine lv_iload_n hx hb dX9_partOf_20 rfl (lv_at hl 1 rfl) ?_
    obtain ⟨r_4, hc_5, h⟩ := gx_b h
    refine gCalll (wr := [(z, .inr (8, [.ref z_places, .ref z_reader, .ref z_tally, .ref z_sheets, .ref z_trail, .ref z_frozenPart, .ref z_goodPart, .ref z_bestPart, .int v_latestFault]))]) (va_runV (As := [.int x1]) (rest := []) ⟨hx, hb, hml, hown, hts⟩ (c_X4_upperNumber l D cy t H.size K z_places z_places_uppers v_places_n v_places_p v_places_q v_places_goodOnes v_places_frozenOnes x1 r_4 hc_5) (cwV 1 hts gX9_partOf_X4_upperNumber rfl rfl rfl (by decide +kernel) ⟨Nat.le_of_ble_eq_true rfl, Nat.le_of_ble_eq_true rfl⟩) ⟨gBlind, va_recv hK hP (ci := 3) (q0 := 1) rfl rfl, fun U hU hW => ⟨rfl, gPre.call hK hG hA hP hD hS [1] (by decide) rfl U hU hW⟩⟩ rfl rfl hl.1 rfl (lv_room (Nat.le_of_ble_eq_true rfl)) dX9_partOf_21 ⟨Nat.le_of_ble_eq_true rfl, Nat.le_of_ble_eq_true rfl⟩) hA hP hD hS [1] [0] rfl rfl (by decide) (by decide) (fun H locs hP hD hS => ?_)
    have hP : va_P D vwCl [(z, .inr (8, [.ref z_places, .ref z_reader, .ref z_tally, .ref z_sheets, .ref z_trail, .ref z_frozenPart, .ref z_goodPart, .ref z_bestPart, .int v_latestFault])), (z_places, .inr (3, [.int v_places_n, .int v_places_p, .int v_places_q, .long v_places_goodOnes, .long v_places_frozenOnes, .ref z_places_uppers]))] H := hP
    have hD : va_D A [(z, .inr (8, [.ref z_places, .ref z_reader, .ref z_tally, .ref z_sheets, .ref z_trail, .ref z_frozenPart, .ref z_goodPart, .ref z_bestPart, .int v_latestFault])), (z_places, .inr (3, [.int v_places_n, .int v_places_p, .int v_places_q, .long v_places_goodOnes, .long v_places_frozenOnes, .ref z_places_uppers]))] := hD
    refine lv_lconst (v := 0) hx hb dX9_partOf_24 (by decide) ?_
    refine W.lcmp hx hb dX9_partOf_25 ?_
    refine lv_if_ne (tgt := 36) hx hb dX9_partOf_26 (by decide) (fun c_6 => ?_) (fun c_6 => ?_)
    · have h := gx_f c_6 h
      refine lv_aload_n hx hb dX9_partOf_36 rfl (lv_at hl 0 rfl) ?_
      refine va_get (D := D) (ci := 8) (v := .ref z_goodPart) (C := RX9) (T := TX9) (N := 9) hx hb hts iX9 hown hK hP 0 rfl rfl 6 (by decide) f56 (fun _ h9 => h9) rfl dX9_partOf_37 ?_
      cases h
      obtain rfl : z_goodPart = a_ := ha
      exact gRr hx hb hr hlocks hP hD hS dX9_partOf_40
    · have h := gx_t c_6 h
      refine lv_aload_n hx hb dX9_partOf_29 rfl (lv_at hl 0 rfl) ?_
      refine va_get (D := D) (ci := 8) (v := .ref z_bestPart) (C := RX9) (T := TX9) (N := 9) hx hb hts iX9 hown hK hP 0 rfl rfl 7 (by decide) f63 (fun _ h9 => h9) rfl dX9_partOf_30 ?_
      refine lv_goto (tgt := 40) hx hb dX9_partOf_33 (by decide) ?_
      cases h
      obtain rfl : z_bestPart = a_ := ha
      exact gRr hx hb hr hlocks hP hD hS dX9_partOf_40
  · have h := gx_t c_3 h
    refine lv_aload_n hx hb dX9_partOf_11 rfl (lv_at hl 0 rfl) ?_
    refine va_get (D := D) (ci := 8) (v := .ref z_frozenPart) (C := RX9) (T := TX9) (N := 9) hx hb hts iX9 hown hK hP 0 rfl rfl 5 (by decide) f49 (fun _ h9 => h9) rfl dX9_partOf_12 ?_
    cases h
    obtain rfl : z_frozenPart = a_ := ha
    exact gRr hx hb hr hlocks hP hD hS dX9_partOf_15

def f_X9_tell (K : Nat) (x1 : Int32) (v_places_n : Int32) (v_places_p : Int32) (v_places_q : Int32) (v_places_goodOnes : Int64) (v_places_frozenOnes : Int64) (v_trail_trace : Int32) : Option (Int32 × Int32) :=
  Option.bind (f_X4_has K x1 v_places_n) fun r_1 =>
  if r_1 = 0 then
    some ((-1), v_trail_trace)
  else
    Option.bind (f_X9_partOf K x1 v_places_n v_places_p v_places_q v_places_goodOnes) fun g_3 =>
    if g_3 = 0 then
      Option.bind (f_X1_telling K x1 v_trail_trace v_places_frozenOnes) fun (r_4, o_5) =>
      some (r_4, o_5)
    else
      if g_3 = 1 then
        Option.bind (f_X2_telling K x1 v_trail_trace) fun (r_6, o_7) =>
        some (r_6, o_7)
      else
        Option.bind (f_X0_telling K x1 v_trail_trace) fun (r_8, o_9) =>
        some (r_8, o_9)
set_option maxHeartbeats 4000000 in
set_option maxRecDepth 100000 in
theorem c_X9_tell (l : Launch) (D : va_G) (cy : Nat → ClassId) (t sz K : Nat) (z : Nat) (z_places : Nat) (z_trail : Nat) (z_frozenPart : Nat) (z_goodPart : Nat) (z_bestPart : Nat) (z_reader : Nat) (z_tally : Nat) (z_sheets : Nat) (z_places_uppers : Nat) (v_latestFault : Int32) (v_places_n : Int32) (v_places_p : Int32) (v_places_q : Int32) (v_places_goodOnes : Int64) (v_places_frozenOnes : Int64) (v_trail_trace : Int32) (x1 : Int32) (r_ : Int32) (o_v_trail_trace : Int32) (h : f_X9_tell K x1 v_places_n v_places_p v_places_q v_places_goodOnes v_places_frozenOnes v_trail_trace = some (r_, o_v_trail_trace)) : gMi l D cy t sz yX9_tell wsX9_tell 3 70 [.ref z, .int x1] [(z, .inr (8, [.ref z_places, .ref z_reader, .ref z_tally, .ref z_sheets, .ref z_trail, .ref z_frozenPart, .ref z_goodPart, .ref z_bestPart, .int v_latestFault])), (z_places, .inr (3, [.int v_places_n, .int v_places_p, .int v_places_q, .long v_places_goodOnes, .long v_places_frozenOnes, .ref z_places_uppers])), (z_trail, .inr (7, [.int v_trail_trace])), (z_frozenPart, .inr (1, [])), (z_goodPart, .inr (2, [])), (z_bestPart, .inr (0, []))] r_ [(z, .inr (8, [.ref z_places, .ref z_reader, .ref z_tally, .ref z_sheets, .ref z_trail, .ref z_frozenPart, .ref z_goodPart, .ref z_bestPart, .int v_latestFault])), (z_places, .inr (3, [.int v_places_n, .int v_places_p, .int v_places_q, .long v_places_goodOnes, .long v_places_frozenOnes, .ref z_places_uppers])), (z_trail, .inr (7, [.int o_v_trail_trace])), (z_frozenPart, .inr (1, [])), (z_goodPart, .inr (2, [])), (z_bestPart, .inr (0, []))] := by
  refine gBi (cc := cX9_tell) (maxL := 2) (ret := (some .int)) (by decide) rfl (Nat.le_of_ble_eq_true rfl) ?_
  intro p e s m below meth c A ls hAt hl
  obtain ⟨hx, hb, hml, hr, hts, hown, hlocks, hin, hK, hG, hA, hP, hD⟩ := hAt
  have hS : va_S A s.heap s.heap [] := va_S.rf
  have hl : lv_has ls 2 [(0, .ref z), (1, .int x1)] := hl
  have f12 := hts (.fieldLink RX9 12 "PlainLines" "places" "LPlainLines$Places;") (by decide +kernel)
  have iX9 := (by decide +kernel : ∀ w ∈ u_ws RX9 TX9 9, w ∈ wsX9_tell)
  have f42 := hts (.fieldLink RX9 42 "PlainLines" "trail" "LPlainLines$Trail;") (by decide +kernel)
  rw [f_X9_tell] at h
  refine lv_aload_n hx hb dX9_tell_0 rfl (lv_at hl 0 rfl) ?_
  refine va_get (D := D) (ci := 8) (v := .ref z_places) (C := RX9) (T := TX9) (N := 9) hx hb hts iX9 hown hK hP 0 rfl rfl 0 (by decide) f12 (fun _ h9 => h9) rfl dX9_tell_1 ?_
  refine lv_iload_n hx hb dX9_tell_4 rfl (lv_at hl 1 rfl) ?_
  obtain ⟨r_1, hc_2, h⟩ := gx_b h
  refine gCalli (wr := [(z, .inr (8, [.ref z_places, .ref z_reader, .ref z_tally, .ref z_sheets, .ref z_trail, .ref z_frozenPart, .ref z_goodPart, .ref z_bestPart, .int v_latestFault])), (z_trail, .inr (7, [.int v_trail_trace])), (z_frozenPart, .inr (1, [])), (z_goodPart, .inr (2, [])), (z_bestPart, .inr (0, []))]) (va_runV (As := [.int x1]) (rest := []) ⟨hx, hb, hml, hown, hts⟩ (c_X4_has l D cy t s.heap.size K z_places z_places_uppers v_places_n v_places_p v_places_q v_places_goodOnes v_places_frozenOnes x1 r_1 hc_2) (cwV 1 hts gX9_tell_X4_has rfl rfl rfl (by decide +kernel) ⟨Nat.le_of_ble_eq_true rfl, Nat.le_of_ble_eq_true rfl⟩) ⟨gBlind, va_recv hK hP (ci := 3) (q0 := 1) rfl rfl, fun U hU hW => ⟨rfl, gPre.call hK hG hA hP hD hS [1] (by decide) rfl U hU hW⟩⟩ rfl rfl hl.1 rfl (lv_room (Nat.le_of_ble_eq_true rfl)) dX9_tell_5 ⟨Nat.le_of_ble_eq_true rfl, Nat.le_of_ble_eq_true rfl⟩) hA hP hD hS [1] [0, 2, 3, 4, 5] rfl rfl (by decide) (by decide) (fun H locs hP hD hS => ?_)
  have hP := hP.sub (ws' := [(z, .inr (8, [.ref z_places, .ref z_reader, .ref z_tally, .ref z_sheets, .ref z_trail, .ref z_frozenPart, .ref z_goodPart, .ref z_bestPart, .int v_latestFault])), (z_places, .inr (3, [.int v_places_n, .int v_places_p, .int v_places_q, .long v_places_goodOnes, .long v_places_frozenOnes, .ref z_places_uppers])), (z_trail, .inr (7, [.int v_trail_trace])), (z_frozenPart, .inr (1, [])), (z_goodPart, .inr (2, [])), (z_bestPart, .inr (0, []))]) [0, 5, 1, 2, 3, 4] rfl
  have hD := hD.sub (ws' := [(z, .inr (8, [.ref z_places, .ref z_reader, .ref z_tally, .ref z_sheets, .ref z_trail, .ref z_frozenPart, .ref z_goodPart, .ref z_bestPart, .int v_latestFault])), (z_places, .inr (3, [.int v_places_n, .int v_places_p, .int v_places_q, .long v_places_goodOnes, .long v_places_frozenOnes, .ref z_places_uppers])), (z_trail, .inr (7, [.int v_trail_trace])), (z_frozenPart, .inr (1, [])), (z_goodPart, .inr (2, [])), (z_bestPart, .inr (0, []))]) [0, 5, 1, 2, 3, 4] (by decide) rfl
  refine lv_if_eq (tgt := 31) hx hb dX9_tell_8 (by decide) (fun c_3 => ?_) (fun c_3 => ?_)
  · have h := gx_t c_3 h
    refine lv_iconst (v := (-1)) hx hb dX9_tell_31 (by decide) ?_
    cases h
    exact gRi hx hb hr hlocks hP hD hS dX9_tell_32
  · have h := gx_f c_3 h
    refine lv_aload_n hx hb dX9_tell_11 rfl (lv_at hl 0 rfl) ?_
    refine lv_iload_n hx hb dX9_tell_12 rfl (lv_at hl 1 rfl) ?_
    obtain ⟨g_4, hc_5, h⟩ := gx_b h
    by_cases c_6 : g_4 = 0
    · subst c_6
      have h := gx_t rfl h
      refine gCallr (wr := [(z_trail, .inr (7, [.int v_trail_trace])), (z_frozenPart, .inr (1, [])), (z_goodPart, .inr (2, [])), (z_bestPart, .inr (0, []))]) (va_runV (As := [.int x1]) (rest := []) ⟨hx, hb, hml, hown, hts⟩ (c_X9_partOf l D cy t H.size K z z_places z_reader z_tally z_sheets z_trail z_frozenPart z_goodPart z_bestPart z_places_uppers v_latestFault v_places_n v_places_p v_places_q v_places_goodOnes v_places_frozenOnes x1 0 z_frozenPart hc_5 rfl) (cwV 1 hts gX9_tell_X9_partOf rfl rfl rfl (by decide +kernel) ⟨Nat.le_of_ble_eq_true rfl, Nat.le_of_ble_eq_true rfl⟩) ⟨gBlind, va_recv hK hP (ci := 8) (q0 := 0) rfl rfl, fun U hU hW => ⟨rfl, gPre.call hK hG hA hP hD hS [0, 1] (by decide) rfl U hU hW⟩⟩ rfl rfl hl.1 rfl (lv_room (Nat.le_of_ble_eq_true rfl)) dX9_tell_13 ⟨Nat.le_of_ble_eq_true rfl, Nat.le_of_ble_eq_true rfl⟩) hA hP hD hS [0, 1] [2, 3, 4, 5] rfl rfl (by decide) (by decide) (fun H locs hP hD hS => ?_)
      have hP := hP.sub (ws' := [(z, .inr (8, [.ref z_places, .ref z_reader, .ref z_tally, .ref z_sheets, .ref z_trail, .ref z_frozenPart, .ref z_goodPart, .ref z_bestPart, .int v_latestFault])), (z_places, .inr (3, [.int v_places_n, .int v_places_p, .int v_places_q, .long v_places_goodOnes, .long v_places_frozenOnes, .ref z_places_uppers])), (z_trail, .inr (7, [.int v_trail_trace])), (z_frozenPart, .inr (1, [])), (z_goodPart, .inr (2, [])), (z_bestPart, .inr (0, []))]) [4, 5, 0, 1, 2, 3] rfl
      have hD := hD.sub (ws' := [(z, .inr (8, [.ref z_places, .ref z_reader, .ref z_tally, .ref z_sheets, .ref z_trail, .ref z_frozenPart, .ref z_goodPart, .ref z_bestPart, .int v_latestFault])), (z_places, .inr (3, [.int v_places_n, .int v_places_p, .int v_places_q, .long v_places_goodOnes, .long v_places_frozenOnes, .ref z_places_uppers])), (z_trail, .inr (7, [.int v_trail_trace])), (z_frozenPart, .inr (1, [])), (z_goodPart, .inr (2, [])), (z_bestPart, .inr (0, []))]) [4, 5, 0, 1, 2, 3] (by decide) rfl
      refine lv_aload_n hx hb dX9_tell_16 rfl (lv_at hl 0 rfl) ?_
      refine va_get (D := D) (ci := 8) (v := .ref z_places) (C := RX9) (T := TX9) (N := 9) hx hb hts iX9 hown hK hP 0 rfl rfl 0 (by decide) f12 (fun _ h9 => h9) rfl dX9_tell_17 ?_
      refine lv_aload_n hx hb dX9_tell_20 rfl (lv_at hl 0 rfl) ?_
      refine va_get (D := D) (ci := 8) (v := .ref z_trail) (C := RX9) (T := TX9) (N := 9) hx hb hts iX9 hown hK hP 0 rfl rfl 4 (by decide) f42 (fun _ h9 => h9) rfl dX9_tell_21 ?_
      refine lv_iload_n hx hb dX9_tell_24 rfl (lv_at hl 1 rfl) ?_
      obtain ⟨⟨r_8, o_9⟩, hc_10, h⟩ := gx_b h
      refine gCalli (wr := [(z, .inr (8, [.ref z_places, .ref z_reader, .ref z_tally, .ref z_sheets, .ref z_trail, .ref z_frozenPart, .ref z_goodPart, .ref z_bestPart, .int v_latestFault])), (z_frozenPart, .inr (1, [])), (z_goodPart, .inr (2, [])), (z_bestPart, .inr (0, []))]) (va_runU (As := [.ref z_places, .ref z_trail, .int x1]) (rest := []) ⟨hx, hb, hml, hown, hts⟩ (c_X1_telling l D cy t H.size K z_trail z_places z_places_uppers z_frozenPart v_trail_trace v_places_n v_places_p v_places_q v_places_goodOnes v_places_frozenOnes x1 r_8 o_9 hc_10) (va_cwA 3 hts gX9_tell_X1_telling_u270X1 rfl rfl rfl hG.2.2.2.2.1 (by decide +kernel) ⟨Nat.le_of_ble_eq_true rfl, Nat.le_of_ble_eq_true rfl⟩) ⟨gBlind, va_recv hK hP (ci := 1) (q0 := 3) rfl rfl, fun U hU hW => ⟨rfl, gPre.call hK hG hA hP hD hS [2, 1] (by decide) rfl U hU hW⟩⟩ rfl rfl hl.1 rfl (lv_room (Nat.le_of_ble_eq_true rfl)) dX9_tell_25 ⟨Nat.le_of_ble_eq_true rfl, Nat.le_of_ble_eq_true rfl⟩) hA hP hD hS [2, 1] [0, 3, 4, 5] rfl rfl (by decide) (by decide) (fun H locs hP hD hS => ?_)
      have hP := hP.sub (ws' := [(z, .inr (8, [.ref z_places, .ref z_reader, .ref z_tally, .ref z_sheets, .ref z_trail, .ref z_frozenPart, .ref z_goodPart, .ref z_bestPart, .int v_latestFault])), (z_places, .inr (3, [.int v_places_n, .int v_places_p, .int v_places_q, .long v_places_goodOnes, .long v_places_frozenOnes, .ref z_places_uppers])), (z_trail, .inr (7, [.int o_9])), (z_frozenPart, .inr (1, [])), (z_goodPart, .inr (2, [])), (z_bestPart, .inr (0, []))]) [0, 5, 4, 1, 2, 3] rfl
      have hD := hD.sub (ws' := [(z, .inr (8, [.ref z_places, .ref z_reader, .ref z_tally, .ref z_sheets, .ref z_trail, .ref z_frozenPart, .ref z_goodPart, .ref z_bestPart, .int v_latestFault])), (z_places, .inr (3, [.int v_places_n, .int v_places_p, .int v_places_q, .long v_places_goodOnes, .long v_places_frozenOnes, .ref z_places_uppers])), (z_trail, .inr (7, [.int o_9])), (z_frozenPart, .inr (1, [])), (z_goodPart, .inr (2, [])), (z_bestPart, .inr (0, []))]) [0, 5, 4, 1, 2, 3] (by decide) rfl
      refine lv_goto (tgt := 32) hx hb dX9_tell_28 (by decide) ?_
      cases h
      exact gRi hx hb hr hlocks hP hD hS dX9_tell_32
    have h := gx_f c_6 h
    by_cases c_7 : g_4 = 1
    · subst c_7
      have h := gx_t rfl h
      refine gCallr (wr := [(z_trail, .inr (7, [.int v_trail_trace])), (z_frozenPart, .inr (1, [])), (z_goodPart, .inr (2, [])), (z_bestPart, .inr (0, []))]) (va_runV (As := [.int x1]) (rest := []) ⟨hx, hb, hml, hown, hts⟩ (c_X9_partOf l D cy t H.size K z z_places z_reader z_tally z_sheets z_trail z_frozenPart z_goodPart z_bestPart z_places_uppers v_latestFault v_places_n v_places_p v_places_q v_places_goodOnes v_places_frozenOnes x1 1 z_goodPart hc_5 rfl) (cwV 1 hts gX9_tell_X9_partOf rfl rfl rfl (by decide +kernel) ⟨Nat.le_of_ble_eq_true rfl, Nat.le_of_ble_eq_true rfl⟩) ⟨gBlind, va_recv hK hP (ci := 8) (q0 := 0) rfl rfl, fun U hU hW => ⟨rfl, gPre.call hK hG hA hP hD hS [0, 1] (by decide) rfl U hU hW⟩⟩ rfl rfl hl.1 rfl (lv_room (Nat.le_of_ble_eq_true rfl)) dX9_tell_13 ⟨Nat.le_of_ble_eq_true rfl, Nat.le_of_ble_eq_true rfl⟩) hA hP hD hS [0, 1] [2, 3, 4, 5] rfl rfl (by decide) (by decide) (fun H locs hP hD hS => ?_)
      have hP := hP.sub (ws' := [(z, .inr (8, [.ref z_places, .ref z_reader, .ref z_tally, .ref z_sheets, .ref z_trail, .ref z_frozenPart, .ref z_goodPart, .ref z_bestPart, .int v_latestFault])), (z_places, .inr (3, [.int v_places_n, .int v_places_p, .int v_places_q, .long v_places_goodOnes, .long v_places_frozenOnes, .ref z_places_uppers])), (z_trail, .inr (7, [.int v_trail_trace])), (z_frozenPart, .inr (1, [])), (z_goodPart, .inr (2, [])), (z_bestPart, .inr (0, []))]) [4, 5, 0, 1, 2, 3] rfl
      have hD := hD.sub (ws' := [(z, .inr (8, [.ref z_places, .ref z_reader, .ref z_tally, .ref z_sheets, .ref z_trail, .ref z_frozenPart, .ref z_goodPart, .ref z_bestPart, .int v_latestFault])), (z_places, .inr (3, [.int v_places_n, .int v_places_p, .int v_places_q, .long v_places_goodOnes, .long v_places_frozenOnes, .ref z_places_uppers])), (z_trail, .inr (7, [.int v_trail_trace])), (z_frozenPart, .inr (1, [])), (z_goodPart, .inr (2, [])), (z_bestPart, .inr (0, []))]) [4, 5, 0, 1, 2, 3] (by decide) rfl
      refine lv_aload_n hx hb dX9_tell_16 rfl (lv_at hl 0 rfl) ?_
      refine va_get (D := D) (ci := 8) (v := .ref z_places) (C := RX9) (T := TX9) (N := 9) hx hb hts iX9 hown hK hP 0 rfl rfl 0 (by decide) f12 (fun _ h9 => h9) rfl dX9_tell_17 ?_
      refine lv_aload_n hx hb dX9_tell_20 rfl (lv_at hl 0 rfl) ?_
      refine va_get (D := D) (ci := 8) (v := .ref z_trail) (C := RX9) (T := TX9) (N := 9) hx hb hts iX9 hown hK hP 0 rfl rfl 4 (by decide) f42 (fun _ h9 => h9) rfl dX9_tell_21 ?_
      refine lv_iload_n hx hb dX9_tell_24 rfl (lv_at hl 1 rfl) ?_
      obtain ⟨⟨r_11, o_12⟩, hc_13, h⟩ := gx_b h
      refine gCalli (wr := [(z, .inr (8, [.ref z_places, .ref z_reader, .ref z_tally, .ref z_sheets, .ref z_trail, .ref z_frozenPart, .ref z_goodPart, .ref z_bestPart, .int v_latestFault])), (z_places, .inr (3, [.int v_places_n, .int v_places_p, .int v_places_q, .long v_places_goodOnes, .long v_places_frozenOnes, .ref z_places_uppers])), (z_frozenPart, .inr (1, [])), (z_goodPart, .inr (2, [])), (z_bestPart, .inr (0, []))]) (va_runU (As := [.ref z_places, .ref z_trail, .int x1]) (rest := []) ⟨hx, hb, hml, hown, hts⟩ (c_X2_telling l D cy t H.size K z_trail z_goodPart z_places v_trail_trace x1 r_11 o_12 hc_13) (va_cwA 3 hts gX9_tell_X2_telling_u270X2 rfl rfl rfl hG.2.2.2.2.1 (by decide +kernel) ⟨Nat.le_of_ble_eq_true rfl, Nat.le_of_ble_eq_true rfl⟩) ⟨gBlind, va_recv hK hP (ci := 2) (q0 := 4) rfl rfl, fun U hU hW => ⟨rfl, gPre.call hK hG hA hP hD hS [2] (by decide) rfl U hU hW⟩⟩ rfl rfl hl.1 rfl (lv_room (Nat.le_of_ble_eq_true rfl)) dX9_tell_25 ⟨Nat.le_of_ble_eq_true rfl, Nat.le_of_ble_eq_true rfl⟩) hA hP hD hS [2] [0, 1, 3, 4, 5] rfl rfl (by decide) (by decide) (fun H locs hP hD hS => ?_)
      have hP := hP.sub (ws' := [(z, .inr (8, [.ref z_places, .ref z_reader, .ref z_tally, .ref z_sheets, .ref z_trail, .ref z_frozenPart, .ref z_goodPart, .ref z_bestPart, .int v_latestFault])), (z_places, .inr (3, [.int v_places_n, .int v_places_p, .int v_places_q, .long v_places_goodOnes, .long v_places_frozenOnes, .ref z_places_uppers])), (z_trail, .inr (7, [.int o_12])), (z_frozenPart, .inr (1, [])), (z_goodPart, .inr (2, [])), (z_bestPart, .inr (0, []))]) [0, 1, 5, 2, 3, 4] rfl
      have hD := hD.sub (ws' := [(z, .inr (8, [.ref z_places, .ref z_reader, .ref z_tally, .ref z_sheets, .ref z_trail, .ref z_frozenPart, .ref z_goodPart, .ref z_bestPart, .int v_latestFault])), (z_places, .inr (3, [.int v_places_n, .int v_places_p, .int v_places_q, .long v_places_goodOnes, .long v_places_frozenOnes, .ref z_places_uppers])), (z_trail, .inr (7, [.int o_12])), (z_frozenPart, .inr (1, [])), (z_goodPart, .inr (2, [])), (z_bestPart, .inr (0, []))]) [0, 1, 5, 2, 3, 4] (by decide) rfl
      refine lv_goto (tgt := 32) hx hb dX9_tell_28 (by decide) ?_
      cases h
      exact gRi hx hb hr hlocks hP hD hS dX9_tell_32
    have h := gx_f c_7 h
    refine gCallr (wr := [(z_trail, .inr (7, [.int v_trail_trace])), (z_frozenPart, .inr (1, [])), (z_goodPart, .inr (2, [])), (z_bestPart, .inr (0, []))]) (va_runV (As := [.int x1]) (rest := []) ⟨hx, hb, hml, hown, hts⟩ (c_X9_partOf l D cy t H.size K z z_places z_reader z_tally z_sheets z_trail z_frozenPart z_goodPart z_bestPart z_places_uppers v_latestFault v_places_n v_places_p v_places_q v_places_goodOnes v_places_frozenOnes x1 g_4 z_bestPart hc_5 (gPart_b c_6 c_7)) (cwV 1 hts gX9_tell_X9_partOf rfl rfl rfl (by decide +kernel) ⟨Nat.le_of_ble_eq_true rfl, Nat.le_of_ble_eq_true rfl⟩) ⟨gBlind, va_recv hK hP (ci := 8) (q0 := 0) rfl rfl, fun U hU hW => ⟨rfl, gPre.call hK hG hA hP hD hS [0, 1] (by decide) rfl U hU hW⟩⟩ rfl rfl hl.1 rfl (lv_room (Nat.le_of_ble_eq_true rfl)) dX9_tell_13 ⟨Nat.le_of_ble_eq_true rfl, Nat.le_of_ble_eq_true rfl⟩) hA hP hD hS [0, 1] [2, 3, 4, 5] rfl rfl (by decide) (by decide) (fun H locs hP hD hS => ?_)
    have hP := hP.sub (ws' := [(z, .inr (8, [.ref z_places, .ref z_reader, .ref z_tally, .ref z_sheets, .ref z_trail, .ref z_frozenPart, .ref z_goodPart, .ref z_bestPart, .int v_latestFault])), (z_places, .inr (3, [.int v_places_n, .int v_places_p, .int v_places_q, .long v_places_goodOnes, .long v_places_frozenOnes, .ref z_places_uppers])), (z_trail, .inr (7, [.int v_trail_trace])), (z_frozenPart, .inr (1, [])), (z_goodPart, .inr (2, [])), (z_bestPart, .inr (0, []))]) [4, 5, 0, 1, 2, 3] rfl
    have hD := hD.sub (ws' := [(z, .inr (8, [.ref z_places, .ref z_reader, .ref z_tally, .ref z_sheets, .ref z_trail, .ref z_frozenPart, .ref z_goodPart, .ref z_bestPart, .int v_latestFault])), (z_places, .inr (3, [.int v_places_n, .int v_places_p, .int v_places_q, .long v_places_goodOnes, .long v_places_frozenOnes, .ref z_places_uppers])), (z_trail, .inr (7, [.int v_trail_trace])), (z_frozenPart, .inr (1, [])), (z_goodPart, .inr (2, [])), (z_bestPart, .inr (0, []))]) [4, 5, 0, 1, 2, 3] (by decide) rfl
    refine lv_aload_n hx hb dX9_tell_16 rfl (lv_at hl 0 rfl) ?_
    refine va_get (D := D) (ci := 8) (v := .ref z_places) (C := RX9) (T := TX9) (N := 9) hx hb hts iX9 hown hK hP 0 rfl rfl 0 (by decide) f12 (fun _ h9 => h9) rfl dX9_tell_17 ?_
    refine lv_aload_n hx hb dX9_tell_20 rfl (lv_at hl 0 rfl) ?_
    refine va_get (D := D) (ci := 8) (v := .ref z_trail) (C := RX9) (T := TX9) (N := 9) hx hb hts iX9 hown hK hP 0 rfl rfl 4 (by decide) f42 (fun _ h9 => h9) rfl dX9_tell_21 ?_
    refine lv_iload_n hx hb dX9_tell_24 rfl (lv_at hl 1 rfl) ?_
    obtain ⟨⟨r_14, o_15⟩, hc_16, h⟩ := gx_b h
    refine gCalli (wr := [(z, .inr (8, [.ref z_places, .ref z_reader, .ref z_tally, .ref z_sheets, .ref z_trail, .ref z_frozenPart, .ref z_goodPart, .ref z_bestPart, .int v_latestFault])), (z_places, .inr (3, [.int v_places_n, .int v_places_p, .int v_places_q, .long v_places_goodOnes, .long v_places_frozenOnes, .ref z_places_uppers])), (z_frozenPart, .inr (1, [])), (z_goodPart, .inr (2, []))]) (va_runU (As := [.ref z_places, .ref z_trail, .int x1]) (rest := []) ⟨hx, hb, hml, hown, hts⟩ (c_X0_telling l D cy t H.size K z_trail z_bestPart z_places v_trail_trace x1 r_14 o_15 hc_16) (va_cwA 3 hts gX9_tell_X0_telling_u270X0 rfl rfl rfl hG.2.2.2.2.1 (by decide +kernel) ⟨Nat.le_of_ble_eq_true rfl, Nat.le_of_ble_eq_true rfl⟩) ⟨gBlind, va_recv hK hP (ci := 0) (q0 := 5) rfl rfl, fun U hU hW => ⟨rfl, gPre.call hK hG hA hP hD hS [2, 5] (by decide) rfl U hU hW⟩⟩ rfl rfl hl.1 rfl (lv_room (Nat.le_of_ble_eq_true rfl)) dX9_tell_25 ⟨Nat.le_of_ble_eq_true rfl, Nat.le_of_ble_eq_true rfl⟩) hA hP hD hS [2, 5] [0, 1, 3, 4] rfl rfl (by decide) (by decide) (fun H locs hP hD hS => ?_)
    have hP := hP.sub (ws' := [(z, .inr (8, [.ref z_places, .ref z_reader, .ref z_tally, .ref z_sheets, .ref z_trail, .ref z_frozenPart, .ref z_goodPart, .ref z_bestPart, .int v_latestFault])), (z_places, .inr (3, [.int v_places_n, .int v_places_p, .int v_places_q, .long v_places_goodOnes, .long v_places_frozenOnes, .ref z_places_uppers])), (z_trail, .inr (7, [.int o_15])), (z_frozenPart, .inr (1, [])), (z_goodPart, .inr (2, [])), (z_bestPart, .inr (0, []))]) [0, 1, 4, 2, 3, 5] rfl
    have hD := hD.sub (ws' := [(z, .inr (8, [.ref z_places, .ref z_reader, .ref z_tally, .ref z_sheets, .ref z_trail, .ref z_frozenPart, .ref z_goodPart, .ref z_bestPart, .int v_latestFault])), (z_places, .inr (3, [.int v_places_n, .int v_places_p, .int v_places_q, .long v_places_goodOnes, .long v_places_frozenOnes, .ref z_places_uppers])), (z_trail, .inr (7, [.int o_15])), (z_frozenPart, .inr (1, [])), (z_goodPart, .inr (2, [])), (z_bestPart, .inr (0, []))]) [0, 1, 4, 2, 3, 5] (by decide) rfl
    refine lv_goto (tgt := 32) hx hb dX9_tell_28 (by decide) ?_
    cases h
    exact gRi hx hb hr hlocks hP hD hS dX9_tell_32

def f_X9_weigh (K : Nat) (x1 : Int32) (v_places_n : Int32) (v_places_p : Int32) (v_places_q : Int32) (v_places_goodOnes : Int64) (v_trail_trace : Int32) : Option (Int32 × Int32) :=
  Option.bind (f_X4_has K x1 v_places_n) fun r_1 =>
  if r_1 = 0 then
    some ((-1), v_trail_trace)
  else
    Option.bind (f_X9_partOf K x1 v_places_n v_places_p v_places_q v_places_goodOnes) fun g_3 =>
    if g_3 = 0 then
      Option.bind (f_X3_weighing K x1 v_trail_trace) fun (r_4, o_5) =>
      some (r_4, o_5)
    else
      if g_3 = 1 then
        Option.bind (f_X2_weighing K x1 v_trail_trace v_places_n) fun (r_6, o_7) =>
        some (r_6, o_7)
      else
        Option.bind (f_X2_weighing K x1 v_trail_trace v_places_n) fun (r_8, o_9) =>
        some (r_8, o_9)
set_option maxHeartbeats 4000000 in
set_option maxRecDepth 100000 in
theorem c_X9_weigh (l : Launch) (D : va_G) (cy : Nat → ClassId) (t sz K : Nat) (z : Nat) (z_places : Nat) (z_trail : Nat) (z_frozenPart : Nat) (z_goodPart : Nat) (z_bestPart : Nat) (z_reader : Nat) (z_tally : Nat) (z_sheets : Nat) (z_places_uppers : Nat) (v_latestFault : Int32) (v_places_n : Int32) (v_places_p : Int32) (v_places_q : Int32) (v_places_goodOnes : Int64) (v_places_frozenOnes : Int64) (v_trail_trace : Int32) (x1 : Int32) (r_ : Int32) (o_v_trail_trace : Int32) (h : f_X9_weigh K x1 v_places_n v_places_p v_places_q v_places_goodOnes v_trail_trace = some (r_, o_v_trail_trace)) : gMi l D cy t sz yX9_weigh wsX9_weigh 3 70 [.ref z, .int x1] [(z, .inr (8, [.ref z_places, .ref z_reader, .ref z_tally, .ref z_sheets, .ref z_trail, .ref z_frozenPart, .ref z_goodPart, .ref z_bestPart, .int v_latestFault])), (z_places, .inr (3, [.int v_places_n, .int v_places_p, .int v_places_q, .long v_places_goodOnes, .long v_places_frozenOnes, .ref z_places_uppers])), (z_trail, .inr (7, [.int v_trail_trace])), (z_frozenPart, .inr (1, [])), (z_goodPart, .inr (2, [])), (z_bestPart, .inr (0, []))] r_ [(z, .inr (8, [.ref z_places, .ref z_reader, .ref z_tally, .ref z_sheets, .ref z_trail, .ref z_frozenPart, .ref z_goodPart, .ref z_bestPart, .int v_latestFault])), (z_places, .inr (3, [.int v_places_n, .int v_places_p, .int v_places_q, .long v_places_goodOnes, .long v_places_frozenOnes, .ref z_places_uppers])), (z_trail, .inr (7, [.int o_v_trail_trace])), (z_frozenPart, .inr (1, [])), (z_goodPart, .inr (2, [])), (z_bestPart, .inr (0, []))] := by
  refine gBi (cc := cX9_weigh) (maxL := 2) (ret := (some .int)) (by decide) rfl (Nat.le_of_ble_eq_true rfl) ?_
  intro p e s m below meth c A ls hAt hl
  obtain ⟨hx, hb, hml, hr, hts, hown, hlocks, hin, hK, hG, hA, hP, hD⟩ := hAt
  have hS : va_S A s.heap s.heap [] := va_S.rf
  have hl : lv_has ls 2 [(0, .ref z), (1, .int x1)] := hl
  have f12 := hts (.fieldLink RX9 12 "PlainLines" "places" "LPlainLines$Places;") (by decide +kernel)
  have iX9 := (by decide +kernel : ∀ w ∈ u_ws RX9 TX9 9, w ∈ wsX9_weigh)
  have f42 := hts (.fieldLink RX9 42 "PlainLines" "trail" "LPlainLines$Trail;") (by decide +kernel)
  rw [f_X9_weigh] at h
  refine lv_aload_n hx hb dX9_weigh_0 rfl (lv_at hl 0 rfl) ?_
  refine va_get (D := D) (ci := 8) (v := .ref z_places) (C := RX9) (T := TX9) (N := 9) hx hb hts iX9 hown hK hP 0 rfl rfl 0 (by decide) f12 (fun _ h9 => h9) rfl dX9_weigh_1 ?_
  refine lv_iload_n hx hb dX9_weigh_4 rfl (lv_at hl 1 rfl) ?_
  obtain ⟨r_1, hc_2, h⟩ := gx_b h
  refine gCalli (wr := [(z, .inr (8, [.ref z_places, .ref z_reader, .ref z_tally, .ref z_sheets, .ref z_trail, .ref z_frozenPart, .ref z_goodPart, .ref z_bestPart, .int v_latestFault])), (z_trail, .inr (7, [.int v_trail_trace])), (z_frozenPart, .inr (1, [])), (z_goodPart, .inr (2, [])), (z_bestPart, .inr (0, []))]) (va_runV (As := [.int x1]) (rest := []) ⟨hx, hb, hml, hown, hts⟩ (c_X4_has l D cy t s.heap.size K z_places z_places_uppers v_places_n v_places_p v_places_q v_places_goodOnes v_places_frozenOnes x1 r_1 hc_2) (cwV 1 hts gX9_weigh_X4_has rfl rfl rfl (by decide +kernel) ⟨Nat.le_of_ble_eq_true rfl, Nat.le_of_ble_eq_true rfl⟩) ⟨gBlind, va_recv hK hP (ci := 3) (q0 := 1) rfl rfl, fun U hU hW => ⟨rfl, gPre.call hK hG hA hP hD hS [1] (by decide) rfl U hU hW⟩⟩ rfl rfl hl.1 rfl (lv_room (Nat.le_of_ble_eq_true rfl)) dX9_weigh_5 ⟨Nat.le_of_ble_eq_true rfl, Nat.le_of_ble_eq_true rfl⟩) hA hP hD hS [1] [0, 2, 3, 4, 5] rfl rfl (by decide) (by decide) (fun H locs hP hD hS => ?_)
  have hP := hP.sub (ws' := [(z, .inr (8, [.ref z_places, .ref z_reader, .ref z_tally, .ref z_sheets, .ref z_trail, .ref z_frozenPart, .ref z_goodPart, .ref z_bestPart, .int v_latestFault])), (z_places, .inr (3, [.int v_places_n, .int v_places_p, .int v_places_q, .long v_places_goodOnes, .long v_places_frozenOnes, .ref z_places_uppers])), (z_trail, .inr (7, [.int v_trail_trace])), (z_frozenPart, .inr (1, [])), (z_goodPart, .inr (2, [])), (z_bestPart, .inr (0, []))]) [0, 5, 1, 2, 3, 4] rfl
  have hD := hD.sub (ws' := [(z, .inr (8, [.ref z_places, .ref z_reader, .ref z_tally, .ref z_sheets, .ref z_trail, .ref z_frozenPart, .ref z_goodPart, .ref z_bestPart, .int v_latestFault])), (z_places, .inr (3, [.int v_places_n, .int v_places_p, .int v_places_q, .long v_places_goodOnes, .long v_places_frozenOnes, .ref z_places_uppers])), (z_trail, .inr (7, [.int v_trail_trace])), (z_frozenPart, .inr (1, [])), (z_goodPart, .inr (2, [])), (z_bestPart, .inr (0, []))]) [0, 5, 1, 2, 3, 4] (by decide) rfl
  refine lv_if_eq (tgt := 31) hx hb dX9_weigh_8 (by decide) (fun c_3 => ?_) (fun c_3 => ?_)
  · have h := gx_t c_3 h
    refine lv_iconst (v := (-1)) hx hb dX9_weigh_31 (by decide) ?_
    cases h
    exact gRi hx hb hr hlocks hP hD hS dX9_weigh_32
  · have h := gx_f c_3 h
    refine lv_aload_n hx hb dX9_weigh_11 rfl (lv_at hl 0 rfl) ?_
    refine lv_iload_n hx hb dX9_weigh_12 rfl (lv_at hl 1 rfl) ?_
    obtain ⟨g_4, hc_5, h⟩ := gx_b h
    by_cases c_6 : g_4 = 0
    · subst c_6
      have h := gx_t rfl h
      refine gCallr (wr := [(z_trail, .inr (7, [.int v_trail_trace])), (z_frozenPart, .inr (1, [])), (z_goodPart, .inr (2, [])), (z_bestPart, .inr (0, []))]) (va_runV (As := [.int x1]) (rest := []) ⟨hx, hb, hml, hown, hts⟩ (c_X9_partOf l D cy t H.size K z z_places z_reader z_tally z_sheets z_trail z_frozenPart z_goodPart z_bestPart z_places_uppers v_latestFault v_places_n v_places_p v_places_q v_places_goodOnes v_places_frozenOnes x1 0 z_frozenPart hc_5 rfl) (cwV 1 hts gX9_weigh_X9_partOf rfl rfl rfl (by decide +kernel) ⟨Nat.le_of_ble_eq_true rfl, Nat.le_of_ble_eq_true rfl⟩) ⟨gBlind, va_recv hK hP (ci := 8) (q0 := 0) rfl rfl, fun U hU hW => ⟨rfl, gPre.call hK hG hA hP hD hS [0, 1] (by decide) rfl U hU hW⟩⟩ rfl rfl hl.1 rfl (lv_room (Nat.le_of_ble_eq_true rfl)) dX9_weigh_13 ⟨Nat.le_of_ble_eq_true rfl, Nat.le_of_ble_eq_true rfl⟩) hA hP hD hS [0, 1] [2, 3, 4, 5] rfl rfl (by decide) (by decide) (fun H locs hP hD hS => ?_)
      have hP := hP.sub (ws' := [(z, .inr (8, [.ref z_places, .ref z_reader, .ref z_tally, .ref z_sheets, .ref z_trail, .ref z_frozenPart, .ref z_goodPart, .ref z_bestPart, .int v_latestFault])), (z_places, .inr (3, [.int v_places_n, .int v_places_p, .int v_places_q, .long v_places_goodOnes, .long v_places_frozenOnes, .ref z_places_uppers])), (z_trail, .inr (7, [.int v_trail_trace])), (z_frozenPart, .inr (1, [])), (z_goodPart, .inr (2, [])), (z_bestPart, .inr (0, []))]) [4, 5, 0, 1, 2, 3] rfl
      have hD := hD.sub (ws' := [(z, .inr (8, [.ref z_places, .ref z_reader, .ref z_tally, .ref z_sheets, .ref z_trail, .ref z_frozenPart, .ref z_goodPart, .ref z_bestPart, .int v_latestFault])), (z_places, .inr (3, [.int v_places_n, .int v_places_p, .int v_places_q, .long v_places_goodOnes, .long v_places_frozenOnes, .ref z_places_uppers])), (z_trail, .inr (7, [.int v_trail_trace])), (z_frozenPart, .inr (1, [])), (z_goodPart, .inr (2, [])), (z_bestPart, .inr (0, []))]) [4, 5, 0, 1, 2, 3] (by decide) rfl
      refine lv_aload_n hx hb dX9_weigh_16 rfl (lv_at hl 0 rfl) ?_
      refine va_get (D := D) (ci := 8) (v := .ref z_places) (C := RX9) (T := TX9) (N := 9) hx hb hts iX9 hown hK hP 0 rfl rfl 0 (by decide) f12 (fun _ h9 => h9) rfl dX9_weigh_17 ?_
      refine lv_aload_n hx hb dX9_weigh_20 rfl (lv_at hl 0 rfl) ?_
      refine va_get (D := D) (ci := 8) (v := .ref z_trail) (C := RX9) (T := TX9) (N := 9) hx hb hts iX9 hown hK hP 0 rfl rfl 4 (by decide) f42 (fun _ h9 => h9) rfl dX9_weigh_21 ?_
      refine lv_iload_n hx hb dX9_weigh_24 rfl (lv_at hl 1 rfl) ?_
      obtain ⟨⟨r_8, o_9⟩, hc_10, h⟩ := gx_b h
      refine gCalli (wr := [(z, .inr (8, [.ref z_places, .ref z_reader, .ref z_tally, .ref z_sheets, .ref z_trail, .ref z_frozenPart, .ref z_goodPart, .ref z_bestPart, .int v_latestFault])), (z_places, .inr (3, [.int v_places_n, .int v_places_p, .int v_places_q, .long v_places_goodOnes, .long v_places_frozenOnes, .ref z_places_uppers])), (z_frozenPart, .inr (1, [])), (z_goodPart, .inr (2, [])), (z_bestPart, .inr (0, []))]) (va_runU (As := [.ref z_places, .ref z_trail, .int x1]) (rest := []) ⟨hx, hb, hml, hown, hts⟩ (c_X3_weighing l D cy t H.size K z_trail z_frozenPart z_places v_trail_trace x1 r_8 o_9 hc_10) (va_cwU 3 hts gX9_weigh_X3_weighing_u276X1 rfl rfl rfl rfl (by decide +kernel) ⟨Nat.le_of_ble_eq_true rfl, Nat.le_of_ble_eq_true rfl⟩) ⟨gBlind, va_recv hK hP (ci := 1) (q0 := 3) rfl rfl, fun U hU hW => ⟨rfl, gPre.call hK hG hA hP hD hS [2] (by decide) rfl U hU hW⟩⟩ rfl rfl hl.1 rfl (lv_room (Nat.le_of_ble_eq_true rfl)) dX9_weigh_25 ⟨Nat.le_of_ble_eq_true rfl, Nat.le_of_ble_eq_true rfl⟩) hA hP hD hS [2] [0, 1, 3, 4, 5] rfl rfl (by decide) (by decide) (fun H locs hP hD hS => ?_)
      have hP := hP.sub (ws' := [(z, .inr (8, [.ref z_places, .ref z_reader, .ref z_tally, .ref z_sheets, .ref z_trail, .ref z_frozenPart, .ref z_goodPart, .ref z_bestPart, .int v_latestFault])), (z_places, .inr (3, [.int v_places_n, .int v_places_p, .int v_places_q, .long v_places_goodOnes, .long v_places_frozenOnes, .ref z_places_uppers])), (z_trail, .inr (7, [.int o_9])), (z_frozenPart, .inr (1, [])), (z_goodPart, .inr (2, [])), (z_bestPart, .inr (0, []))]) [0, 1, 5, 2, 3, 4] rfl
      have hD := hD.sub (ws' := [(z, .inr (8, [.ref z_places, .ref z_reader, .ref z_tally, .ref z_sheets, .ref z_trail, .ref z_frozenPart, .ref z_goodPart, .ref z_bestPart, .int v_latestFault])), (z_places, .inr (3, [.int v_places_n, .int v_places_p, .int v_places_q, .long v_places_goodOnes, .long v_places_frozenOnes, .ref z_places_uppers])), (z_trail, .inr (7, [.int o_9])), (z_frozenPart, .inr (1, [])), (z_goodPart, .inr (2, [])), (z_bestPart, .inr (0, []))]) [0, 1, 5, 2, 3, 4] (by decide) rfl
      refine lv_goto (tgt := 32) hx hb dX9_weigh_28 (by decide) ?_
      cases h
      exact gRi hx hb hr hlocks hP hD hS dX9_weigh_32
    have h := gx_f c_6 h
    by_cases c_7 : g_4 = 1
    · subst c_7
      have h := gx_t rfl h
      refine gCallr (wr := [(z_trail, .inr (7, [.int v_trail_trace])), (z_frozenPart, .inr (1, [])), (z_goodPart, .inr (2, [])), (z_bestPart, .inr (0, []))]) (va_runV (As := [.int x1]) (rest := []) ⟨hx, hb, hml, hown, hts⟩ (c_X9_partOf l D cy t H.size K z z_places z_reader z_tally z_sheets z_trail z_frozenPart z_goodPart z_bestPart z_places_uppers v_latestFault v_places_n v_places_p v_places_q v_places_goodOnes v_places_frozenOnes x1 1 z_goodPart hc_5 rfl) (cwV 1 hts gX9_weigh_X9_partOf rfl rfl rfl (by decide +kernel) ⟨Nat.le_of_ble_eq_true rfl, Nat.le_of_ble_eq_true rfl⟩) ⟨gBlind, va_recv hK hP (ci := 8) (q0 := 0) rfl rfl, fun U hU hW => ⟨rfl, gPre.call hK hG hA hP hD hS [0, 1] (by decide) rfl U hU hW⟩⟩ rfl rfl hl.1 rfl (lv_room (Nat.le_of_ble_eq_true rfl)) dX9_weigh_13 ⟨Nat.le_of_ble_eq_true rfl, Nat.le_of_ble_eq_true rfl⟩) hA hP hD hS [0, 1] [2, 3, 4, 5] rfl rfl (by decide) (by decide) (fun H locs hP hD hS => ?_)
      have hP := hP.sub (ws' := [(z, .inr (8, [.ref z_places, .ref z_reader, .ref z_tally, .ref z_sheets, .ref z_trail, .ref z_frozenPart, .ref z_goodPart, .ref z_bestPart, .int v_latestFault])), (z_places, .inr (3, [.int v_places_n, .int v_places_p, .int v_places_q, .long v_places_goodOnes, .long v_places_frozenOnes, .ref z_places_uppers])), (z_trail, .inr (7, [.int v_trail_trace])), (z_frozenPart, .inr (1, [])), (z_goodPart, .inr (2, [])), (z_bestPart, .inr (0, []))]) [4, 5, 0, 1, 2, 3] rfl
      have hD := hD.sub (ws' := [(z, .inr (8, [.ref z_places, .ref z_reader, .ref z_tally, .ref z_sheets, .ref z_trail, .ref z_frozenPart, .ref z_goodPart, .ref z_bestPart, .int v_latestFault])), (z_places, .inr (3, [.int v_places_n, .int v_places_p, .int v_places_q, .long v_places_goodOnes, .long v_places_frozenOnes, .ref z_places_uppers])), (z_trail, .inr (7, [.int v_trail_trace])), (z_frozenPart, .inr (1, [])), (z_goodPart, .inr (2, [])), (z_bestPart, .inr (0, []))]) [4, 5, 0, 1, 2, 3] (by decide) rfl
      refine lv_aload_n hx hb dX9_weigh_16 rfl (lv_at hl 0 rfl) ?_
      refine va_get (D := D) (ci := 8) (v := .ref z_places) (C := RX9) (T := TX9) (N := 9) hx hb hts iX9 hown hK hP 0 rfl rfl 0 (by decide) f12 (fun _ h9 => h9) rfl dX9_weigh_17 ?_
      refine lv_aload_n hx hb dX9_weigh_20 rfl (lv_at hl 0 rfl) ?_
      refine va_get (D := D) (ci := 8) (v := .ref z_trail) (C := RX9) (T := TX9) (N := 9) hx hb hts iX9 hown hK hP 0 rfl rfl 4 (by decide) f42 (fun _ h9 => h9) rfl dX9_weigh_21 ?_
      refine lv_iload_n hx hb dX9_weigh_24 rfl (lv_at hl 1 rfl) ?_
      obtain ⟨⟨r_11, o_12⟩, hc_13, h⟩ := gx_b h
      refine gCalli (wr := [(z, .inr (8, [.ref z_places, .ref z_reader, .ref z_tally, .ref z_sheets, .ref z_trail, .ref z_frozenPart, .ref z_goodPart, .ref z_bestPart, .int v_latestFault])), (z_frozenPart, .inr (1, [])), (z_goodPart, .inr (2, [])), (z_bestPart, .inr (0, []))]) (va_runU (As := [.ref z_places, .ref z_trail, .int x1]) (rest := []) ⟨hx, hb, hml, hown, hts⟩ (c_X2_weighing l D cy t H.size K z_trail z_places z_places_uppers z_goodPart v_trail_trace v_places_n v_places_p v_places_q v_places_goodOnes v_places_frozenOnes x1 r_11 o_12 hc_13) (va_cwO 3 hts gX9_weigh_X2_weighing_u276X2 rfl rfl rfl (by decide +kernel : Cond.code yX3_weighing cX3_weighing 4 (some .int) ∈ wsX9_weigh) (by decide +kernel) ⟨Nat.le_of_ble_eq_true rfl, Nat.le_of_ble_eq_true rfl⟩) ⟨gBlind, va_recv hK hP (ci := 2) (q0 := 4) rfl rfl, fun U hU hW => ⟨rfl, gPre.call hK hG hA hP hD hS [2, 1] (by decide) rfl U hU hW⟩⟩ rfl rfl hl.1 rfl (lv_room (Nat.le_of_ble_eq_true rfl)) dX9_weigh_25 ⟨Nat.le_of_ble_eq_true rfl, Nat.le_of_ble_eq_true rfl⟩) hA hP hD hS [2, 1] [0, 3, 4, 5] rfl rfl (by decide) (by decide) (fun H locs hP hD hS => ?_)
      have hP := hP.sub (ws' := [(z, .inr (8, [.ref z_places, .ref z_reader, .ref z_tally, .ref z_sheets, .ref z_trail, .ref z_frozenPart, .ref z_goodPart, .ref z_bestPart, .int v_latestFault])), (z_places, .inr (3, [.int v_places_n, .int v_places_p, .int v_places_q, .long v_places_goodOnes, .long v_places_frozenOnes, .ref z_places_uppers])), (z_trail, .inr (7, [.int o_12])), (z_frozenPart, .inr (1, [])), (z_goodPart, .inr (2, [])), (z_bestPart, .inr (0, []))]) [0, 5, 4, 1, 2, 3] rfl
      have hD := hD.sub (ws' := [(z, .inr (8, [.ref z_places, .ref z_reader, .ref z_tally, .ref z_sheets, .ref z_trail, .ref z_frozenPart, .ref z_goodPart, .ref z_bestPart, .int v_latestFault])), (z_places, .inr (3, [.int v_places_n, .int v_places_p, .int v_places_q, .long v_places_goodOnes, .long v_places_frozenOnes, .ref z_places_uppers])), (z_trail, .inr (7, [.int o_12])), (z_frozenPart, .inr (1, [])), (z_goodPart, .inr (2, [])), (z_bestPart, .inr (0, []))]) [0, 5, 4, 1, 2, 3] (by decide) rfl
      refine lv_goto (tgt := 32) hx hb dX9_weigh_28 (by decide) ?_
      cases h
      exact gRi hx hb hr hlocks hP hD hS dX9_weigh_32
    have h := gx_f c_7 h
    refine gCallr (wr := [(z_trail, .inr (7, [.int v_trail_trace])), (z_frozenPart, .inr (1, [])), (z_goodPart, .inr (2, [])), (z_bestPart, .inr (0, []))]) (va_runV (As := [.int x1]) (rest := []) ⟨hx, hb, hml, hown, hts⟩ (c_X9_partOf l D cy t H.size K z z_places z_reader z_tally z_sheets z_trail z_frozenPart z_goodPart z_bestPart z_places_uppers v_latestFault v_places_n v_places_p v_places_q v_places_goodOnes v_places_frozenOnes x1 g_4 z_bestPart hc_5 (gPart_b c_6 c_7)) (cwV 1 hts gX9_weigh_X9_partOf rfl rfl rfl (by decide +kernel) ⟨Nat.le_of_ble_eq_true rfl, Nat.le_of_ble_eq_true rfl⟩) ⟨gBlind, va_recv hK hP (ci := 8) (q0 := 0) rfl rfl, fun U hU hW => ⟨rfl, gPre.call hK hG hA hP hD hS [0, 1] (by decide) rfl U hU hW⟩⟩ rfl rfl hl.1 rfl (lv_room (Nat.le_of_ble_eq_true rfl)) dX9_weigh_13 ⟨Nat.le_of_ble_eq_true rfl, Nat.le_of_ble_eq_true rfl⟩) hA hP hD hS [0, 1] [2, 3, 4, 5] rfl rfl (by decide) (by decide) (fun H locs hP hD hS => ?_)
    have hP := hP.sub (ws' := [(z, .inr (8, [.ref z_places, .ref z_reader, .ref z_tally, .ref z_sheets, .ref z_trail, .ref z_frozenPart, .ref z_goodPart, .ref z_bestPart, .int v_latestFault])), (z_places, .inr (3, [.int v_places_n, .int v_places_p, .int v_places_q, .long v_places_goodOnes, .long v_places_frozenOnes, .ref z_places_uppers])), (z_trail, .inr (7, [.int v_trail_trace])), (z_frozenPart, .inr (1, [])), (z_goodPart, .inr (2, [])), (z_bestPart, .inr (0, []))]) [4, 5, 0, 1, 2, 3] rfl
    have hD := hD.sub (ws' := [(z, .inr (8, [.ref z_places, .ref z_reader, .ref z_tally, .ref z_sheets, .ref z_trail, .ref z_frozenPart, .ref z_goodPart, .ref z_bestPart, .int v_latestFault])), (z_places, .inr (3, [.int v_places_n, .int v_places_p, .int v_places_q, .long v_places_goodOnes, .long v_places_frozenOnes, .ref z_places_uppers])), (z_trail, .inr (7, [.int v_trail_trace])), (z_frozenPart, .inr (1, [])), (z_goodPart, .inr (2, [])), (z_bestPart, .inr (0, []))]) [4, 5, 0, 1, 2, 3] (by decide) rfl
    refine lv_aload_n hx hb dX9_weigh_16 rfl (lv_at hl 0 rfl) ?_
    refine va_get (D := D) (ci := 8) (v := .ref z_places) (C := RX9) (T := TX9) (N := 9) hx hb hts iX9 hown hK hP 0 rfl rfl 0 (by decide) f12 (fun _ h9 => h9) rfl dX9_weigh_17 ?_
    refine lv_aload_n hx hb dX9_weigh_20 rfl (lv_at hl 0 rfl) ?_
    refine va_get (D := D) (ci := 8) (v := .ref z_trail) (C := RX9) (T := TX9) (N := 9) hx hb hts iX9 hown hK hP 0 rfl rfl 4 (by decide) f42 (fun _ h9 => h9) rfl dX9_weigh_21 ?_
    refine lv_iload_n hx hb dX9_weigh_24 rfl (lv_at hl 1 rfl) ?_
    obtain ⟨⟨r_14, o_15⟩, hc_16, h⟩ := gx_b h
    refine gCalli (wr := [(z, .inr (8, [.ref z_places, .ref z_reader, .ref z_tally, .ref z_sheets, .ref z_trail, .ref z_frozenPart, .ref z_goodPart, .ref z_bestPart, .int v_latestFault])), (z_frozenPart, .inr (1, [])), (z_goodPart, .inr (2, [])), (z_bestPart, .inr (0, []))]) (va_runU (As := [.ref z_places, .ref z_trail, .int x1]) (rest := []) ⟨hx, hb, hml, hown, hts⟩ (c_X2_weighing l D cy t H.size K z_trail z_places z_places_uppers z_bestPart v_trail_trace v_places_n v_places_p v_places_q v_places_goodOnes v_places_frozenOnes x1 r_14 o_15 hc_16) (va_cwO 3 hts gX9_weigh_X2_weighing_u276X0 rfl rfl rfl (by decide +kernel : Cond.code yX3_weighing cX3_weighing 4 (some .int) ∈ wsX9_weigh) (by decide +kernel) ⟨Nat.le_of_ble_eq_true rfl, Nat.le_of_ble_eq_true rfl⟩) ⟨gBlind, va_recv hK hP (ci := 0) (q0 := 5) rfl rfl, fun U hU hW => ⟨rfl, gPre.call hK hG hA hP hD hS [2, 1] (by decide) rfl U hU hW⟩⟩ rfl rfl hl.1 rfl (lv_room (Nat.le_of_ble_eq_true rfl)) dX9_weigh_25 ⟨Nat.le_of_ble_eq_true rfl, Nat.le_of_ble_eq_true rfl⟩) hA hP hD hS [2, 1] [0, 3, 4, 5] rfl rfl (by decide) (by decide) (fun H locs hP hD hS => ?_)
    have hP := hP.sub (ws' := [(z, .inr (8, [.ref z_places, .ref z_reader, .ref z_tally, .ref z_sheets, .ref z_trail, .ref z_frozenPart, .ref z_goodPart, .ref z_bestPart, .int v_latestFault])), (z_places, .inr (3, [.int v_places_n, .int v_places_p, .int v_places_q, .long v_places_goodOnes, .long v_places_frozenOnes, .ref z_places_uppers])), (z_trail, .inr (7, [.int o_15])), (z_frozenPart, .inr (1, [])), (z_goodPart, .inr (2, [])), (z_bestPart, .inr (0, []))]) [0, 5, 4, 1, 2, 3] rfl
    have hD := hD.sub (ws' := [(z, .inr (8, [.ref z_places, .ref z_reader, .ref z_tally, .ref z_sheets, .ref z_trail, .ref z_frozenPart, .ref z_goodPart, .ref z_bestPart, .int v_latestFault])), (z_places, .inr (3, [.int v_places_n, .int v_places_p, .int v_places_q, .long v_places_goodOnes, .long v_places_frozenOnes, .ref z_places_uppers])), (z_trail, .inr (7, [.int o_15])), (z_frozenPart, .inr (1, [])), (z_goodPart, .inr (2, [])), (z_bestPart, .inr (0, []))]) [0, 5, 4, 1, 2, 3] (by decide) rfl
    refine lv_goto (tgt := 32) hx hb dX9_weigh_28 (by decide) ?_
    cases h
    exact gRi hx hb hr hlocks hP hD hS dX9_weigh_32

def f_X9_isOfKind_X1 (K : Nat) (x2 : Int32) : Option (Int32) :=
  if x2 = 0 then
    some 1
  else
    if x2 = 1 then
      some 0
    else
      some 0
set_option maxHeartbeats 4000000 in
set_option maxRecDepth 100000 in
theorem c_X9_isOfKind_X1 (l : Launch) (D : va_G) (cy : Nat → ClassId) (t sz K : Nat) (z1 : Nat) (x2 : Int32) (r_ : Int32) (h : f_X9_isOfKind_X1 K x2 = some r_) : gMi l D cy t sz yX9_isOfKind wsX9_isOfKind 0 0 [.ref z1, .int x2] [(z1, .inr (1, []))] r_ [(z1, .inr (1, []))] := by
  refine gBi (cc := cX9_isOfKind) (maxL := 2) (ret := (some .boolean)) (by decide) rfl (Nat.le_of_ble_eq_true rfl) ?_
  intro p e s m below meth c A ls hAt hl
  obtain ⟨hx, hb, hml, hr, hts, hown, hlocks, hin, hK, hG, hA, hP, hD⟩ := hAt
  have hS : va_S A s.heap s.heap [] := va_S.rf
  have hl : lv_has ls 2 [(0, .ref z1), (1, .int x2)] := hl
  have q46 := hts (.classLink RX9 46 "PlainLines$FrozenPart") (by decide +kernel)
  have q53 := hts (.classLink RX9 53 "PlainLines$GoodPart") (by decide +kernel)
  have q60 := hts (.classLink RX9 60 "PlainLines$BestPart") (by decide +kernel)
  rw [f_X9_isOfKind_X1] at h
  refine lv_iload_n hx hb dX9_isOfKind_0 rfl (lv_at hl 1 rfl) ?_
  by_cases c_1 : x2 = 0
  · have h := gx_t c_1 h
    refine lv_lookup (off := 27) (tgt := 28) hx hb dX9_isOfKind_1 rfl (by rw [c_1]; rfl) (by decide) ?_
    refine lv_aload_n hx hb dX9_isOfKind_28 rfl (lv_at hl 0 rfl) ?_
    refine va_instS hx hb hown q46 (hK.1 1 _ rfl).2 (va_recv hK hP (ci := 1) (q0 := 0) rfl rfl) dX9_isOfKind_29 ?_
    cases h
    exact gRz hx hb hr hlocks rfl hP hD hS dX9_isOfKind_32
  have h := gx_f c_1 h
  by_cases c_2 : x2 = 1
  · have h := gx_t c_2 h
    refine lv_lookup (off := 32) (tgt := 33) hx hb dX9_isOfKind_1 rfl (by rw [c_2]; rfl) (by decide) ?_
    refine lv_aload_n hx hb dX9_isOfKind_33 rfl (lv_at hl 0 rfl) ?_
    refine va_instNo hx hb hown q53 hG.2.2.2.2.2.2.2.2.1 (va_recv hK hP (ci := 1) (q0 := 0) rfl rfl) dX9_isOfKind_34 ?_
    cases h
    exact gRz hx hb hr hlocks rfl hP hD hS dX9_isOfKind_37
  have h := gx_f c_2 h
  refine lv_lookup (off := 37) (tgt := 38) hx hb dX9_isOfKind_1 rfl (show Op.lookupswitch.offset [(0, 27), (1, 32)] 37 (Int32.toInt x2) = 37 by rw [lv_osw c_1 (by decide), lv_osw c_2 (by decide)]; rfl) (by decide) ?_
  refine lv_aload_n hx hb dX9_isOfKind_38 rfl (lv_at hl 0 rfl) ?_
  refine va_instNo hx hb hown q60 hG.2.2.2.2.2.2.2.2.2.1 (va_recv hK hP (ci := 1) (q0 := 0) rfl rfl) dX9_isOfKind_39 ?_
  cases h
  exact gRz hx hb hr hlocks rfl hP hD hS dX9_isOfKind_42

def f_X9_isOfKind_X2 (K : Nat) (x2 : Int32) : Option (Int32) :=
  if x2 = 0 then
    some 0
  else
    if x2 = 1 then
      some 1
    else
      some 0
set_option maxHeartbeats 4000000 in
set_option maxRecDepth 100000 in
theorem c_X9_isOfKind_X2 (l : Launch) (D : va_G) (cy : Nat → ClassId) (t sz K : Nat) (z1 : Nat) (x2 : Int32) (r_ : Int32) (h : f_X9_isOfKind_X2 K x2 = some r_) : gMi l D cy t sz yX9_isOfKind wsX9_isOfKind 0 0 [.ref z1, .int x2] [(z1, .inr (2, []))] r_ [(z1, .inr (2, []))] := by
  refine gBi (cc := cX9_isOfKind) (maxL := 2) (ret := (some .boolean)) (by decide) rfl (Nat.le_of_ble_eq_true rfl) ?_
  intro p e s m below meth c A ls hAt hl
  obtain ⟨hx, hb, hml, hr, hts, hown, hlocks, hin, hK, hG, hA, hP, hD⟩ := hAt
  have hS : va_S A s.heap s.heap [] := va_S.rf
  have hl : lv_has ls 2 [(0, .ref z1), (1, .int x2)] := hl
  have q46 := hts (.classLink RX9 46 "PlainLines$FrozenPart") (by decide +kernel)
  have q53 := hts (.classLink RX9 53 "PlainLines$GoodPart") (by decide +kernel)
  have q60 := hts (.classLink RX9 60 "PlainLines$BestPart") (by decide +kernel)
  rw [f_X9_isOfKind_X2] at h
  refine lv_iload_n hx hb dX9_isOfKind_0 rfl (lv_at hl 1 rfl) ?_
  by_cases c_1 : x2 = 0
  · have h := gx_t c_1 h
    refine lv_lookup (off := 27) (tgt := 28) hx hb dX9_isOfKind_1 rfl (by rw [c_1]; rfl) (by decide) ?_
    refine lv_aload_n hx hb dX9_isOfKind_28 rfl (lv_at hl 0 rfl) ?_
    refine va_instNo hx hb hown q46 hG.2.2.2.2.2.2.1 (va_recv hK hP (ci := 2) (q0 := 0) rfl rfl) dX9_isOfKind_29 ?_
    cases h
    exact gRz hx hb hr hlocks rfl hP hD hS dX9_isOfKind_32
  have h := gx_f c_1 h
  by_cases c_2 : x2 = 1
  · have h := gx_t c_2 h
    refine lv_lookup (off := 32) (tgt := 33) hx hb dX9_isOfKind_1 rfl (by rw [c_2]; rfl) (by decide) ?_
    refine lv_aload_n hx hb dX9_isOfKind_33 rfl (lv_at hl 0 rfl) ?_
    refine va_instS hx hb hown q53 (hK.1 2 _ rfl).2 (va_recv hK hP (ci := 2) (q0 := 0) rfl rfl) dX9_isOfKind_34 ?_
    cases h
    exact gRz hx hb hr hlocks rfl hP hD hS dX9_isOfKind_37
  have h := gx_f c_2 h
  refine lv_lookup (off := 37) (tgt := 38) hx hb dX9_isOfKind_1 rfl (show Op.lookupswitch.offset [(0, 27), (1, 32)] 37 (Int32.toInt x2) = 37 by rw [lv_osw c_1 (by decide), lv_osw c_2 (by decide)]; rfl) (by decide) ?_
  refine lv_aload_n hx hb dX9_isOfKind_38 rfl (lv_at hl 0 rfl) ?_
  refine va_instNo hx hb hown q60 hG.2.2.2.2.2.2.2.2.2.2 (va_recv hK hP (ci := 2) (q0 := 0) rfl rfl) dX9_isOfKind_39 ?_
  cases h
  exact gRz hx hb hr hlocks rfl hP hD hS dX9_isOfKind_42

def f_X9_isOfKind_X0 (K : Nat) (x2 : Int32) : Option (Int32) :=
  if x2 = 0 then
    some 0
  else
    if x2 = 1 then
      some 1
    else
      some 1
set_option maxHeartbeats 4000000 in
set_option maxRecDepth 100000 in
theorem c_X9_isOfKind_X0 (l : Launch) (D : va_G) (cy : Nat → ClassId) (t sz K : Nat) (z1 : Nat) (x2 : Int32) (r_ : Int32) (h : f_X9_isOfKind_X0 K x2 = some r_) : gMi l D cy t sz yX9_isOfKind wsX9_isOfKind 0 0 [.ref z1, .int x2] [(z1, .inr (0, []))] r_ [(z1, .inr (0, []))] := by
  refine gBi (cc := cX9_isOfKind) (maxL := 2) (ret := (some .boolean)) (by decide) rfl (Nat.le_of_ble_eq_true rfl) ?_
  intro p e s m below meth c A ls hAt hl
  obtain ⟨hx, hb, hml, hr, hts, hown, hlocks, hin, hK, hG, hA, hP, hD⟩ := hAt
  have hS : va_S A s.heap s.heap [] := va_S.rf
  have hl : lv_has ls 2 [(0, .ref z1), (1, .int x2)] := hl
  have q46 := hts (.classLink RX9 46 "PlainLines$FrozenPart") (by decide +kernel)
  have q53 := hts (.classLink RX9 53 "PlainLines$GoodPart") (by decide +kernel)
  have q60 := hts (.classLink RX9 60 "PlainLines$BestPart") (by decide +kernel)
  rw [f_X9_isOfKind_X0] at h
  refine lv_iload_n hx hb dX9_isOfKind_0 rfl (lv_at hl 1 rfl) ?_
  by_cases c_1 : x2 = 0
  · have h := gx_t c_1 h
    refine lv_lookup (off := 27) (tgt := 28) hx hb dX9_isOfKind_1 rfl (by rw [c_1]; rfl) (by decide) ?_
    refine lv_aload_n hx hb dX9_isOfKind_28 rfl (lv_at hl 0 rfl) ?_
    refine va_instNo hx hb hown q46 hG.2.2.2.2.2.2.2.1 (va_recv hK hP (ci := 0) (q0 := 0) rfl rfl) dX9_isOfKind_29 ?_
    cases h
    exact gRz hx hb hr hlocks rfl hP hD hS dX9_isOfKind_32
  have h := gx_f c_1 h
  by_cases c_2 : x2 = 1
  · have h := gx_t c_2 h
    refine lv_lookup (off := 32) (tgt := 33) hx hb dX9_isOfKind_1 rfl (by rw [c_2]; rfl) (by decide) ?_
    refine lv_aload_n hx hb dX9_isOfKind_33 rfl (lv_at hl 0 rfl) ?_
    refine va_instY hx hb hown q53 hG.2.2.2.2.2.1 (va_recv hK hP (ci := 0) (q0 := 0) rfl rfl) dX9_isOfKind_34 ?_
    cases h
    exact gRz hx hb hr hlocks rfl hP hD hS dX9_isOfKind_37
  have h := gx_f c_2 h
  refine lv_lookup (off := 37) (tgt := 38) hx hb dX9_isOfKind_1 rfl (show Op.lookupswitch.offset [(0, 27), (1, 32)] 37 (Int32.toInt x2) = 37 by rw [lv_osw c_1 (by decide), lv_osw c_2 (by decide)]; rfl) (by decide) ?_
  refine lv_aload_n hx hb dX9_isOfKind_38 rfl (lv_at hl 0 rfl) ?_
  refine va_instS hx hb hown q60 (hK.1 0 _ rfl).2 (va_recv hK hP (ci := 0) (q0 := 0) rfl rfl) dX9_isOfKind_39 ?_
  cases h
  exact gRz hx hb hr hlocks rfl hP hD hS dX9_isOfKind_42

def f_X9_as (K : Nat) (x1 : Int32) (x2 : Int32) (v_places_n : Int32) (v_places_p : Int32) (v_places_q : Int32) (v_places_goodOnes : Int64) : Option (Int32 × Int32) :=
  Option.bind (f_X4_has K x1 v_places_n) fun r_1 =>
  if r_1 = 0 then
    Option.bind (f_X9_faultless K (-1)) fun (r_28, o_29) =>
    some (r_28, o_29)
  else
    if x2 < 0 then
      Option.bind (f_X9_faultless K (-2)) fun (r_4, o_5) =>
      some (r_4, o_5)
    else
      if x2 ≤ 2 then
        Option.bind (f_X9_partOf K x1 v_places_n v_places_p v_places_q v_places_goodOnes) fun g_7 =>
        if g_7 = 0 then
          Option.bind (f_X9_isOfKind_X1 K x2) fun r_8 =>
          if r_8 = 0 then
            Option.bind (f_X9_faulted K 2) fun (r_10, o_11) =>
            some (r_10, o_11)
          else
            Option.bind (f_X9_faultless K 1) fun (r_12, o_13) =>
            some (r_12, o_13)
        else
          if g_7 = 1 then
            Option.bind (f_X9_isOfKind_X2 K x2) fun r_14 =>
            if r_14 = 0 then
              Option.bind (f_X9_faulted K 2) fun (r_16, o_17) =>
              some (r_16, o_17)
            else
              Option.bind (f_X9_faultless K 1) fun (r_18, o_19) =>
              some (r_18, o_19)
          else
            Option.bind (f_X9_isOfKind_X0 K x2) fun r_20 =>
            if r_20 = 0 then
              Option.bind (f_X9_faulted K 2) fun (r_22, o_23) =>
              some (r_22, o_23)
            else
              Option.bind (f_X9_faultless K 1) fun (r_24, o_25) =>
              some (r_24, o_25)
      else
        Option.bind (f_X9_faultless K (-2)) fun (r_26, o_27) =>
        some (r_26, o_27)
set_option maxHeartbeats 4000000 in
set_option maxRecDepth 100000 in
theorem c_X9_as (l : Launch) (D : va_G) (cy : Nat → ClassId) (t sz K : Nat) (z : Nat) (z_places : Nat) (z_frozenPart : Nat) (z_goodPart : Nat) (z_bestPart : Nat) (z_reader : Nat) (z_tally : Nat) (z_sheets : Nat) (z_trail : Nat) (z_places_uppers : Nat) (v_latestFault : Int32) (v_places_n : Int32) (v_places_p : Int32) (v_places_q : Int32) (v_places_goodOnes : Int64) (v_places_frozenOnes : Int64) (x1 : Int32) (x2 : Int32) (r_ : Int32) (o_v_latestFault : Int32) (h : f_X9_as K x1 x2 v_places_n v_places_p v_places_q v_places_goodOnes = some (r_, o_v_latestFault)) : gMi l D cy t sz yX9_as wsX9_as 3 70 [.ref z, .int x1, .int x2] [(z, .inr (8, [.ref z_places, .ref z_reader, .ref z_tally, .ref z_sheets, .ref z_trail, .ref z_frozenPart, .ref z_goodPart, .ref z_bestPart, .int v_latestFault])), (z_places, .inr (3, [.int v_places_n, .int v_places_p, .int v_places_q, .long v_places_goodOnes, .long v_places_frozenOnes, .ref z_places_uppers])), (z_frozenPart, .inr (1, [])), (z_goodPart, .inr (2, [])), (z_bestPart, .inr (0, []))] r_ [(z, .inr (8, [.ref z_places, .ref z_reader, .ref z_tally, .ref z_sheets, .ref z_trail, .ref z_frozenPart, .ref z_goodPart, .ref z_bestPart, .int o_v_latestFault])), (z_places, .inr (3, [.int v_places_n, .int v_places_p, .int v_places_q, .long v_places_goodOnes, .long v_places_frozenOnes, .ref z_places_uppers])), (z_frozenPart, .inr (1, [])), (z_goodPart, .inr (2, [])), (z_bestPart, .inr (0, []))] := by
  refine gBi (cc := cX9_as) (maxL := 3) (ret := (some .int)) (by decide) rfl (Nat.le_of_ble_eq_true rfl) ?_
  intro p e s m below meth c A ls hAt hl
  obtain ⟨hx, hb, hml, hr, hts, hown, hlocks, hin, hK, hG, hA, hP, hD⟩ := hAt
  have hS : va_S A s.heap s.heap [] := va_S.rf
  have hl : lv_has ls 3 [(0, .ref z), (1, .int x1), (2, .int x2)] := hl
  have f12 := hts (.fieldLink RX9 12 "PlainLines" "places" "LPlainLines$Places;") (by decide +kernel)
  have iX9 := (by decide +kernel : ∀ w ∈ u_ws RX9 TX9 9, w ∈ wsX9_as)
  rw [f_X9_as] at h
  refine lv_aload_n hx hb dX9_as_0 rfl (lv_at hl 0 rfl) ?_
  refine va_get (D := D) (ci := 8) (v := .ref z_places) (C := RX9) (T := TX9) (N := 9) hx hb hts iX9 hown hK hP 0 rfl rfl 0 (by decide) f12 (fun _ h9 => h9) rfl dX9_as_1 ?_
  refine lv_iload_n hx hb dX9_as_4 rfl (lv_at hl 1 rfl) ?_
  obtain ⟨r_1, hc_2, h⟩ := gx_b h
  refine gCalli (wr := [(z, .inr (8, [.ref z_places, .ref z_reader, .ref z_tally, .ref z_sheets, .ref z_trail, .ref z_frozenPart, .ref z_goodPart, .ref z_bestPart, .int v_latestFault])), (z_frozenPart, .inr (1, [])), (z_goodPart, .inr (2, [])), (z_bestPart, .inr (0, []))]) (va_runV (As := [.int x1]) (rest := []) ⟨hx, hb, hml, hown, hts⟩ (c_X4_has l D cy t s.heap.size K z_places z_places_uppers v_places_n v_places_p v_places_q v_places_goodOnes v_places_frozenOnes x1 r_1 hc_2) (cwV 1 hts gX9_as_X4_has rfl rfl rfl (by decide +kernel) ⟨Nat.le_of_ble_eq_true rfl, Nat.le_of_ble_eq_true rfl⟩) ⟨gBlind, va_recv hK hP (ci := 3) (q0 := 1) rfl rfl, fun U hU hW => ⟨rfl, gPre.call hK hG hA hP hD hS [1] (by decide) rfl U hU hW⟩⟩ rfl rfl hl.1 rfl (lv_room (Nat.le_of_ble_eq_true rfl)) dX9_as_5 ⟨Nat.le_of_ble_eq_true rfl, Nat.le_of_ble_eq_true rfl⟩) hA hP hD hS [1] [0, 2, 3, 4] rfl rfl (by decide) (by decide) (fun H locs hP hD hS => ?_)
  have hP := hP.sub (ws' := [(z, .inr (8, [.ref z_places, .ref z_reader, .ref z_tally, .ref z_sheets, .ref z_trail, .ref z_frozenPart, .ref z_goodPart, .ref z_bestPart, .int v_latestFault])), (z_places, .inr (3, [.int v_places_n, .int v_places_p, .int v_places_q, .long v_places_goodOnes, .long v_places_frozenOnes, .ref z_places_uppers])), (z_frozenPart, .inr (1, [])), (z_goodPart, .inr (2, [])), (z_bestPart, .inr (0, []))]) [0, 4, 1, 2, 3] rfl
  have hD := hD.sub (ws' := [(z, .inr (8, [.ref z_places, .ref z_reader, .ref z_tally, .ref z_sheets, .ref z_trail, .ref z_frozenPart, .ref z_goodPart, .ref z_bestPart, .int v_latestFault])), (z_places, .inr (3, [.int v_places_n, .int v_places_p, .int v_places_q, .long v_places_goodOnes, .long v_places_frozenOnes, .ref z_places_uppers])), (z_frozenPart, .inr (1, [])), (z_goodPart, .inr (2, [])), (z_bestPart, .inr (0, []))]) [0, 4, 1, 2, 3] (by decide) rfl
  refine lv_if_ne (tgt := 17) hx hb dX9_as_8 (by decide) (fun c_3 => ?_) (fun c_3 => ?_)
  · have h := gx_f c_3 h
    refine lv_iload_n hx hb dX9_as_17 rfl (lv_at hl 2 rfl) ?_
    refine lv_if_lt (tgt := 26) hx hb dX9_as_18 (by decide) (fun c_4 => ?_) (fun c_4 => ?_)
    · have h := gx_t c_4 h
      refine lv_aload_n hx hb dX9_as_26 rfl (lv_at hl 0 rfl) ?_
      refine lv_bipush (v := (-2)) hx hb dX9_as_27 (by decide) ?_
      obtain ⟨⟨r_5, o_6⟩, hc_7, h⟩ := gx_b h
      refine gCalli (wr := [(z_places, .inr (3, [.int v_places_n, .int v_places_p, .int v_places_q, .long v_places_goodOnes, .long v_places_frozenOnes, .ref z_places_uppers])), (z_frozenPart, .inr (1, [])), (z_goodPart, .inr (2, [])), (z_bestPart, .inr (0, []))]) (va_runV (As := [.int (-2)]) (rest := []) ⟨hx, hb, hml, hown, hts⟩ (c_X9_faultless l D cy t H.size K z z_places z_reader z_tally z_sheets z_trail z_frozenPart z_goodPart z_bestPart v_latestFault (-2) r_5 o_6 hc_7) (cwV 1 hts gX9_as_X9_faultless rfl rfl rfl (by decide +kernel) ⟨Nat.le_of_ble_eq_true rfl, Nat.le_of_ble_eq_true rfl⟩) ⟨gBlind, va_recv hK hP (ci := 8) (q0 := 0) rfl rfl, fun U hU hW => ⟨rfl, gPre.call hK hG hA hP hD hS [0] (by decide) rfl U hU hW⟩⟩ rfl rfl hl.1 rfl (lv_room (Nat.le_of_ble_eq_true rfl)) dX9_as_29 ⟨Nat.le_of_ble_eq_true rfl, Nat.le_of_ble_eq_true rfl⟩) hA hP hD hS [0] [1, 2, 3, 4] rfl rfl (by decide) (by decide) (fun H locs hP hD hS => ?_)
      have hP := hP.sub (ws' := [(z, .inr (8, [.ref z_places, .ref z_reader, .ref z_tally, .ref z_sheets, .ref z_trail, .ref z_frozenPart, .ref z_goodPart, .ref z_bestPart, .int o_6])), (z_places, .inr (3, [.int v_places_n, .int v_places_p, .int v_places_q, .long v_places_goodOnes, .long v_places_frozenOnes, .ref z_places_uppers])), (z_frozenPart, .inr (1, [])), (z_goodPart, .inr (2, [])), (z_bestPart, .inr (0, []))]) [4, 0, 1, 2, 3] rfl
      have hD := hD.sub (ws' := [(z, .inr (8, [.ref z_places, .ref z_reader, .ref z_tally, .ref z_sheets, .ref z_trail, .ref z_frozenPart, .ref z_goodPart, .ref z_bestPart, .int o_6])), (z_places, .inr (3, [.int v_places_n, .int v_places_p, .int v_places_q, .long v_places_goodOnes, .long v_places_frozenOnes, .ref z_places_uppers])), (z_frozenPart, .inr (1, [])), (z_goodPart, .inr (2, [])), (z_bestPart, .inr (0, []))]) [4, 0, 1, 2, 3] (by decide) rfl
      cases h
      exact gRi hx hb hr hlocks hP hD hS dX9_as_32
    · have h := gx_f c_4 h
      refine lv_iload_n hx hb dX9_as_21 rfl (lv_at hl 2 rfl) ?_
      refine lv_iconst (v := 2) hx hb dX9_as_22 (by decide) ?_
      refine lv_icmp_le (tgt := 33) hx hb dX9_as_23 (by decide) (fun c_8 => ?_) (fun c_8 => ?_)
      · have h := gx_t c_8 h
        refine lv_aload_n hx hb dX9_as_33 rfl (lv_at hl 0 rfl) ?_
        refine lv_iload_n hx hb dX9_as_34 rfl (lv_at hl 1 rfl) ?_
        obtain ⟨g_9, hc_10, h⟩ := gx_b h
        by_cases c_11 : g_9 = 0
        · subst c_11
          have h := gx_t rfl h
          refine gCallr (wr := [(z_frozenPart, .inr (1, [])), (z_goodPart, .inr (2, [])), (z_bestPart, .inr (0, []))]) (va_runV (As := [.int x1]) (rest := []) ⟨hx, hb, hml, hown, hts⟩ (c_X9_partOf l D cy t H.size K z z_places z_reader z_tally z_sheets z_trail z_frozenPart z_goodPart z_bestPart z_places_uppers v_latestFault v_places_n v_places_p v_places_q v_places_goodOnes v_places_frozenOnes x1 0 z_frozenPart hc_10 rfl) (cwV 1 hts gX9_as_X9_partOf rfl rfl rfl (by decide +kernel) ⟨Nat.le_of_ble_eq_true rfl, Nat.le_of_ble_eq_true rfl⟩) ⟨gBlind, va_recv hK hP (ci := 8) (q0 := 0) rfl rfl, fun U hU hW => ⟨rfl, gPre.call hK hG hA hP hD hS [0, 1] (by decide) rfl U hU hW⟩⟩ rfl rfl hl.1 rfl (lv_room (Nat.le_of_ble_eq_true rfl)) dX9_as_35 ⟨Nat.le_of_ble_eq_true rfl, Nat.le_of_ble_eq_true rfl⟩) hA hP hD hS [0, 1] [2, 3, 4] rfl rfl (by decide) (by decide) (fun H locs hP hD hS => ?_)
          have hP := hP.sub (ws' := [(z, .inr (8, [.ref z_places, .ref z_reader, .ref z_tally, .ref z_sheets, .ref z_trail, .ref z_frozenPart, .ref z_goodPart, .ref z_bestPart, .int v_latestFault])), (z_places, .inr (3, [.int v_places_n, .int v_places_p, .int v_places_q, .long v_places_goodOnes, .long v_places_frozenOnes, .ref z_places_uppers])), (z_frozenPart, .inr (1, [])), (z_goodPart, .inr (2, [])), (z_bestPart, .inr (0, []))]) [3, 4, 0, 1, 2] rfl
          have hD := hD.sub (ws' := [(z, .inr (8, [.ref z_places, .ref z_reader, .ref z_tally, .ref z_sheets, .ref z_trail, .ref z_frozenPart, .ref z_goodPart, .ref z_bestPart, .int v_latestFault])), (z_places, .inr (3, [.int v_places_n, .int v_places_p, .int v_places_q, .long v_places_goodOnes, .long v_places_frozenOnes, .ref z_places_uppers])), (z_frozenPart, .inr (1, [])), (z_goodPart, .inr (2, [])), (z_bestPart, .inr (0, []))]) [3, 4, 0, 1, 2] (by decide) rfl
          refine lv_iload_n hx hb dX9_as_38 rfl (lv_at hl 2 rfl) ?_
          obtain ⟨r_13, hc_14, h⟩ := gx_b h
          refine gCalli (wr := [(z, .inr (8, [.ref z_places, .ref z_reader, .ref z_tally, .ref z_sheets, .ref z_trail, .ref z_frozenPart, .ref z_goodPart, .ref z_bestPart, .int v_latestFault])), (z_places, .inr (3, [.int v_places_n, .int v_places_p, .int v_places_q, .long v_places_goodOnes, .long v_places_frozenOnes, .ref z_places_uppers])), (z_goodPart, .inr (2, [])), (z_bestPart, .inr (0, []))]) (va_runS (As := [.ref z_frozenPart, .int x2]) (rest := []) ⟨hx, hb, hml, hown, hts⟩ (c_X9_isOfKind_X1 l D cy t H.size K z_frozenPart x2 r_13 hc_14) (va_cwS 2 hts gX9_as_X9_isOfKind rfl rfl rfl (by decide +kernel) ⟨Nat.le_of_ble_eq_true rfl, Nat.le_of_ble_eq_true rfl⟩) ⟨gBlind, fun U hU hW => ⟨rfl, gPre.call hK hG hA hP hD hS [2] (by decide) rfl U hU hW⟩⟩ rfl rfl hl.1 rfl (lv_room (Nat.le_of_ble_eq_true rfl)) dX9_as_39 ⟨Nat.le_of_ble_eq_true rfl, Nat.le_of_ble_eq_true rfl⟩) hA hP hD hS [2] [0, 1, 3, 4] rfl rfl (by decide) (by decide) (fun H locs hP hD hS => ?_)
          have hP := hP.sub (ws' := [(z, .inr (8, [.ref z_places, .ref z_reader, .ref z_tally, .ref z_sheets, .ref z_trail, .ref z_frozenPart, .ref z_goodPart, .ref z_bestPart, .int v_latestFault])), (z_places, .inr (3, [.int v_places_n, .int v_places_p, .int v_places_q, .long v_places_goodOnes, .long v_places_frozenOnes, .ref z_places_uppers])), (z_frozenPart, .inr (1, [])), (z_goodPart, .inr (2, [])), (z_bestPart, .inr (0, []))]) [0, 1, 4, 2, 3] rfl
          have hD := hD.sub (ws' := [(z, .inr (8, [.ref z_places, .ref z_reader, .ref z_tally, .ref z_sheets, .ref z_trail, .ref z_frozenPart, .ref z_goodPart, .ref z_bestPart, .int v_latestFault])), (z_places, .inr (3, [.int v_places_n, .int v_places_p, .int v_places_q, .long v_places_goodOnes, .long v_places_frozenOnes, .ref z_places_uppers])), (z_frozenPart, .inr (1, [])), (z_goodPart, .inr (2, [])), (z_bestPart, .inr (0, []))]) [0, 1, 4, 2, 3] (by decide) rfl
          refine lv_if_eq (tgt := 53) hx hb dX9_as_42 (by decide) (fun c_15 => ?_) (fun c_15 => ?_)
          · have h := gx_t c_15 h
            refine lv_aload_n hx hb dX9_as_53 rfl (lv_at hl 0 rfl) ?_
            refine lv_iconst (v := 2) hx hb dX9_as_54 (by decide) ?_
            obtain ⟨⟨r_16, o_17⟩, hc_18, h⟩ := gx_b h
            refine gCalli (wr := [(z_places, .inr (3, [.int v_places_n, .int v_places_p, .int v_places_q, .long v_places_goodOnes, .long v_places_frozenOnes, .ref z_places_uppers])), (z_frozenPart, .inr (1, [])), (z_goodPart, .inr (2, [])), (z_bestPart, .inr (0, []))]) (va_runV (As := [.int 2]) (rest := []) ⟨hx, hb, hml, hown, hts⟩ (c_X9_faulted l D cy t H.size K z z_places z_reader z_tally z_sheets z_trail z_frozenPart z_goodPart z_bestPart v_latestFault 2 r_16 o_17 hc_18) (cwV 1 hts gX9_as_X9_faulted rfl rfl rfl (by decide +kernel) ⟨Nat.le_of_ble_eq_true rfl, Nat.le_of_ble_eq_true rfl⟩) ⟨gBlind, va_recv hK hP (ci := 8) (q0 := 0) rfl rfl, fun U hU hW => ⟨rfl, gPre.call hK hG hA hP hD hS [0] (by decide) rfl U hU hW⟩⟩ rfl rfl hl.1 rfl (lv_room (Nat.le_of_ble_eq_true rfl)) dX9_as_55 ⟨Nat.le_of_ble_eq_true rfl, Nat.le_of_ble_eq_true rfl⟩) hA hP hD hS [0] [1, 2, 3, 4] rfl rfl (by decide) (by decide) (fun H locs hP hD hS => ?_)
            have hP := hP.sub (ws' := [(z, .inr (8, [.ref z_places, .ref z_reader, .ref z_tally, .ref z_sheets, .ref z_trail, .ref z_frozenPart, .ref z_goodPart, .ref z_bestPart, .int o_17])), (z_places, .inr (3, [.int v_places_n, .int v_places_p, .int v_places_q, .long v_places_goodOnes, .long v_places_frozenOnes, .ref z_places_uppers])), (z_frozenPart, .inr (1, [])), (z_goodPart, .inr (2, [])), (z_bestPart, .inr (0, []))]) [4, 0, 1, 2, 3] rfl
            have hD := hD.sub (ws' := [(z, .inr (8, [.ref z_places, .ref z_reader, .ref z_tally, .ref z_sheets, .ref z_trail, .ref z_frozenPart, .ref z_goodPart, .ref z_bestPart, .int o_17])), (z_places, .inr (3, [.int v_places_n, .int v_places_p, .int v_places_q, .long v_places_goodOnes, .long v_places_frozenOnes, .ref z_places_uppers])), (z_frozenPart, .inr (1, [])), (z_goodPart, .inr (2, [])), (z_bestPart, .inr (0, []))]) [4, 0, 1, 2, 3] (by decide) rfl
            cases h
            exact gRi hx hb hr hlocks hP hD hS dX9_as_58
          · have h := gx_f c_15 h
            refine lv_aload_n hx hb dX9_as_45 rfl (lv_at hl 0 rfl) ?_
            refine lv_iconst (v := 1) hx hb dX9_as_46 (by decide) ?_
            obtain ⟨⟨r_19, o_20⟩, hc_21, h⟩ := gx_b h
            refine gCalli (wr := [(z_places, .inr (3, [.int v_places_n, .int v_places_p, .int v_places_q, .long v_places_goodOnes, .long v_places_frozenOnes, .ref z_places_uppers])), (z_frozenPart, .inr (1, [])), (z_goodPart, .inr (2, [])), (z_bestPart, .inr (0, []))]) (va_runV (As := [.int 1]) (rest := []) ⟨hx, hb, hml, hown, hts⟩ (c_X9_faultless l D cy t H.size K z z_places z_reader z_tally z_sheets z_trail z_frozenPart z_goodPart z_bestPart v_latestFault 1 r_19 o_20 hc_21) (cwV 1 hts gX9_as_X9_faultless rfl rfl rfl (by decide +kernel) ⟨Nat.le_of_ble_eq_true rfl, Nat.le_of_ble_eq_true rfl⟩) ⟨gBlind, va_recv hK hP (ci := 8) (q0 := 0) rfl rfl, fun U hU hW => ⟨rfl, gPre.call hK hG hA hP hD hS [0] (by decide) rfl U hU hW⟩⟩ rfl rfl hl.1 rfl (lv_room (Nat.le_of_ble_eq_true rfl)) dX9_as_47 ⟨Nat.le_of_ble_eq_true rfl, Nat.le_of_ble_eq_true rfl⟩) hA hP hD hS [0] [1, 2, 3, 4] rfl rfl (by decide) (by decide) (fun H locs hP hD hS => ?_)
            have hP := hP.sub (ws' := [(z, .inr (8, [.ref z_places, .ref z_reader, .ref z_tally, .ref z_sheets, .ref z_trail, .ref z_frozenPart, .ref z_goodPart, .ref z_bestPart, .int o_20])), (z_places, .inr (3, [.int v_places_n, .int v_places_p, .int v_places_q, .long v_places_goodOnes, .long v_places_frozenOnes, .ref z_places_uppers])), (z_frozenPart, .inr (1, [])), (z_goodPart, .inr (2, [])), (z_bestPart, .inr (0, []))]) [4, 0, 1, 2, 3] rfl
            have hD := hD.sub (ws' := [(z, .inr (8, [.ref z_places, .ref z_reader, .ref z_tally, .ref z_sheets, .ref z_trail, .ref z_frozenPart, .ref z_goodPart, .ref z_bestPart, .int o_20])), (z_places, .inr (3, [.int v_places_n, .int v_places_p, .int v_places_q, .long v_places_goodOnes, .long v_places_frozenOnes, .ref z_places_uppers])), (z_frozenPart, .inr (1, [])), (z_goodPart, .inr (2, [])), (z_bestPart, .inr (0, []))]) [4, 0, 1, 2, 3] (by decide) rfl
            refine lv_goto (tgt := 58) hx hb dX9_as_50 (by decide) ?_
            cases h
            exact gRi hx hb hr hlocks hP hD hS dX9_as_58
        have h := gx_f c_11 h
        by_cases c_12 : g_9 = 1
        · subst c_12
          have h := gx_t rfl h
          refine gCallr (wr := [(z_frozenPart, .inr (1, [])), (z_goodPart, .inr (2, [])), (z_bestPart, .inr (0, []))]) (va_runV (As := [.int x1]) (rest := []) ⟨hx, hb, hml, hown, hts⟩ (c_X9_partOf l D cy t H.size K z z_places z_reader z_tally z_sheets z_trail z_frozenPart z_goodPart z_bestPart z_places_uppers v_latestFault v_places_n v_places_p v_places_q v_places_goodOnes v_places_frozenOnes x1 1 z_goodPart hc_10 rfl) (cwV 1 hts gX9_as_X9_partOf rfl rfl rfl (by decide +kernel) ⟨Nat.le_of_ble_eq_true rfl, Nat.le_of_ble_eq_true rfl⟩) ⟨gBlind, va_recv hK hP (ci := 8) (q0 := 0) rfl rfl, fun U hU hW => ⟨rfl, gPre.call hK hG hA hP hD hS [0, 1] (by decide) rfl U hU hW⟩⟩ rfl rfl hl.1 rfl (lv_room (Nat.le_of_ble_eq_true rfl)) dX9_as_35 ⟨Nat.le_of_ble_eq_true rfl, Nat.le_of_ble_eq_true rfl⟩) hA hP hD hS [0, 1] [2, 3, 4] rfl rfl (by decide) (by decide) (fun H locs hP hD hS => ?_)
          have hP := hP.sub (ws' := [(z, .inr (8, [.ref z_places, .ref z_reader, .ref z_tally, .ref z_sheets, .ref z_trail, .ref z_frozenPart, .ref z_goodPart, .ref z_bestPart, .int v_latestFault])), (z_places, .inr (3, [.int v_places_n, .int v_places_p, .int v_places_q, .long v_places_goodOnes, .long v_places_frozenOnes, .ref z_places_uppers])), (z_frozenPart, .inr (1, [])), (z_goodPart, .inr (2, [])), (z_bestPart, .inr (0, []))]) [3, 4, 0, 1, 2] rfl
          have hD := hD.sub (ws' := [(z, .inr (8, [.ref z_places, .ref z_reader, .ref z_tally, .ref z_sheets, .ref z_trail, .ref z_frozenPart, .ref z_goodPart, .ref z_bestPart, .int v_latestFault])), (z_places, .inr (3, [.int v_places_n, .int v_places_p, .int v_places_q, .long v_places_goodOnes, .long v_places_frozenOnes, .ref z_places_uppers])), (z_frozenPart, .inr (1, [])), (z_goodPart, .inr (2, [])), (z_bestPart, .inr (0, []))]) [3, 4, 0, 1, 2] (by decide) rfl
          refine lv_iload_n hx hb dX9_as_38 rfl (lv_at hl 2 rfl) ?_
          obtain ⟨r_22, hc_23, h⟩ := gx_b h
          refine gCalli (wr := [(z, .inr (8, [.ref z_places, .ref z_reader, .ref z_tally, .ref z_sheets, .ref z_trail, .ref z_frozenPart, .ref z_goodPart, .ref z_bestPart, .int v_latestFault])), (z_places, .inr (3, [.int v_places_n, .int v_places_p, .int v_places_q, .long v_places_goodOnes, .long v_places_frozenOnes, .ref z_places_uppers])), (z_frozenPart, .inr (1, [])), (z_bestPart, .inr (0, []))]) (va_runS (As := [.ref z_goodPart, .int x2]) (rest := []) ⟨hx, hb, hml, hown, hts⟩ (c_X9_isOfKind_X2 l D cy t H.size K z_goodPart x2 r_22 hc_23) (va_cwS 2 hts gX9_as_X9_isOfKind rfl rfl rfl (by decide +kernel) ⟨Nat.le_of_ble_eq_true rfl, Nat.le_of_ble_eq_true rfl⟩) ⟨gBlind, fun U hU hW => ⟨rfl, gPre.call hK hG hA hP hD hS [3] (by decide) rfl U hU hW⟩⟩ rfl rfl hl.1 rfl (lv_room (Nat.le_of_ble_eq_true rfl)) dX9_as_39 ⟨Nat.le_of_ble_eq_true rfl, Nat.le_of_ble_eq_true rfl⟩) hA hP hD hS [3] [0, 1, 2, 4] rfl rfl (by decide) (by decide) (fun H locs hP hD hS => ?_)
          have hP := hP.sub (ws' := [(z, .inr (8, [.ref z_places, .ref z_reader, .ref z_tally, .ref z_sheets, .ref z_trail, .ref z_frozenPart, .ref z_goodPart, .ref z_bestPart, .int v_latestFault])), (z_places, .inr (3, [.int v_places_n, .int v_places_p, .int v_places_q, .long v_places_goodOnes, .long v_places_frozenOnes, .ref z_places_uppers])), (z_frozenPart, .inr (1, [])), (z_goodPart, .inr (2, [])), (z_bestPart, .inr (0, []))]) [0, 1, 2, 4, 3] rfl
          have hD := hD.sub (ws' := [(z, .inr (8, [.ref z_places, .ref z_reader, .ref z_tally, .ref z_sheets, .ref z_trail, .ref z_frozenPart, .ref z_goodPart, .ref z_bestPart, .int v_latestFault])), (z_places, .inr (3, [.int v_places_n, .int v_places_p, .int v_places_q, .long v_places_goodOnes, .long v_places_frozenOnes, .ref z_places_uppers])), (z_frozenPart, .inr (1, [])), (z_goodPart, .inr (2, [])), (z_bestPart, .inr (0, []))]) [0, 1, 2, 4, 3] (by decide) rfl
          refine lv_if_eq (tgt := 53) hx hb dX9_as_42 (by decide) (fun c_24 => ?_) (fun c_24 => ?_)
          · have h := gx_t c_24 h
            refine lv_aload_n hx hb dX9_as_53 rfl (lv_at hl 0 rfl) ?_
            refine lv_iconst (v := 2) hx hb dX9_as_54 (by decide) ?_
            obtain ⟨⟨r_25, o_26⟩, hc_27, h⟩ := gx_b h
            refine gCalli (wr := [(z_places, .inr (3, [.int v_places_n, .int v_places_p, .int v_places_q, .long v_places_goodOnes, .long v_places_frozenOnes, .ref z_places_uppers])), (z_frozenPart, .inr (1, [])), (z_goodPart, .inr (2, [])), (z_bestPart, .inr (0, []))]) (va_runV (As := [.int 2]) (rest := []) ⟨hx, hb, hml, hown, hts⟩ (c_X9_faulted l D cy t H.size K z z_places z_reader z_tally z_sheets z_trail z_frozenPart z_goodPart z_bestPart v_latestFault 2 r_25 o_26 hc_27) (cwV 1 hts gX9_as_X9_faulted rfl rfl rfl (by decide +kernel) ⟨Nat.le_of_ble_eq_true rfl, Nat.le_of_ble_eq_true rfl⟩) ⟨gBlind, va_recv hK hP (ci := 8) (q0 := 0) rfl rfl, fun U hU hW => ⟨rfl, gPre.call hK hG hA hP hD hS [0] (by decide) rfl U hU hW⟩⟩ rfl rfl hl.1 rfl (lv_room (Nat.le_of_ble_eq_true rfl)) dX9_as_55 ⟨Nat.le_of_ble_eq_true rfl, Nat.le_of_ble_eq_true rfl⟩) hA hP hD hS [0] [1, 2, 3, 4] rfl rfl (by decide) (by decide) (fun H locs hP hD hS => ?_)
            have hP := hP.sub (ws' := [(z, .inr (8, [.ref z_places, .ref z_reader, .ref z_tally, .ref z_sheets, .ref z_trail, .ref z_frozenPart, .ref z_goodPart, .ref z_bestPart, .int o_26])), (z_places, .inr (3, [.int v_places_n, .int v_places_p, .int v_places_q, .long v_places_goodOnes, .long v_places_frozenOnes, .ref z_places_uppers])), (z_frozenPart, .inr (1, [])), (z_goodPart, .inr (2, [])), (z_bestPart, .inr (0, []))]) [4, 0, 1, 2, 3] rfl
            have hD := hD.sub (ws' := [(z, .inr (8, [.ref z_places, .ref z_reader, .ref z_tally, .ref z_sheets, .ref z_trail, .ref z_frozenPart, .ref z_goodPart, .ref z_bestPart, .int o_26])), (z_places, .inr (3, [.int v_places_n, .int v_places_p, .int v_places_q, .long v_places_goodOnes, .long v_places_frozenOnes, .ref z_places_uppers])), (z_frozenPart, .inr (1, [])), (z_goodPart, .inr (2, [])), (z_bestPart, .inr (0, []))]) [4, 0, 1, 2, 3] (by decide) rfl
            cases h
            exact gRi hx hb hr hlocks hP hD hS dX9_as_58
          · have h := gx_f c_24 h
            refine lv_aload_n hx hb dX9_as_45 rfl (lv_at hl 0 rfl) ?_
            refine lv_iconst (v := 1) hx hb dX9_as_46 (by decide) ?_
            obtain ⟨⟨r_28, o_29⟩, hc_30, h⟩ := gx_b h
            refine gCalli (wr := [(z_places, .inr (3, [.int v_places_n, .int v_places_p, .int v_places_q, .long v_places_goodOnes, .long v_places_frozenOnes, .ref z_places_uppers])), (z_frozenPart, .inr (1, [])), (z_goodPart, .inr (2, [])), (z_bestPart, .inr (0, []))]) (va_runV (As := [.int 1]) (rest := []) ⟨hx, hb, hml, hown, hts⟩ (c_X9_faultless l D cy t H.size K z z_places z_reader z_tally z_sheets z_trail z_frozenPart z_goodPart z_bestPart v_latestFault 1 r_28 o_29 hc_30) (cwV 1 hts gX9_as_X9_faultless rfl rfl rfl (by decide +kernel) ⟨Nat.le_of_ble_eq_true rfl, Nat.le_of_ble_eq_true rfl⟩) ⟨gBlind, va_recv hK hP (ci := 8) (q0 := 0) rfl rfl, fun U hU hW => ⟨rfl, gPre.call hK hG hA hP hD hS [0] (by decide) rfl U hU hW⟩⟩ rfl rfl hl.1 rfl (lv_room (Nat.le_of_ble_eq_true rfl)) dX9_as_47 ⟨Nat.le_of_ble_eq_true rfl, Nat.le_of_ble_eq_true rfl⟩) hA hP hD hS [0] [1, 2, 3, 4] rfl rfl (by decide) (by decide) (fun H locs hP hD hS => ?_)
            have hP := hP.sub (ws' := [(z, .inr (8, [.ref z_places, .ref z_reader, .ref z_tally, .ref z_sheets, .ref z_trail, .ref z_frozenPart, .ref z_goodPart, .ref z_bestPart, .int o_29])), (z_places, .inr (3, [.int v_places_n, .int v_places_p, .int v_places_q, .long v_places_goodOnes, .long v_places_frozenOnes, .ref z_places_uppers])), (z_frozenPart, .inr (1, [])), (z_goodPart, .inr (2, [])), (z_bestPart, .inr (0, []))]) [4, 0, 1, 2, 3] rfl
            have hD := hD.sub (ws' := [(z, .inr (8, [.ref z_places, .ref z_reader, .ref z_tally, .ref z_sheets, .ref z_trail, .ref z_frozenPart, .ref z_goodPart, .ref z_bestPart, .int o_29])), (z_places, .inr (3, [.int v_places_n, .int v_places_p, .int v_places_q, .long v_places_goodOnes, .long v_places_frozenOnes, .ref z_places_uppers])), (z_frozenPart, .inr (1, [])), (z_goodPart, .inr (2, [])), (z_bestPart, .inr (0, []))]) [4, 0, 1, 2, 3] (by decide) rfl
            refine lv_goto (tgt := 58) hx hb dX9_as_50 (by decide) ?_
            cases h
            exact gRi hx hb hr hlocks hP hD hS dX9_as_58
        have h := gx_f c_12 h
        refine gCallr (wr := [(z_frozenPart, .inr (1, [])), (z_goodPart, .inr (2, [])), (z_bestPart, .inr (0, []))]) (va_runV (As := [.int x1]) (rest := []) ⟨hx, hb, hml, hown, hts⟩ (c_X9_partOf l D cy t H.size K z z_places z_reader z_tally z_sheets z_trail z_frozenPart z_goodPart z_bestPart z_places_uppers v_latestFault v_places_n v_places_p v_places_q v_places_goodOnes v_places_frozenOnes x1 g_9 z_bestPart hc_10 (gPart_b c_11 c_12)) (cwV 1 hts gX9_as_X9_partOf rfl rfl rfl (by decide +kernel) ⟨Nat.le_of_ble_eq_true rfl, Nat.le_of_ble_eq_true rfl⟩) ⟨gBlind, va_recv hK hP (ci := 8) (q0 := 0) rfl rfl, fun U hU hW => ⟨rfl, gPre.call hK hG hA hP hD hS [0, 1] (by decide) rfl U hU hW⟩⟩ rfl rfl hl.1 rfl (lv_room (Nat.le_of_ble_eq_true rfl)) dX9_as_35 ⟨Nat.le_of_ble_eq_true rfl, Nat.le_of_ble_eq_true rfl⟩) hA hP hD hS [0, 1] [2, 3, 4] rfl rfl (by decide) (by decide) (fun H locs hP hD hS => ?_)
        have hP := hP.sub (ws' := [(z, .inr (8, [.ref z_places, .ref z_reader, .ref z_tally, .ref z_sheets, .ref z_trail, .ref z_frozenPart, .ref z_goodPart, .ref z_bestPart, .int v_latestFault])), (z_places, .inr (3, [.int v_places_n, .int v_places_p, .int v_places_q, .long v_places_goodOnes, .long v_places_frozenOnes, .ref z_places_uppers])), (z_frozenPart, .inr (1, [])), (z_goodPart, .inr (2, [])), (z_bestPart, .inr (0, []))]) [3, 4, 0, 1, 2] rfl
        have hD := hD.sub (ws' := [(z, .inr (8, [.ref z_places, .ref z_reader, .ref z_tally, .ref z_sheets, .ref z_trail, .ref z_frozenPart, .ref z_goodPart, .ref z_bestPart, .int v_latestFault])), (z_places, .inr (3, [.int v_places_n, .int v_places_p, .int v_places_q, .long v_places_goodOnes, .long v_places_frozenOnes, .ref z_places_uppers])), (z_frozenPart, .inr (1, [])), (z_goodPart, .inr (2, [])), (z_bestPart, .inr (0, []))]) [3, 4, 0, 1, 2] (by decide) rfl
        refine lv_iload_n hx hb dX9_as_38 rfl (lv_at hl 2 rfl) ?_
        obtain ⟨r_31, hc_32, h⟩ := gx_b h
        refine gCalli (wr := [(z, .inr (8, [.ref z_places, .ref z_reader, .ref z_tally, .ref z_sheets, .ref z_trail, .ref z_frozenPart, .ref z_goodPart, .ref z_bestPart, .int v_latestFault])), (z_places, .inr (3, [.int v_places_n, .int v_places_p, .int v_places_q, .long v_places_goodOnes, .long v_places_frozenOnes, .ref z_places_uppers])), (z_frozenPart, .inr (1, [])), (z_goodPart, .inr (2, []))]) (va_runS (As := [.ref z_bestPart, .int x2]) (rest := []) ⟨hx, hb, hml, hown, hts⟩ (c_X9_isOfKind_X0 l D cy t H.size K z_bestPart x2 r_31 hc_32) (va_cwS 2 hts gX9_as_X9_isOfKind rfl rfl rfl (by decide +kernel) ⟨Nat.le_of_ble_eq_true rfl, Nat.le_of_ble_eq_true rfl⟩) ⟨gBlind, fun U hU hW => ⟨rfl, gPre.call hK hG hA hP hD hS [4] (by decide) rfl U hU hW⟩⟩ rfl rfl hl.1 rfl (lv_room (Nat.le_of_ble_eq_true rfl)) dX9_as_39 ⟨Nat.le_of_ble_eq_true rfl, Nat.le_of_ble_eq_true rfl⟩) hA hP hD hS [4] [0, 1, 2, 3] rfl rfl (by decide) (by decide) (fun H locs hP hD hS => ?_)
        have hP : va_P D vwCl [(z, .inr (8, [.ref z_places, .ref z_reader, .ref z_tally, .ref z_sheets, .ref z_trail, .ref z_frozenPart, .ref z_goodPart, .ref z_bestPart, .int v_latestFault])), (z_places, .inr (3, [.int v_places_n, .int v_places_p, .int v_places_q, .long v_places_goodOnes, .long v_places_frozenOnes, .ref z_places_uppers])), (z_frozenPart, .inr (1, [])), (z_goodPart, .inr (2, [])), (z_bestPart, .inr (0, []))] H := hP
        have hD : va_D A [(z, .inr (8, [.ref z_places, .ref z_reader, .ref z_tally, .ref z_sheets, .ref z_trail, .ref z_frozenPart, .ref z_goodPart, .ref z_bestPart, .int v_latestFault])), (z_places, .inr (3, [.int v_places_n, .int v_places_p, .int v_places_q, .long v_places_goodOnes, .long v_places_frozenOnes, .ref z_places_uppers])), (z_frozenPart, .inr (1, [])), (z_goodPart, .inr (2, [])), (z_bestPart, .inr (0, []))] := hD
        refine lv_if_eq (tgt := 53) hx hb dX9_as_42 (by decide) (fun c_33 => ?_) (fun c_33 => ?_)
        · have h := gx_t c_33 h
          refine lv_aload_n hx hb dX9_as_53 rfl (lv_at hl 0 rfl) ?_
          refine lv_iconst (v := 2) hx hb dX9_as_54 (by decide) ?_
          obtain ⟨⟨r_34, o_35⟩, hc_36, h⟩ := gx_b h
          refine gCalli (wr := [(z_places, .inr (3, [.int v_places_n, .int v_places_p, .int v_places_q, .long v_places_goodOnes, .long v_places_frozenOnes, .ref z_places_uppers])), (z_frozenPart, .inr (1, [])), (z_goodPart, .inr (2, [])), (z_bestPart, .inr (0, []))]) (va_runV (As := [.int 2]) (rest := []) ⟨hx, hb, hml, hown, hts⟩ (c_X9_faulted l D cy t H.size K z z_places z_reader z_tally z_sheets z_trail z_frozenPart z_goodPart z_bestPart v_latestFault 2 r_34 o_35 hc_36) (cwV 1 hts gX9_as_X9_faulted rfl rfl rfl (by decide +kernel) ⟨Nat.le_of_ble_eq_true rfl, Nat.le_of_ble_eq_true rfl⟩) ⟨gBlind, va_recv hK hP (ci := 8) (q0 := 0) rfl rfl, fun U hU hW => ⟨rfl, gPre.call hK hG hA hP hD hS [0] (by decide) rfl U hU hW⟩⟩ rfl rfl hl.1 rfl (lv_room (Nat.le_of_ble_eq_true rfl)) dX9_as_55 ⟨Nat.le_of_ble_eq_true rfl, Nat.le_of_ble_eq_true rfl⟩) hA hP hD hS [0] [1, 2, 3, 4] rfl rfl (by decide) (by decide) (fun H locs hP hD hS => ?_)
          have hP := hP.sub (ws' := [(z, .inr (8, [.ref z_places, .ref z_reader, .ref z_tally, .ref z_sheets, .ref z_trail, .ref z_frozenPart, .ref z_goodPart, .ref z_bestPart, .int o_35])), (z_places, .inr (3, [.int v_places_n, .int v_places_p, .int v_places_q, .long v_places_goodOnes, .long v_places_frozenOnes, .ref z_places_uppers])), (z_frozenPart, .inr (1, [])), (z_goodPart, .inr (2, [])), (z_bestPart, .inr (0, []))]) [4, 0, 1, 2, 3] rfl
          have hD := hD.sub (ws' := [(z, .inr (8, [.ref z_places, .ref z_reader, .ref z_tally, .ref z_sheets, .ref z_trail, .ref z_frozenPart, .ref z_goodPart, .ref z_bestPart, .int o_35])), (z_places, .inr (3, [.int v_places_n, .int v_places_p, .int v_places_q, .long v_places_goodOnes, .long v_places_frozenOnes, .ref z_places_uppers])), (z_frozenPart, .inr (1, [])), (z_goodPart, .inr (2, [])), (z_bestPart, .inr (0, []))]) [4, 0, 1, 2, 3] (by decide) rfl
          cases h
          exact gRi hx hb hr hlocks hP hD hS dX9_as_58
        · have h := gx_f c_33 h
          refine lv_aload_n hx hb dX9_as_45 rfl (lv_at hl 0 rfl) ?_
          refine lv_iconst (v := 1) hx hb dX9_as_46 (by decide) ?_
          obtain ⟨⟨r_37, o_38⟩, hc_39, h⟩ := gx_b h
          refine gCalli (wr := [(z_places, .inr (3, [.int v_places_n, .int v_places_p, .int v_places_q, .long v_places_goodOnes, .long v_places_frozenOnes, .ref z_places_uppers])), (z_frozenPart, .inr (1, [])), (z_goodPart, .inr (2, [])), (z_bestPart, .inr (0, []))]) (va_runV (As := [.int 1]) (rest := []) ⟨hx, hb, hml, hown, hts⟩ (c_X9_faultless l D cy t H.size K z z_places z_reader z_tally z_sheets z_trail z_frozenPart z_goodPart z_bestPart v_latestFault 1 r_37 o_38 hc_39) (cwV 1 hts gX9_as_X9_faultless rfl rfl rfl (by decide +kernel) ⟨Nat.le_of_ble_eq_true rfl, Nat.le_of_ble_eq_true rfl⟩) ⟨gBlind, va_recv hK hP (ci := 8) (q0 := 0) rfl rfl, fun U hU hW => ⟨rfl, gPre.call hK hG hA hP hD hS [0] (by decide) rfl U hU hW⟩⟩ rfl rfl hl.1 rfl (lv_room (Nat.le_of_ble_eq_true rfl)) dX9_as_47 ⟨Nat.le_of_ble_eq_true rfl, Nat.le_of_ble_eq_true rfl⟩) hA hP hD hS [0] [1, 2, 3, 4] rfl rfl (by decide) (by decide) (fun H locs hP hD hS => ?_)
          have hP := hP.sub (ws' := [(z, .inr (8, [.ref z_places, .ref z_reader, .ref z_tally, .ref z_sheets, .ref z_trail, .ref z_frozenPart, .ref z_goodPart, .ref z_bestPart, .int o_38])), (z_places, .inr (3, [.int v_places_n, .int v_places_p, .int v_places_q, .long v_places_goodOnes, .long v_places_frozenOnes, .ref z_places_uppers])), (z_frozenPart, .inr (1, [])), (z_goodPart, .inr (2, [])), (z_bestPart, .inr (0, []))]) [4, 0, 1, 2, 3] rfl
          have hD := hD.sub (ws' := [(z, .inr (8, [.ref z_places, .ref z_reader, .ref z_tally, .ref z_sheets, .ref z_trail, .ref z_frozenPart, .ref z_goodPart, .ref z_bestPart, .int o_38])), (z_places, .inr (3, [.int v_places_n, .int v_places_p, .int v_places_q, .long v_places_goodOnes, .long v_places_frozenOnes, .ref z_places_uppers])), (z_frozenPart, .inr (1, [])), (z_goodPart, .inr (2, [])), (z_bestPart, .inr (0, []))]) [4, 0, 1, 2, 3] (by decide) rfl
          refine lv_goto (tgt := 58) hx hb dX9_as_50 (by decide) ?_
          cases h
          exact gRi hx hb hr hlocks hP hD hS dX9_as_58
      · have h := gx_f c_8 h
        refine lv_aload_n hx hb dX9_as_26 rfl (lv_at hl 0 rfl) ?_
        refine lv_bipush (v := (-2)) hx hb dX9_as_27 (by decide) ?_
        obtain ⟨⟨r_40, o_41⟩, hc_42, h⟩ := gx_b h
        refine gCalli (wr := [(z_places, .inr (3, [.int v_places_n, .int v_places_p, .int v_places_q, .long v_places_goodOnes, .long v_places_frozenOnes, .ref z_places_uppers])), (z_frozenPart, .inr (1, [])), (z_goodPart, .inr (2, [])), (z_bestPart, .inr (0, []))]) (va_runV (As := [.int (-2)]) (rest := []) ⟨hx, hb, hml, hown, hts⟩ (c_X9_faultless l D cy t H.size K z z_places z_reader z_tally z_sheets z_trail z_frozenPart z_goodPart z_bestPart v_latestFault (-2) r_40 o_41 hc_42) (cwV 1 hts gX9_as_X9_faultless rfl rfl rfl (by decide +kernel) ⟨Nat.le_of_ble_eq_true rfl, Nat.le_of_ble_eq_true rfl⟩) ⟨gBlind, va_recv hK hP (ci := 8) (q0 := 0) rfl rfl, fun U hU hW => ⟨rfl, gPre.call hK hG hA hP hD hS [0] (by decide) rfl U hU hW⟩⟩ rfl rfl hl.1 rfl (lv_room (Nat.le_of_ble_eq_true rfl)) dX9_as_29 ⟨Nat.le_of_ble_eq_true rfl, Nat.le_of_ble_eq_true rfl⟩) hA hP hD hS [0] [1, 2, 3, 4] rfl rfl (by decide) (by decide) (fun H locs hP hD hS => ?_)
        have hP := hP.sub (ws' := [(z, .inr (8, [.ref z_places, .ref z_reader, .ref z_tally, .ref z_sheets, .ref z_trail, .ref z_frozenPart, .ref z_goodPart, .ref z_bestPart, .int o_41])), (z_places, .inr (3, [.int v_places_n, .int v_places_p, .int v_places_q, .long v_places_goodOnes, .long v_places_frozenOnes, .ref z_places_uppers])), (z_frozenPart, .inr (1, [])), (z_goodPart, .inr (2, [])), (z_bestPart, .inr (0, []))]) [4, 0, 1, 2, 3] rfl
        have hD := hD.sub (ws' := [(z, .inr (8, [.ref z_places, .ref z_reader, .ref z_tally, .ref z_sheets, .ref z_trail, .ref z_frozenPart, .ref z_goodPart, .ref z_bestPart, .int o_41])), (z_places, .inr (3, [.int v_places_n, .int v_places_p, .int v_places_q, .long v_places_goodOnes, .long v_places_frozenOnes, .ref z_places_uppers])), (z_frozenPart, .inr (1, [])), (z_goodPart, .inr (2, [])), (z_bestPart, .inr (0, []))]) [4, 0, 1, 2, 3] (by decide) rfl
        cases h
        exact gRi hx hb hr hlocks hP hD hS dX9_as_32
  · have h := gx_t c_3 h
    refine lv_aload_n hx hb dX9_as_11 rfl (lv_at hl 0 rfl) ?_
    refine lv_iconst (v := (-1)) hx hb dX9_as_12 (by decide) ?_
    obtain ⟨⟨r_43, o_44⟩, hc_45, h⟩ := gx_b h
    refine gCalli (wr := [(z_places, .inr (3, [.int v_places_n, .int v_places_p, .int v_places_q, .long v_places_goodOnes, .long v_places_frozenOnes, .ref z_places_uppers])), (z_frozenPart, .inr (1, [])), (z_goodPart, .inr (2, [])), (z_bestPart, .inr (0, []))]) (va_runV (As := [.int (-1)]) (rest := []) ⟨hx, hb, hml, hown, hts⟩ (c_X9_faultless l D cy t H.size K z z_places z_reader z_tally z_sheets z_trail z_frozenPart z_goodPart z_bestPart v_latestFault (-1) r_43 o_44 hc_45) (cwV 1 hts gX9_as_X9_faultless rfl rfl rfl (by decide +kernel) ⟨Nat.le_of_ble_eq_true rfl, Nat.le_of_ble_eq_true rfl⟩) ⟨gBlind, va_recv hK hP (ci := 8) (q0 := 0) rfl rfl, fun U hU hW => ⟨rfl, gPre.call hK hG hA hP hD hS [0] (by decide) rfl U hU hW⟩⟩ rfl rfl hl.1 rfl (lv_room (Nat.le_of_ble_eq_true rfl)) dX9_as_13 ⟨Nat.le_of_ble_eq_true rfl, Nat.le_of_ble_eq_true rfl⟩) hA hP hD hS [0] [1, 2, 3, 4] rfl rfl (by decide) (by decide) (fun H locs hP hD hS => ?_)
    have hP := hP.sub (ws' := [(z, .inr (8, [.ref z_places, .ref z_reader, .ref z_tally, .ref z_sheets, .ref z_trail, .ref z_frozenPart, .ref z_goodPart, .ref z_bestPart, .int o_44])), (z_places, .inr (3, [.int v_places_n, .int v_places_p, .int v_places_q, .long v_places_goodOnes, .long v_places_frozenOnes, .ref z_places_uppers])), (z_frozenPart, .inr (1, [])), (z_goodPart, .inr (2, [])), (z_bestPart, .inr (0, []))]) [4, 0, 1, 2, 3] rfl
    have hD := hD.sub (ws' := [(z, .inr (8, [.ref z_places, .ref z_reader, .ref z_tally, .ref z_sheets, .ref z_trail, .ref z_frozenPart, .ref z_goodPart, .ref z_bestPart, .int o_44])), (z_places, .inr (3, [.int v_places_n, .int v_places_p, .int v_places_q, .long v_places_goodOnes, .long v_places_frozenOnes, .ref z_places_uppers])), (z_frozenPart, .inr (1, [])), (z_goodPart, .inr (2, [])), (z_bestPart, .inr (0, []))]) [4, 0, 1, 2, 3] (by decide) rfl
    cases h
    exact gRi hx hb hr hlocks hP hD hS dX9_as_16

def f_X9_trace (K : Nat) (v_trail_trace : Int32) : Option (Int32) :=
  some v_trail_trace
set_option maxHeartbeats 4000000 in
set_option maxRecDepth 100000 in
theorem c_X9_trace (l : Launch) (D : va_G) (cy : Nat → ClassId) (t sz K : Nat) (z : Nat) (z_trail : Nat) (z_places : Nat) (z_reader : Nat) (z_tally : Nat) (z_sheets : Nat) (z_frozenPart : Nat) (z_goodPart : Nat) (z_bestPart : Nat) (v_latestFault : Int32) (v_trail_trace : Int32) (r_ : Int32) (h : f_X9_trace K v_trail_trace = some r_) : gMi l D cy t sz yX9_trace wsX9_trace 0 0 [.ref z] [(z, .inr (8, [.ref z_places, .ref z_reader, .ref z_tally, .ref z_sheets, .ref z_trail, .ref z_frozenPart, .ref z_goodPart, .ref z_bestPart, .int v_latestFault])), (z_trail, .inr (7, [.int v_trail_trace]))] r_ [(z, .inr (8, [.ref z_places, .ref z_reader, .ref z_tally, .ref z_sheets, .ref z_trail, .ref z_frozenPart, .ref z_goodPart, .ref z_bestPart, .int v_latestFault])), (z_trail, .inr (7, [.int v_trail_trace]))] := by
  refine gBi (cc := cX9_trace) (maxL := 1) (ret := (some .int)) (by decide) rfl (Nat.le_of_ble_eq_true rfl) ?_
  intro p e s m below meth c A ls hAt hl
  obtain ⟨hx, hb, hml, hr, hts, hown, hlocks, hin, hK, hG, hA, hP, hD⟩ := hAt
  have hS : va_S A s.heap s.heap [] := va_S.rf
  have hl : lv_has ls 1 [(0, .ref z)] := hl
  have f42 := hts (.fieldLink RX9 42 "PlainLines" "trail" "LPlainLines$Trail;") (by decide +kernel)
  have iX9 := (by decide +kernel : ∀ w ∈ u_ws RX9 TX9 9, w ∈ wsX9_trace)
  have f283 := hts (.fieldLink RX9 283 "PlainLines$Trail" "trace" "I") (by decide +kernel)
  have iX8 := (by decide +kernel : ∀ w ∈ u_ws RX8 TX8 1, w ∈ wsX9_trace)
  rw [f_X9_trace] at h
  refine lv_aload_n hx hb dX9_trace_0 rfl (lv_at hl 0 rfl) ?_
  refine va_get (D := D) (ci := 8) (v := .ref z_trail) (C := RX9) (T := TX9) (N := 9) hx hb hts iX9 hown hK hP 0 rfl rfl 4 (by decide) f42 (fun _ h9 => h9) rfl dX9_trace_1 ?_
  refine va_get (D := D) (ci := 7) (v := .int v_trail_trace) (C := RX8) (T := TX8) (N := 1) hx hb hts iX8 hown hK hP 1 rfl rfl 0 (by decide) f283 (fun _ h9 => h9) rfl dX9_trace_4 ?_
  cases h
  exact gRi hx hb hr hlocks hP hD hS dX9_trace_7

def f_X9_fault (K : Nat) (v_latestFault : Int32) : Option (Int32) :=
  some v_latestFault
set_option maxHeartbeats 4000000 in
set_option maxRecDepth 100000 in
theorem c_X9_fault (l : Launch) (D : va_G) (cy : Nat → ClassId) (t sz K : Nat) (z : Nat) (z_places : Nat) (z_reader : Nat) (z_tally : Nat) (z_sheets : Nat) (z_trail : Nat) (z_frozenPart : Nat) (z_goodPart : Nat) (z_bestPart : Nat) (v_latestFault : Int32) (r_ : Int32) (h : f_X9_fault K v_latestFault = some r_) : gMi l D cy t sz yX9_fault wsX9_fault 0 0 [.ref z] [(z, .inr (8, [.ref z_places, .ref z_reader, .ref z_tally, .ref z_sheets, .ref z_trail, .ref z_frozenPart, .ref z_goodPart, .ref z_bestPart, .int v_latestFault]))] r_ [(z, .inr (8, [.ref z_places, .ref z_reader, .ref z_tally, .ref z_sheets, .ref z_trail, .ref z_frozenPart, .ref z_goodPart, .ref z_bestPart, .int v_latestFault]))] := by
  refine gBi (cc := cX9_fault) (maxL := 1) (ret := (some .int)) (by decide) rfl (Nat.le_of_ble_eq_true rfl) ?_
  intro p e s m below meth c A ls hAt hl
  obtain ⟨hx, hb, hml, hr, hts, hown, hlocks, hin, hK, hG, hA, hP, hD⟩ := hAt
  have hS : va_S A s.heap s.heap [] := va_S.rf
  have hl : lv_has ls 1 [(0, .ref z)] := hl
  have f67 := hts (.fieldLink RX9 67 "PlainLines" "latestFault" "I") (by decide +kernel)
  have iX9 := (by decide +kernel : ∀ w ∈ u_ws RX9 TX9 9, w ∈ wsX9_fault)
  rw [f_X9_fault] at h
  refine lv_aload_n hx hb dX9_fault_0 rfl (lv_at hl 0 rfl) ?_
  refine va_get (D := D) (ci := 8) (v := .int v_latestFault) (C := RX9) (T := TX9) (N := 9) hx hb hts iX9 hown hK hP 0 rfl rfl 8 (by decide) f67 (fun _ h9 => h9) rfl dX9_fault_1 ?_
  cases h
  exact gRi hx hb hr hlocks hP hD hS dX9_fault_4

def f_X9_told (K : Nat) (x1 : Int32) (v_places_n : Int32) (v_places_p : Int32) (v_places_q : Int32) (v_places_goodOnes : Int64) (v_reader_width : Int32) (v_reader_hasRead : Int32) (v_reader_left : Int32) : Option (Int32) :=
  if x1 = 0 then
    some v_places_n
  else
    if x1 = 1 then
      Option.bind (f_X4_goodCount K v_places_goodOnes) fun r_3 =>
      some r_3
    else
      if x1 = 2 then
        some v_places_p
      else
        if x1 = 3 then
          some v_places_q
        else
          if x1 = 4 then
            some v_reader_width
          else
            if x1 = 5 then
              if v_reader_hasRead = 0 then
                some (-9)
              else
                some v_reader_left
            else
              some (-2)
set_option maxHeartbeats 4000000 in
set_option maxRecDepth 100000 in
theorem c_X9_told (l : Launch) (D : va_G) (cy : Nat → ClassId) (t sz K : Nat) (z : Nat) (z_places : Nat) (z_reader : Nat) (z_tally : Nat) (z_sheets : Nat) (z_trail : Nat) (z_frozenPart : Nat) (z_goodPart : Nat) (z_bestPart : Nat) (z_places_uppers : Nat) (z_reader_paths : Nat) (z_reader_nextPaths : Nat) (v_latestFault : Int32) (v_places_n : Int32) (v_places_p : Int32) (v_places_q : Int32) (v_places_goodOnes : Int64) (v_places_frozenOnes : Int64) (v_reader_width : Int32) (v_reader_checkMask : Int64) (v_reader_hasRead : Int32) (v_reader_left : Int32) (v_reader_seenOnes : Int64) (v_reader_seenLost : Int64) (x1 : Int32) (r_ : Int32) (h : f_X9_told K x1 v_places_n v_places_p v_places_q v_places_goodOnes v_reader_width v_reader_hasRead v_reader_left = some r_) : gMi l D cy t sz yX9_told wsX9_told 2 41 [.ref z, .int x1] [(z, .inr (8, [.ref z_places, .ref z_reader, .ref z_tally, .ref z_sheets, .ref z_trail, .ref z_frozenPart, .ref z_goodPart, .ref z_bestPart, .int v_latestFault])), (z_places, .inr (3, [.int v_places_n, .int v_places_p, .int v_places_q, .long v_places_goodOnes, .long v_places_frozenOnes, .ref z_places_uppers])), (z_reader, .inr (4, [.int v_reader_width, .long v_reader_checkMask, .int v_reader_hasRead, .int v_reader_left, .ref z_reader_paths, .ref z_reader_nextPaths, .long v_reader_seenOnes, .long v_reader_seenLost]))] r_ [(z, .inr (8, [.ref z_places, .ref z_reader, .ref z_tally, .ref z_sheets, .ref z_trail, .ref z_frozenPart, .ref z_goodPart, .ref z_bestPart, .int v_latestFault])), (z_places, .inr (3, [.int v_places_n, .int v_places_p, .int v_places_q, .long v_places_goodOnes, .long v_places_frozenOnes, .ref z_places_uppers])), (z_reader, .inr (4, [.int v_reader_width, .long v_reader_checkMask, .int v_reader_hasRead, .int v_reader_left, .ref z_reader_paths, .ref z_reader_nextPaths, .long v_reader_seenOnes, .long v_reader_seenLost]))] := by
  refine gBi (cc := cX9_told) (maxL := 2) (ret := (some .int)) (by decide) rfl (Nat.le_of_ble_eq_true rfl) ?_
  intro p e s m below meth c A ls hAt hl
  obtain ⟨hx, hb, hml, hr, hts, hown, hlocks, hin, hK, hG, hA, hP, hD⟩ := hAt
  have hS : va_S A s.heap s.heap [] := va_S.rf
  have hl : lv_has ls 2 [(0, .ref z), (1, .int x1)] := hl
  have f12 := hts (.fieldLink RX9 12 "PlainLines" "places" "LPlainLines$Places;") (by decide +kernel)
  have iX9 := (by decide +kernel : ∀ w ∈ u_ws RX9 TX9 9, w ∈ wsX9_told)
  have f71 := hts (.fieldLink RX9 71 "PlainLines$Places" "n" "I") (by decide +kernel)
  have iX4 := (by decide +kernel : ∀ w ∈ u_ws RX4 TX4 6, w ∈ wsX9_told)
  have f81 := hts (.fieldLink RX9 81 "PlainLines$Places" "p" "I") (by decide +kernel)
  have f84 := hts (.fieldLink RX9 84 "PlainLines$Places" "q" "I") (by decide +kernel)
  have f21 := hts (.fieldLink RX9 21 "PlainLines" "reader" "LPlainLines$Reader;") (by decide +kernel)
  have f140 := hts (.fieldLink RX9 140 "PlainLines$Reader" "width" "I") (by decide +kernel)
  have iX5 := (by decide +kernel : ∀ w ∈ u_ws RX5 TX5 8, w ∈ wsX9_told)
  have f187 := hts (.fieldLink RX9 187 "PlainLines$Reader" "hasRead" "Z") (by decide +kernel)
  have f175 := hts (.fieldLink RX9 175 "PlainLines$Reader" "left" "I") (by decide +kernel)
  rw [f_X9_told] at h
  refine lv_iload_n hx hb dX9_told_0 rfl (lv_at hl 1 rfl) ?_
  by_cases c_1 : x1 = 0
  · have h := gx_t c_1 h
    refine lv_tableIn (off := 39) (tgt := 40) hx hb dX9_told_1 (by rw [c_1]; decide) (by rw [c_1]; decide) (by rw [c_1]; rfl) (by decide) ?_
    refine lv_aload_n hx hb dX9_told_40 rfl (lv_at hl 0 rfl) ?_
    refine va_get (D := D) (ci := 8) (v := .ref z_places) (C := RX9) (T := TX9) (N := 9) hx hb hts iX9 hown hK hP 0 rfl rfl 0 (by decide) f12 (fun _ h9 => h9) rfl dX9_told_41 ?_
    refine va_get (D := D) (ci := 3) (v := .int v_places_n) (C := RX4) (T := TX4) (N := 6) hx hb hts iX4 hown hK hP 1 rfl rfl 0 (by decide) f71 (fun _ h9 => h9) rfl dX9_told_44 ?_
    cases h
    exact gRi hx hb hr hlocks hP hD hS dX9_told_47
  have h := gx_f c_1 h
  by_cases c_2 : x1 = 1
  · have h := gx_t c_2 h
    refine lv_tableIn (off := 47) (tgt := 48) hx hb dX9_told_1 (by rw [c_2]; decide) (by rw [c_2]; decide) (by rw [c_2]; rfl) (by decide) ?_
    refine lv_aload_n hx hb dX9_told_48 rfl (lv_at hl 0 rfl) ?_
    refine va_get (D := D) (ci := 8) (v := .ref z_places) (C := RX9) (T := TX9) (N := 9) hx hb hts iX9 hown hK hP 0 rfl rfl 0 (by decide) f12 (fun _ h9 => h9) rfl dX9_told_49 ?_
    obtain ⟨r_3, hc_4, h⟩ := gx_b h
    refine gCalli (wr := [(z, .inr (8, [.ref z_places, .ref z_reader, .ref z_tally, .ref z_sheets, .ref z_trail, .ref z_frozenPart, .ref z_goodPart, .ref z_bestPart, .int v_latestFault])), (z_reader, .inr (4, [.int v_reader_width, .long v_reader_checkMask, .int v_reader_hasRead, .int v_reader_left, .ref z_reader_paths, .ref z_reader_nextPaths, .long v_reader_seenOnes, .long v_reader_seenLost]))]) (va_runV (As := []) (rest := []) ⟨hx, hb, hml, hown, hts⟩ (c_X4_goodCount l D cy t s.heap.size K z_places z_places_uppers v_places_n v_places_p v_places_q v_places_goodOnes v_places_frozenOnes r_3 hc_4) (cwV 0 hts gX9_told_X4_goodCount rfl rfl rfl (by decide +kernel) ⟨Nat.le_of_ble_eq_true rfl, Nat.le_of_ble_eq_true rfl⟩) ⟨gBlind, va_recv hK hP (ci := 3) (q0 := 1) rfl rfl, fun U hU hW => ⟨rfl, gPre.call hK hG hA hP hD hS [1] (by decide) rfl U hU hW⟩⟩ rfl rfl hl.1 rfl (lv_room (Nat.le_of_ble_eq_true rfl)) dX9_told_52 ⟨Nat.le_of_ble_eq_true rfl, Nat.le_of_ble_eq_true rfl⟩) hA hP hD hS [1] [0, 2] rfl rfl (by decide) (by decide) (fun H locs hP hD hS => ?_)
    have hP := hP.sub (ws' := [(z, .inr (8, [.ref z_places, .ref z_reader, .ref z_tally, .ref z_sheets, .ref z_trail, .ref z_frozenPart, .ref z_goodPart, .ref z_bestPart, .int v_latestFault])), (z_places, .inr (3, [.int v_places_n, .int v_places_p, .int v_places_q, .long v_places_goodOnes, .long v_places_frozenOnes, .ref z_places_uppers])), (z_reader, .inr (4, [.int v_reader_width, .long v_reader_checkMask, .int v_reader_hasRead, .int v_reader_left, .ref z_reader_paths, .ref z_reader_nextPaths, .long v_reader_seenOnes, .long v_reader_seenLost]))]) [0, 2, 1] rfl
    have hD := hD.sub (ws' := [(z, .inr (8, [.ref z_places, .ref z_reader, .ref z_tally, .ref z_sheets, .ref z_trail, .ref z_frozenPart, .ref z_goodPart, .ref z_bestPart, .int v_latestFault])), (z_places, .inr (3, [.int v_places_n, .int v_places_p, .int v_places_q, .long v_places_goodOnes, .long v_places_frozenOnes, .ref z_places_uppers])), (z_reader, .inr (4, [.int v_reader_width, .long v_reader_checkMask, .int v_reader_hasRead, .int v_reader_left, .ref z_reader_paths, .ref z_reader_nextPaths, .long v_reader_seenOnes, .long v_reader_seenLost]))]) [0, 2, 1] (by decide) rfl
    cases h
    exact gRi hx hb hr hlocks hP hD hS dX9_told_55
  have h := gx_f c_2 h
  by_cases c_5 : x1 = 2
  · have h := gx_t c_5 h
    refine lv_tableIn (off := 55) (tgt := 56) hx hb dX9_told_1 (by rw [c_5]; decide) (by rw [c_5]; decide) (by rw [c_5]; rfl) (by decide) ?_
    refine lv_aload_n hx hb dX9_told_56 rfl (lv_at hl 0 rfl) ?_
    refine va_get (D := D) (ci := 8) (v := .ref z_places) (C := RX9) (T := TX9) (N := 9) hx hb hts iX9 hown hK hP 0 rfl rfl 0 (by decide) f12 (fun _ h9 => h9) rfl dX9_told_57 ?_
    refine va_get (D := D) (ci := 3) (v := .int v_places_p) (C := RX4) (T := TX4) (N := 6) hx hb hts iX4 hown hK hP 1 rfl rfl 1 (by decide) f81 (fun _ h9 => h9) rfl dX9_told_60 ?_
    cases h
    exact gRi hx hb hr hlocks hP hD hS dX9_told_63
  have h := gx_f c_5 h
  by_cases c_6 : x1 = 3
  · have h := gx_t c_6 h
    refine lv_tableIn (off := 63) (tgt := 64) hx hb dX9_told_1 (by rw [c_6]; decide) (by rw [c_6]; decide) (by rw [c_6]; rfl) (by decide) ?_
    refine lv_aload_n hx hb dX9_told_64 rfl (lv_at hl 0 rfl) ?_
    refine va_get (D := D) (ci := 8) (v := .ref z_places) (C := RX9) (T := TX9) (N := 9) hx hb hts iX9 hown hK hP 0 rfl rfl 0 (by decide) f12 (fun _ h9 => h9) rfl dX9_told_65 ?_
    refine va_get (D := D) (ci := 3) (v := .int v_places_q) (C := RX4) (T := TX4) (N := 6) hx hb hts iX4 hown hK hP 1 rfl rfl 2 (by decide) f84 (fun _ h9 => h9) rfl dX9_told_68 ?_
    cases h
    exact gRi hx hb hr hlocks hP hD hS dX9_told_71
  have h := gx_f c_6 h
  by_cases c_7 : x1 = 4
  · have h := gx_t c_7 h
    refine lv_tableIn (off := 71) (tgt := 72) hx hb dX9_told_1 (by rw [c_7]; decide) (by rw [c_7]; decide) (by rw [c_7]; rfl) (by decide) ?_
    refine lv_aload_n hx hb dX9_told_72 rfl (lv_at hl 0 rfl) ?_
    refine va_get (D := D) (ci := 8) (v := .ref z_reader) (C := RX9) (T := TX9) (N := 9) hx hb hts iX9 hown hK hP 0 rfl rfl 1 (by decide) f21 (fun _ h9 => h9) rfl dX9_told_73 ?_
    refine va_get (D := D) (ci := 4) (v := .int v_reader_width) (C := RX5) (T := TX5) (N := 8) hx hb hts iX5 hown hK hP 2 rfl rfl 0 (by decide) f140 (fun _ h9 => h9) rfl dX9_told_76 ?_
    cases h
    exact gRi hx hb hr hlocks hP hD hS dX9_told_79
  have h := gx_f c_7 h
  by_cases c_8 : x1 = 5
  · have h := gx_t c_8 h
    refine lv_tableIn (off := 79) (tgt := 80) hx hb dX9_told_1 (by rw [c_8]; decide) (by rw [c_8]; decide) (by rw [c_8]; rfl) (by decide) ?_
    refine lv_aload_n hx hb dX9_told_80 rfl (lv_at hl 0 rfl) ?_
    refine va_get (D := D) (ci := 8) (v := .ref z_reader) (C := RX9) (T := TX9) (N := 9) hx hb hts iX9 hown hK hP 0 rfl rfl 1 (by decide) f21 (fun _ h9 => h9) rfl dX9_told_81 ?_
    refine va_get (D := D) (ci := 4) (v := .int v_reader_hasRead) (C := RX5) (T := TX5) (N := 8) hx hb hts iX5 hown hK hP 2 rfl rfl 2 (by decide) f187 (fun _ h9 => h9) rfl dX9_told_84 ?_
    refine lv_if_eq (tgt := 100) hx hb dX9_told_87 (by decide) (fun c_9 => ?_) (fun c_9 => ?_)
    · have h := gx_t c_9 h
      refine lv_bipush (v := (-9)) hx hb dX9_told_100 (by decide) ?_
      cases h
      exact gRi hx hb hr hlocks hP hD hS dX9_told_102
    · have h := gx_f c_9 h
      refine lv_aload_n hx hb dX9_told_90 rfl (lv_at hl 0 rfl) ?_
      refine va_get (D := D) (ci := 8) (v := .ref z_reader) (C := RX9) (T := TX9) (N := 9) hx hb hts iX9 hown hK hP 0 rfl rfl 1 (by decide) f21 (fun _ h9 => h9) rfl dX9_told_91 ?_
      refine va_get (D := D) (ci := 4) (v := .int v_reader_left) (C := RX5) (T := TX5) (N := 8) hx hb hts iX5 hown hK hP 2 rfl rfl 3 (by decide) f175 (fun _ h9 => h9) rfl dX9_told_94 ?_
      refine lv_goto (tgt := 102) hx hb dX9_told_97 (by decide) ?_
      cases h
      exact gRi hx hb hr hlocks hP hD hS dX9_told_102
  have h := gx_f c_8 h
  refine lv_tableOut (tgt := 103) hx hb dX9_told_1 (gTab5 c_1 c_2 c_5 c_6 c_7 c_8) (by decide) ?_
  refine lv_bipush (v := (-2)) hx hb dX9_told_103 (by decide) ?_
  cases h
  exact gRi hx hb hr hlocks hP hD hS dX9_told_105
