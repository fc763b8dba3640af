def f_X8_leave (K : Nat) (x1 : Int32) (v_trace : Int32) : Option (Int32) :=
  gLet ((31 * v_trace) + x1) fun y_1 =>
  some y_1
set_option maxHeartbeats 4000000 in
set_option maxRecDepth 100000 in
theorem c_X8_leave (l : Launch) (D : va_G) (cy : Nat → ClassId) (t sz K : Nat) (z : Nat) (v_trace : Int32) (x1 : Int32) (o_v_trace : Int32) (h : f_X8_leave K x1 v_trace = some o_v_trace) : gMv l D cy t sz yX8_leave wsX8_leave 0 0 [.ref z, .int x1] [(z, .inr (7, [.int v_trace]))] [(z, .inr (7, [.int o_v_trace]))] := by
  refine gBv (cc := cX8_leave) (maxL := 2) (ret := none) (by decide) rfl (Nat.le_of_ble_eq_true rfl) ?_
  intro p e s m below meth c A ls hAt hl
  obtain ⟨hx, hb, hml, hr, hts, hown, hlocks, hin, hK, hG, hA, hP, hD⟩ := hAt
  have hS : va_S A s.heap s.heap [] := va_S.rf
  have hl : lv_has ls 2 [(0, .ref z), (1, .int x1)] := hl
  have f7 := hts (.fieldLink RX8 7 "PlainLines$Trail" "trace" "I") (by decide +kernel)
  have iX8 := (by decide +kernel : ∀ w ∈ u_ws RX8 TX8 1, w ∈ wsX8_leave)
  rw [f_X8_leave] at h
  refine lv_aload_n hx hb dX8_leave_0 rfl (lv_at hl 0 rfl) ?_
  refine lv_bipush (v := 31) hx hb dX8_leave_1 (by decide) ?_
  refine lv_aload_n hx hb dX8_leave_3 rfl (lv_at hl 0 rfl) ?_
  refine va_get (D := D) (ci := 7) (v := .int v_trace) (C := RX8) (T := TX8) (N := 1) hx hb hts iX8 hown hK hP 0 rfl rfl 0 (by decide) f7 (fun _ h9 => h9) rfl dX8_leave_4 ?_
  refine lv_imul hx hb dX8_leave_7 ?_
  refine lv_iload_n hx hb dX8_leave_8 rfl (lv_at hl 1 rfl) ?_
  refine lv_iadd hx hb dX8_leave_9 ?_
  refine lv_topi (fun y_1 e_y_1 => ?_)
  have h := gx_let e_y_1 h
  refine va_put (D := D) (ci := 7) (v := .int y_1) (ty := .int) (C := RX8) (T := TX8) (N := 1) hx hb hts iX8 tyX8 tyX8_ok nmX8 hown hK hP hD hS 0 rfl rfl 0 (by decide) f7 (fun _ h9 => h9) rfl (by decide +kernel) rfl rfl (Nat.le_of_ble_eq_true rfl) dX8_leave_10 (fun H locs hP hD hS => ?_)
  have hP : va_P D vwCl [(z, .inr (7, [.int y_1]))] H := hP
  have hD : va_D A [(z, .inr (7, [.int y_1]))] := hD
  cases h
  exact gRv hx hb hr hlocks hP hD hS dX8_leave_13

def f_X2_telling (K : Nat) (x3 : Int32) (v2_trace : Int32) : Option (Int32 × Int32) :=
  Option.bind (f_X8_leave K 2 v2_trace) fun o_1 =>
  some ((x3 + 10), o_1)
set_option maxHeartbeats 4000000 in
set_option maxRecDepth 100000 in
theorem c_X2_telling (l : Launch) (D : va_G) (cy : Nat → ClassId) (t sz K : Nat) (z2 : Nat) (z : Nat) (z1 : Nat) (v2_trace : Int32) (x3 : Int32) (r_ : Int32) (o_v2_trace : Int32) (h : f_X2_telling K x3 v2_trace = some (r_, o_v2_trace)) : gMi l D cy t sz yX2_telling wsX2_telling 1 21 [.ref z, .ref z1, .ref z2, .int x3] [(z2, .inr (7, [.int v2_trace]))] r_ [(z2, .inr (7, [.int o_v2_trace]))] := by
  refine gBi (cc := cX2_telling) (maxL := 4) (ret := (some .int)) (by decide) rfl (Nat.le_of_ble_eq_true rfl) ?_
  intro p e s m below meth c A ls hAt hl
  obtain ⟨hx, hb, hml, hr, hts, hown, hlocks, hin, hK, hG, hA, hP, hD⟩ := hAt
  have hS : va_S A s.heap s.heap [] := va_S.rf
  have hl : lv_has ls 4 [(0, .ref z), (1, .ref z1), (2, .ref z2), (3, .int x3)] := hl
  rw [f_X2_telling] at h
  refine lv_aload_n hx hb dX2_telling_0 rfl (lv_at hl 2 rfl) ?_
  refine lv_iconst (v := 2) hx hb dX2_telling_1 (by decide) ?_
  obtain ⟨o_1, hc_2, h⟩ := gx_b h
  refine gCallv (wr := []) (va_runV (As := [.int 2]) (rest := []) ⟨hx, hb, hml, hown, hts⟩ (c_X8_leave l D cy t s.heap.size K z2 v2_trace 2 o_1 hc_2) (cwV 1 hts gX2_telling_X8_leave rfl rfl rfl (by decide +kernel) ⟨Nat.le_of_ble_eq_true rfl, Nat.le_of_ble_eq_true rfl⟩) ⟨gBlind, va_recv hK hP (ci := 7) (q0 := 0) rfl rfl, fun U hU hW => ⟨rfl, gPre.call hK hG hA hP hD hS [0] (by decide) rfl U hU hW⟩⟩ rfl rfl hl.1 rfl (lv_room (Nat.le_of_ble_eq_true rfl)) dX2_telling_2 ⟨Nat.le_of_ble_eq_true rfl, Nat.le_of_ble_eq_true rfl⟩) hA hP hD hS [0] [] rfl rfl (by decide) (by decide) (fun H locs hP hD hS => ?_)
  have hP : va_P D vwCl [(z2, .inr (7, [.int o_1]))] H := hP
  have hD : va_D A [(z2, .inr (7, [.int o_1]))] := hD
  refine lv_iload_n hx hb dX2_telling_5 rfl (lv_at hl 3 rfl) ?_
  refine lv_bipush (v := 10) hx hb dX2_telling_6 (by decide) ?_
  refine lv_iadd hx hb dX2_telling_8 ?_
  cases h
  exact gRi hx hb hr hlocks hP hD hS dX2_telling_9

def f_X0_telling (K : Nat) (x3 : Int32) (v2_trace : Int32) : Option (Int32 × Int32) :=
  Option.bind (f_X8_leave K 3 v2_trace) fun o_1 =>
  Option.bind (f_X2_telling K x3 o_1) fun (r_2, o_3) =>
  some ((2 * r_2), o_3)
set_option maxHeartbeats 4000000 in
set_option maxRecDepth 100000 in
theorem c_X0_telling (l : Launch) (D : va_G) (cy : Nat → ClassId) (t sz K : Nat) (z2 : Nat) (z : Nat) (z1 : Nat) (v2_trace : Int32) (x3 : Int32) (r_ : Int32) (o_v2_trace : Int32) (h : f_X0_telling K x3 v2_trace = some (r_, o_v2_trace)) : gMi l D cy t sz yX0_telling wsX0_telling 2 44 [.ref z, .ref z1, .ref z2, .int x3] [(z2, .inr (7, [.int v2_trace])), (z, .inr (0, []))] r_ [(z2, .inr (7, [.int o_v2_trace])), (z, .inr (0, []))] := by
  refine gBi (cc := cX0_telling) (maxL := 4) (ret := (some .int)) (by decide) rfl (Nat.le_of_ble_eq_true rfl) ?_
  intro p e s m below meth c A ls hAt hl
  obtain ⟨hx, hb, hml, hr, hts, hown, hlocks, hin, hK, hG, hA, hP, hD⟩ := hAt
  have hS : va_S A s.heap s.heap [] := va_S.rf
  have hl : lv_has ls 4 [(0, .ref z), (1, .ref z1), (2, .ref z2), (3, .int x3)] := hl
  rw [f_X0_telling] at h
  refine lv_aload_n hx hb dX0_telling_0 rfl (lv_at hl 2 rfl) ?_
  refine lv_iconst (v := 3) hx hb dX0_telling_1 (by decide) ?_
  obtain ⟨o_1, hc_2, h⟩ := gx_b h
  refine gCallv (wr := [(z, .inr (0, []))]) (va_runV (As := [.int 3]) (rest := []) ⟨hx, hb, hml, hown, hts⟩ (c_X8_leave l D cy t s.heap.size K z2 v2_trace 3 o_1 hc_2) (cwV 1 hts gX0_telling_X8_leave rfl rfl rfl (by decide +kernel) ⟨Nat.le_of_ble_eq_true rfl, Nat.le_of_ble_eq_true rfl⟩) ⟨gBlind, va_recv hK hP (ci := 7) (q0 := 0) rfl rfl, fun U hU hW => ⟨rfl, gPre.call hK hG hA hP hD hS [0] (by decide) rfl U hU hW⟩⟩ rfl rfl hl.1 rfl (lv_room (Nat.le_of_ble_eq_true rfl)) dX0_telling_2 ⟨Nat.le_of_ble_eq_true rfl, Nat.le_of_ble_eq_true rfl⟩) hA hP hD hS [0] [1] rfl rfl (by decide) (by decide) (fun H locs hP hD hS => ?_)
  have hP := hP.sub (ws' := [(z2, .inr (7, [.int o_1])), (z, .inr (0, []))]) [1, 0] rfl
  have hD := hD.sub (ws' := [(z2, .inr (7, [.int o_1])), (z, .inr (0, []))]) [1, 0] (by decide) rfl
  refine lv_iconst (v := 2) hx hb dX0_telling_5 (by decide) ?_
  refine lv_aload_n hx hb dX0_telling_6 rfl (lv_at hl 0 rfl) ?_
  refine lv_aload_n hx hb dX0_telling_7 rfl (lv_at hl 1 rfl) ?_
  refine lv_aload_n hx hb dX0_telling_8 rfl (lv_at hl 2 rfl) ?_
  refine lv_iload_n hx hb dX0_telling_9 rfl (lv_at hl 3 rfl) ?_
  obtain ⟨⟨r_3, o_4⟩, hc_5, h⟩ := gx_b h
  refine gCalli (wr := [(z, .inr (0, []))]) (va_runSU (As := [.ref z1, .ref z2, .int x3]) (rest := [.int 2]) (hK.1 0 _ rfl).2 ⟨hx, hb, hml, hown, hts⟩ (c_X2_telling l D cy t H.size K z2 z z1 o_1 x3 r_3 o_4 hc_5) (va_cwSU 3 hts gX0_telling_X2_telling_s13 rfl rfl rfl (by decide +kernel) ⟨Nat.le_of_ble_eq_true rfl, Nat.le_of_ble_eq_true rfl⟩) ⟨gBlind, va_recv hK hP (ci := 0) (q0 := 1) rfl rfl, fun U hU hW => ⟨rfl, gPre.call hK hG hA hP hD hS [0] (by decide) rfl U hU hW⟩⟩ rfl rfl hl.1 rfl (lv_room (Nat.le_of_ble_eq_true rfl)) dX0_telling_10 ⟨Nat.le_of_ble_eq_true rfl, Nat.le_of_ble_eq_true rfl⟩) hA hP hD hS [0] [1] rfl rfl (by decide) (by decide) (fun H locs hP hD hS => ?_)
  have hP := hP.sub (ws' := [(z2, .inr (7, [.int o_4])), (z, .inr (0, []))]) [1, 0] rfl
  have hD := hD.sub (ws' := [(z2, .inr (7, [.int o_4])), (z, .inr (0, []))]) [1, 0] (by decide) rfl
  refine lv_imul hx hb dX0_telling_13 ?_
  cases h
  exact gRi hx hb hr hlocks hP hD hS dX0_telling_14

def f_X4_frozenBit (K : Nat) (x1 : Int32) (v_frozenOnes : Int64) : Option (Int32) :=
  some (Int64.toInt32 ((gLushr v_frozenOnes x1) &&& 1))
set_option maxHeartbeats 4000000 in
set_option maxRecDepth 100000 in
theorem c_X4_frozenBit (l : Launch) (D : va_G) (cy : Nat → ClassId) (t sz K : Nat) (z : Nat) (z_uppers : Nat) (v_n : Int32) (v_p : Int32) (v_q : Int32) (v_goodOnes : Int64) (v_frozenOnes : Int64) (x1 : Int32) (r_ : Int32) (h : f_X4_frozenBit K x1 v_frozenOnes = some r_) : gMi l D cy t sz yX4_frozenBit wsX4_frozenBit 0 0 [.ref z, .int x1] [(z, .inr (3, [.int v_n, .int v_p, .int v_q, .long v_goodOnes, .long v_frozenOnes, .ref z_uppers]))] r_ [(z, .inr (3, [.int v_n, .int v_p, .int v_q, .long v_goodOnes, .long v_frozenOnes, .ref z_uppers]))] := by
  refine gBi (cc := cX4_frozenBit) (maxL := 2) (ret := (some .int)) (by decide) rfl (Nat.le_of_ble_eq_true rfl) ?_
  intro p e s m below meth c A ls hAt hl
  obtain ⟨hx, hb, hml, hr, hts, hown, hlocks, hin, hK, hG, hA, hP, hD⟩ := hAt
  have hS : va_S A s.heap s.heap [] := va_S.rf
  have hl : lv_has ls 2 [(0, .ref z), (1, .int x1)] := hl
  have f29 := hts (.fieldLink RX4 29 "PlainLines$Places" "frozenOnes" "J") (by decide +kernel)
  have iX4 := (by decide +kernel : ∀ w ∈ u_ws RX4 TX4 6, w ∈ wsX4_frozenBit)
  rw [f_X4_frozenBit] at h
  refine lv_aload_n hx hb dX4_frozenBit_0 rfl (lv_at hl 0 rfl) ?_
  refine va_get (D := D) (ci := 3) (v := .long v_frozenOnes) (C := RX4) (T := TX4) (N := 6) hx hb hts iX4 hown hK hP 0 rfl rfl 4 (by decide) f29 (fun _ h9 => h9) rfl dX4_frozenBit_1 ?_
  refine lv_iload_n hx hb dX4_frozenBit_4 rfl (lv_at hl 1 rfl) ?_
  refine lv_lushr (v := (gLushr v_frozenOnes x1)) hx hb dX4_frozenBit_5 rfl ?_
  refine lv_lconst (v := 1) hx hb dX4_frozenBit_6 (by decide) ?_
  refine lv_land hx hb dX4_frozenBit_7 ?_
  refine lv_l2i (v := (Int64.toInt32 ((gLushr v_frozenOnes x1) &&& 1))) hx hb dX4_frozenBit_8 rfl ?_
  cases h
  exact gRi hx hb hr hlocks hP hD hS dX4_frozenBit_9

def f_X1_telling (K : Nat) (x3 : Int32) (v2_trace : Int32) (v1_frozenOnes : Int64) : Option (Int32 × Int32) :=
  Option.bind (f_X8_leave K 1 v2_trace) fun o_1 =>
  Option.bind (f_X4_frozenBit K x3 v1_frozenOnes) fun r_2 =>
  some (r_2, o_1)
set_option maxHeartbeats 4000000 in
set_option maxRecDepth 100000 in
theorem c_X1_telling (l : Launch) (D : va_G) (cy : Nat → ClassId) (t sz K : Nat) (z2 : Nat) (z1 : Nat) (z1_uppers : Nat) (z : Nat) (v2_trace : Int32) (v1_n : Int32) (v1_p : Int32) (v1_q : Int32) (v1_goodOnes : Int64) (v1_frozenOnes : Int64) (x3 : Int32) (r_ : Int32) (o_v2_trace : Int32) (h : f_X1_telling K x3 v2_trace v1_frozenOnes = some (r_, o_v2_trace)) : gMi l D cy t sz yX1_telling wsX1_telling 1 21 [.ref z, .ref z1, .ref z2, .int x3] [(z2, .inr (7, [.int v2_trace])), (z1, .inr (3, [.int v1_n, .int v1_p, .int v1_q, .long v1_goodOnes, .long v1_frozenOnes, .ref z1_uppers]))] r_ [(z2, .inr (7, [.int o_v2_trace])), (z1, .inr (3, [.int v1_n, .int v1_p, .int v1_q, .long v1_goodOnes, .long v1_frozenOnes, .ref z1_uppers]))] := by
  refine gBi (cc := cX1_telling) (maxL := 4) (ret := (some .int)) (by decide) rfl (Nat.le_of_ble_eq_true rfl) ?_
  intro p e s m below meth c A ls hAt hl
  obtain ⟨hx, hb, hml, hr, hts, hown, hlocks, hin, hK, hG, hA, hP, hD⟩ := hAt
  have hS : va_S A s.heap s.heap [] := va_S.rf
  have hl : lv_has ls 4 [(0, .ref z), (1, .ref z1), (2, .ref z2), (3, .int x3)] := hl
  rw [f_X1_telling] at h
  refine lv_aload_n hx hb dX1_telling_0 rfl (lv_at hl 2 rfl) ?_
  refine lv_iconst (v := 1) hx hb dX1_telling_1 (by decide) ?_
  obtain ⟨o_1, hc_2, h⟩ := gx_b h
  refine gCallv (wr := [(z1, .inr (3, [.int v1_n, .int v1_p, .int v1_q, .long v1_goodOnes, .long v1_frozenOnes, .ref z1_uppers]))]) (va_runV (As := [.int 1]) (rest := []) ⟨hx, hb, hml, hown, hts⟩ (c_X8_leave l D cy t s.heap.size K z2 v2_trace 1 o_1 hc_2) (cwV 1 hts gX1_telling_X8_leave rfl rfl rfl (by decide +kernel) ⟨Nat.le_of_ble_eq_true rfl, Nat.le_of_ble_eq_true rfl⟩) ⟨gBlind, va_recv hK hP (ci := 7) (q0 := 0) rfl rfl, fun U hU hW => ⟨rfl, gPre.call hK hG hA hP hD hS [0] (by decide) rfl U hU hW⟩⟩ rfl rfl hl.1 rfl (lv_room (Nat.le_of_ble_eq_true rfl)) dX1_telling_2 ⟨Nat.le_of_ble_eq_true rfl, Nat.le_of_ble_eq_true rfl⟩) hA hP hD hS [0] [1] rfl rfl (by decide) (by decide) (fun H locs hP hD hS => ?_)
  have hP := hP.sub (ws' := [(z2, .inr (7, [.int o_1])), (z1, .inr (3, [.int v1_n, .int v1_p, .int v1_q, .long v1_goodOnes, .long v1_frozenOnes, .ref z1_uppers]))]) [1, 0] rfl
  have hD := hD.sub (ws' := [(z2, .inr (7, [.int o_1])), (z1, .inr (3, [.int v1_n, .int v1_p, .int v1_q, .long v1_goodOnes, .long v1_frozenOnes, .ref z1_uppers]))]) [1, 0] (by decide) rfl
  refine lv_aload_n hx hb dX1_telling_5 rfl (lv_at hl 1 rfl) ?_
  refine lv_iload_n hx hb dX1_telling_6 rfl (lv_at hl 3 rfl) ?_
  obtain ⟨r_3, hc_4, h⟩ := gx_b h
  refine gCalli (wr := [(z2, .inr (7, [.int o_1]))]) (va_runV (As := [.int x3]) (rest := []) ⟨hx, hb, hml, hown, hts⟩ (c_X4_frozenBit l D cy t H.size K z1 z1_uppers v1_n v1_p v1_q v1_goodOnes v1_frozenOnes x3 r_3 hc_4) (cwV 1 hts gX1_telling_X4_frozenBit rfl rfl rfl (by decide +kernel) ⟨Nat.le_of_ble_eq_true rfl, Nat.le_of_ble_eq_true rfl⟩) ⟨gBlind, va_recv hK hP (ci := 3) (q0 := 1) rfl rfl, fun U hU hW => ⟨rfl, gPre.call hK hG hA hP hD hS [1] (by decide) rfl U hU hW⟩⟩ rfl rfl hl.1 rfl (lv_room (Nat.le_of_ble_eq_true rfl)) dX1_telling_7 ⟨Nat.le_of_ble_eq_true rfl, Nat.le_of_ble_eq_true rfl⟩) hA hP hD hS [1] [0] rfl rfl (by decide) (by decide) (fun H locs hP hD hS => ?_)
  have hP : va_P D vwCl [(z2, .inr (7, [.int o_1])), (z1, .inr (3, [.int v1_n, .int v1_p, .int v1_q, .long v1_goodOnes, .long v1_frozenOnes, .ref z1_uppers]))] H := hP
  have hD : va_D A [(z2, .inr (7, [.int o_1])), (z1, .inr (3, [.int v1_n, .int v1_p, .int v1_q, .long v1_goodOnes, .long v1_frozenOnes, .ref z1_uppers]))] := hD
  cases h
  exact gRi hx hb hr hlocks hP hD hS dX1_telling_10

def f_X2_weighing (K : Nat) (x3 : Int32) (v2_trace : Int32) (v1_n : Int32) : Option (Int32 × Int32) :=
  Option.bind (f_X8_leave K 5 v2_trace) fun o_1 =>
  some ((v1_n - x3), o_1)
set_option maxHeartbeats 4000000 in
set_option maxRecDepth 100000 in
theorem c_X2_weighing (l : Launch) (D : va_G) (cy : Nat → ClassId) (t sz K : Nat) (z2 : Nat) (z1 : Nat) (z1_uppers : Nat) (z : Nat) (v2_trace : Int32) (v1_n : Int32) (v1_p : Int32) (v1_q : Int32) (v1_goodOnes : Int64) (v1_frozenOnes : Int64) (x3 : Int32) (r_ : Int32) (o_v2_trace : Int32) (h : f_X2_weighing K x3 v2_trace v1_n = some (r_, o_v2_trace)) : gMi l D cy t sz yX2_weighing wsX2_weighing 1 21 [.ref z, .ref z1, .ref z2, .int x3] [(z2, .inr (7, [.int v2_trace])), (z1, .inr (3, [.int v1_n, .int v1_p, .int v1_q, .long v1_goodOnes, .long v1_frozenOnes, .ref z1_uppers]))] r_ [(z2, .inr (7, [.int o_v2_trace])), (z1, .inr (3, [.int v1_n, .int v1_p, .int v1_q, .long v1_goodOnes, .long v1_frozenOnes, .ref z1_uppers]))] := by
  refine gBi (cc := cX2_weighing) (maxL := 4) (ret := (some .int)) (by decide) rfl (Nat.le_of_ble_eq_true rfl) ?_
  intro p e s m below meth c A ls hAt hl
  obtain ⟨hx, hb, hml, hr, hts, hown, hlocks, hin, hK, hG, hA, hP, hD⟩ := hAt
  have hS : va_S A s.heap s.heap [] := va_S.rf
  have hl : lv_has ls 4 [(0, .ref z), (1, .ref z1), (2, .ref z2), (3, .int x3)] := hl
  have f13 := hts (.fieldLink RX2 13 "PlainLines$Places" "n" "I") (by decide +kernel)
  have iX4 := (by decide +kernel : ∀ w ∈ u_ws RX4 TX4 6, w ∈ wsX2_weighing)
  rw [f_X2_weighing] at h
  refine lv_aload_n hx hb dX2_weighing_0 rfl (lv_at hl 2 rfl) ?_
  refine lv_iconst (v := 5) hx hb dX2_weighing_1 (by decide) ?_
  obtain ⟨o_1, hc_2, h⟩ := gx_b h
  refine gCallv (wr := [(z1, .inr (3, [.int v1_n, .int v1_p, .int v1_q, .long v1_goodOnes, .long v1_frozenOnes, .ref z1_uppers]))]) (va_runV (As := [.int 5]) (rest := []) ⟨hx, hb, hml, hown, hts⟩ (c_X8_leave l D cy t s.heap.size K z2 v2_trace 5 o_1 hc_2) (cwV 1 hts gX2_weighing_X8_leave rfl rfl rfl (by decide +kernel) ⟨Nat.le_of_ble_eq_true rfl, Nat.le_of_ble_eq_true rfl⟩) ⟨gBlind, va_recv hK hP (ci := 7) (q0 := 0) rfl rfl, fun U hU hW => ⟨rfl, gPre.call hK hG hA hP hD hS [0] (by decide) rfl U hU hW⟩⟩ rfl rfl hl.1 rfl (lv_room (Nat.le_of_ble_eq_true rfl)) dX2_weighing_2 ⟨Nat.le_of_ble_eq_true rfl, Nat.le_of_ble_eq_true rfl⟩) hA hP hD hS [0] [1] rfl rfl (by decide) (by decide) (fun H locs hP hD hS => ?_)
  have hP := hP.sub (ws' := [(z2, .inr (7, [.int o_1])), (z1, .inr (3, [.int v1_n, .int v1_p, .int v1_q, .long v1_goodOnes, .long v1_frozenOnes, .ref z1_uppers]))]) [1, 0] rfl
  have hD := hD.sub (ws' := [(z2, .inr (7, [.int o_1])), (z1, .inr (3, [.int v1_n, .int v1_p, .int v1_q, .long v1_goodOnes, .long v1_frozenOnes, .ref z1_uppers]))]) [1, 0] (by decide) rfl
  refine lv_aload_n hx hb dX2_weighing_5 rfl (lv_at hl 1 rfl) ?_
  refine va_get (D := D) (ci := 3) (v := .int v1_n) (C := RX4) (T := TX4) (N := 6) hx hb hts iX4 hown hK hP 1 rfl rfl 0 (by decide) f13 (fun _ h9 => h9) rfl dX2_weighing_6 ?_
  refine lv_iload_n hx hb dX2_weighing_9 rfl (lv_at hl 3 rfl) ?_
  refine lv_isub hx hb dX2_weighing_10 ?_
  cases h
  exact gRi hx hb hr hlocks hP hD hS dX2_weighing_11

def f_X3_weighing (K : Nat) (x3 : Int32) (v2_trace : Int32) : Option (Int32 × Int32) :=
  Option.bind (f_X8_leave K 4 v2_trace) fun o_1 =>
  some (x3, o_1)
set_option maxHeartbeats 4000000 in
set_option maxRecDepth 100000 in
theorem c_X3_weighing (l : Launch) (D : va_G) (cy : Nat → ClassId) (t sz K : Nat) (z2 : Nat) (z : Nat) (z1 : Nat) (v2_trace : Int32) (x3 : Int32) (r_ : Int32) (o_v2_trace : Int32) (h : f_X3_weighing K x3 v2_trace = some (r_, o_v2_trace)) : gMi l D cy t sz yX3_weighing wsX3_weighing 1 21 [.ref z, .ref z1, .ref z2, .int x3] [(z2, .inr (7, [.int v2_trace]))] r_ [(z2, .inr (7, [.int o_v2_trace]))] := by
  refine gBi (cc := cX3_weighing) (maxL := 4) (ret := (some .int)) (by decide) rfl (Nat.le_of_ble_eq_true rfl) ?_
  intro p e s m below meth c A ls hAt hl
  obtain ⟨hx, hb, hml, hr, hts, hown, hlocks, hin, hK, hG, hA, hP, hD⟩ := hAt
  have hS : va_S A s.heap s.heap [] := va_S.rf
  have hl : lv_has ls 4 [(0, .ref z), (1, .ref z1), (2, .ref z2), (3, .int x3)] := hl
  rw [f_X3_weighing] at h
  refine lv_aload_n hx hb dX3_weighing_0 rfl (lv_at hl 2 rfl) ?_
  refine lv_iconst (v := 4) hx hb dX3_weighing_1 (by decide) ?_
  obtain ⟨o_1, hc_2, h⟩ := gx_b h
  refine gCallv (wr := []) (va_runV (As := [.int 4]) (rest := []) ⟨hx, hb, hml, hown, hts⟩ (c_X8_leave l D cy t s.heap.size K z2 v2_trace 4 o_1 hc_2) (cwV 1 hts gX3_weighing_X8_leave rfl rfl rfl (by decide +kernel) ⟨Nat.le_of_ble_eq_true rfl, Nat.le_of_ble_eq_true rfl⟩) ⟨gBlind, va_recv hK hP (ci := 7) (q0 := 0) rfl rfl, fun U hU hW => ⟨rfl, gPre.call hK hG hA hP hD hS [0] (by decide) rfl U hU hW⟩⟩ rfl rfl hl.1 rfl (lv_room (Nat.le_of_ble_eq_true rfl)) dX3_weighing_2 ⟨Nat.le_of_ble_eq_true rfl, Nat.le_of_ble_eq_true rfl⟩) hA hP hD hS [0] [] rfl rfl (by decide) (by decide) (fun H locs hP hD hS => ?_)
  have hP : va_P D vwCl [(z2, .inr (7, [.int o_1]))] H := hP
  have hD : va_D A [(z2, .inr (7, [.int o_1]))] := hD
  refine lv_iload_n hx hb dX3_weighing_5 rfl (lv_at hl 3 rfl) ?_
  cases h
  exact gRi hx hb hr hlocks hP hD hS dX3_weighing_6

def f_X4_has (K : Nat) (x1 : Int32) (v_n : Int32) : Option (Int32) :=
  if x1 < 0 then
    some 0
  else
    if v_n ≤ x1 then
      some 0
    else
      some 1
set_option maxHeartbeats 4000000 in
set_option maxRecDepth 100000 in
theorem c_X4_has (l : Launch) (D : va_G) (cy : Nat → ClassId) (t sz K : Nat) (z : Nat) (z_uppers : Nat) (v_n : Int32) (v_p : Int32) (v_q : Int32) (v_goodOnes : Int64) (v_frozenOnes : Int64) (x1 : Int32) (r_ : Int32) (h : f_X4_has K x1 v_n = some r_) : gMi l D cy t sz yX4_has wsX4_has 0 0 [.ref z, .int x1] [(z, .inr (3, [.int v_n, .int v_p, .int v_q, .long v_goodOnes, .long v_frozenOnes, .ref z_uppers]))] r_ [(z, .inr (3, [.int v_n, .int v_p, .int v_q, .long v_goodOnes, .long v_frozenOnes, .ref z_uppers]))] := by
  refine gBi (cc := cX4_has) (maxL := 2) (ret := (some .boolean)) (by decide) rfl (Nat.le_of_ble_eq_true rfl) ?_
  intro p e s m below meth c A ls hAt hl
  obtain ⟨hx, hb, hml, hr, hts, hown, hlocks, hin, hK, hG, hA, hP, hD⟩ := hAt
  have hS : va_S A s.heap s.heap [] := va_S.rf
  have hl : lv_has ls 2 [(0, .ref z), (1, .int x1)] := hl
  have f9 := hts (.fieldLink RX4 9 "PlainLines$Places" "n" "I") (by decide +kernel)
  have iX4 := (by decide +kernel : ∀ w ∈ u_ws RX4 TX4 6, w ∈ wsX4_has)
  rw [f_X4_has] at h
  refine lv_iload_n hx hb dX4_has_0 rfl (lv_at hl 1 rfl) ?_
  refine lv_if_lt (tgt := 16) hx hb dX4_has_1 (by decide) (fun c_1 => ?_) (fun c_1 => ?_)
  · have h := gx_t c_1 h
    refine lv_iconst (v := 0) hx hb dX4_has_16 (by decide) ?_
    cases h
    exact gRz hx hb hr hlocks rfl hP hD hS dX4_has_17
  · have h := gx_f c_1 h
    refine lv_iload_n hx hb dX4_has_4 rfl (lv_at hl 1 rfl) ?_
    refine lv_aload_n hx hb dX4_has_5 rfl (lv_at hl 0 rfl) ?_
    refine va_get (D := D) (ci := 3) (v := .int v_n) (C := RX4) (T := TX4) (N := 6) hx hb hts iX4 hown hK hP 0 rfl rfl 0 (by decide) f9 (fun _ h9 => h9) rfl dX4_has_6 ?_
    refine lv_icmp_ge (tgt := 16) hx hb dX4_has_9 (by decide) (fun c_2 => ?_) (fun c_2 => ?_)
    · have h := gx_t c_2 h
      refine lv_iconst (v := 0) hx hb dX4_has_16 (by decide) ?_
      cases h
      exact gRz hx hb hr hlocks rfl hP hD hS dX4_has_17
    · have h := gx_f c_2 h
      refine lv_iconst (v := 1) hx hb dX4_has_12 (by decide) ?_
      refine lv_goto (tgt := 17) hx hb dX4_has_13 (by decide) ?_
      cases h
      exact gRz hx hb hr hlocks rfl hP hD hS dX4_has_17

def f_X4_isGood (K : Nat) (x1 : Int32) (v_goodOnes : Int64) : Option (Int32) :=
  if (lg_cmp ((gLushr v_goodOnes x1) &&& 1) 0) = 0 then
    some 0
  else
    some 1
set_option maxHeartbeats 4000000 in
set_option maxRecDepth 100000 in
theorem c_X4_isGood (l : Launch) (D : va_G) (cy : Nat → ClassId) (t sz K : Nat) (z : Nat) (z_uppers : Nat) (v_n : Int32) (v_p : Int32) (v_q : Int32) (v_goodOnes : Int64) (v_frozenOnes : Int64) (x1 : Int32) (r_ : Int32) (h : f_X4_isGood K x1 v_goodOnes = some r_) : gMi l D cy t sz yX4_isGood wsX4_isGood 0 0 [.ref z, .int x1] [(z, .inr (3, [.int v_n, .int v_p, .int v_q, .long v_goodOnes, .long v_frozenOnes, .ref z_uppers]))] r_ [(z, .inr (3, [.int v_n, .int v_p, .int v_q, .long v_goodOnes, .long v_frozenOnes, .ref z_uppers]))] := by
  refine gBi (cc := cX4_isGood) (maxL := 2) (ret := (some .boolean)) (by decide) rfl (Nat.le_of_ble_eq_true rfl) ?_
  intro p e s m below meth c A ls hAt hl
  obtain ⟨hx, hb, hml, hr, hts, hown, hlocks, hin, hK, hG, hA, hP, hD⟩ := hAt
  have hS : va_S A s.heap s.heap [] := va_S.rf
  have hl : lv_has ls 2 [(0, .ref z), (1, .int x1)] := hl
  have f25 := hts (.fieldLink RX4 25 "PlainLines$Places" "goodOnes" "J") (by decide +kernel)
  have iX4 := (by decide +kernel : ∀ w ∈ u_ws RX4 TX4 6, w ∈ wsX4_isGood)
  rw [f_X4_isGood] at h
  refine lv_aload_n hx hb dX4_isGood_0 rfl (lv_at hl 0 rfl) ?_
  refine va_get (D := D) (ci := 3) (v := .long v_goodOnes) (C := RX4) (T := TX4) (N := 6) hx hb hts iX4 hown hK hP 0 rfl rfl 3 (by decide) f25 (fun _ h9 => h9) rfl dX4_isGood_1 ?_
  refine lv_iload_n hx hb dX4_isGood_4 rfl (lv_at hl 1 rfl) ?_
  refine lv_lushr (v := (gLushr v_goodOnes x1)) hx hb dX4_isGood_5 rfl ?_
  refine lv_lconst (v := 1) hx hb dX4_isGood_6 (by decide) ?_
  refine lv_land hx hb dX4_isGood_7 ?_
  refine lv_lconst (v := 0) hx hb dX4_isGood_8 (by decide) ?_
  refine W.lcmp hx hb dX4_isGood_9 ?_
  refine lv_if_eq (tgt := 17) hx hb dX4_isGood_10 (by decide) (fun c_1 => ?_) (fun c_1 => ?_)
  · have h := gx_t c_1 h
    refine lv_iconst (v := 0) hx hb dX4_isGood_17 (by decide) ?_
    cases h
    exact gRz hx hb hr hlocks rfl hP hD hS dX4_isGood_18
  · have h := gx_f c_1 h
    refine lv_iconst (v := 1) hx hb dX4_isGood_13 (by decide) ?_
    refine lv_goto (tgt := 18) hx hb dX4_isGood_14 (by decide) ?_
    cases h
    exact gRz hx hb hr hlocks rfl hP hD hS dX4_isGood_18

def f_J13_bitCount_95d88 (K : Nat) (x1 : Int64) : Option (Int32) :=
  gLet (x1 - ((gLushr x1 1) &&& 6148914691236517205)) fun y0_1 =>
  gLet ((y0_1 &&& 3689348814741910323) + ((gLushr y0_1 2) &&& 3689348814741910323)) fun y0_2 =>
  gLet ((y0_2 + (gLushr y0_2 4)) &&& 1085102592571150095) fun y0_3 =>
  gLet (y0_3 + (gLushr y0_3 8)) fun y0_4 =>
  gLet (y0_4 + (gLushr y0_4 16)) fun y0_5 =>
  gLet (y0_5 + (gLushr y0_5 32)) fun y0_6 =>
  some ((Int64.toInt32 y0_6) &&& 127)
set_option maxHeartbeats 4000000 in
set_option maxRecDepth 100000 in
theorem c_J13_bitCount_95d88 (l : Launch) (D : va_G) (cy : Nat → ClassId) (t sz K : Nat) (x1 : Int64) (r_ : Int32) (h : f_J13_bitCount_95d88 K x1 = some r_) : gMi l D cy t sz yJ13_bitCount_95d88 wsJ13_bitCount_95d88 0 0 [.long x1] [] r_ [] := by
  refine gBi (cc := cJ13_bitCount_95d88) (maxL := 2) (ret := (some .int)) (by decide) rfl (Nat.le_of_ble_eq_true rfl) ?_
  intro p e s m below meth c A ls hAt hl
  obtain ⟨hx, hb, hml, hr, hts, hown, hlocks, hin, hK, hG, hA, hP, hD⟩ := hAt
  have hS : va_S A s.heap s.heap [] := va_S.rf
  have hl : lv_has ls 2 [(0, .long x1)] := hl
  have k314 := hts (.constantLong RJ13 314 (6148914691236517205)) (by decide +kernel)
  have k316 := hts (.constantLong RJ13 316 (3689348814741910323)) (by decide +kernel)
  have k318 := hts (.constantLong RJ13 318 (1085102592571150095)) (by decide +kernel)
  rw [f_J13_bitCount_95d88] at h
  refine lv_lload_n hx hb dJ13_bitCount_95d88_0 rfl (lv_at hl 0 rfl) ?_
  refine lv_lload_n hx hb dJ13_bitCount_95d88_1 rfl (lv_at hl 0 rfl) ?_
  refine lv_iconst (v := 1) hx hb dJ13_bitCount_95d88_2 (by decide) ?_
  refine lv_lushr (v := (gLushr x1 1)) hx hb dJ13_bitCount_95d88_3 rfl ?_
  refine lv_ldc2 hx hb hown k314 dJ13_bitCount_95d88_4 ?_
  refine lv_land hx hb dJ13_bitCount_95d88_7 ?_
  refine lv_lsub hx hb dJ13_bitCount_95d88_8 ?_
  refine lv_topl (fun y0_1 e_y0_1 => ?_)
  have h := gx_let e_y0_1 h
  refine lv_lstore_n (lv' := [(0, .long y0_1)]) hx hb dJ13_bitCount_95d88_9 rfl hl (by decide) rfl (fun ls hl => ?_)
  refine lv_lload_n hx hb dJ13_bitCount_95d88_10 rfl (lv_at hl 0 rfl) ?_
  refine lv_ldc2 hx hb hown k316 dJ13_bitCount_95d88_11 ?_
  refine lv_land hx hb dJ13_bitCount_95d88_14 ?_
  refine lv_lload_n hx hb dJ13_bitCount_95d88_15 rfl (lv_at hl 0 rfl) ?_
  refine lv_iconst (v := 2) hx hb dJ13_bitCount_95d88_16 (by decide) ?_
  refine lv_lushr (v := (gLushr y0_1 2)) hx hb dJ13_bitCount_95d88_17 rfl ?_
  refine lv_ldc2 hx hb hown k316 dJ13_bitCount_95d88_18 ?_
  refine lv_land hx hb dJ13_bitCount_95d88_21 ?_
  refine lv_ladd hx hb dJ13_bitCount_95d88_22 ?_
  refine lv_topl (fun y0_2 e_y0_2 => ?_)
  have h := gx_let e_y0_2 h
  refine lv_lstore_n (lv' := [(0, .long y0_2)]) hx hb dJ13_bitCount_95d88_23 rfl hl (by decide) rfl (fun ls hl => ?_)
  refine lv_lload_n hx hb dJ13_bitCount_95d88_24 rfl (lv_at hl 0 rfl) ?_
  refine lv_lload_n hx hb dJ13_bitCount_95d88_25 rfl (lv_at hl 0 rfl) ?_
  refine lv_iconst (v := 4) hx hb dJ13_bitCount_95d88_26 (by decide) ?_
  refine lv_lushr (v := (gLushr y0_2 4)) hx hb dJ13_bitCount_95d88_27 rfl ?_
  refine lv_ladd hx hb dJ13_bitCount_95d88_28 ?_
  refine lv_ldc2 hx hb hown k318 dJ13_bitCount_95d88_29 ?_
  refine lv_land hx hb dJ13_bitCount_95d88_32 ?_
  refine lv_topl (fun y0_3 e_y0_3 => ?_)
  have h := gx_let e_y0_3 h
  refine lv_lstore_n (lv' := [(0, .long y0_3)]) hx hb dJ13_bitCount_95d88_33 rfl hl (by decide) rfl (fun ls hl => ?_)
  refine lv_lload_n hx hb dJ13_bitCount_95d88_34 rfl (lv_at hl 0 rfl) ?_
  refine lv_lload_n hx hb dJ13_bitCount_95d88_35 rfl (lv_at hl 0 rfl) ?_
  refine lv_bipush (v := 8) hx hb dJ13_bitCount_95d88_36 (by decide) ?_
  refine lv_lushr (v := (gLushr y0_3 8)) hx hb dJ13_bitCount_95d88_38 rfl ?_
  refine lv_ladd hx hb dJ13_bitCount_95d88_39 ?_
  refine lv_topl (fun y0_4 e_y0_4 => ?_)
  have h := gx_let e_y0_4 h
  refine lv_lstore_n (lv' := [(0, .long y0_4)]) hx hb dJ13_bitCount_95d88_40 rfl hl (by decide) rfl (fun ls hl => ?_)
  refine lv_lload_n hx hb dJ13_bitCount_95d88_41 rfl (lv_at hl 0 rfl) ?_
  refine lv_lload_n hx hb dJ13_bitCount_95d88_42 rfl (lv_at hl 0 rfl) ?_
  refine lv_bipush (v := 16) hx hb dJ13_bitCount_95d88_43 (by decide) ?_
  refine lv_lushr (v := (gLushr y0_4 16)) hx hb dJ13_bitCount_95d88_45 rfl ?_
  refine lv_ladd hx hb dJ13_bitCount_95d88_46 ?_
  refine lv_topl (fun y0_5 e_y0_5 => ?_)
  have h := gx_let e_y0_5 h
  refine lv_lstore_n (lv' := [(0, .long y0_5)]) hx hb dJ13_bitCount_95d88_47 rfl hl (by decide) rfl (fun ls hl => ?_)
  refine lv_lload_n hx hb dJ13_bitCount_95d88_48 rfl (lv_at hl 0 rfl) ?_
  refine lv_lload_n hx hb dJ13_bitCount_95d88_49 rfl (lv_at hl 0 rfl) ?_
  refine lv_bipush (v := 32) hx hb dJ13_bitCount_95d88_50 (by decide) ?_
  refine lv_lushr (v := (gLushr y0_5 32)) hx hb dJ13_bitCount_95d88_52 rfl ?_
  refine lv_ladd hx hb dJ13_bitCount_95d88_53 ?_
  refine lv_topl (fun y0_6 e_y0_6 => ?_)
  have h := gx_let e_y0_6 h
  refine lv_lstore_n (lv' := [(0, .long y0_6)]) hx hb dJ13_bitCount_95d88_54 rfl hl (by decide) rfl (fun ls hl => ?_)
  refine lv_lload_n hx hb dJ13_bitCount_95d88_55 rfl (lv_at hl 0 rfl) ?_
  refine lv_l2i (v := (Int64.toInt32 y0_6)) hx hb dJ13_bitCount_95d88_56 rfl ?_
  refine lv_bipush (v := 127) hx hb dJ13_bitCount_95d88_57 (by decide) ?_
  refine lv_iand hx hb dJ13_bitCount_95d88_59 ?_
  cases h
  exact gRi hx hb hr hlocks hP hD hS dJ13_bitCount_95d88_60

def f_X4_goodCount (K : Nat) (v_goodOnes : Int64) : Option (Int32) :=
  Option.bind (f_J13_bitCount_95d88 K v_goodOnes) fun r_1 =>
  some r_1
set_option maxHeartbeats 4000000 in
set_option maxRecDepth 100000 in
theorem c_X4_goodCount (l : Launch) (D : va_G) (cy : Nat → ClassId) (t sz K : Nat) (z : Nat) (z_uppers : Nat) (v_n : Int32) (v_p : Int32) (v_q : Int32) (v_goodOnes : Int64) (v_frozenOnes : Int64) (r_ : Int32) (h : f_X4_goodCount K v_goodOnes = some r_) : gMi l D cy t sz yX4_goodCount wsX4_goodCount 1 21 [.ref z] [(z, .inr (3, [.int v_n, .int v_p, .int v_q, .long v_goodOnes, .long v_frozenOnes, .ref z_uppers]))] r_ [(z, .inr (3, [.int v_n, .int v_p, .int v_q, .long v_goodOnes, .long v_frozenOnes, .ref z_uppers]))] := by
  refine gBi (cc := cX4_goodCount) (maxL := 1) (ret := (some .int)) (by decide) rfl (Nat.le_of_ble_eq_true rfl) ?_
  intro p e s m below meth c A ls hAt hl
  obtain ⟨hx, hb, hml, hr, hts, hown, hlocks, hin, hK, hG, hA, hP, hD⟩ := hAt
  have hS : va_S A s.heap s.heap [] := va_S.rf
  have hl : lv_has ls 1 [(0, .ref z)] := hl
  have f25 := hts (.fieldLink RX4 25 "PlainLines$Places" "goodOnes" "J") (by decide +kernel)
  have iX4 := (by decide +kernel : ∀ w ∈ u_ws RX4 TX4 6, w ∈ wsX4_goodCount)
  rw [f_X4_goodCount] at h
  refine lv_aload_n hx hb dX4_goodCount_0 rfl (lv_at hl 0 rfl) ?_
  refine va_get (D := D) (ci := 3) (v := .long v_goodOnes) (C := RX4) (T := TX4) (N := 6) hx hb hts iX4 hown hK hP 0 rfl rfl 3 (by decide) f25 (fun _ h9 => h9) rfl dX4_goodCount_1 ?_
  obtain ⟨r_1, hc_2, h⟩ := gx_b h
  refine gCalli (wr := [(z, .inr (3, [.int v_n, .int v_p, .int v_q, .long v_goodOnes, .long v_frozenOnes, .ref z_uppers]))]) (va_runS (As := [.long v_goodOnes]) (rest := []) ⟨hx, hb, hml, hown, hts⟩ (c_J13_bitCount_95d88 l D cy t s.heap.size K v_goodOnes r_1 hc_2) (va_cwS 1 hts gX4_goodCount_J13_bitCount_95d88 rfl rfl rfl (by decide +kernel) ⟨Nat.le_of_ble_eq_true rfl, Nat.le_of_ble_eq_true rfl⟩) ⟨gBlind, fun U hU hW => ⟨rfl, gPre.call hK hG hA hP hD hS [] (by decide) rfl U hU hW⟩⟩ rfl rfl hl.1 rfl (lv_room (Nat.le_of_ble_eq_true rfl)) dX4_goodCount_4 ⟨Nat.le_of_ble_eq_true rfl, Nat.le_of_ble_eq_true rfl⟩) hA hP hD hS [] [0] rfl rfl (by decide) (by decide) (fun H locs hP hD hS => ?_)
  have hP : va_P D vwCl [(z, .inr (3, [.int v_n, .int v_p, .int v_q, .long v_goodOnes, .long v_frozenOnes, .ref z_uppers]))] H := hP
  have hD : va_D A [(z, .inr (3, [.int v_n, .int v_p, .int v_q, .long v_goodOnes, .long v_frozenOnes, .ref z_uppers]))] := hD
  cases h
  exact gRi hx hb hr hlocks hP hD hS dX4_goodCount_7

def f_X4_messageBitOf (K : Nat) (x1 : Int32) (v_goodOnes : Int64) : Option (Int32) :=
  Option.bind (f_J13_bitCount_95d88 K (v_goodOnes &&& ((gLshl 1 x1) - 1))) fun r_1 =>
  some r_1
set_option maxHeartbeats 4000000 in
set_option maxRecDepth 100000 in
theorem c_X4_messageBitOf (l : Launch) (D : va_G) (cy : Nat → ClassId) (t sz K : Nat) (z : Nat) (z_uppers : Nat) (v_n : Int32) (v_p : Int32) (v_q : Int32) (v_goodOnes : Int64) (v_frozenOnes : Int64) (x1 : Int32) (r_ : Int32) (h : f_X4_messageBitOf K x1 v_goodOnes = some r_) : gMi l D cy t sz yX4_messageBitOf wsX4_messageBitOf 1 21 [.ref z, .int x1] [(z, .inr (3, [.int v_n, .int v_p, .int v_q, .long v_goodOnes, .long v_frozenOnes, .ref z_uppers]))] r_ [(z, .inr (3, [.int v_n, .int v_p, .int v_q, .long v_goodOnes, .long v_frozenOnes, .ref z_uppers]))] := by
  refine gBi (cc := cX4_messageBitOf) (maxL := 2) (ret := (some .int)) (by decide) rfl (Nat.le_of_ble_eq_true rfl) ?_
  intro p e s m below meth c A ls hAt hl
  obtain ⟨hx, hb, hml, hr, hts, hown, hlocks, hin, hK, hG, hA, hP, hD⟩ := hAt
  have hS : va_S A s.heap s.heap [] := va_S.rf
  have hl : lv_has ls 2 [(0, .ref z), (1, .int x1)] := hl
  have f25 := hts (.fieldLink RX4 25 "PlainLines$Places" "goodOnes" "J") (by decide +kernel)
  have iX4 := (by decide +kernel : ∀ w ∈ u_ws RX4 TX4 6, w ∈ wsX4_messageBitOf)
  rw [f_X4_messageBitOf] at h
  refine lv_aload_n hx hb dX4_messageBitOf_0 rfl (lv_at hl 0 rfl) ?_
  refine va_get (D := D) (ci := 3) (v := .long v_goodOnes) (C := RX4) (T := TX4) (N := 6) hx hb hts iX4 hown hK hP 0 rfl rfl 3 (by decide) f25 (fun _ h9 => h9) rfl dX4_messageBitOf_1 ?_
  refine lv_lconst (v := 1) hx hb dX4_messageBitOf_4 (by decide) ?_
  refine lv_iload_n hx hb dX4_messageBitOf_5 rfl (lv_at hl 1 rfl) ?_
  refine lv_lshl (v := (gLshl 1 x1)) hx hb dX4_messageBitOf_6 rfl ?_
  refine lv_lconst (v := 1) hx hb dX4_messageBitOf_7 (by decide) ?_
  refine lv_lsub hx hb dX4_messageBitOf_8 ?_
  refine lv_land hx hb dX4_messageBitOf_9 ?_
  obtain ⟨r_1, hc_2, h⟩ := gx_b h
  refine gCalli (wr := [(z, .inr (3, [.int v_n, .int v_p, .int v_q, .long v_goodOnes, .long v_frozenOnes, .ref z_uppers]))]) (va_runS (As := [.long (v_goodOnes &&& ((gLshl 1 x1) - 1))]) (rest := []) ⟨hx, hb, hml, hown, hts⟩ (c_J13_bitCount_95d88 l D cy t s.heap.size K (v_goodOnes &&& ((gLshl 1 x1) - 1)) r_1 hc_2) (va_cwS 1 hts gX4_messageBitOf_J13_bitCount_95d88 rfl rfl rfl (by decide +kernel) ⟨Nat.le_of_ble_eq_true rfl, Nat.le_of_ble_eq_true rfl⟩) ⟨gBlind, fun U hU hW => ⟨rfl, gPre.call hK hG hA hP hD hS [] (by decide) rfl U hU hW⟩⟩ rfl rfl hl.1 rfl (lv_room (Nat.le_of_ble_eq_true rfl)) dX4_messageBitOf_10 ⟨Nat.le_of_ble_eq_true rfl, Nat.le_of_ble_eq_true rfl⟩) hA hP hD hS [] [0] rfl rfl (by decide) (by decide) (fun H locs hP hD hS => ?_)
  have hP : va_P D vwCl [(z, .inr (3, [.int v_n, .int v_p, .int v_q, .long v_goodOnes, .long v_frozenOnes, .ref z_uppers]))] H := hP
  have hD : va_D A [(z, .inr (3, [.int v_n, .int v_p, .int v_q, .long v_goodOnes, .long v_frozenOnes, .ref z_uppers]))] := hD
  cases h
  exact gRi hx hb hr hlocks hP hD hS dX4_messageBitOf_13

def f_X4_allPlaces (K : Nat) (v_n : Int32) : Option (Int64) :=
  some ((gLshl 1 v_n) - 1)
set_option maxHeartbeats 4000000 in
set_option maxRecDepth 100000 in
theorem c_X4_allPlaces (l : Launch) (D : va_G) (cy : Nat → ClassId) (t sz K : Nat) (z : Nat) (z_uppers : Nat) (v_n : Int32) (v_p : Int32) (v_q : Int32) (v_goodOnes : Int64) (v_frozenOnes : Int64) (r_ : Int64) (h : f_X4_allPlaces K v_n = some r_) : gMl l D cy t sz yX4_allPlaces wsX4_allPlaces 0 0 [.ref z] [(z, .inr (3, [.int v_n, .int v_p, .int v_q, .long v_goodOnes, .long v_frozenOnes, .ref z_uppers]))] r_ [(z, .inr (3, [.int v_n, .int v_p, .int v_q, .long v_goodOnes, .long v_frozenOnes, .ref z_uppers]))] := by
  refine gBl (cc := cX4_allPlaces) (maxL := 1) (ret := (some .long)) (by decide) rfl (Nat.le_of_ble_eq_true rfl) ?_
  intro p e s m below meth c A ls hAt hl
  obtain ⟨hx, hb, hml, hr, hts, hown, hlocks, hin, hK, hG, hA, hP, hD⟩ := hAt
  have hS : va_S A s.heap s.heap [] := va_S.rf
  have hl : lv_has ls 1 [(0, .ref z)] := hl
  have f9 := hts (.fieldLink RX4 9 "PlainLines$Places" "n" "I") (by decide +kernel)
  have iX4 := (by decide +kernel : ∀ w ∈ u_ws RX4 TX4 6, w ∈ wsX4_allPlaces)
  rw [f_X4_allPlaces] at h
  refine lv_lconst (v := 1) hx hb dX4_allPlaces_0 (by decide) ?_
  refine lv_aload_n hx hb dX4_allPlaces_1 rfl (lv_at hl 0 rfl) ?_
  refine va_get (D := D) (ci := 3) (v := .int v_n) (C := RX4) (T := TX4) (N := 6) hx hb hts iX4 hown hK hP 0 rfl rfl 0 (by decide) f9 (fun _ h9 => h9) rfl dX4_allPlaces_2 ?_
  refine lv_lshl (v := (gLshl 1 v_n)) hx hb dX4_allPlaces_5 rfl ?_
  refine lv_lconst (v := 1) hx hb dX4_allPlaces_6 (by decide) ?_
  refine lv_lsub hx hb dX4_allPlaces_7 ?_
  cases h
  exact gRl hx hb hr hlocks hP hD hS dX4_allPlaces_8

def f_X4_isRow (K : Nat) (x1 : Int64) (v_n : Int32) : Option (Int32) :=
  if (lg_cmp x1 0) < 0 then
    some 0
  else
    Option.bind (f_X4_allPlaces K v_n) fun r_2 =>
    if 0 < (lg_cmp x1 r_2) then
      some 0
    else
      some 1
set_option maxHeartbeats 4000000 in
set_option maxRecDepth 100000 in
theorem c_X4_isRow (l : Launch) (D : va_G) (cy : Nat → ClassId) (t sz K : Nat) (z : Nat) (z_uppers : Nat) (v_n : Int32) (v_p : Int32) (v_q : Int32) (v_goodOnes : Int64) (v_frozenOnes : Int64) (x1 : Int64) (r_ : Int32) (h : f_X4_isRow K x1 v_n = some r_) : gMi l D cy t sz yX4_isRow wsX4_isRow 1 20 [.ref z, .long x1] [(z, .inr (3, [.int v_n, .int v_p, .int v_q, .long v_goodOnes, .long v_frozenOnes, .ref z_uppers]))] r_ [(z, .inr (3, [.int v_n, .int v_p, .int v_q, .long v_goodOnes, .long v_frozenOnes, .ref z_uppers]))] := by
  refine gBi (cc := cX4_isRow) (maxL := 3) (ret := (some .boolean)) (by decide) rfl (Nat.le_of_ble_eq_true rfl) ?_
  intro p e s m below meth c A ls hAt hl
  obtain ⟨hx, hb, hml, hr, hts, hown, hlocks, hin, hK, hG, hA, hP, hD⟩ := hAt
  have hS : va_S A s.heap s.heap [] := va_S.rf
  have hl : lv_has ls 3 [(0, .ref z), (1, .long x1)] := hl
  rw [f_X4_isRow] at h
  refine lv_lload_n hx hb dX4_isRow_0 rfl (lv_at hl 1 rfl) ?_
  refine lv_lconst (v := 0) hx hb dX4_isRow_1 (by decide) ?_
  refine W.lcmp hx hb dX4_isRow_2 ?_
  refine lv_if_lt (tgt := 19) hx hb dX4_isRow_3 (by decide) (fun c_1 => ?_) (fun c_1 => ?_)
  · have h := gx_t c_1 h
    refine lv_iconst (v := 0) hx hb dX4_isRow_19 (by decide) ?_
    cases h
    exact gRz hx hb hr hlocks rfl hP hD hS dX4_isRow_20
  · have h := gx_f c_1 h
    refine lv_lload_n hx hb dX4_isRow_6 rfl (lv_at hl 1 rfl) ?_
    refine lv_aload_n hx hb dX4_isRow_7 rfl (lv_at hl 0 rfl) ?_
    obtain ⟨r_2, hc_3, h⟩ := gx_b h
    refine gCalll (wr := []) (va_runV (As := []) (rest := [.long x1]) ⟨hx, hb, hml, hown, hts⟩ (c_X4_allPlaces l D cy t s.heap.size K z z_uppers v_n v_p v_q v_goodOnes v_frozenOnes r_2 hc_3) (cwV 0 hts gX4_isRow_X4_allPlaces rfl rfl rfl (by decide +kernel) ⟨Nat.le_of_ble_eq_true rfl, Nat.le_of_ble_eq_true rfl⟩) ⟨gBlind, va_recv hK hP (ci := 3) (q0 := 0) rfl rfl, fun U hU hW => ⟨rfl, gPre.call hK hG hA hP hD hS [0] (by decide) rfl U hU hW⟩⟩ rfl rfl hl.1 rfl (lv_room (Nat.le_of_ble_eq_true rfl)) dX4_isRow_8 ⟨Nat.le_of_ble_eq_true rfl, Nat.le_of_ble_eq_true rfl⟩) hA hP hD hS [0] [] rfl rfl (by decide) (by decide) (fun H locs hP hD hS => ?_)
    have hP : va_P D vwCl [(z, .inr (3, [.int v_n, .int v_p, .int v_q, .long v_goodOnes, .long v_frozenOnes, .ref z_uppers]))] H := hP
    have hD : va_D A [(z, .inr (3, [.int v_n, .int v_p, .int v_q, .long v_goodOnes, .long v_frozenOnes, .ref z_uppers]))] := hD
    refine W.lcmp hx hb dX4_isRow_11 ?_
    refine lv_if_gt (tgt := 19) hx hb dX4_isRow_12 (by decide) (fun c_4 => ?_) (fun c_4 => ?_)
    · have h := gx_t c_4 h
      refine lv_iconst (v := 0) hx hb dX4_isRow_19 (by decide) ?_
      cases h
      exact gRz hx hb hr hlocks rfl hP hD hS dX4_isRow_20
    · have h := gx_f c_4 h
      refine lv_iconst (v := 1) hx hb dX4_isRow_15 (by decide) ?_
      refine lv_goto (tgt := 20) hx hb dX4_isRow_16 (by decide) ?_
      cases h
      exact gRz hx hb hr hlocks rfl hP hD hS dX4_isRow_20

def f_X4_isMessage (K : Nat) (x1 : Int64) (v_goodOnes : Int64) : Option (Int32) :=
  if (lg_cmp x1 0) < 0 then
    some 0
  else
    Option.bind (f_X4_goodCount K v_goodOnes) fun r_2 =>
    if 0 ≤ (lg_cmp x1 (gLshl 1 r_2)) then
      some 0
    else
      some 1
set_option maxHeartbeats 4000000 in
set_option maxRecDepth 100000 in
theorem c_X4_isMessage (l : Launch) (D : va_G) (cy : Nat → ClassId) (t sz K : Nat) (z : Nat) (z_uppers : Nat) (v_n : Int32) (v_p : Int32) (v_q : Int32) (v_goodOnes : Int64) (v_frozenOnes : Int64) (x1 : Int64) (r_ : Int32) (h : f_X4_isMessage K x1 v_goodOnes = some r_) : gMi l D cy t sz yX4_isMessage wsX4_isMessage 2 41 [.ref z, .long x1] [(z, .inr (3, [.int v_n, .int v_p, .int v_q, .long v_goodOnes, .long v_frozenOnes, .ref z_uppers]))] r_ [(z, .inr (3, [.int v_n, .int v_p, .int v_q, .long v_goodOnes, .long v_frozenOnes, .ref z_uppers]))] := by
  refine gBi (cc := cX4_isMessage) (maxL := 3) (ret := (some .boolean)) (by decide) rfl (Nat.le_of_ble_eq_true rfl) ?_
  intro p e s m below meth c A ls hAt hl
  obtain ⟨hx, hb, hml, hr, hts, hown, hlocks, hin, hK, hG, hA, hP, hD⟩ := hAt
  have hS : va_S A s.heap s.heap [] := va_S.rf
  have hl : lv_has ls 3 [(0, .ref z), (1, .long x1)] := hl
  rw [f_X4_isMessage] at h
  refine lv_lload_n hx hb dX4_isMessage_0 rfl (lv_at hl 1 rfl) ?_
  refine lv_lconst (v := 0) hx hb dX4_isMessage_1 (by decide) ?_
  refine W.lcmp hx hb dX4_isMessage_2 ?_
  refine lv_if_lt (tgt := 21) hx hb dX4_isMessage_3 (by decide) (fun c_1 => ?_) (fun c_1 => ?_)
  · have h := gx_t c_1 h
    refine lv_iconst (v := 0) hx hb dX4_isMessage_21 (by decide) ?_
    cases h
    exact gRz hx hb hr hlocks rfl hP hD hS dX4_isMessage_22
  · have h := gx_f c_1 h
    refine lv_lload_n hx hb dX4_isMessage_6 rfl (lv_at hl 1 rfl) ?_
    refine lv_lconst (v := 1) hx hb dX4_isMessage_7 (by decide) ?_
    refine lv_aload_n hx hb dX4_isMessage_8 rfl (lv_at hl 0 rfl) ?_
    obtain ⟨r_2, hc_3, h⟩ := gx_b h
    refine gCalli (wr := []) (va_runV (As := []) (rest := [.long 1, .long x1]) ⟨hx, hb, hml, hown, hts⟩ (c_X4_goodCount l D cy t s.heap.size K z z_uppers v_n v_p v_q v_goodOnes v_frozenOnes r_2 hc_3) (cwV 0 hts gX4_isMessage_X4_goodCount rfl rfl rfl (by decide +kernel) ⟨Nat.le_of_ble_eq_true rfl, Nat.le_of_ble_eq_true rfl⟩) ⟨gBlind, va_recv hK hP (ci := 3) (q0 := 0) rfl rfl, fun U hU hW => ⟨rfl, gPre.call hK hG hA hP hD hS [0] (by decide) rfl U hU hW⟩⟩ rfl rfl hl.1 rfl (lv_room (Nat.le_of_ble_eq_true rfl)) dX4_isMessage_9 ⟨Nat.le_of_ble_eq_true rfl, Nat.le_of_ble_eq_true rfl⟩) hA hP hD hS [0] [] rfl rfl (by decide) (by decide) (fun H locs hP hD hS => ?_)
    have hP : va_P D vwCl [(z, .inr (3, [.int v_n, .int v_p, .int v_q, .long v_goodOnes, .long v_frozenOnes, .ref z_uppers]))] H := hP
    have hD : va_D A [(z, .inr (3, [.int v_n, .int v_p, .int v_q, .long v_goodOnes, .long v_frozenOnes, .ref z_uppers]))] := hD
    refine lv_lshl (v := (gLshl 1 r_2)) hx hb dX4_isMessage_12 rfl ?_
    refine W.lcmp hx hb dX4_isMessage_13 ?_
    refine lv_if_ge (tgt := 21) hx hb dX4_isMessage_14 (by decide) (fun c_4 => ?_) (fun c_4 => ?_)
    · have h := gx_t c_4 h
      refine lv_iconst (v := 0) hx hb dX4_isMessage_21 (by decide) ?_
      cases h
      exact gRz hx hb hr hlocks rfl hP hD hS dX4_isMessage_22
    · have h := gx_f c_4 h
      refine lv_iconst (v := 1) hx hb dX4_isMessage_17 (by decide) ?_
      refine lv_goto (tgt := 22) hx hb dX4_isMessage_18 (by decide) ?_
      cases h
      exact gRz hx hb hr hlocks rfl hP hD hS dX4_isMessage_22

def f_X4_setAll (K : Nat) (x1 : Int64) : Option (Int64 × Int64) :=
  some (x1, 0)
set_option maxHeartbeats 4000000 in
set_option maxRecDepth 100000 in
theorem c_X4_setAll (l : Launch) (D : va_G) (cy : Nat → ClassId) (t sz K : Nat) (z : Nat) (z_uppers : Nat) (v_n : Int32) (v_p : Int32) (v_q : Int32) (v_goodOnes : Int64) (v_frozenOnes : Int64) (x1 : Int64) (o_v_goodOnes : Int64) (o_v_frozenOnes : Int64) (h : f_X4_setAll K x1 = some (o_v_goodOnes, o_v_frozenOnes)) : gMv l D cy t sz yX4_setAll wsX4_setAll 0 0 [.ref z, .long x1] [(z, .inr (3, [.int v_n, .int v_p, .int v_q, .long v_goodOnes, .long v_frozenOnes, .ref z_uppers]))] [(z, .inr (3, [.int v_n, .int v_p, .int v_q, .long o_v_goodOnes, .long o_v_frozenOnes, .ref z_uppers]))] := by
  refine gBv (cc := cX4_setAll) (maxL := 3) (ret := none) (by decide) rfl (Nat.le_of_ble_eq_true rfl) ?_
  intro p e s m below meth c A ls hAt hl
  obtain ⟨hx, hb, hml, hr, hts, hown, hlocks, hin, hK, hG, hA, hP, hD⟩ := hAt
  have hS : va_S A s.heap s.heap [] := va_S.rf
  have hl : lv_has ls 3 [(0, .ref z), (1, .long x1)] := hl
  have f25 := hts (.fieldLink RX4 25 "PlainLines$Places" "goodOnes" "J") (by decide +kernel)
  have iX4 := (by decide +kernel : ∀ w ∈ u_ws RX4 TX4 6, w ∈ wsX4_setAll)
  have f29 := hts (.fieldLink RX4 29 "PlainLines$Places" "frozenOnes" "J") (by decide +kernel)
  rw [f_X4_setAll] at h
  refine lv_aload_n hx hb dX4_setAll_0 rfl (lv_at hl 0 rfl) ?_
  refine lv_lload_n hx hb dX4_setAll_1 rfl (lv_at hl 1 rfl) ?_
  refine va_put (D := D) (ci := 3) (v := .long x1) (ty := .long) (C := RX4) (T := TX4) (N := 6) hx hb hts iX4 tyX4 tyX4_ok nmX4 hown hK hP hD hS 0 rfl rfl 3 (by decide) f25 (fun _ h9 => h9) rfl (by decide +kernel) rfl rfl (Nat.le_of_ble_eq_true rfl) dX4_setAll_2 (fun H locs hP hD hS => ?_)
  have hP : va_P D vwCl [(z, .inr (3, [.int v_n, .int v_p, .int v_q, .long x1, .long v_frozenOnes, .ref z_uppers]))] H := hP
  have hD : va_D A [(z, .inr (3, [.int v_n, .int v_p, .int v_q, .long x1, .long v_frozenOnes, .ref z_uppers]))] := hD
  refine lv_aload_n hx hb dX4_setAll_5 rfl (lv_at hl 0 rfl) ?_
  refine lv_lconst (v := 0) hx hb dX4_setAll_6 (by decide) ?_
  refine va_put (D := D) (ci := 3) (v := .long 0) (ty := .long) (C := RX4) (T := TX4) (N := 6) hx hb hts iX4 tyX4 tyX4_ok nmX4 hown hK hP hD hS 0 rfl rfl 4 (by decide) f29 (fun _ h9 => h9) rfl (by decide +kernel) rfl rfl (Nat.le_of_ble_eq_true rfl) dX4_setAll_7 (fun H locs hP hD hS => ?_)
  have hP : va_P D vwCl [(z, .inr (3, [.int v_n, .int v_p, .int v_q, .long x1, .long 0, .ref z_uppers]))] H := hP
  have hD : va_D A [(z, .inr (3, [.int v_n, .int v_p, .int v_q, .long x1, .long 0, .ref z_uppers]))] := hD
  cases h
  exact gRv hx hb hr hlocks hP hD hS dX4_setAll_10

def f_X4_setGood (K : Nat) (x1 : Int32) (v_goodOnes : Int64) (v_frozenOnes : Int64) : Option (Int64 × Int64) :=
  gLet (v_goodOnes ||| (gLshl 1 x1)) fun y_1 =>
  gLet (v_frozenOnes &&& ((gLshl 1 x1) ^^^ (-1))) fun y_2 =>
  some (y_1, y_2)
set_option maxHeartbeats 4000000 in
set_option maxRecDepth 100000 in
theorem c_X4_setGood (l : Launch) (D : va_G) (cy : Nat → ClassId) (t sz K : Nat) (z : Nat) (z_uppers : Nat) (v_n : Int32) (v_p : Int32) (v_q : Int32) (v_goodOnes : Int64) (v_frozenOnes : Int64) (x1 : Int32) (o_v_goodOnes : Int64) (o_v_frozenOnes : Int64) (h : f_X4_setGood K x1 v_goodOnes v_frozenOnes = some (o_v_goodOnes, o_v_frozenOnes)) : gMv l D cy t sz yX4_setGood wsX4_setGood 0 0 [.ref z, .int x1] [(z, .inr (3, [.int v_n, .int v_p, .int v_q, .long v_goodOnes, .long v_frozenOnes, .ref z_uppers]))] [(z, .inr (3, [.int v_n, .int v_p, .int v_q, .long o_v_goodOnes, .long o_v_frozenOnes, .ref z_uppers]))] := by
  refine gBv (cc := cX4_setGood) (maxL := 2) (ret := none) (by decide) rfl (Nat.le_of_ble_eq_true rfl) ?_
  intro p e s m below meth c A ls hAt hl
  obtain ⟨hx, hb, hml, hr, hts, hown, hlocks, hin, hK, hG, hA, hP, hD⟩ := hAt
  have hS : va_S A s.heap s.heap [] := va_S.rf
  have hl : lv_has ls 2 [(0, .ref z), (1, .int x1)] := hl
  have f25 := hts (.fieldLink RX4 25 "PlainLines$Places" "goodOnes" "J") (by decide +kernel)
  have iX4 := (by decide +kernel : ∀ w ∈ u_ws RX4 TX4 6, w ∈ wsX4_setGood)
  have f29 := hts (.fieldLink RX4 29 "PlainLines$Places" "frozenOnes" "J") (by decide +kernel)
  have k46 := hts (.constantLong RX4 46 (-1)) (by decide +kernel)
  rw [f_X4_setGood] at h
  refine lv_aload_n hx hb dX4_setGood_0 rfl (lv_at hl 0 rfl) ?_
  refine lv_dup hx hb dX4_setGood_1 rfl ?_
  refine va_get (D := D) (ci := 3) (v := .long v_goodOnes) (C := RX4) (T := TX4) (N := 6) hx hb hts iX4 hown hK hP 0 rfl rfl 3 (by decide) f25 (fun _ h9 => h9) rfl dX4_setGood_2 ?_
  refine lv_lconst (v := 1) hx hb dX4_setGood_5 (by decide) ?_
  refine lv_iload_n hx hb dX4_setGood_6 rfl (lv_at hl 1 rfl) ?_
  refine lv_lshl (v := (gLshl 1 x1)) hx hb dX4_setGood_7 rfl ?_
  refine lv_lor hx hb dX4_setGood_8 ?_
  refine lv_topl (fun y_1 e_y_1 => ?_)
  have h := gx_let e_y_1 h
  refine va_put (D := D) (ci := 3) (v := .long y_1) (ty := .long) (C := RX4) (T := TX4) (N := 6) hx hb hts iX4 tyX4 tyX4_ok nmX4 hown hK hP hD hS 0 rfl rfl 3 (by decide) f25 (fun _ h9 => h9) rfl (by decide +kernel) rfl rfl (Nat.le_of_ble_eq_true rfl) dX4_setGood_9 (fun H locs hP hD hS => ?_)
  have hP : va_P D vwCl [(z, .inr (3, [.int v_n, .int v_p, .int v_q, .long y_1, .long v_frozenOnes, .ref z_uppers]))] H := hP
  have hD : va_D A [(z, .inr (3, [.int v_n, .int v_p, .int v_q, .long y_1, .long v_frozenOnes, .ref z_uppers]))] := hD
  refine lv_aload_n hx hb dX4_setGood_12 rfl (lv_at hl 0 rfl) ?_
  refine lv_dup hx hb dX4_setGood_13 rfl ?_
  refine va_get (D := D) (ci := 3) (v := .long v_frozenOnes) (C := RX4) (T := TX4) (N := 6) hx hb hts iX4 hown hK hP 0 rfl rfl 4 (by decide) f29 (fun _ h9 => h9) rfl dX4_setGood_14 ?_
  refine lv_lconst (v := 1) hx hb dX4_setGood_17 (by decide) ?_
  refine lv_iload_n hx hb dX4_setGood_18 rfl (lv_at hl 1 rfl) ?_
  refine lv_lshl (v := (gLshl 1 x1)) hx hb dX4_setGood_19 rfl ?_
  refine lv_ldc2 hx hb hown k46 dX4_setGood_20 ?_
  refine lv_lxor hx hb dX4_setGood_23 ?_
  refine lv_land hx hb dX4_setGood_24 ?_
  refine lv_topl (fun y_2 e_y_2 => ?_)
  have h := gx_let e_y_2 h
  refine va_put (D := D) (ci := 3) (v := .long y_2) (ty := .long) (C := RX4) (T := TX4) (N := 6) hx hb hts iX4 tyX4 tyX4_ok nmX4 hown hK hP hD hS 0 rfl rfl 4 (by decide) f29 (fun _ h9 => h9) rfl (by decide +kernel) rfl rfl (Nat.le_of_ble_eq_true rfl) dX4_setGood_25 (fun H locs hP hD hS => ?_)
  have hP : va_P D vwCl [(z, .inr (3, [.int v_n, .int v_p, .int v_q, .long y_1, .long y_2, .ref z_uppers]))] H := hP
  have hD : va_D A [(z, .inr (3, [.int v_n, .int v_p, .int v_q, .long y_1, .long y_2, .ref z_uppers]))] := hD
  cases h
  exact gRv hx hb hr hlocks hP hD hS dX4_setGood_28

def f_X4_setFrozen (K : Nat) (x1 : Int32) (x2 : Int32) (v_goodOnes : Int64) (v_frozenOnes : Int64) : Option (Int64 × Int64) :=
  gLet (v_goodOnes &&& ((gLshl 1 x1) ^^^ (-1))) fun y_1 =>
  gLet ((v_frozenOnes &&& ((gLshl 1 x1) ^^^ (-1))) ||| (gLshl (Int32.toInt64 x2) x1)) fun y_2 =>
  some (y_1, y_2)
set_option maxHeartbeats 4000000 in
set_option maxRecDepth 100000 in
theorem c_X4_setFrozen (l : Launch) (D : va_G) (cy : Nat → ClassId) (t sz K : Nat) (z : Nat) (z_uppers : Nat) (v_n : Int32) (v_p : Int32) (v_q : Int32) (v_goodOnes : Int64) (v_frozenOnes : Int64) (x1 : Int32) (x2 : Int32) (o_v_goodOnes : Int64) (o_v_frozenOnes : Int64) (h : f_X4_setFrozen K x1 x2 v_goodOnes v_frozenOnes = some (o_v_goodOnes, o_v_frozenOnes)) : gMv l D cy t sz yX4_setFrozen wsX4_setFrozen 0 0 [.ref z, .int x1, .int x2] [(z, .inr (3, [.int v_n, .int v_p, .int v_q, .long v_goodOnes, .long v_frozenOnes, .ref z_uppers]))] [(z, .inr (3, [.int v_n, .int v_p, .int v_q, .long o_v_goodOnes, .long o_v_frozenOnes, .ref z_uppers]))] := by
  refine gBv (cc := cX4_setFrozen) (maxL := 3) (ret := none) (by decide) rfl (Nat.le_of_ble_eq_true rfl) ?_
  intro p e s m below meth c A ls hAt hl
  obtain ⟨hx, hb, hml, hr, hts, hown, hlocks, hin, hK, hG, hA, hP, hD⟩ := hAt
  have hS : va_S A s.heap s.heap [] := va_S.rf
  have hl : lv_has ls 3 [(0, .ref z), (1, .int x1), (2, .int x2)] := hl
  have f25 := hts (.fieldLink RX4 25 "PlainLines$Places" "goodOnes" "J") (by decide +kernel)
  have iX4 := (by decide +kernel : ∀ w ∈ u_ws RX4 TX4 6, w ∈ wsX4_setFrozen)
  have k46 := hts (.constantLong RX4 46 (-1)) (by decide +kernel)
  have f29 := hts (.fieldLink RX4 29 "PlainLines$Places" "frozenOnes" "J") (by decide +kernel)
  rw [f_X4_setFrozen] at h
  refine lv_aload_n hx hb dX4_setFrozen_0 rfl (lv_at hl 0 rfl) ?_
  refine lv_dup hx hb dX4_setFrozen_1 rfl ?_
  refine va_get (D := D) (ci := 3) (v := .long v_goodOnes) (C := RX4) (T := TX4) (N := 6) hx hb hts iX4 hown hK hP 0 rfl rfl 3 (by decide) f25 (fun _ h9 => h9) rfl dX4_setFrozen_2 ?_
  refine lv_lconst (v := 1) hx hb dX4_setFrozen_5 (by decide) ?_
  refine lv_iload_n hx hb dX4_setFrozen_6 rfl (lv_at hl 1 rfl) ?_
  refine lv_lshl (v := (gLshl 1 x1)) hx hb dX4_setFrozen_7 rfl ?_
  refine lv_ldc2 hx hb hown k46 dX4_setFrozen_8 ?_
  refine lv_lxor hx hb dX4_setFrozen_11 ?_
  refine lv_land hx hb dX4_setFrozen_12 ?_
  refine lv_topl (fun y_1 e_y_1 => ?_)
  have h := gx_let e_y_1 h
  refine va_put (D := D) (ci := 3) (v := .long y_1) (ty := .long) (C := RX4) (T := TX4) (N := 6) hx hb hts iX4 tyX4 tyX4_ok nmX4 hown hK hP hD hS 0 rfl rfl 3 (by decide) f25 (fun _ h9 => h9) rfl (by decide +kernel) rfl rfl (Nat.le_of_ble_eq_true rfl) dX4_setFrozen_13 (fun H locs hP hD hS => ?_)
  have hP : va_P D vwCl [(z, .inr (3, [.int v_n, .int v_p, .int v_q, .long y_1, .long v_frozenOnes, .ref z_uppers]))] H := hP
  have hD : va_D A [(z, .inr (3, [.int v_n, .int v_p, .int v_q, .long y_1, .long v_frozenOnes, .ref z_uppers]))] := hD
  refine lv_aload_n hx hb dX4_setFrozen_16 rfl (lv_at hl 0 rfl) ?_
  refine lv_aload_n hx hb dX4_setFrozen_17 rfl (lv_at hl 0 rfl) ?_
  refine va_get (D := D) (ci := 3) (v := .long v_frozenOnes) (C := RX4) (T := TX4) (N := 6) hx hb hts iX4 hown hK hP 0 rfl rfl 4 (by decide) f29 (fun _ h9 => h9) rfl dX4_setFrozen_18 ?_
  refine lv_lconst (v := 1) hx hb dX4_setFrozen_21 (by decide) ?_
  refine lv_iload_n hx hb dX4_setFrozen_22 rfl (lv_at hl 1 rfl) ?_
  refine lv_lshl (v := (gLshl 1 x1)) hx hb dX4_setFrozen_23 rfl ?_
  refine lv_ldc2 hx hb hown k46 dX4_setFrozen_24 ?_
  refine lv_lxor hx hb dX4_setFrozen_27 ?_
  refine lv_land hx hb dX4_setFrozen_28 ?_
  refine lv_iload_n hx hb dX4_setFrozen_29 rfl (lv_at hl 2 rfl) ?_
  refine lv_i2l (v := (Int32.toInt64 x2)) hx hb dX4_setFrozen_30 rfl ?_
  refine lv_iload_n hx hb dX4_setFrozen_31 rfl (lv_at hl 1 rfl) ?_
  refine lv_lshl (v := (gLshl (Int32.toInt64 x2) x1)) hx hb dX4_setFrozen_32 rfl ?_
  refine lv_lor hx hb dX4_setFrozen_33 ?_
  refine lv_topl (fun y_2 e_y_2 => ?_)
  have h := gx_let e_y_2 h
  refine va_put (D := D) (ci := 3) (v := .long y_2) (ty := .long) (C := RX4) (T := TX4) (N := 6) hx hb hts iX4 tyX4 tyX4_ok nmX4 hown hK hP hD hS 0 rfl rfl 4 (by decide) f29 (fun _ h9 => h9) rfl (by decide +kernel) rfl rfl (Nat.le_of_ble_eq_true rfl) dX4_setFrozen_34 (fun H locs hP hD hS => ?_)
  have hP : va_P D vwCl [(z, .inr (3, [.int v_n, .int v_p, .int v_q, .long y_1, .long y_2, .ref z_uppers]))] H := hP
  have hD : va_D A [(z, .inr (3, [.int v_n, .int v_p, .int v_q, .long y_1, .long y_2, .ref z_uppers]))] := hD
  cases h
  exact gRv hx hb hr hlocks hP hD hS dX4_setFrozen_37

def fL_X4_spread_8 (K : Nat) (u0_0 : Int32) (u0_3 : Int64) : Nat → Int32 × Int64 × Int64 → Option (Int32 × Int64 × Int64)
  | 0, _ => none
  | k + 1, (l7, l5, l3) =>
    if u0_0 ≤ l7 then
      some (l7, l5, l3)
    else
      Option.bind (f_X4_isGood K l7 u0_3) fun r_2 =>
      if r_2 = 0 then
        gLet (l7 + 1) fun y7_4 =>
        fL_X4_spread_8 K u0_0 u0_3 k (y7_4, l5, l3)
      else
        gLet (l3 ||| (gLshl (l5 &&& 1) l7)) fun y3_5 =>
        gLet (gLushr l5 1) fun y5_6 =>
        gLet (l7 + 1) fun y7_7 =>
        fL_X4_spread_8 K u0_0 u0_3 k (y7_7, y5_6, y3_5)
def f_X4_spread (K : Nat) (x1 : Int64) (v_n : Int32) (v_goodOnes : Int64) : Option (Int64) :=
  Option.bind (fL_X4_spread_8 K v_n v_goodOnes K (0, x1, 0)) fun (o_8, o_9, o_10) =>
  some o_10
set_option maxHeartbeats 4000000 in
set_option maxRecDepth 100000 in
theorem c_X4_spread (l : Launch) (D : va_G) (cy : Nat → ClassId) (t sz K : Nat) (z : Nat) (z_uppers : Nat) (v_n : Int32) (v_p : Int32) (v_q : Int32) (v_goodOnes : Int64) (v_frozenOnes : Int64) (x1 : Int64) (r_ : Int64) (h : f_X4_spread K x1 v_n v_goodOnes = some r_) : gMl l D cy t sz yX4_spread wsX4_spread 1 21 [.ref z, .long x1] [(z, .inr (3, [.int v_n, .int v_p, .int v_q, .long v_goodOnes, .long v_frozenOnes, .ref z_uppers]))] r_ [(z, .inr (3, [.int v_n, .int v_p, .int v_q, .long v_goodOnes, .long v_frozenOnes, .ref z_uppers]))] := by
  refine gBl (cc := cX4_spread) (maxL := 8) (ret := (some .long)) (by decide) rfl (Nat.le_of_ble_eq_true rfl) ?_
  intro p e s m below meth c A ls hAt hl
  obtain ⟨hx, hb, hml, hr, hts, hown, hlocks, hin, hK, hG, hA, hP, hD⟩ := hAt
  have hS : va_S A s.heap s.heap [] := va_S.rf
  have hl : lv_has ls 8 [(0, .ref z), (1, .long x1)] := hl
  have f9 := hts (.fieldLink RX4 9 "PlainLines$Places" "n" "I") (by decide +kernel)
  have iX4 := (by decide +kernel : ∀ w ∈ u_ws RX4 TX4 6, w ∈ wsX4_spread)
  rw [f_X4_spread] at h
  refine lv_lconst (v := 0) hx hb dX4_spread_0 (by decide) ?_
  refine lv_lstore_n (lv' := [(3, .long 0), (0, .ref z), (1, .long x1)]) hx hb dX4_spread_1 rfl hl (by decide) rfl (fun ls hl => ?_)
  refine lv_lload_n hx hb dX4_spread_2 rfl (lv_at hl 2 rfl) ?_
  refine lv_lstore (lv' := [(5, .long x1), (3, .long 0), (0, .ref z), (1, .long x1)]) hx hb dX4_spread_3 hl (by decide) rfl (fun ls hl => ?_)
  refine lv_iconst (v := 0) hx hb dX4_spread_5 (by decide) ?_
  refine lv_istore (lv' := [(7, .int 0), (5, .long x1), (3, .long 0), (0, .ref z), (1, .long x1)]) hx hb dX4_spread_6 hl (by decide) rfl (fun ls hl => ?_)
  obtain ⟨⟨o_1, o_2, o_3⟩, hL_4, h⟩ := gx_b h
  refine gJoin (Pj := fun H locs ls => va_P D vwCl [(z, .inr (3, [.int v_n, .int v_p, .int v_q, .long v_goodOnes, .long v_frozenOnes, .ref z_uppers]))] H ∧ va_D A [(z, .inr (3, [.int v_n, .int v_p, .int v_q, .long v_goodOnes, .long v_frozenOnes, .ref z_uppers]))] ∧ va_S A s.heap H locs ∧ lv_has ls 8 [(7, .int o_1), (5, .long o_2), (3, .long o_3), (0, .ref z), (1, .long x1)]) (pcM := 48) (st := []) ?_ (fun hJ48 => ?_)
  · intro H locs ls hp_
    obtain ⟨hP, hD, hS, hl⟩ := hp_
    clear hL_4
    refine lv_lload_n hx hb dX4_spread_48 rfl (lv_at hl 2 rfl) ?_
    cases h
    exact gRl hx hb hr hlocks hP hD hS dX4_spread_49
  · refine gLoop (Hy := fun k_ v_ => fL_X4_spread_8 K v_n v_goodOnes k_ v_ = some (o_1, o_2, o_3)) (Pl := fun (v_ : Int32 × Int64 × Int64) H locs ls => match v_ with | (a_5, a_6, a_7) => va_P D vwCl [(z, .inr (3, [.int v_n, .int v_p, .int v_q, .long v_goodOnes, .long v_frozenOnes, .ref z_uppers]))] H ∧ va_D A [(z, .inr (3, [.int v_n, .int v_p, .int v_q, .long v_goodOnes, .long v_frozenOnes, .ref z_uppers]))] ∧ va_S A s.heap H locs ∧ lv_has ls 8 [(7, .int a_5), (5, .long a_6), (3, .long a_7), (0, .ref z), (1, .long x1)]) (pcH := 8) (fun _ q_ => by cases q_) ?_ K (0, x1, 0) hL_4 ⟨hP, hD, hS, hl⟩
    clear hL_4 h hP hD hS hl
    intro k_ ih ⟨a_5, a_6, a_7⟩ H locs ls h hp_
    obtain ⟨hP, hD, hS, hl⟩ := hp_
    have hP : va_P D vwCl [(z, .inr (3, [.int v_n, .int v_p, .int v_q, .long v_goodOnes, .long v_frozenOnes, .ref z_uppers]))] H := hP
    have hD : va_D A [(z, .inr (3, [.int v_n, .int v_p, .int v_q, .long v_goodOnes, .long v_frozenOnes, .ref z_uppers]))] := hD
    have hl : lv_has ls 8 [(7, .int a_5), (5, .long a_6), (3, .long a_7), (0, .ref z), (1, .long x1)] := hl
    change fL_X4_spread_8 K v_n v_goodOnes (k_ + 1) (a_5, a_6, a_7) = _ at h
    rw [fL_X4_spread_8] at h
    refine lv_iload hx hb dX4_spread_8 (lv_at hl 0 rfl) ?_
    refine lv_aload_n hx hb dX4_spread_10 rfl (lv_at hl 3 rfl) ?_
    refine va_get (D := D) (ci := 3) (v := .int v_n) (C := RX4) (T := TX4) (N := 6) hx hb hts iX4 hown hK hP 0 rfl rfl 0 (by decide) f9 (fun _ h9 => h9) rfl dX4_spread_11 ?_
    refine lv_icmp_ge (tgt := 48) hx hb dX4_spread_14 (by decide) (fun c_8 => ?_) (fun c_8 => ?_)
    · have h := gx_t c_8 h
      have hl := lv_sub (l' := [(7, .int a_5), (5, .long a_6), (3, .long a_7), (0, .ref z), (1, .long x1)]) hl [0, 1, 2, 3, 4] rfl
      cases h
      exact hJ48 _ _ _ ⟨hP, hD, hS, hl⟩
    · have h := gx_f c_8 h
      refine lv_aload_n hx hb dX4_spread_17 rfl (lv_at hl 3 rfl) ?_
      refine lv_iload hx hb dX4_spread_18 (lv_at hl 0 rfl) ?_
      obtain ⟨r_9, hc_10, h⟩ := gx_b h
      refine gCalli (wr := []) (va_runV (As := [.int a_5]) (rest := []) ⟨hx, hb, hml, hown, hts⟩ (c_X4_isGood l D cy t H.size K z z_uppers v_n v_p v_q v_goodOnes v_frozenOnes a_5 r_9 hc_10) (cwV 1 hts gX4_spread_X4_isGood rfl rfl rfl (by decide +kernel) ⟨Nat.le_of_ble_eq_true rfl, Nat.le_of_ble_eq_true rfl⟩) ⟨gBlind, va_recv hK hP (ci := 3) (q0 := 0) rfl rfl, fun U hU hW => ⟨rfl, gPre.call hK hG hA hP hD hS [0] (by decide) rfl U hU hW⟩⟩ rfl rfl hl.1 rfl (lv_room (Nat.le_of_ble_eq_true rfl)) dX4_spread_20 ⟨Nat.le_of_ble_eq_true rfl, Nat.le_of_ble_eq_true rfl⟩) hA hP hD hS [0] [] rfl rfl (by decide) (by decide) (fun H locs hP hD hS => ?_)
      have hP : va_P D vwCl [(z, .inr (3, [.int v_n, .int v_p, .int v_q, .long v_goodOnes, .long v_frozenOnes, .ref z_uppers]))] H := hP
      have hD : va_D A [(z, .inr (3, [.int v_n, .int v_p, .int v_q, .long v_goodOnes, .long v_frozenOnes, .ref z_uppers]))] := hD
      refine lv_if_eq (tgt := 42) hx hb dX4_spread_23 (by decide) (fun c_11 => ?_) (fun c_11 => ?_)
      · have h := gx_t c_11 h
        obtain ⟨y7_12, e_y7_12⟩ : ∃ y : Int32, y = (a_5 + 1) := ⟨_, rfl⟩
        have h := gx_let e_y7_12 h
        refine lv_iinc (v := y7_12) (lv' := [(7, .int y7_12), (5, .long a_6), (3, .long a_7), (0, .ref z), (1, .long x1)]) hx hb dX4_spread_42 hl (k := 0) rfl (by rw [e_y7_12]; rfl) (by decide) rfl (fun ls hl => ?_)
        refine lv_goto (tgt := 8) hx hb dX4_spread_45 (by decide) ?_
        exact ih (y7_12, a_6, a_7) _ _ _ h ⟨hP, hD, hS, lv_sub (l' := [(7, .int y7_12), (5, .long a_6), (3, .long a_7), (0, .ref z), (1, .long x1)]) hl [0, 1, 2, 3, 4] rfl⟩
      · have h := gx_f c_11 h
        refine lv_lload_n hx hb dX4_spread_26 rfl (lv_at hl 2 rfl) ?_
        refine lv_lload hx hb dX4_spread_27 (lv_at hl 1 rfl) ?_
        refine lv_lconst (v := 1) hx hb dX4_spread_29 (by decide) ?_
        refine lv_land hx hb dX4_spread_30 ?_
        refine lv_iload hx hb dX4_spread_31 (lv_at hl 0 rfl) ?_
        refine lv_lshl (v := (gLshl (a_6 &&& 1) a_5)) hx hb dX4_spread_33 rfl ?_
        refine lv_lor hx hb dX4_spread_34 ?_
        refine lv_topl (fun y3_13 e_y3_13 => ?_)
        have h := gx_let e_y3_13 h
        refine lv_lstore_n (lv' := [(3, .long y3_13), (7, .int a_5), (5, .long a_6), (0, .ref z), (1, .long x1)]) hx hb dX4_spread_35 rfl hl (by decide) rfl (fun ls hl => ?_)
        refine lv_lload hx hb dX4_spread_36 (lv_at hl 2 rfl) ?_
        refine lv_iconst (v := 1) hx hb dX4_spread_38 (by decide) ?_
        refine lv_lushr (v := (gLushr a_6 1)) hx hb dX4_spread_39 rfl ?_
        refine lv_topl (fun y5_14 e_y5_14 => ?_)
        have h := gx_let e_y5_14 h
        refine lv_lstore (lv' := [(5, .long y5_14), (3, .long y3_13), (7, .int a_5), (0, .ref z), (1, .long x1)]) hx hb dX4_spread_40 hl (by decide) rfl (fun ls hl => ?_)
        obtain ⟨y7_15, e_y7_15⟩ : ∃ y : Int32, y = (a_5 + 1) := ⟨_, rfl⟩
        have h := gx_let e_y7_15 h
        refine lv_iinc (v := y7_15) (lv' := [(7, .int y7_15), (5, .long y5_14), (3, .long y3_13), (0, .ref z), (1, .long x1)]) hx hb dX4_spread_42 hl (k := 2) rfl (by rw [e_y7_15]; rfl) (by decide) rfl (fun ls hl => ?_)
        refine lv_goto (tgt := 8) hx hb dX4_spread_45 (by decide) ?_
        exact ih (y7_15, y5_14, y3_13) _ _ _ h ⟨hP, hD, hS, lv_sub (l' := [(7, .int y7_15), (5, .long y5_14), (3, .long y3_13), (0, .ref z), (1, .long x1)]) hl [0, 1, 2, 3, 4] rfl⟩

def fL_X9_folded_5 (K : Nat) (l2 : Int32) : Nat → Int32 × Int64 → Option (Int32 × Int64)
  | 0, _ => none
  | k + 1, (l5, l3) =>
    if 5 ≤ l5 then
      some (l5, l3)
    else
      if l2 ≤ (1 <<< (l5 &&& 31)) then
        some (l5, l3)
      else
        gIx l5 5 <|
        gLet (l3 ^^^ ((gLushr l3 (1 <<< (l5 &&& 31))) &&& (gFP (Int32.toNatClampNeg l5)))) fun y3_3 =>
        gLet (l5 + 1) fun y5_4 =>
        fL_X9_folded_5 K l2 k (y5_4, y3_3)
def f_X9_folded (K : Nat) (x1 : Int64) (x2 : Int32) : Option (Int64) :=
  Option.bind (fL_X9_folded_5 K x2 K (0, x1)) fun (o_5, o_6) =>
  some o_6
set_option maxHeartbeats 4000000 in
set_option maxRecDepth 100000 in
theorem c_X9_folded (l : Launch) (D : va_G) (cy : Nat → ClassId) (t sz K : Nat) (x1 : Int64) (x2 : Int32) (r_ : Int64) (h : f_X9_folded K x1 x2 = some r_) : gMl l D cy t sz yX9_folded wsX9_folded 0 0 [.long x1, .int x2] [] r_ [] := by
  refine gBl (cc := cX9_folded) (maxL := 6) (ret := (some .long)) (by decide) rfl (Nat.le_of_ble_eq_true rfl) ?_
  intro p e s m below meth c A ls hAt hl
  obtain ⟨hx, hb, hml, hr, hts, hown, hlocks, hin, hK, hG, hA, hP, hD⟩ := hAt
  have hS : va_S A s.heap s.heap [] := va_S.rf
  have hl : lv_has ls 6 [(0, .long x1), (2, .int x2)] := hl
  have f289 := hts (.fieldLink RX9 289 "PlainLines" "FIRST_PARTNERS" "[J") (by decide +kernel)
  rw [f_X9_folded] at h
  refine lv_lload_n hx hb dX9_folded_0 rfl (lv_at hl 0 rfl) ?_
  refine lv_lstore_n (lv' := [(3, .long x1), (0, .long x1), (2, .int x2)]) hx hb dX9_folded_1 rfl hl (by decide) rfl (fun ls hl => ?_)
  refine lv_iconst (v := 0) hx hb dX9_folded_2 (by decide) ?_
  refine lv_istore (lv' := [(5, .int 0), (3, .long x1), (0, .long x1), (2, .int x2)]) hx hb dX9_folded_3 hl (by decide) rfl (fun ls hl => ?_)
  obtain ⟨⟨o_1, o_2⟩, hL_3, h⟩ := gx_b h
  refine gJoin (Pj := fun H locs ls => va_P D vwCl [] H ∧ va_D A [] ∧ va_S A s.heap H locs ∧ lv_has ls 6 [(5, .int o_1), (3, .long o_2), (0, .long x1), (2, .int x2)]) (pcM := 44) (st := []) ?_ (fun hJ44 => ?_)
  · intro H locs ls hp_
    obtain ⟨hP, hD, hS, hl⟩ := hp_
    clear hL_3
    refine lv_lload_n hx hb dX9_folded_44 rfl (lv_at hl 1 rfl) ?_
    cases h
    exact gRl hx hb hr hlocks hP hD hS dX9_folded_45
  · refine gLoop (Hy := fun k_ v_ => fL_X9_folded_5 K x2 k_ v_ = some (o_1, o_2)) (Pl := fun (v_ : Int32 × Int64) H locs ls => match v_ with | (a_4, a_5) => va_P D vwCl [] H ∧ va_D A [] ∧ va_S A s.heap H locs ∧ lv_has ls 6 [(5, .int a_4), (3, .long a_5), (0, .long x1), (2, .int x2)]) (pcH := 5) (fun _ q_ => by cases q_) ?_ K (0, x1) hL_3 ⟨hP, hD, hS, hl⟩
    clear hL_3 h hP hD hS hl
    intro k_ ih ⟨a_4, a_5⟩ H locs ls h hp_
    obtain ⟨hP, hD, hS, hl⟩ := hp_
    have hP : va_P D vwCl [] H := hP
    have hD : va_D A [] := hD
    have hl : lv_has ls 6 [(5, .int a_4), (3, .long a_5), (0, .long x1), (2, .int x2)] := hl
    change fL_X9_folded_5 K x2 (k_ + 1) (a_4, a_5) = _ at h
    rw [fL_X9_folded_5] at h
    refine lv_iload hx hb dX9_folded_5 (lv_at hl 0 rfl) ?_
    refine va_gets hx hb hG.1 hS hown f289 (fun _ h9 => h9) dX9_folded_7 ?_
    refine va_tlen (v := 5) hx hb hG.2.1 hS rfl dX9_folded_10 ?_
    refine lv_icmp_ge (tgt := 44) hx hb dX9_folded_11 (by decide) (fun c_6 => ?_) (fun c_6 => ?_)
    · have h := gx_t c_6 h
      have hl := lv_sub (l' := [(5, .int a_4), (3, .long a_5), (0, .long x1), (2, .int x2)]) hl [0, 1, 2, 3] rfl
      cases h
      exact hJ44 _ _ _ ⟨hP, hD, hS, hl⟩
    · have h := gx_f c_6 h
      refine lv_iconst (v := 1) hx hb dX9_folded_14 (by decide) ?_
      refine lv_iload hx hb dX9_folded_15 (lv_at hl 0 rfl) ?_
      refine lv_ishl hx hb dX9_folded_17 ?_
      refine lv_iload_n hx hb dX9_folded_18 rfl (lv_at hl 3 rfl) ?_
      refine lv_icmp_ge (tgt := 44) hx hb dX9_folded_19 (by decide) (fun c_7 => ?_) (fun c_7 => ?_)
      · have h := gx_t c_7 h
        have hl := lv_sub (l' := [(5, .int a_4), (3, .long a_5), (0, .long x1), (2, .int x2)]) hl [0, 1, 2, 3] rfl
        cases h
        exact hJ44 _ _ _ ⟨hP, hD, hS, hl⟩
      · have h := gx_f c_7 h
        refine lv_lload_n hx hb dX9_folded_22 rfl (lv_at hl 1 rfl) ?_
        refine lv_lload_n hx hb dX9_folded_23 rfl (lv_at hl 1 rfl) ?_
        refine lv_iconst (v := 1) hx hb dX9_folded_24 (by decide) ?_
        refine lv_iload hx hb dX9_folded_25 (lv_at hl 0 rfl) ?_
        refine lv_ishl hx hb dX9_folded_27 ?_
        refine lv_lushr (v := (gLushr a_5 (1 <<< (a_4 &&& 31)))) hx hb dX9_folded_28 rfl ?_
        refine va_gets hx hb hG.1 hS hown f289 (fun _ h9 => h9) dX9_folded_29 ?_
        refine lv_iload hx hb dX9_folded_32 (lv_at hl 0 rfl) ?_
        obtain ⟨hi_, h⟩ := gx_ix h
        refine va_tl hx hb hG.2.1 hS hi_ rfl dX9_folded_34 ?_
        refine lv_land hx hb dX9_folded_35 ?_
        refine lv_lxor hx hb dX9_folded_36 ?_
        refine lv_topl (fun y3_8 e_y3_8 => ?_)
        have h := gx_let e_y3_8 h
        refine lv_lstore_n (lv' := [(3, .long y3_8), (5, .int a_4), (0, .long x1), (2, .int x2)]) hx hb dX9_folded_37 rfl hl (by decide) rfl (fun ls hl => ?_)
        obtain ⟨y5_9, e_y5_9⟩ : ∃ y : Int32, y = (a_4 + 1) := ⟨_, rfl⟩
        have h := gx_let e_y5_9 h
        refine lv_iinc (v := y5_9) (lv' := [(5, .int y5_9), (3, .long y3_8), (0, .long x1), (2, .int x2)]) hx hb dX9_folded_38 hl (k := 1) rfl (by rw [e_y5_9]; rfl) (by decide) rfl (fun ls hl => ?_)
        refine lv_goto (tgt := 5) hx hb dX9_folded_41 (by decide) ?_
        exact ih (y5_9, y3_8) _ _ _ h ⟨hP, hD, hS, lv_sub (l' := [(5, .int y5_9), (3, .long y3_8), (0, .long x1), (2, .int x2)]) hl [0, 1, 2, 3] rfl⟩

def f_X4_wordOf (K : Nat) (x1 : Int64) (v_n : Int32) (v_goodOnes : Int64) (v_frozenOnes : Int64) : Option (Int64) :=
  Option.bind (f_X4_spread K x1 v_n v_goodOnes) fun r_1 =>
  Option.bind (f_X9_folded K (r_1 ||| v_frozenOnes) v_n) fun r_2 =>
  some r_2
set_option maxHeartbeats 4000000 in
set_option maxRecDepth 100000 in
theorem c_X4_wordOf (l : Launch) (D : va_G) (cy : Nat → ClassId) (t sz K : Nat) (z : Nat) (z_uppers : Nat) (v_n : Int32) (v_p : Int32) (v_q : Int32) (v_goodOnes : Int64) (v_frozenOnes : Int64) (x1 : Int64) (r_ : Int64) (h : f_X4_wordOf K x1 v_n v_goodOnes v_frozenOnes = some r_) : gMl l D cy t sz yX4_wordOf wsX4_wordOf 2 48 [.ref z, .long x1] [(z, .inr (3, [.int v_n, .int v_p, .int v_q, .long v_goodOnes, .long v_frozenOnes, .ref z_uppers]))] r_ [(z, .inr (3, [.int v_n, .int v_p, .int v_q, .long v_goodOnes, .long v_frozenOnes, .ref z_uppers]))] := by
  refine gBl (cc := cX4_wordOf) (maxL := 3) (ret := (some .long)) (by decide) rfl (Nat.le_of_ble_eq_true rfl) ?_
  intro p e s m below meth c A ls hAt hl
  obtain ⟨hx, hb, hml, hr, hts, hown, hlocks, hin, hK, hG, hA, hP, hD⟩ := hAt
  have hS : va_S A s.heap s.heap [] := va_S.rf
  have hl : lv_has ls 3 [(0, .ref z), (1, .long x1)] := hl
  have f29 := hts (.fieldLink RX4 29 "PlainLines$Places" "frozenOnes" "J") (by decide +kernel)
  have iX4 := (by decide +kernel : ∀ w ∈ u_ws RX4 TX4 6, w ∈ wsX4_wordOf)
  have f9 := hts (.fieldLink RX4 9 "PlainLines$Places" "n" "I") (by decide +kernel)
  rw [f_X4_wordOf] at h
  refine lv_aload_n hx hb dX4_wordOf_0 rfl (lv_at hl 0 rfl) ?_
  refine lv_lload_n hx hb dX4_wordOf_1 rfl (lv_at hl 1 rfl) ?_
  obtain ⟨r_1, hc_2, h⟩ := gx_b h
  refine gCalll (wr := []) (va_runV (As := [.long x1]) (rest := []) ⟨hx, hb, hml, hown, hts⟩ (c_X4_spread l D cy t s.heap.size K z z_uppers v_n v_p v_q v_goodOnes v_frozenOnes x1 r_1 hc_2) (cwV 1 hts gX4_wordOf_X4_spread rfl rfl rfl (by decide +kernel) ⟨Nat.le_of_ble_eq_true rfl, Nat.le_of_ble_eq_true rfl⟩) ⟨gBlind, va_recv hK hP (ci := 3) (q0 := 0) rfl rfl, fun U hU hW => ⟨rfl, gPre.call hK hG hA hP hD hS [0] (by decide) rfl U hU hW⟩⟩ rfl rfl hl.1 rfl (lv_room (Nat.le_of_ble_eq_true rfl)) dX4_wordOf_2 ⟨Nat.le_of_ble_eq_true rfl, Nat.le_of_ble_eq_true rfl⟩) hA hP hD hS [0] [] rfl rfl (by decide) (by decide) (fun H locs hP hD hS => ?_)
  have hP : va_P D vwCl [(z, .inr (3, [.int v_n, .int v_p, .int v_q, .long v_goodOnes, .long v_frozenOnes, .ref z_uppers]))] H := hP
  have hD : va_D A [(z, .inr (3, [.int v_n, .int v_p, .int v_q, .long v_goodOnes, .long v_frozenOnes, .ref z_uppers]))] := hD
  refine lv_aload_n hx hb dX4_wordOf_5 rfl (lv_at hl 0 rfl) ?_
  refine va_get (D := D) (ci := 3) (v := .long v_frozenOnes) (C := RX4) (T := TX4) (N := 6) hx hb hts iX4 hown hK hP 0 rfl rfl 4 (by decide) f29 (fun _ h9 => h9) rfl dX4_wordOf_6 ?_
  refine lv_lor hx hb dX4_wordOf_9 ?_
  refine lv_aload_n hx hb dX4_wordOf_10 rfl (lv_at hl 0 rfl) ?_
  refine va_get (D := D) (ci := 3) (v := .int v_n) (C := RX4) (T := TX4) (N := 6) hx hb hts iX4 hown hK hP 0 rfl rfl 0 (by decide) f9 (fun _ h9 => h9) rfl dX4_wordOf_11 ?_
  obtain ⟨r_3, hc_4, h⟩ := gx_b h
  refine gCalll (wr := [(z, .inr (3, [.int v_n, .int v_p, .int v_q, .long v_goodOnes, .long v_frozenOnes, .ref z_uppers]))]) (va_runSN (As := [.long (r_1 ||| v_frozenOnes), .int v_n]) (rest := []) ⟨hx, hb, hml, hown, hts⟩ (c_X9_folded l D cy t H.size K (r_1 ||| v_frozenOnes) v_n r_3 hc_4) ⟨va_cnB 2 hts gX4_wordOf_X9_folded_n52 rfl rfl rfl (hG.2.2.1 11 _ rfl) (hts (.initialized RX9) (by decide +kernel)) (by decide +kernel) ⟨Nat.le_of_ble_eq_true rfl, Nat.le_of_ble_eq_true rfl⟩, hts (.static yX9_folded) (by decide +kernel), trivial⟩ ⟨gBlind, fun U hU hW => ⟨rfl, gPre.call hK hG hA hP hD hS [] (by decide) rfl U hU hW⟩⟩ rfl rfl hl.1 rfl (lv_room (Nat.le_of_ble_eq_true rfl)) dX4_wordOf_14 ⟨Nat.le_of_ble_eq_true rfl, Nat.le_of_ble_eq_true rfl⟩) hA hP hD hS [] [0] rfl rfl (by decide) (by decide) (fun H locs hP hD hS => ?_)
  have hP : va_P D vwCl [(z, .inr (3, [.int v_n, .int v_p, .int v_q, .long v_goodOnes, .long v_frozenOnes, .ref z_uppers]))] H := hP
  have hD : va_D A [(z, .inr (3, [.int v_n, .int v_p, .int v_q, .long v_goodOnes, .long v_frozenOnes, .ref z_uppers]))] := hD
  cases h
  exact gRl hx hb hr hlocks hP hD hS dX4_wordOf_17

def fL_X4_messageIn_8 (K : Nat) (l1 : Int64) (u0_0 : Int32) (u0_3 : Int64) : Nat → Int32 × Int32 × Int64 → Option (Int32 × Int32 × Int64)
  | 0, _ => none
  | k + 1, (l6, l5, l3) =>
    if u0_0 ≤ l6 then
      some (l6, l5, l3)
    else
      Option.bind (f_X4_isGood K l6 u0_3) fun r_2 =>
      if r_2 = 0 then
        gLet (l6 + 1) fun y6_4 =>
        fL_X4_messageIn_8 K l1 u0_0 u0_3 k (y6_4, l5, l3)
      else
        gLet (l3 ||| (gLshl ((gLushr l1 l6) &&& 1) l5)) fun y3_5 =>
        gLet (l5 + 1) fun y5_6 =>
        gLet (l6 + 1) fun y6_7 =>
        fL_X4_messageIn_8 K l1 u0_0 u0_3 k (y6_7, y5_6, y3_5)
def f_X4_messageIn (K : Nat) (x1 : Int64) (v_n : Int32) (v_goodOnes : Int64) : Option (Int64) :=
  Option.bind (fL_X4_messageIn_8 K x1 v_n v_goodOnes K (0, 0, 0)) fun (o_8, o_9, o_10) =>
  some o_10
set_option maxHeartbeats 4000000 in
set_option maxRecDepth 100000 in
theorem c_X4_messageIn (l : Launch) (D : va_G) (cy : Nat → ClassId) (t sz K : Nat) (z : Nat) (z_uppers : Nat) (v_n : Int32) (v_p : Int32) (v_q : Int32) (v_goodOnes : Int64) (v_frozenOnes : Int64) (x1 : Int64) (r_ : Int64) (h : f_X4_messageIn K x1 v_n v_goodOnes = some r_) : gMl l D cy t sz yX4_messageIn wsX4_messageIn 1 21 [.ref z, .long x1] [(z, .inr (3, [.int v_n, .int v_p, .int v_q, .long v_goodOnes, .long v_frozenOnes, .ref z_uppers]))] r_ [(z, .inr (3, [.int v_n, .int v_p, .int v_q, .long v_goodOnes, .long v_frozenOnes, .ref z_uppers]))] := by
  refine gBl (cc := cX4_messageIn) (maxL := 7) (ret := (some .long)) (by decide) rfl (Nat.le_of_ble_eq_true rfl) ?_
  intro p e s m below meth c A ls hAt hl
  obtain ⟨hx, hb, hml, hr, hts, hown, hlocks, hin, hK, hG, hA, hP, hD⟩ := hAt
  have hS : va_S A s.heap s.heap [] := va_S.rf
  have hl : lv_has ls 7 [(0, .ref z), (1, .long x1)] := hl
  have f9 := hts (.fieldLink RX4 9 "PlainLines$Places" "n" "I") (by decide +kernel)
  have iX4 := (by decide +kernel : ∀ w ∈ u_ws RX4 TX4 6, w ∈ wsX4_messageIn)
  rw [f_X4_messageIn] at h
  refine lv_lconst (v := 0) hx hb dX4_messageIn_0 (by decide) ?_
  refine lv_lstore_n (lv' := [(3, .long 0), (0, .ref z), (1, .long x1)]) hx hb dX4_messageIn_1 rfl hl (by decide) rfl (fun ls hl => ?_)
  refine lv_iconst (v := 0) hx hb dX4_messageIn_2 (by decide) ?_
  refine lv_istore (lv' := [(5, .int 0), (3, .long 0), (0, .ref z), (1, .long x1)]) hx hb dX4_messageIn_3 hl (by decide) rfl (fun ls hl => ?_)
  refine lv_iconst (v := 0) hx hb dX4_messageIn_5 (by decide) ?_
  refine lv_istore (lv' := [(6, .int 0), (5, .int 0), (3, .long 0), (0, .ref z), (1, .long x1)]) hx hb dX4_messageIn_6 hl (by decide) rfl (fun ls hl => ?_)
  obtain ⟨⟨o_1, o_2, o_3⟩, hL_4, h⟩ := gx_b h
  refine gJoin (Pj := fun H locs ls => va_P D vwCl [(z, .inr (3, [.int v_n, .int v_p, .int v_q, .long v_goodOnes, .long v_frozenOnes, .ref z_uppers]))] H ∧ va_D A [(z, .inr (3, [.int v_n, .int v_p, .int v_q, .long v_goodOnes, .long v_frozenOnes, .ref z_uppers]))] ∧ va_S A s.heap H locs ∧ lv_has ls 7 [(6, .int o_1), (5, .int o_2), (3, .long o_3), (0, .ref z), (1, .long x1)]) (pcM := 47) (st := []) ?_ (fun hJ47 => ?_)
  · intro H locs ls hp_
    obtain ⟨hP, hD, hS, hl⟩ := hp_
    clear hL_4
    refine lv_lload_n hx hb dX4_messageIn_47 rfl (lv_at hl 2 rfl) ?_
    cases h
    exact gRl hx hb hr hlocks hP hD hS dX4_messageIn_48
  · refine gLoop (Hy := fun k_ v_ => fL_X4_messageIn_8 K x1 v_n v_goodOnes k_ v_ = some (o_1, o_2, o_3)) (Pl := fun (v_ : Int32 × Int32 × Int64) H locs ls => match v_ with | (a_5, a_6, a_7) => va_P D vwCl [(z, .inr (3, [.int v_n, .int v_p, .int v_q, .long v_goodOnes, .long v_frozenOnes, .ref z_uppers]))] H ∧ va_D A [(z, .inr (3, [.int v_n, .int v_p, .int v_q, .long v_goodOnes, .long v_frozenOnes, .ref z_uppers]))] ∧ va_S A s.heap H locs ∧ lv_has ls 7 [(6, .int a_5), (5, .int a_6), (3, .long a_7), (0, .ref z), (1, .long x1)]) (pcH := 8) (fun _ q_ => by cases q_) ?_ K (0, 0, 0) hL_4 ⟨hP, hD, hS, hl⟩
    clear hL_4 h hP hD hS hl
    intro k_ ih ⟨a_5, a_6, a_7⟩ H locs ls h hp_
    obtain ⟨hP, hD, hS, hl⟩ := hp_
    have hP : va_P D vwCl [(z, .inr (3, [.int v_n, .int v_p, .int v_q, .long v_goodOnes, .long v_frozenOnes, .ref z_uppers]))] H := hP
    have hD : va_D A [(z, .inr (3, [.int v_n, .int v_p, .int v_q, .long v_goodOnes, .long v_frozenOnes, .ref z_uppers]))] := hD
    have hl : lv_has ls 7 [(6, .int a_5), (5, .int a_6), (3, .long a_7), (0, .ref z), (1, .long x1)] := hl
    change fL_X4_messageIn_8 K x1 v_n v_goodOnes (k_ + 1) (a_5, a_6, a_7) = _ at h
    rw [fL_X4_messageIn_8] at h
    refine lv_iload hx hb dX4_messageIn_8 (lv_at hl 0 rfl) ?_
    refine lv_aload_n hx hb dX4_messageIn_10 rfl (lv_at hl 3 rfl) ?_
    refine va_get (D := D) (ci := 3) (v := .int v_n) (C := RX4) (T := TX4) (N := 6) hx hb hts iX4 hown hK hP 0 rfl rfl 0 (by decide) f9 (fun _ h9 => h9) rfl dX4_messageIn_11 ?_
    refine lv_icmp_ge (tgt := 47) hx hb dX4_messageIn_14 (by decide) (fun c_8 => ?_) (fun c_8 => ?_)
    · have h := gx_t c_8 h
      have hl := lv_sub (l' := [(6, .int a_5), (5, .int a_6), (3, .long a_7), (0, .ref z), (1, .long x1)]) hl [0, 1, 2, 3, 4] rfl
      cases h
      exact hJ47 _ _ _ ⟨hP, hD, hS, hl⟩
    · have h := gx_f c_8 h
      refine lv_aload_n hx hb dX4_messageIn_17 rfl (lv_at hl 3 rfl) ?_
      refine lv_iload hx hb dX4_messageIn_18 (lv_at hl 0 rfl) ?_
      obtain ⟨r_9, hc_10, h⟩ := gx_b h
      refine gCalli (wr := []) (va_runV (As := [.int a_5]) (rest := []) ⟨hx, hb, hml, hown, hts⟩ (c_X4_isGood l D cy t H.size K z z_uppers v_n v_p v_q v_goodOnes v_frozenOnes a_5 r_9 hc_10) (cwV 1 hts gX4_messageIn_X4_isGood rfl rfl rfl (by decide +kernel) ⟨Nat.le_of_ble_eq_true rfl, Nat.le_of_ble_eq_true rfl⟩) ⟨gBlind, va_recv hK hP (ci := 3) (q0 := 0) rfl rfl, fun U hU hW => ⟨rfl, gPre.call hK hG hA hP hD hS [0] (by decide) rfl U hU hW⟩⟩ rfl rfl hl.1 rfl (lv_room (Nat.le_of_ble_eq_true rfl)) dX4_messageIn_20 ⟨Nat.le_of_ble_eq_true rfl, Nat.le_of_ble_eq_true rfl⟩) hA hP hD hS [0] [] rfl rfl (by decide) (by decide) (fun H locs hP hD hS => ?_)
      have hP : va_P D vwCl [(z, .inr (3, [.int v_n, .int v_p, .int v_q, .long v_goodOnes, .long v_frozenOnes, .ref z_uppers]))] H := hP
      have hD : va_D A [(z, .inr (3, [.int v_n, .int v_p, .int v_q, .long v_goodOnes, .long v_frozenOnes, .ref z_uppers]))] := hD
      refine lv_if_eq (tgt := 41) hx hb dX4_messageIn_23 (by decide) (fun c_11 => ?_) (fun c_11 => ?_)
      · have h := gx_t c_11 h
        obtain ⟨y6_12, e_y6_12⟩ : ∃ y : Int32, y = (a_5 + 1) := ⟨_, rfl⟩
        have h := gx_let e_y6_12 h
        refine lv_iinc (v := y6_12) (lv' := [(6, .int y6_12), (5, .int a_6), (3, .long a_7), (0, .ref z), (1, .long x1)]) hx hb dX4_messageIn_41 hl (k := 0) rfl (by rw [e_y6_12]; rfl) (by decide) rfl (fun ls hl => ?_)
        refine lv_goto (tgt := 8) hx hb dX4_messageIn_44 (by decide) ?_
        exact ih (y6_12, a_6, a_7) _ _ _ h ⟨hP, hD, hS, lv_sub (l' := [(6, .int y6_12), (5, .int a_6), (3, .long a_7), (0, .ref z), (1, .long x1)]) hl [0, 1, 2, 3, 4] rfl⟩
      · have h := gx_f c_11 h
        refine lv_lload_n hx hb dX4_messageIn_26 rfl (lv_at hl 2 rfl) ?_
        refine lv_lload_n hx hb dX4_messageIn_27 rfl (lv_at hl 4 rfl) ?_
        refine lv_iload hx hb dX4_messageIn_28 (lv_at hl 0 rfl) ?_
        refine lv_lushr (v := (gLushr x1 a_5)) hx hb dX4_messageIn_30 rfl ?_
        refine lv_lconst (v := 1) hx hb dX4_messageIn_31 (by decide) ?_
        refine lv_land hx hb dX4_messageIn_32 ?_
        refine lv_iload hx hb dX4_messageIn_33 (lv_at hl 1 rfl) ?_
        refine lv_lshl (v := (gLshl ((gLushr x1 a_5) &&& 1) a_6)) hx hb dX4_messageIn_35 rfl ?_
        refine lv_lor hx hb dX4_messageIn_36 ?_
        refine lv_topl (fun y3_13 e_y3_13 => ?_)
        have h := gx_let e_y3_13 h
        refine lv_lstore_n (lv' := [(3, .long y3_13), (6, .int a_5), (5, .int a_6), (0, .ref z), (1, .long x1)]) hx hb dX4_messageIn_37 rfl hl (by decide) rfl (fun ls hl => ?_)
        obtain ⟨y5_14, e_y5_14⟩ : ∃ y : Int32, y = (a_6 + 1) := ⟨_, rfl⟩
        have h := gx_let e_y5_14 h
        refine lv_iinc (v := y5_14) (lv' := [(5, .int y5_14), (3, .long y3_13), (6, .int a_5), (0, .ref z), (1, .long x1)]) hx hb dX4_messageIn_38 hl (k := 2) rfl (by rw [e_y5_14]; rfl) (by decide) rfl (fun ls hl => ?_)
        obtain ⟨y6_15, e_y6_15⟩ : ∃ y : Int32, y = (a_5 + 1) := ⟨_, rfl⟩
        have h := gx_let e_y6_15 h
        refine lv_iinc (v := y6_15) (lv' := [(6, .int y6_15), (5, .int y5_14), (3, .long y3_13), (0, .ref z), (1, .long x1)]) hx hb dX4_messageIn_41 hl (k := 2) rfl (by rw [e_y6_15]; rfl) (by decide) rfl (fun ls hl => ?_)
        refine lv_goto (tgt := 8) hx hb dX4_messageIn_44 (by decide) ?_
        exact ih (y6_15, y5_14, y3_13) _ _ _ h ⟨hP, hD, hS, lv_sub (l' := [(6, .int y6_15), (5, .int y5_14), (3, .long y3_13), (0, .ref z), (1, .long x1)]) hl [0, 1, 2, 3, 4] rfl⟩

def fL_X4_lowerNumber_4 (K : Nat) (u0_0 : Int32) (u0_2 : Int32) : Nat → Int32 × Int64 → Option (Int64)
  | 0, _ => none
  | k + 1, (l3, l1) =>
    if u0_0 ≤ l3 then
      some l1
    else
      gLet (l1 * (Int32.toInt64 u0_2)) fun y1_2 =>
      if (lg_cmp y1_2 1000000000000000) ≤ 0 then
        gLet (l3 + 1) fun y3_4 =>
        fL_X4_lowerNumber_4 K u0_0 u0_2 k (y3_4, y1_2)
      else
        some (-9223372036854775808)
def f_X4_lowerNumber (K : Nat) (v_n : Int32) (v_q : Int32) : Option (Int64) :=
  fL_X4_lowerNumber_4 K v_n v_q K (0, 1)
set_option maxHeartbeats 4000000 in
set_option maxRecDepth 100000 in
theorem c_X4_lowerNumber (l : Launch) (D : va_G) (cy : Nat → ClassId) (t sz K : Nat) (z : Nat) (z_uppers : Nat) (v_n : Int32) (v_p : Int32) (v_q : Int32) (v_goodOnes : Int64) (v_frozenOnes : Int64) (r_ : Int64) (h : f_X4_lowerNumber K v_n v_q = some r_) : gMl l D cy t sz yX4_lowerNumber wsX4_lowerNumber 0 0 [.ref z] [(z, .inr (3, [.int v_n, .int v_p, .int v_q, .long v_goodOnes, .long v_frozenOnes, .ref z_uppers]))] r_ [(z, .inr (3, [.int v_n, .int v_p, .int v_q, .long v_goodOnes, .long v_frozenOnes, .ref z_uppers]))] := by
  refine gBl (cc := cX4_lowerNumber) (maxL := 4) (ret := (some .long)) (by decide) rfl (Nat.le_of_ble_eq_true rfl) ?_
  intro p e s m below meth c A ls hAt hl
  obtain ⟨hx, hb, hml, hr, hts, hown, hlocks, hin, hK, hG, hA, hP, hD⟩ := hAt
  have hS : va_S A s.heap s.heap [] := va_S.rf
  have hl : lv_has ls 4 [(0, .ref z)] := hl
  have f9 := hts (.fieldLink RX4 9 "PlainLines$Places" "n" "I") (by decide +kernel)
  have iX4 := (by decide +kernel : ∀ w ∈ u_ws RX4 TX4 6, w ∈ wsX4_lowerNumber)
  have f18 := hts (.fieldLink RX4 18 "PlainLines$Places" "q" "I") (by decide +kernel)
  have k60 := hts (.constantLong RX4 60 (1000000000000000)) (by decide +kernel)
  have k62 := hts (.constantLong RX4 62 (-9223372036854775808)) (by decide +kernel)
  rw [f_X4_lowerNumber] at h
  refine lv_lconst (v := 1) hx hb dX4_lowerNumber_0 (by decide) ?_
  refine lv_lstore_n (lv' := [(1, .long 1), (0, .ref z)]) hx hb dX4_lowerNumber_1 rfl hl (by decide) rfl (fun ls hl => ?_)
  refine lv_iconst (v := 0) hx hb dX4_lowerNumber_2 (by decide) ?_
  refine lv_istore_n (lv' := [(3, .int 0), (1, .long 1), (0, .ref z)]) hx hb dX4_lowerNumber_3 rfl hl (by decide) rfl (fun ls hl => ?_)
  have hL_1 := h
  refine gLoop (Hy := fun k_ v_ => fL_X4_lowerNumber_4 K v_n v_q k_ v_ = some r_) (Pl := fun (v_ : Int32 × Int64) H locs ls => match v_ with | (a_2, a_3) => va_P D vwCl [(z, .inr (3, [.int v_n, .int v_p, .int v_q, .long v_goodOnes, .long v_frozenOnes, .ref z_uppers]))] H ∧ va_D A [(z, .inr (3, [.int v_n, .int v_p, .int v_q, .long v_goodOnes, .long v_frozenOnes, .ref z_uppers]))] ∧ va_S A s.heap H locs ∧ lv_has ls 4 [(3, .int a_2), (1, .long a_3), (0, .ref z)]) (pcH := 4) (fun _ q_ => by cases q_) ?_ K (0, 1) hL_1 ⟨hP, hD, hS, hl⟩
  clear hL_1 h hP hD hS hl
  intro k_ ih ⟨a_2, a_3⟩ H locs ls h hp_
  obtain ⟨hP, hD, hS, hl⟩ := hp_
  have hP : va_P D vwCl [(z, .inr (3, [.int v_n, .int v_p, .int v_q, .long v_goodOnes, .long v_frozenOnes, .ref z_uppers]))] H := hP
  have hD : va_D A [(z, .inr (3, [.int v_n, .int v_p, .int v_q, .long v_goodOnes, .long v_frozenOnes, .ref z_uppers]))] := hD
  have hl : lv_has ls 4 [(3, .int a_2), (1, .long a_3), (0, .ref z)] := hl
  change fL_X4_lowerNumber_4 K v_n v_q (k_ + 1) (a_2, a_3) = _ at h
  rw [fL_X4_lowerNumber_4] at h
  refine lv_iload_n hx hb dX4_lowerNumber_4 rfl (lv_at hl 0 rfl) ?_
  refine lv_aload_n hx hb dX4_lowerNumber_5 rfl (lv_at hl 2 rfl) ?_
  refine va_get (D := D) (ci := 3) (v := .int v_n) (C := RX4) (T := TX4) (N := 6) hx hb hts iX4 hown hK hP 0 rfl rfl 0 (by decide) f9 (fun _ h9 => h9) rfl dX4_lowerNumber_6 ?_
  refine lv_icmp_ge (tgt := 38) hx hb dX4_lowerNumber_9 (by decide) (fun c_4 => ?_) (fun c_4 => ?_)
  · have h := gx_t c_4 h
    refine lv_lload_n hx hb dX4_lowerNumber_38 rfl (lv_at hl 1 rfl) ?_
    cases h
    exact gRl hx hb hr hlocks hP hD hS dX4_lowerNumber_39
  · have h := gx_f c_4 h
    refine lv_lload_n hx hb dX4_lowerNumber_12 rfl (lv_at hl 1 rfl) ?_
    refine lv_aload_n hx hb dX4_lowerNumber_13 rfl (lv_at hl 2 rfl) ?_
    refine va_get (D := D) (ci := 3) (v := .int v_q) (C := RX4) (T := TX4) (N := 6) hx hb hts iX4 hown hK hP 0 rfl rfl 2 (by decide) f18 (fun _ h9 => h9) rfl dX4_lowerNumber_14 ?_
    refine lv_i2l (v := (Int32.toInt64 v_q)) hx hb dX4_lowerNumber_17 rfl ?_
    refine lv_lmul hx hb dX4_lowerNumber_18 ?_
    refine lv_topl (fun y1_5 e_y1_5 => ?_)
    have h := gx_let e_y1_5 h
    refine lv_lstore_n (lv' := [(1, .long y1_5), (3, .int a_2), (0, .ref z)]) hx hb dX4_lowerNumber_19 rfl hl (by decide) rfl (fun ls hl => ?_)
    refine lv_lload_n hx hb dX4_lowerNumber_20 rfl (lv_at hl 0 rfl) ?_
    refine lv_ldc2 hx hb hown k60 dX4_lowerNumber_21 ?_
    refine W.lcmp hx hb dX4_lowerNumber_24 ?_
    refine lv_if_le (tgt := 32) hx hb dX4_lowerNumber_25 (by decide) (fun c_6 => ?_) (fun c_6 => ?_)
    · have h := gx_t c_6 h
      obtain ⟨y3_7, e_y3_7⟩ : ∃ y : Int32, y = (a_2 + 1) := ⟨_, rfl⟩
      have h := gx_let e_y3_7 h
      refine lv_iinc (v := y3_7) (lv' := [(3, .int y3_7), (1, .long y1_5), (0, .ref z)]) hx hb dX4_lowerNumber_32 hl (k := 1) rfl (by rw [e_y3_7]; rfl) (by decide) rfl (fun ls hl => ?_)
      refine lv_goto (tgt := 4) hx hb dX4_lowerNumber_35 (by decide) ?_
      exact ih (y3_7, y1_5) _ _ _ h ⟨hP, hD, hS, lv_sub (l' := [(3, .int y3_7), (1, .long y1_5), (0, .ref z)]) hl [0, 1, 2] rfl⟩
    · have h := gx_f c_6 h
      refine lv_ldc2 hx hb hown k62 dX4_lowerNumber_28 ?_
      cases h
      exact gRl hx hb hr hlocks hP hD hS dX4_lowerNumber_31

def fL_X4_upperBelowLimit_21 (K : Nat) (l1 : Int32) : Nat → Int32 × Int64 × Int64 → Option (Int32 × Int64 × Int64)
  | 0, _ => none
  | k + 1, (l6, l4, l2) =>
    if l6 < 1 then
      some (l6, l4, l2)
    else
      gLet (l2 * l2) fun y7_5 =>
      Option.bind (α := Int64) (
        if (l1 &&& l6) = 0 then
          some (((2 * l2) * l4) - y7_5)
        else
          some y7_5) fun ms_6 =>
      gLet (l4 * l4) fun y4_8 =>
      gLet (l6 / 2) fun y6_9 =>
      fL_X4_upperBelowLimit_21 K l1 k (y6_9, y4_8, ms_6)
def f_X4_upperBelowLimit (K : Nat) (x1 : Int32) (v_n : Int32) (v_p : Int32) (v_q : Int32) : Option (Int64) :=
  gLet (Int32.toInt64 v_p) fun y2_1 =>
  gLet (Int32.toInt64 v_q) fun y4_2 =>
  gLet (v_n / 2) fun y6_3 =>
  Option.bind (fL_X4_upperBelowLimit_21 K x1 K (y6_3, y4_2, y2_1)) fun (o_10, o_11, o_12) =>
  some o_12
set_option maxHeartbeats 4000000 in
set_option maxRecDepth 100000 in
theorem c_X4_upperBelowLimit (l : Launch) (D : va_G) (cy : Nat → ClassId) (t sz K : Nat) (z : Nat) (z_uppers : Nat) (v_n : Int32) (v_p : Int32) (v_q : Int32) (v_goodOnes : Int64) (v_frozenOnes : Int64) (x1 : Int32) (r_ : Int64) (h : f_X4_upperBelowLimit K x1 v_n v_p v_q = some r_) : gMl l D cy t sz yX4_upperBelowLimit wsX4_upperBelowLimit 0 0 [.ref z, .int x1] [(z, .inr (3, [.int v_n, .int v_p, .int v_q, .long v_goodOnes, .long v_frozenOnes, .ref z_uppers]))] r_ [(z, .inr (3, [.int v_n, .int v_p, .int v_q, .long v_goodOnes, .long v_frozenOnes, .ref z_uppers]))] := by
  refine gBl (cc := cX4_upperBelowLimit) (maxL := 9) (ret := (some .long)) (by decide) rfl (Nat.le_of_ble_eq_true rfl) ?_
  intro p e s m below meth c A ls hAt hl
  obtain ⟨hx, hb, hml, hr, hts, hown, hlocks, hin, hK, hG, hA, hP, hD⟩ := hAt
  have hS : va_S A s.heap s.heap [] := va_S.rf
  have hl : lv_has ls 9 [(0, .ref z), (1, .int x1)] := hl
  have f15 := hts (.fieldLink RX4 15 "PlainLines$Places" "p" "I") (by decide +kernel)
  have iX4 := (by decide +kernel : ∀ w ∈ u_ws RX4 TX4 6, w ∈ wsX4_upperBelowLimit)
  have f18 := hts (.fieldLink RX4 18 "PlainLines$Places" "q" "I") (by decide +kernel)
  have f9 := hts (.fieldLink RX4 9 "PlainLines$Places" "n" "I") (by decide +kernel)
  have k71 := hts (.constantLong RX4 71 (2)) (by decide +kernel)
  rw [f_X4_upperBelowLimit] at h
  refine lv_aload_n hx hb dX4_upperBelowLimit_0 rfl (lv_at hl 0 rfl) ?_
  refine va_get (D := D) (ci := 3) (v := .int v_p) (C := RX4) (T := TX4) (N := 6) hx hb hts iX4 hown hK hP 0 rfl rfl 1 (by decide) f15 (fun _ h9 => h9) rfl dX4_upperBelowLimit_1 ?_
  refine lv_i2l (v := (Int32.toInt64 v_p)) hx hb dX4_upperBelowLimit_4 rfl ?_
  refine lv_topl (fun y2_1 e_y2_1 => ?_)
  have h := gx_let e_y2_1 h
  refine lv_lstore_n (lv' := [(2, .long y2_1), (0, .ref z), (1, .int x1)]) hx hb dX4_upperBelowLimit_5 rfl hl (by decide) rfl (fun ls hl => ?_)
  refine lv_aload_n hx hb dX4_upperBelowLimit_6 rfl (lv_at hl 1 rfl) ?_
  refine va_get (D := D) (ci := 3) (v := .int v_q) (C := RX4) (T := TX4) (N := 6) hx hb hts iX4 hown hK hP 0 rfl rfl 2 (by decide) f18 (fun _ h9 => h9) rfl dX4_upperBelowLimit_7 ?_
  refine lv_i2l (v := (Int32.toInt64 v_q)) hx hb dX4_upperBelowLimit_10 rfl ?_
  refine lv_topl (fun y4_2 e_y4_2 => ?_)
  have h := gx_let e_y4_2 h
  refine lv_lstore (lv' := [(4, .long y4_2), (2, .long y2_1), (0, .ref z), (1, .int x1)]) hx hb dX4_upperBelowLimit_11 hl (by decide) rfl (fun ls hl => ?_)
  refine lv_aload_n hx hb dX4_upperBelowLimit_13 rfl (lv_at hl 2 rfl) ?_
  refine va_get (D := D) (ci := 3) (v := .int v_n) (C := RX4) (T := TX4) (N := 6) hx hb hts iX4 hown hK hP 0 rfl rfl 0 (by decide) f9 (fun _ h9 => h9) rfl dX4_upperBelowLimit_14 ?_
  refine lv_iconst (v := 2) hx hb dX4_upperBelowLimit_17 (by decide) ?_
  refine lv_idiv hx hb dX4_upperBelowLimit_18 (by decide) ?_
  refine lv_topi (fun y6_3 e_y6_3 => ?_)
  have h := gx_let e_y6_3 h
  refine lv_istore (lv' := [(6, .int y6_3), (4, .long y4_2), (2, .long y2_1), (0, .ref z), (1, .int x1)]) hx hb dX4_upperBelowLimit_19 hl (by decide) rfl (fun ls hl => ?_)
  obtain ⟨⟨o_4, o_5, o_6⟩, hL_7, h⟩ := gx_b h
  refine gJoin (Pj := fun H locs ls => va_P D vwCl [(z, .inr (3, [.int v_n, .int v_p, .int v_q, .long v_goodOnes, .long v_frozenOnes, .ref z_uppers]))] H ∧ va_D A [(z, .inr (3, [.int v_n, .int v_p, .int v_q, .long v_goodOnes, .long v_frozenOnes, .ref z_uppers]))] ∧ va_S A s.heap H locs ∧ lv_has ls 9 [(6, .int o_4), (4, .long o_5), (2, .long o_6), (0, .ref z), (1, .int x1)]) (pcM := 72) (st := []) ?_ (fun hJ72 => ?_)
  · intro H locs ls hp_
    obtain ⟨hP, hD, hS, hl⟩ := hp_
    clear hL_7
    refine lv_lload_n hx hb dX4_upperBelowLimit_72 rfl (lv_at hl 2 rfl) ?_
    cases h
    exact gRl hx hb hr hlocks hP hD hS dX4_upperBelowLimit_73
  · refine gLoop (Hy := fun k_ v_ => fL_X4_upperBelowLimit_21 K x1 k_ v_ = some (o_4, o_5, o_6)) (Pl := fun (v_ : Int32 × Int64 × Int64) H locs ls => match v_ with | (a_8, a_9, a_10) => va_P D vwCl [(z, .inr (3, [.int v_n, .int v_p, .int v_q, .long v_goodOnes, .long v_frozenOnes, .ref z_uppers]))] H ∧ va_D A [(z, .inr (3, [.int v_n, .int v_p, .int v_q, .long v_goodOnes, .long v_frozenOnes, .ref z_uppers]))] ∧ va_S A s.heap H locs ∧ lv_has ls 9 [(6, .int a_8), (4, .long a_9), (2, .long a_10), (0, .ref z), (1, .int x1)]) (pcH := 21) (fun _ q_ => by cases q_) ?_ K (y6_3, y4_2, y2_1) hL_7 ⟨hP, hD, hS, hl⟩
    clear hL_7 h hP hD hS hl
    intro k_ ih ⟨a_8, a_9, a_10⟩ H locs ls h hp_
    obtain ⟨hP, hD, hS, hl⟩ := hp_
    have hP : va_P D vwCl [(z, .inr (3, [.int v_n, .int v_p, .int v_q, .long v_goodOnes, .long v_frozenOnes, .ref z_uppers]))] H := hP
    have hD : va_D A [(z, .inr (3, [.int v_n, .int v_p, .int v_q, .long v_goodOnes, .long v_frozenOnes, .ref z_uppers]))] := hD
    have hl : lv_has ls 9 [(6, .int a_8), (4, .long a_9), (2, .long a_10), (0, .ref z), (1, .int x1)] := hl
    change fL_X4_upperBelowLimit_21 K x1 (k_ + 1) (a_8, a_9, a_10) = _ at h
    rw [fL_X4_upperBelowLimit_21] at h
    refine lv_iload hx hb dX4_upperBelowLimit_21 (lv_at hl 0 rfl) ?_
    refine lv_iconst (v := 1) hx hb dX4_upperBelowLimit_23 (by decide) ?_
    refine lv_icmp_lt (tgt := 72) hx hb dX4_upperBelowLimit_24 (by decide) (fun c_11 => ?_) (fun c_11 => ?_)
    · have h := gx_t c_11 h
      have hl := lv_sub (l' := [(6, .int a_8), (4, .long a_9), (2, .long a_10), (0, .ref z), (1, .int x1)]) hl [0, 1, 2, 3, 4] rfl
      cases h
      exact hJ72 _ _ _ ⟨hP, hD, hS, hl⟩
    · have h := gx_f c_11 h
      refine lv_lload_n hx hb dX4_upperBelowLimit_27 rfl (lv_at hl 2 rfl) ?_
      refine lv_lload_n hx hb dX4_upperBelowLimit_28 rfl (lv_at hl 2 rfl) ?_
      refine lv_lmul hx hb dX4_upperBelowLimit_29 ?_
      refine lv_topl (fun y7_12 e_y7_12 => ?_)
      have h := gx_let e_y7_12 h
      refine lv_lstore (lv' := [(7, .long y7_12), (6, .int a_8), (4, .long a_9), (2, .long a_10), (0, .ref z), (1, .int x1)]) hx hb dX4_upperBelowLimit_30 hl (by decide) rfl (fun ls hl => ?_)
      refine lv_iload_n hx hb dX4_upperBelowLimit_32 rfl (lv_at hl 5 rfl) ?_
      refine lv_iload hx hb dX4_upperBelowLimit_33 (lv_at hl 1 rfl) ?_
      refine lv_iand hx hb dX4_upperBelowLimit_35 ?_
      obtain ⟨ms_13, hR_14, h⟩ := gx_b h
      refine gJoin (Pj := fun H locs ls => va_P D vwCl [(z, .inr (3, [.int v_n, .int v_p, .int v_q, .long v_goodOnes, .long v_frozenOnes, .ref z_uppers]))] H ∧ va_D A [(z, .inr (3, [.int v_n, .int v_p, .int v_q, .long v_goodOnes, .long v_frozenOnes, .ref z_uppers]))] ∧ va_S A s.heap H locs ∧ lv_has ls 9 [(7, .long y7_12), (6, .int a_8), (4, .long a_9), (2, .long a_10), (0, .ref z), (1, .int x1)]) (pcM := 55) (st := [.long ms_13]) ?_ (fun hJ55 => ?_)
      · intro H locs ls hp_
        obtain ⟨hP, hD, hS, hl⟩ := hp_
        clear hR_14
        refine lv_lstore_n (lv' := [(2, .long ms_13), (7, .long y7_12), (6, .int a_8), (4, .long a_9), (0, .ref z), (1, .int x1)]) hx hb dX4_upperBelowLimit_55 rfl hl (by decide) rfl (fun ls hl => ?_)
        refine lv_lload hx hb dX4_upperBelowLimit_56 (lv_at hl 3 rfl) ?_
        refine lv_lload hx hb dX4_upperBelowLimit_58 (lv_at hl 3 rfl) ?_
        refine lv_lmul hx hb dX4_upperBelowLimit_60 ?_
        refine lv_topl (fun y4_15 e_y4_15 => ?_)
        have h := gx_let e_y4_15 h
        refine lv_lstore (lv' := [(4, .long y4_15), (2, .long ms_13), (7, .long y7_12), (6, .int a_8), (0, .ref z), (1, .int x1)]) hx hb dX4_upperBelowLimit_61 hl (by decide) rfl (fun ls hl => ?_)
        refine lv_iload hx hb dX4_upperBelowLimit_63 (lv_at hl 3 rfl) ?_
        refine lv_iconst (v := 2) hx hb dX4_upperBelowLimit_65 (by decide) ?_
        refine lv_idiv hx hb dX4_upperBelowLimit_66 (by decide) ?_
        refine lv_topi (fun y6_16 e_y6_16 => ?_)
        have h := gx_let e_y6_16 h
        refine lv_istore (lv' := [(6, .int y6_16), (4, .long y4_15), (2, .long ms_13), (7, .long y7_12), (0, .ref z), (1, .int x1)]) hx hb dX4_upperBelowLimit_67 hl (by decide) rfl (fun ls hl => ?_)
        refine lv_goto (tgt := 21) hx hb dX4_upperBelowLimit_69 (by decide) ?_
        exact ih (y6_16, y4_15, ms_13) _ _ _ h ⟨hP, hD, hS, lv_sub (l' := [(6, .int y6_16), (4, .long y4_15), (2, .long ms_13), (0, .ref z), (1, .int x1)]) hl [0, 1, 2, 4, 5] rfl⟩
      · have h := hR_14
        refine lv_if_ne (tgt := 53) hx hb dX4_upperBelowLimit_36 (by decide) (fun c_17 => ?_) (fun c_17 => ?_)
        · have h := gx_f c_17 h
          refine lv_lload hx hb dX4_upperBelowLimit_53 (lv_at hl 0 rfl) ?_
          have hl := lv_sub (l' := [(7, .long y7_12), (6, .int a_8), (4, .long a_9), (2, .long a_10), (0, .ref z), (1, .int x1)]) hl [0, 1, 2, 3, 4, 5] rfl
          cases h
          exact hJ55 _ _ _ ⟨hP, hD, hS, hl⟩
        · have h := gx_t c_17 h
          refine lv_ldc2 hx hb hown k71 dX4_upperBelowLimit_39 ?_
          refine lv_lload_n hx hb dX4_upperBelowLimit_42 rfl (lv_at hl 3 rfl) ?_
          refine lv_lmul hx hb dX4_upperBelowLimit_43 ?_
          refine lv_lload hx hb dX4_upperBelowLimit_44 (lv_at hl 2 rfl) ?_
          refine lv_lmul hx hb dX4_upperBelowLimit_46 ?_
          refine lv_lload hx hb dX4_upperBelowLimit_47 (lv_at hl 0 rfl) ?_
          refine lv_lsub hx hb dX4_upperBelowLimit_49 ?_
          refine lv_goto (tgt := 55) hx hb dX4_upperBelowLimit_50 (by decide) ?_
          have hl := lv_sub (l' := [(7, .long y7_12), (6, .int a_8), (4, .long a_9), (2, .long a_10), (0, .ref z), (1, .int x1)]) hl [0, 1, 2, 3, 4, 5] rfl
          cases h
          exact hJ55 _ _ _ ⟨hP, hD, hS, hl⟩

def f_X4_upperNumber (K : Nat) (x1 : Int32) (v_n : Int32) (v_p : Int32) (v_q : Int32) : Option (Int64) :=
  Option.bind (f_X4_lowerNumber K v_n v_q) fun r_1 =>
  if (lg_cmp r_1 (-9223372036854775808)) = 0 then
    some (-9223372036854775808)
  else
    Option.bind (f_X4_upperBelowLimit K x1 v_n v_p v_q) fun r_3 =>
    some r_3
set_option maxHeartbeats 4000000 in
set_option maxRecDepth 100000 in
theorem c_X4_upperNumber (l : Launch) (D : va_G) (cy : Nat → ClassId) (t sz K : Nat) (z : Nat) (z_uppers : Nat) (v_n : Int32) (v_p : Int32) (v_q : Int32) (v_goodOnes : Int64) (v_frozenOnes : Int64) (x1 : Int32) (r_ : Int64) (h : f_X4_upperNumber K x1 v_n v_p v_q = some r_) : gMl l D cy t sz yX4_upperNumber wsX4_upperNumber 1 28 [.ref z, .int x1] [(z, .inr (3, [.int v_n, .int v_p, .int v_q, .long v_goodOnes, .long v_frozenOnes, .ref z_uppers]))] r_ [(z, .inr (3, [.int v_n, .int v_p, .int v_q, .long v_goodOnes, .long v_frozenOnes, .ref z_uppers]))] := by
  refine gBl (cc := cX4_upperNumber) (maxL := 2) (ret := (some .long)) (by decide) rfl (Nat.le_of_ble_eq_true rfl) ?_
  intro p e s m below meth c A ls hAt hl
  obtain ⟨hx, hb, hml, hr, hts, hown, hlocks, hin, hK, hG, hA, hP, hD⟩ := hAt
  have hS : va_S A s.heap s.heap [] := va_S.rf
  have hl : lv_has ls 2 [(0, .ref z), (1, .int x1)] := hl
  have k62 := hts (.constantLong RX4 62 (-9223372036854775808)) (by decide +kernel)
  rw [f_X4_upperNumber] at h
  refine lv_aload_n hx hb dX4_upperNumber_0 rfl (lv_at hl 0 rfl) ?_
  obtain ⟨r_1, hc_2, h⟩ := gx_b h
  refine gCalll (wr := []) (va_runV (As := []) (rest := []) ⟨hx, hb, hml, hown, hts⟩ (c_X4_lowerNumber l D cy t s.heap.size K z z_uppers v_n v_p v_q v_goodOnes v_frozenOnes r_1 hc_2) (cwV 0 hts gX4_upperNumber_X4_lowerNumber rfl rfl rfl (by decide +kernel) ⟨Nat.le_of_ble_eq_true rfl, Nat.le_of_ble_eq_true rfl⟩) ⟨gBlind, va_recv hK hP (ci := 3) (q0 := 0) rfl rfl, fun U hU hW => ⟨rfl, gPre.call hK hG hA hP hD hS [0] (by decide) rfl U hU hW⟩⟩ rfl rfl hl.1 rfl (lv_room (Nat.le_of_ble_eq_true rfl)) dX4_upperNumber_1 ⟨Nat.le_of_ble_eq_true rfl, Nat.le_of_ble_eq_true rfl⟩) hA hP hD hS [0] [] rfl rfl (by decide) (by decide) (fun H locs hP hD hS => ?_)
  have hP : va_P D vwCl [(z, .inr (3, [.int v_n, .int v_p, .int v_q, .long v_goodOnes, .long v_frozenOnes, .ref z_uppers]))] H := hP
  have hD : va_D A [(z, .inr (3, [.int v_n, .int v_p, .int v_q, .long v_goodOnes, .long v_frozenOnes, .ref z_uppers]))] := hD
  refine lv_ldc2 hx hb hown k62 dX4_upperNumber_4 ?_
  refine W.lcmp hx hb dX4_upperNumber_7 ?_
  refine lv_if_ne (tgt := 17) hx hb dX4_upperNumber_8 (by decide) (fun c_3 => ?_) (fun c_3 => ?_)
  · have h := gx_f c_3 h
    refine lv_aload_n hx hb dX4_upperNumber_17 rfl (lv_at hl 0 rfl) ?_
    refine lv_iload_n hx hb dX4_upperNumber_18 rfl (lv_at hl 1 rfl) ?_
    obtain ⟨r_4, hc_5, h⟩ := gx_b h
    refine gCalll (wr := []) (va_runV (As := [.int x1]) (rest := []) ⟨hx, hb, hml, hown, hts⟩ (c_X4_upperBelowLimit l D cy t H.size K z z_uppers v_n v_p v_q v_goodOnes v_frozenOnes x1 r_4 hc_5) (cwV 1 hts gX4_upperNumber_X4_upperBelowLimit rfl rfl rfl (by decide +kernel) ⟨Nat.le_of_ble_eq_true rfl, Nat.le_of_ble_eq_true rfl⟩) ⟨gBlind, va_recv hK hP (ci := 3) (q0 := 0) rfl rfl, fun U hU hW => ⟨rfl, gPre.call hK hG hA hP hD hS [0] (by decide) rfl U hU hW⟩⟩ rfl rfl hl.1 rfl (lv_room (Nat.le_of_ble_eq_true rfl)) dX4_upperNumber_19 ⟨Nat.le_of_ble_eq_true rfl, Nat.le_of_ble_eq_true rfl⟩) hA hP hD hS [0] [] rfl rfl (by decide) (by decide) (fun H locs hP hD hS => ?_)
    have hP : va_P D vwCl [(z, .inr (3, [.int v_n, .int v_p, .int v_q, .long v_goodOnes, .long v_frozenOnes, .ref z_uppers]))] H := hP
    have hD : va_D A [(z, .inr (3, [.int v_n, .int v_p, .int v_q, .long v_goodOnes, .long v_frozenOnes, .ref z_uppers]))] := hD
    cases h
    exact gRl hx hb hr hlocks hP hD hS dX4_upperNumber_22
  · have h := gx_t c_3 h
    refine lv_ldc2 hx hb hown k62 dX4_upperNumber_11 ?_
    refine lv_goto (tgt := 22) hx hb dX4_upperNumber_14 (by decide) ?_
    cases h
    exact gRl hx hb hr hlocks hP hD hS dX4_upperNumber_22

def fL_X4_leastBeside_10 (K : Nat) (l1 : Int64) (u0_0 : Int32) (u1 : Nat → Int64) : Nat → Int32 × Int64 × Int32 → Option (Int32 × Int64 × Int32)
  | 0, _ => none
  | k + 1, (l6, l4, l3) =>
    if u0_0 ≤ l6 then
      some (l6, l4, l3)
    else
      if (lg_cmp ((gLushr l1 l6) &&& 1) 0) = 0 then
        gIx l6 32 <|
        if 0 < (lg_cmp (u1 (Int32.toNatClampNeg l6)) l4) then
          gLet (l6 + 1) fun y6_5 =>
          fL_X4_leastBeside_10 K l1 u0_0 u1 k (y6_5, l4, l3)
        else
          gIx l6 32 <|
          gLet (u1 (Int32.toNatClampNeg l6)) fun y4_6 =>
          gLet (l6 + 1) fun y6_7 =>
          fL_X4_leastBeside_10 K l1 u0_0 u1 k (y6_7, y4_6, l6)
      else
        gLet (l6 + 1) fun y6_3 =>
        fL_X4_leastBeside_10 K l1 u0_0 u1 k (y6_3, l4, l3)
def f_X4_leastBeside (K : Nat) (x1 : Int64) (v_n : Int32) (v_uppersc : Nat → Int64) : Option (Int32) :=
  Option.bind (fL_X4_leastBeside_10 K x1 v_n v_uppersc K (0, 9223372036854775807, 0)) fun (o_8, o_9, o_10) =>
  some o_10
set_option maxHeartbeats 4000000 in
set_option maxRecDepth 100000 in
theorem c_X4_leastBeside (l : Launch) (D : va_G) (cy : Nat → ClassId) (t sz K : Nat) (z : Nat) (z_uppers : Nat) (v_n : Int32) (v_p : Int32) (v_q : Int32) (v_goodOnes : Int64) (v_frozenOnes : Int64) (v_uppersc : Nat → Int64) (x1 : Int64) (r_ : Int32) (h : f_X4_leastBeside K x1 v_n v_uppersc = some r_) : gMi l D cy t sz yX4_leastBeside wsX4_leastBeside 0 0 [.ref z, .long x1] [(z, .inr (3, [.int v_n, .int v_p, .int v_q, .long v_goodOnes, .long v_frozenOnes, .ref z_uppers])), (z_uppers, .inl (cy 1, 32, .inr (.inl v_uppersc)))] r_ [(z, .inr (3, [.int v_n, .int v_p, .int v_q, .long v_goodOnes, .long v_frozenOnes, .ref z_uppers])), (z_uppers, .inl (cy 1, 32, .inr (.inl v_uppersc)))] := by
  refine gBi (cc := cX4_leastBeside) (maxL := 7) (ret := (some .int)) (by decide) rfl (Nat.le_of_ble_eq_true rfl) ?_
  intro p e s m below meth c A ls hAt hl
  obtain ⟨hx, hb, hml, hr, hts, hown, hlocks, hin, hK, hG, hA, hP, hD⟩ := hAt
  have hS : va_S A s.heap s.heap [] := va_S.rf
  have hl : lv_has ls 7 [(0, .ref z), (1, .long x1)] := hl
  have k80 := hts (.constantLong RX4 80 (9223372036854775807)) (by decide +kernel)
  have f9 := hts (.fieldLink RX4 9 "PlainLines$Places" "n" "I") (by decide +kernel)
  have iX4 := (by decide +kernel : ∀ w ∈ u_ws RX4 TX4 6, w ∈ wsX4_leastBeside)
  have f21 := hts (.fieldLink RX4 21 "PlainLines$Places" "uppers" "[J") (by decide +kernel)
  rw [f_X4_leastBeside] at h
  refine lv_iconst (v := 0) hx hb dX4_leastBeside_0 (by decide) ?_
  refine lv_istore_n (lv' := [(3, .int 0), (0, .ref z), (1, .long x1)]) hx hb dX4_leastBeside_1 rfl hl (by decide) rfl (fun ls hl => ?_)
  refine lv_ldc2 hx hb hown k80 dX4_leastBeside_2 ?_
  refine lv_lstore (lv' := [(4, .long 9223372036854775807), (3, .int 0), (0, .ref z), (1, .long x1)]) hx hb dX4_leastBeside_5 hl (by decide) rfl (fun ls hl => ?_)
  refine lv_iconst (v := 0) hx hb dX4_leastBeside_7 (by decide) ?_
  refine lv_istore (lv' := [(6, .int 0), (4, .long 9223372036854775807), (3, .int 0), (0, .ref z), (1, .long x1)]) hx hb dX4_leastBeside_8 hl (by decide) rfl (fun ls hl => ?_)
  obtain ⟨⟨o_1, o_2, o_3⟩, hL_4, h⟩ := gx_b h
  refine gJoin (Pj := fun H locs ls => va_P D vwCl [(z, .inr (3, [.int v_n, .int v_p, .int v_q, .long v_goodOnes, .long v_frozenOnes, .ref z_uppers])), (z_uppers, .inl (cy 1, 32, .inr (.inl v_uppersc)))] H ∧ va_D A [(z, .inr (3, [.int v_n, .int v_p, .int v_q, .long v_goodOnes, .long v_frozenOnes, .ref z_uppers])), (z_uppers, .inl (cy 1, 32, .inr (.inl v_uppersc)))] ∧ va_S A s.heap H locs ∧ lv_has ls 7 [(6, .int o_1), (4, .long o_2), (3, .int o_3), (0, .ref z), (1, .long x1)]) (pcM := 61) (st := []) ?_ (fun hJ61 => ?_)
  · intro H locs ls hp_
    obtain ⟨hP, hD, hS, hl⟩ := hp_
    clear hL_4
    refine lv_iload_n hx hb dX4_leastBeside_61 rfl (lv_at hl 2 rfl) ?_
    cases h
    exact gRi hx hb hr hlocks hP hD hS dX4_leastBeside_62
  · refine gLoop (Hy := fun k_ v_ => fL_X4_leastBeside_10 K x1 v_n v_uppersc k_ v_ = some (o_1, o_2, o_3)) (Pl := fun (v_ : Int32 × Int64 × Int32) H locs ls => match v_ with | (a_5, a_6, a_7) => va_P D vwCl [(z, .inr (3, [.int v_n, .int v_p, .int v_q, .long v_goodOnes, .long v_frozenOnes, .ref z_uppers])), (z_uppers, .inl (cy 1, 32, .inr (.inl v_uppersc)))] H ∧ va_D A [(z, .inr (3, [.int v_n, .int v_p, .int v_q, .long v_goodOnes, .long v_frozenOnes, .ref z_uppers])), (z_uppers, .inl (cy 1, 32, .inr (.inl v_uppersc)))] ∧ va_S A s.heap H locs ∧ lv_has ls 7 [(6, .int a_5), (4, .long a_6), (3, .int a_7), (0, .ref z), (1, .long x1)]) (pcH := 10) (fun _ q_ => by cases q_) ?_ K (0, 9223372036854775807, 0) hL_4 ⟨hP, hD, hS, hl⟩
    clear hL_4 h hP hD hS hl
    intro k_ ih ⟨a_5, a_6, a_7⟩ H locs ls h hp_
    obtain ⟨hP, hD, hS, hl⟩ := hp_
    have hP : va_P D vwCl [(z, .inr (3, [.int v_n, .int v_p, .int v_q, .long v_goodOnes, .long v_frozenOnes, .ref z_uppers])), (z_uppers, .inl (cy 1, 32, .inr (.inl v_uppersc)))] H := hP
    have hD : va_D A [(z, .inr (3, [.int v_n, .int v_p, .int v_q, .long v_goodOnes, .long v_frozenOnes, .ref z_uppers])), (z_uppers, .inl (cy 1, 32, .inr (.inl v_uppersc)))] := hD
    have hl : lv_has ls 7 [(6, .int a_5), (4, .long a_6), (3, .int a_7), (0, .ref z), (1, .long x1)] := hl
    change fL_X4_leastBeside_10 K x1 v_n v_uppersc (k_ + 1) (a_5, a_6, a_7) = _ at h
    rw [fL_X4_leastBeside_10] at h
    refine lv_iload hx hb dX4_leastBeside_10 (lv_at hl 0 rfl) ?_
    refine lv_aload_n hx hb dX4_leastBeside_12 rfl (lv_at hl 3 rfl) ?_
    refine va_get (D := D) (ci := 3) (v := .int v_n) (C := RX4) (T := TX4) (N := 6) hx hb hts iX4 hown hK hP 0 rfl rfl 0 (by decide) f9 (fun _ h9 => h9) rfl dX4_leastBeside_13 ?_
    refine lv_icmp_ge (tgt := 61) hx hb dX4_leastBeside_16 (by decide) (fun c_8 => ?_) (fun c_8 => ?_)
    · have h := gx_t c_8 h
      have hl := lv_sub (l' := [(6, .int a_5), (4, .long a_6), (3, .int a_7), (0, .ref z), (1, .long x1)]) hl [0, 1, 2, 3, 4] rfl
      cases h
      exact hJ61 _ _ _ ⟨hP, hD, hS, hl⟩
    · have h := gx_f c_8 h
      refine lv_lload_n hx hb dX4_leastBeside_19 rfl (lv_at hl 4 rfl) ?_
      refine lv_iload hx hb dX4_leastBeside_20 (lv_at hl 0 rfl) ?_
      refine lv_lushr (v := (gLushr x1 a_5)) hx hb dX4_leastBeside_22 rfl ?_
      refine lv_lconst (v := 1) hx hb dX4_leastBeside_23 (by decide) ?_
      refine lv_land hx hb dX4_leastBeside_24 ?_
      refine lv_lconst (v := 0) hx hb dX4_leastBeside_25 (by decide) ?_
      refine W.lcmp hx hb dX4_leastBeside_26 ?_
      refine lv_if_ne (tgt := 55) hx hb dX4_leastBeside_27 (by decide) (fun c_9 => ?_) (fun c_9 => ?_)
      · have h := gx_f c_9 h
        obtain ⟨y6_10, e_y6_10⟩ : ∃ y : Int32, y = (a_5 + 1) := ⟨_, rfl⟩
        have h := gx_let e_y6_10 h
        refine lv_iinc (v := y6_10) (lv' := [(6, .int y6_10), (4, .long a_6), (3, .int a_7), (0, .ref z), (1, .long x1)]) hx hb dX4_leastBeside_55 hl (k := 0) rfl (by rw [e_y6_10]; rfl) (by decide) rfl (fun ls hl => ?_)
        refine lv_goto (tgt := 10) hx hb dX4_leastBeside_58 (by decide) ?_
        exact ih (y6_10, a_6, a_7) _ _ _ h ⟨hP, hD, hS, lv_sub (l' := [(6, .int y6_10), (4, .long a_6), (3, .int a_7), (0, .ref z), (1, .long x1)]) hl [0, 1, 2, 3, 4] rfl⟩
      · have h := gx_t c_9 h
        refine lv_aload_n hx hb dX4_leastBeside_30 rfl (lv_at hl 3 rfl) ?_
        refine va_get (D := D) (ci := 3) (v := .ref z_uppers) (C := RX4) (T := TX4) (N := 6) hx hb hts iX4 hown hK hP 0 rfl rfl 5 (by decide) f21 (fun _ h9 => h9) rfl dX4_leastBeside_31 ?_
        refine lv_iload hx hb dX4_leastBeside_34 (lv_at hl 0 rfl) ?_
        obtain ⟨hi_, h⟩ := gx_ix h
        refine va_lald hx hb hK hP 1 1 rfl rfl hi_ dX4_leastBeside_36 ?_
        refine lv_lload hx hb dX4_leastBeside_37 (lv_at hl 1 rfl) ?_
        refine W.lcmp hx hb dX4_leastBeside_39 ?_
        refine lv_if_gt (tgt := 55) hx hb dX4_leastBeside_40 (by decide) (fun c_11 => ?_) (fun c_11 => ?_)
        · have h := gx_t c_11 h
          obtain ⟨y6_12, e_y6_12⟩ : ∃ y : Int32, y = (a_5 + 1) := ⟨_, rfl⟩
          have h := gx_let e_y6_12 h
          refine lv_iinc (v := y6_12) (lv' := [(6, .int y6_12), (4, .long a_6), (3, .int a_7), (0, .ref z), (1, .long x1)]) hx hb dX4_leastBeside_55 hl (k := 0) rfl (by rw [e_y6_12]; rfl) (by decide) rfl (fun ls hl => ?_)
          refine lv_goto (tgt := 10) hx hb dX4_leastBeside_58 (by decide) ?_
          exact ih (y6_12, a_6, a_7) _ _ _ h ⟨hP, hD, hS, lv_sub (l' := [(6, .int y6_12), (4, .long a_6), (3, .int a_7), (0, .ref z), (1, .long x1)]) hl [0, 1, 2, 3, 4] rfl⟩
        · have h := gx_f c_11 h
          refine lv_iload hx hb dX4_leastBeside_43 (lv_at hl 0 rfl) ?_
          refine lv_istore_n (lv' := [(3, .int a_5), (6, .int a_5), (4, .long a_6), (0, .ref z), (1, .long x1)]) hx hb dX4_leastBeside_45 rfl hl (by decide) rfl (fun ls hl => ?_)
          refine lv_aload_n hx hb dX4_leastBeside_46 rfl (lv_at hl 3 rfl) ?_
          refine va_get (D := D) (ci := 3) (v := .ref z_uppers) (C := RX4) (T := TX4) (N := 6) hx hb hts iX4 hown hK hP 0 rfl rfl 5 (by decide) f21 (fun _ h9 => h9) rfl dX4_leastBeside_47 ?_
          refine lv_iload hx hb dX4_leastBeside_50 (lv_at hl 1 rfl) ?_
          obtain ⟨hi_, h⟩ := gx_ix h
          refine va_lald hx hb hK hP 1 1 rfl rfl hi_ dX4_leastBeside_52 ?_
          refine lv_topl (fun y4_13 e_y4_13 => ?_)
          have h := gx_let e_y4_13 h
          refine lv_lstore (lv' := [(4, .long y4_13), (3, .int a_5), (6, .int a_5), (0, .ref z), (1, .long x1)]) hx hb dX4_leastBeside_53 hl (by decide) rfl (fun ls hl => ?_)
          obtain ⟨y6_14, e_y6_14⟩ : ∃ y : Int32, y = (a_5 + 1) := ⟨_, rfl⟩
          have h := gx_let e_y6_14 h
          refine lv_iinc (v := y6_14) (lv' := [(6, .int y6_14), (4, .long y4_13), (3, .int a_5), (0, .ref z), (1, .long x1)]) hx hb dX4_leastBeside_55 hl (k := 2) rfl (by rw [e_y6_14]; rfl) (by decide) rfl (fun ls hl => ?_)
          refine lv_goto (tgt := 10) hx hb dX4_leastBeside_58 (by decide) ?_
          exact ih (y6_14, y4_13, a_5) _ _ _ h ⟨hP, hD, hS, lv_sub (l' := [(6, .int y6_14), (4, .long y4_13), (3, .int a_5), (0, .ref z), (1, .long x1)]) hl [0, 1, 2, 3, 4] rfl⟩

def fL_X4_takeLeastShares_2 (K : Nat) (u0_0 : Int32) (u0_1 : Int32) (u0_2 : Int32) : Nat → Int32 × (Nat → Int64) → Option (Int32 × (Nat → Int64))
  | 0, _ => none
  | k + 1, (l2, u1) =>
    if u0_0 ≤ l2 then
      some (l2, u1)
    else
      Option.bind (f_X4_upperBelowLimit K l2 u0_0 u0_1 u0_2) fun r_6 =>
      gIx l2 32 <|
      gLet (vp_updL u1 (Int32.toNatClampNeg l2) r_6) fun w_7 =>
      gLet (l2 + 1) fun y2_8 =>
      fL_X4_takeLeastShares_2 K u0_0 u0_1 u0_2 k (y2_8, w_7)
def fL_X4_takeLeastShares_35 (K : Nat) (l1 : Int32) (u0_0 : Int32) (u1 : Nat → Int64) : Nat → Int32 × Int64 × Int64 → Option (Int32 × Int64 × Int64)
  | 0, _ => none
  | k + 1, (l6, l4, l2) =>
    if l1 ≤ l6 then
      some (l6, l4, l2)
    else
      Option.bind (f_X4_leastBeside K l2 u0_0 u1) fun r_12 =>
      gLet (l2 ||| (gLshl 1 r_12)) fun y2_13 =>
      gIx r_12 32 <|
      gLet (l4 + (u1 (Int32.toNatClampNeg r_12))) fun y4_14 =>
      gLet (l6 + 1) fun y6_15 =>
      fL_X4_takeLeastShares_35 K l1 u0_0 u1 k (y6_15, y4_14, y2_13)
def f_X4_takeLeastShares (K : Nat) (x1 : Int32) (v_n : Int32) (v_p : Int32) (v_q : Int32) (v_uppersc : Nat → Int64) : Option (Int64 × Int64 × Int64 × (Nat → Int64)) :=
  Option.bind (fL_X4_takeLeastShares_2 K v_n v_p v_q K (0, v_uppersc)) fun (o_9, o_10) =>
  Option.bind (fL_X4_takeLeastShares_35 K x1 v_n o_10 K (0, 0, 0)) fun (o_16, o_17, o_18) =>
  Option.bind (f_X4_setAll K o_18) fun (o_19, o_20) =>
  some (o_17, o_19, o_20, o_10)
set_option maxHeartbeats 4000000 in
set_option maxRecDepth 100000 in
theorem c_X4_takeLeastShares (l : Launch) (D : va_G) (cy : Nat → ClassId) (t sz K : Nat) (z : Nat) (z_uppers : Nat) (v_n : Int32) (v_p : Int32) (v_q : Int32) (v_goodOnes : Int64) (v_frozenOnes : Int64) (v_uppersc : Nat → Int64) (x1 : Int32) (r_ : Int64) (o_v_goodOnes : Int64) (o_v_frozenOnes : Int64) (o_v_uppersc : Nat → Int64) (h : f_X4_takeLeastShares K x1 v_n v_p v_q v_uppersc = some (r_, o_v_goodOnes, o_v_frozenOnes, o_v_uppersc)) : gMl l D cy t sz yX4_takeLeastShares wsX4_takeLeastShares 1 28 [.ref z, .int x1] [(z, .inr (3, [.int v_n, .int v_p, .int v_q, .long v_goodOnes, .long v_frozenOnes, .ref z_uppers])), (z_uppers, .inl (cy 1, 32, .inr (.inl v_uppersc)))] r_ [(z, .inr (3, [.int v_n, .int v_p, .int v_q, .long o_v_goodOnes, .long o_v_frozenOnes, .ref z_uppers])), (z_uppers, .inl (cy 1, 32, .inr (.inl o_v_uppersc)))] := by
  refine gBl (cc := cX4_takeLeastShares) (maxL := 8) (ret := (some .long)) (by decide) rfl (Nat.le_of_ble_eq_true rfl) ?_
  intro p e s m below meth c A ls hAt hl
  obtain ⟨hx, hb, hml, hr, hts, hown, hlocks, hin, hK, hG, hA, hP, hD⟩ := hAt
  have hS : va_S A s.heap s.heap [] := va_S.rf
  have hl : lv_has ls 8 [(0, .ref z), (1, .int x1)] := hl
  have f21 := hts (.fieldLink RX4 21 "PlainLines$Places" "uppers" "[J") (by decide +kernel)
  have iX4 := (by decide +kernel : ∀ w ∈ u_ws RX4 TX4 6, w ∈ wsX4_takeLeastShares)
  have f9 := hts (.fieldLink RX4 9 "PlainLines$Places" "n" "I") (by decide +kernel)
  rw [f_X4_takeLeastShares] at h
  refine lv_iconst (v := 0) hx hb dX4_takeLeastShares_0 (by decide) ?_
  refine lv_istore_n (lv' := [(2, .int 0), (0, .ref z), (1, .int x1)]) hx hb dX4_takeLeastShares_1 rfl hl (by decide) rfl (fun ls hl => ?_)
  obtain ⟨⟨o_1, o_2⟩, hL_3, h⟩ := gx_b h
  refine gJoin (Pj := fun H locs ls => va_P D vwCl [(z, .inr (3, [.int v_n, .int v_p, .int v_q, .long v_goodOnes, .long v_frozenOnes, .ref z_uppers])), (z_uppers, .inl (cy 1, 32, .inr (.inl o_2)))] H ∧ va_D A [(z, .inr (3, [.int v_n, .int v_p, .int v_q, .long v_goodOnes, .long v_frozenOnes, .ref z_uppers])), (z_uppers, .inl (cy 1, 32, .inr (.inl o_2)))] ∧ va_S A s.heap H locs ∧ lv_has ls 8 [(2, .int o_1), (0, .ref z), (1, .int x1)]) (pcM := 27) (st := []) ?_ (fun hJ27 => ?_)
  · intro H locs ls hp_
    obtain ⟨hP, hD, hS, hl⟩ := hp_
    clear hL_3
    refine lv_lconst (v := 0) hx hb dX4_takeLeastShares_27 (by decide) ?_
    refine lv_lstore_n (lv' := [(2, .long 0), (0, .ref z), (1, .int x1)]) hx hb dX4_takeLeastShares_28 rfl hl (by decide) rfl (fun ls hl => ?_)
    refine lv_lconst (v := 0) hx hb dX4_takeLeastShares_29 (by decide) ?_
    refine lv_lstore (lv' := [(4, .long 0), (2, .long 0), (0, .ref z), (1, .int x1)]) hx hb dX4_takeLeastShares_30 hl (by decide) rfl (fun ls hl => ?_)
    refine lv_iconst (v := 0) hx hb dX4_takeLeastShares_32 (by decide) ?_
    refine lv_istore (lv' := [(6, .int 0), (4, .long 0), (2, .long 0), (0, .ref z), (1, .int x1)]) hx hb dX4_takeLeastShares_33 hl (by decide) rfl (fun ls hl => ?_)
    obtain ⟨⟨o_4, o_5, o_6⟩, hL_7, h⟩ := gx_b h
    refine gJoin (Pj := fun H locs ls => va_P D vwCl [(z, .inr (3, [.int v_n, .int v_p, .int v_q, .long v_goodOnes, .long v_frozenOnes, .ref z_uppers])), (z_uppers, .inl (cy 1, 32, .inr (.inl o_2)))] H ∧ va_D A [(z, .inr (3, [.int v_n, .int v_p, .int v_q, .long v_goodOnes, .long v_frozenOnes, .ref z_uppers])), (z_uppers, .inl (cy 1, 32, .inr (.inl o_2)))] ∧ va_S A s.heap H locs ∧ lv_has ls 8 [(6, .int o_4), (4, .long o_5), (2, .long o_6), (0, .ref z), (1, .int x1)]) (pcM := 73) (st := []) ?_ (fun hJ73 => ?_)
    · intro H locs ls hp_
      obtain ⟨hP, hD, hS, hl⟩ := hp_
      clear hL_7
      refine lv_aload_n hx hb dX4_takeLeastShares_73 rfl (lv_at hl 3 rfl) ?_
      refine lv_lload_n hx hb dX4_takeLeastShares_74 rfl (lv_at hl 2 rfl) ?_
      obtain ⟨⟨o_8, o_9⟩, hc_10, h⟩ := gx_b h
      refine gCallv (wr := [(z_uppers, .inl (cy 1, 32, .inr (.inl o_2)))]) (va_runV (As := [.long o_6]) (rest := []) ⟨hx, hb, hml, hown, hts⟩ (c_X4_setAll l D cy t H.size K z z_uppers v_n v_p v_q v_goodOnes v_frozenOnes o_6 o_8 o_9 hc_10) (cwV 1 hts gX4_takeLeastShares_X4_setAll rfl rfl rfl (by decide +kernel) ⟨Nat.le_of_ble_eq_true rfl, Nat.le_of_ble_eq_true rfl⟩) ⟨gBlind, va_recv hK hP (ci := 3) (q0 := 0) rfl rfl, fun U hU hW => ⟨rfl, gPre.call hK hG hA hP hD hS [0] (by decide) rfl U hU hW⟩⟩ rfl rfl hl.1 rfl (lv_room (Nat.le_of_ble_eq_true rfl)) dX4_takeLeastShares_75 ⟨Nat.le_of_ble_eq_true rfl, Nat.le_of_ble_eq_true rfl⟩) hA hP hD hS [0] [1] rfl rfl (by decide) (by decide) (fun H locs hP hD hS => ?_)
      have hP := hP.sub (ws' := [(z, .inr (3, [.int v_n, .int v_p, .int v_q, .long o_8, .long o_9, .ref z_uppers])), (z_uppers, .inl (cy 1, 32, .inr (.inl o_2)))]) [1, 0] rfl
      have hD := hD.sub (ws' := [(z, .inr (3, [.int v_n, .int v_p, .int v_q, .long o_8, .long o_9, .ref z_uppers])), (z_uppers, .inl (cy 1, 32, .inr (.inl o_2)))]) [1, 0] (by decide) rfl
      refine lv_lload hx hb dX4_takeLeastShares_78 (lv_at hl 1 rfl) ?_
      cases h
      exact gRl hx hb hr hlocks hP hD hS dX4_takeLeastShares_80
    · refine gLoop (Hy := fun k_ v_ => fL_X4_takeLeastShares_35 K x1 v_n o_2 k_ v_ = some (o_4, o_5, o_6)) (Pl := fun (v_ : Int32 × Int64 × Int64) H locs ls => match v_ with | (a_11, a_12, a_13) => va_P D vwCl [(z, .inr (3, [.int v_n, .int v_p, .int v_q, .long v_goodOnes, .long v_frozenOnes, .ref z_uppers])), (z_uppers, .inl (cy 1, 32, .inr (.inl o_2)))] H ∧ va_D A [(z, .inr (3, [.int v_n, .int v_p, .int v_q, .long v_goodOnes, .long v_frozenOnes, .ref z_uppers])), (z_uppers, .inl (cy 1, 32, .inr (.inl o_2)))] ∧ va_S A s.heap H locs ∧ lv_has ls 8 [(6, .int a_11), (4, .long a_12), (2, .long a_13), (0, .ref z), (1, .int x1)]) (pcH := 35) (fun _ q_ => by cases q_) ?_ K (0, 0, 0) hL_7 ⟨hP, hD, hS, hl⟩
      clear hL_7 h hP hD hS hl
      intro k_ ih ⟨a_11, a_12, a_13⟩ H locs ls h hp_
      obtain ⟨hP, hD, hS, hl⟩ := hp_
      have hP : va_P D vwCl [(z, .inr (3, [.int v_n, .int v_p, .int v_q, .long v_goodOnes, .long v_frozenOnes, .ref z_uppers])), (z_uppers, .inl (cy 1, 32, .inr (.inl o_2)))] H := hP
      have hD : va_D A [(z, .inr (3, [.int v_n, .int v_p, .int v_q, .long v_goodOnes, .long v_frozenOnes, .ref z_uppers])), (z_uppers, .inl (cy 1, 32, .inr (.inl o_2)))] := hD
      have hl : lv_has ls 8 [(6, .int a_11), (4, .long a_12), (2, .long a_13), (0, .ref z), (1, .int x1)] := hl
      change fL_X4_takeLeastShares_35 K x1 v_n o_2 (k_ + 1) (a_11, a_12, a_13) = _ at h
      rw [fL_X4_takeLeastShares_35] at h
      refine lv_iload hx hb dX4_takeLeastShares_35 (lv_at hl 0 rfl) ?_
      refine lv_iload_n hx hb dX4_takeLeastShares_37 rfl (lv_at hl 4 rfl) ?_
      refine lv_icmp_ge (tgt := 73) hx hb dX4_takeLeastShares_38 (by decide) (fun c_14 => ?_) (fun c_14 => ?_)
      · have h := gx_t c_14 h
        have hl := lv_sub (l' := [(6, .int a_11), (4, .long a_12), (2, .long a_13), (0, .ref z), (1, .int x1)]) hl [0, 1, 2, 3, 4] rfl
        cases h
        exact hJ73 _ _ _ ⟨hP, hD, hS, hl⟩
      · have h := gx_f c_14 h
        refine lv_aload_n hx hb dX4_takeLeastShares_41 rfl (lv_at hl 3 rfl) ?_
        refine lv_lload_n hx hb dX4_takeLeastShares_42 rfl (lv_at hl 2 rfl) ?_
        obtain ⟨r_15, hc_16, h⟩ := gx_b h
        refine gCalli (wr := []) (va_runV (As := [.long a_13]) (rest := []) ⟨hx, hb, hml, hown, hts⟩ (c_X4_leastBeside l D cy t H.size K z z_uppers v_n v_p v_q v_goodOnes v_frozenOnes o_2 a_13 r_15 hc_16) (cwV 1 hts gX4_takeLeastShares_X4_leastBeside rfl rfl rfl (by decide +kernel) ⟨Nat.le_of_ble_eq_true rfl, Nat.le_of_ble_eq_true rfl⟩) ⟨gBlind, va_recv hK hP (ci := 3) (q0 := 0) rfl rfl, fun U hU hW => ⟨rfl, gPre.call hK hG hA hP hD hS [0, 1] (by decide) rfl U hU hW⟩⟩ rfl rfl hl.1 rfl (lv_room (Nat.le_of_ble_eq_true rfl)) dX4_takeLeastShares_43 ⟨Nat.le_of_ble_eq_true rfl, Nat.le_of_ble_eq_true rfl⟩) hA hP hD hS [0, 1] [] rfl rfl (by decide) (by decide) (fun H locs hP hD hS => ?_)
        have hP : va_P D vwCl [(z, .inr (3, [.int v_n, .int v_p, .int v_q, .long v_goodOnes, .long v_frozenOnes, .ref z_uppers])), (z_uppers, .inl (cy 1, 32, .inr (.inl o_2)))] H := hP
        have hD : va_D A [(z, .inr (3, [.int v_n, .int v_p, .int v_q, .long v_goodOnes, .long v_frozenOnes, .ref z_uppers])), (z_uppers, .inl (cy 1, 32, .inr (.inl o_2)))] := hD
        refine lv_istore (lv' := [(7, .int r_15), (6, .int a_11), (4, .long a_12), (2, .long a_13), (0, .ref z), (1, .int x1)]) hx hb dX4_takeLeastShares_46 hl (by decide) rfl (fun ls hl => ?_)
        refine lv_lload_n hx hb dX4_takeLeastShares_48 rfl (lv_at hl 3 rfl) ?_
        refine lv_lconst (v := 1) hx hb dX4_takeLeastShares_49 (by decide) ?_
        refine lv_iload hx hb dX4_takeLeastShares_50 (lv_at hl 0 rfl) ?_
        refine lv_lshl (v := (gLshl 1 r_15)) hx hb dX4_takeLeastShares_52 rfl ?_
        refine lv_lor hx hb dX4_takeLeastShares_53 ?_
        refine lv_topl (fun y2_17 e_y2_17 => ?_)
        have h := gx_let e_y2_17 h
        refine lv_lstore_n (lv' := [(2, .long y2_17), (7, .int r_15), (6, .int a_11), (4, .long a_12), (0, .ref z), (1, .int x1)]) hx hb dX4_takeLeastShares_54 rfl hl (by decide) rfl (fun ls hl => ?_)
        refine lv_lload hx hb dX4_takeLeastShares_55 (lv_at hl 3 rfl) ?_
        refine lv_aload_n hx hb dX4_takeLeastShares_57 rfl (lv_at hl 4 rfl) ?_
        refine va_get (D := D) (ci := 3) (v := .ref z_uppers) (C := RX4) (T := TX4) (N := 6) hx hb hts iX4 hown hK hP 0 rfl rfl 5 (by decide) f21 (fun _ h9 => h9) rfl dX4_takeLeastShares_58 ?_
        refine lv_iload hx hb dX4_takeLeastShares_61 (lv_at hl 1 rfl) ?_
        obtain ⟨hi_, h⟩ := gx_ix h
        refine va_lald hx hb hK hP 1 1 rfl rfl hi_ dX4_takeLeastShares_63 ?_
        refine lv_ladd hx hb dX4_takeLeastShares_64 ?_
        refine lv_topl (fun y4_18 e_y4_18 => ?_)
        have h := gx_let e_y4_18 h
        refine lv_lstore (lv' := [(4, .long y4_18), (2, .long y2_17), (7, .int r_15), (6, .int a_11), (0, .ref z), (1, .int x1)]) hx hb dX4_takeLeastShares_65 hl (by decide) rfl (fun ls hl => ?_)
        obtain ⟨y6_19, e_y6_19⟩ : ∃ y : Int32, y = (a_11 + 1) := ⟨_, rfl⟩
        have h := gx_let e_y6_19 h
        refine lv_iinc (v := y6_19) (lv' := [(6, .int y6_19), (4, .long y4_18), (2, .long y2_17), (7, .int r_15), (0, .ref z), (1, .int x1)]) hx hb dX4_takeLeastShares_67 hl (k := 3) rfl (by rw [e_y6_19]; rfl) (by decide) rfl (fun ls hl => ?_)
        refine lv_goto (tgt := 35) hx hb dX4_takeLeastShares_70 (by decide) ?_
        exact ih (y6_19, y4_18, y2_17) _ _ _ h ⟨hP, hD, hS, lv_sub (l' := [(6, .int y6_19), (4, .long y4_18), (2, .long y2_17), (0, .ref z), (1, .int x1)]) hl [0, 1, 2, 4, 5] rfl⟩
  · refine gLoop (Hy := fun k_ v_ => fL_X4_takeLeastShares_2 K v_n v_p v_q k_ v_ = some (o_1, o_2)) (Pl := fun (v_ : Int32 × (Nat → Int64)) H locs ls => match v_ with | (a_20, a_21) => va_P D vwCl [(z, .inr (3, [.int v_n, .int v_p, .int v_q, .long v_goodOnes, .long v_frozenOnes, .ref z_uppers])), (z_uppers, .inl (cy 1, 32, .inr (.inl a_21)))] H ∧ va_D A [(z, .inr (3, [.int v_n, .int v_p, .int v_q, .long v_goodOnes, .long v_frozenOnes, .ref z_uppers])), (z_uppers, .inl (cy 1, 32, .inr (.inl a_21)))] ∧ va_S A s.heap H locs ∧ lv_has ls 8 [(2, .int a_20), (0, .ref z), (1, .int x1)]) (pcH := 2) (fun _ q_ => by cases q_) ?_ K (0, v_uppersc) hL_3 ⟨hP, hD, hS, hl⟩
    clear hL_3 h hP hD hS hl
    intro k_ ih ⟨a_20, a_21⟩ H locs ls h hp_
    obtain ⟨hP, hD, hS, hl⟩ := hp_
    have hP : va_P D vwCl [(z, .inr (3, [.int v_n, .int v_p, .int v_q, .long v_goodOnes, .long v_frozenOnes, .ref z_uppers])), (z_uppers, .inl (cy 1, 32, .inr (.inl a_21)))] H := hP
    have hD : va_D A [(z, .inr (3, [.int v_n, .int v_p, .int v_q, .long v_goodOnes, .long v_frozenOnes, .ref z_uppers])), (z_uppers, .inl (cy 1, 32, .inr (.inl a_21)))] := hD
    have hl : lv_has ls 8 [(2, .int a_20), (0, .ref z), (1, .int x1)] := hl
    change fL_X4_takeLeastShares_2 K v_n v_p v_q (k_ + 1) (a_20, a_21) = _ at h
    rw [fL_X4_takeLeastShares_2] at h
    refine lv_iload_n hx hb dX4_takeLeastShares_2 rfl (lv_at hl 0 rfl) ?_
    refine lv_aload_n hx hb dX4_takeLeastShares_3 rfl (lv_at hl 1 rfl) ?_
    refine va_get (D := D) (ci := 3) (v := .int v_n) (C := RX4) (T := TX4) (N := 6) hx hb hts iX4 hown hK hP 0 rfl rfl 0 (by decide) f9 (fun _ h9 => h9) rfl dX4_takeLeastShares_4 ?_
    refine lv_icmp_ge (tgt := 27) hx hb dX4_takeLeastShares_7 (by decide) (fun c_22 => ?_) (fun c_22 => ?_)
    · have h := gx_t c_22 h
      have hl := lv_sub (l' := [(2, .int a_20), (0, .ref z), (1, .int x1)]) hl [0, 1, 2] rfl
      cases h
      exact hJ27 _ _ _ ⟨hP, hD, hS, hl⟩
    · have h := gx_f c_22 h
      refine lv_aload_n hx hb dX4_takeLeastShares_10 rfl (lv_at hl 1 rfl) ?_
      refine va_get (D := D) (ci := 3) (v := .ref z_uppers) (C := RX4) (T := TX4) (N := 6) hx hb hts iX4 hown hK hP 0 rfl rfl 5 (by decide) f21 (fun _ h9 => h9) rfl dX4_takeLeastShares_11 ?_
      refine lv_iload_n hx hb dX4_takeLeastShares_14 rfl (lv_at hl 0 rfl) ?_
      refine lv_aload_n hx hb dX4_takeLeastShares_15 rfl (lv_at hl 1 rfl) ?_
      refine lv_iload_n hx hb dX4_takeLeastShares_16 rfl (lv_at hl 0 rfl) ?_
      obtain ⟨r_23, hc_24, h⟩ := gx_b h
      refine gCalll (wr := [(z_uppers, .inl (cy 1, 32, .inr (.inl a_21)))]) (va_runV (As := [.int a_20]) (rest := [.int a_20, .ref z_uppers]) ⟨hx, hb, hml, hown, hts⟩ (c_X4_upperBelowLimit l D cy t H.size K z z_uppers v_n v_p v_q v_goodOnes v_frozenOnes a_20 r_23 hc_24) (cwV 1 hts gX4_takeLeastShares_X4_upperBelowLimit rfl rfl rfl (by decide +kernel) ⟨Nat.le_of_ble_eq_true rfl, Nat.le_of_ble_eq_true rfl⟩) ⟨gBlind, va_recv hK hP (ci := 3) (q0 := 0) rfl rfl, fun U hU hW => ⟨rfl, gPre.call hK hG hA hP hD hS [0] (by decide) rfl U hU hW⟩⟩ rfl rfl hl.1 rfl (lv_room (Nat.le_of_ble_eq_true rfl)) dX4_takeLeastShares_17 ⟨Nat.le_of_ble_eq_true rfl, Nat.le_of_ble_eq_true rfl⟩) hA hP hD hS [0] [1] rfl rfl (by decide) (by decide) (fun H locs hP hD hS => ?_)
      have hP := hP.sub (ws' := [(z, .inr (3, [.int v_n, .int v_p, .int v_q, .long v_goodOnes, .long v_frozenOnes, .ref z_uppers])), (z_uppers, .inl (cy 1, 32, .inr (.inl a_21)))]) [1, 0] rfl
      have hD := hD.sub (ws' := [(z, .inr (3, [.int v_n, .int v_p, .int v_q, .long v_goodOnes, .long v_frozenOnes, .ref z_uppers])), (z_uppers, .inl (cy 1, 32, .inr (.inl a_21)))]) [1, 0] (by decide) rfl
      obtain ⟨hi_, h⟩ := gx_ix h
      refine va_last hx hb hK hP hD hS 1 1 rfl rfl hi_ dX4_takeLeastShares_20 (fun H locs hP hD hS => ?_)
      obtain ⟨w_25, e_w_25⟩ : ∃ y : Nat → Int64, y = (vp_updL a_21 (Int32.toNatClampNeg a_20) r_23) := ⟨_, rfl⟩
      have h := gx_let e_w_25 h
      have hP : va_P D vwCl [(z, .inr (3, [.int v_n, .int v_p, .int v_q, .long v_goodOnes, .long v_frozenOnes, .ref z_uppers])), (z_uppers, .inl (cy 1, 32, .inr (.inl (vp_updL a_21 (Int32.toNatClampNeg a_20) r_23))))] H := hP
      have hD : va_D A [(z, .inr (3, [.int v_n, .int v_p, .int v_q, .long v_goodOnes, .long v_frozenOnes, .ref z_uppers])), (z_uppers, .inl (cy 1, 32, .inr (.inl (vp_updL a_21 (Int32.toNatClampNeg a_20) r_23))))] := hD
      rw [← e_w_25] at hP hD
      obtain ⟨y2_26, e_y2_26⟩ : ∃ y : Int32, y = (a_20 + 1) := ⟨_, rfl⟩
      have h := gx_let e_y2_26 h
      refine lv_iinc (v := y2_26) (lv' := [(2, .int y2_26), (0, .ref z), (1, .int x1)]) hx hb dX4_takeLeastShares_21 hl (k := 0) rfl (by rw [e_y2_26]; rfl) (by decide) rfl (fun ls hl => ?_)
      refine lv_goto (tgt := 2) hx hb dX4_takeLeastShares_24 (by decide) ?_
      exact ih (y2_26, w_25) _ _ _ h ⟨hP, hD, hS, lv_sub (l' := [(2, .int y2_26), (0, .ref z), (1, .int x1)]) hl [0, 1, 2] rfl⟩

def fL_J7_fill_d0a16_6 (K : Nat) (l4 : Int32) (l1 : Int64) (n1 : Nat) : Nat → Int32 × (Nat → Int64) → Option (Int32 × (Nat → Int64))
  | 0, _ => none
  | k + 1, (l3, u0) =>
    if l4 ≤ l3 then
      some (l3, u0)
    else
      gIx l3 n1 <|
      gLet (vp_updL u0 (Int32.toNatClampNeg l3) l1) fun w_6 =>
      gLet (l3 + 1) fun y3_7 =>
      fL_J7_fill_d0a16_6 K l4 l1 n1 k (y3_7, w_6)
def f_J7_fill_d0a16 (K : Nat) (x2 : Int64) (v1 : Nat → Int64) (n1 : Nat) : Option ((Nat → Int64)) :=
  gLet (Int32.ofNat n1) fun y4_1 =>
  Option.bind (fL_J7_fill_d0a16_6 K y4_1 x2 n1 K (0, v1)) fun (o_8, o_9) =>
  some o_9
set_option maxHeartbeats 4000000 in
set_option maxRecDepth 100000 in
theorem c_J7_fill_d0a16 (l : Launch) (D : va_G) (cy : Nat → ClassId) (t sz K : Nat) (z1 : Nat) (v1 : Nat → Int64) (n1 : Nat) (x2 : Int64) (o_v1 : Nat → Int64) (h : f_J7_fill_d0a16 K x2 v1 n1 = some o_v1) : gMv l D cy t sz yJ7_fill_d0a16 wsJ7_fill_d0a16 0 0 [.ref z1, .long x2] [(z1, .inl (cy 1, n1, .inr (.inl v1)))] [(z1, .inl (cy 1, n1, .inr (.inl o_v1)))] := by
  refine gBv (cc := cJ7_fill_d0a16) (maxL := 5) (ret := none) (by decide) rfl (Nat.le_of_ble_eq_true rfl) ?_
  intro p e s m below meth c A ls hAt hl
  obtain ⟨hx, hb, hml, hr, hts, hown, hlocks, hin, hK, hG, hA, hP, hD⟩ := hAt
  have hS : va_S A s.heap s.heap [] := va_S.rf
  have hl : lv_has ls 5 [(0, .ref z1), (1, .long x2)] := hl
  rw [f_J7_fill_d0a16] at h
  refine lv_iconst (v := 0) hx hb dJ7_fill_d0a16_0 (by decide) ?_
  refine lv_istore_n (lv' := [(3, .int 0), (0, .ref z1), (1, .long x2)]) hx hb dJ7_fill_d0a16_1 rfl hl (by decide) rfl (fun ls hl => ?_)
  refine lv_aload_n hx hb dJ7_fill_d0a16_2 rfl (lv_at hl 1 rfl) ?_
  refine va_alen (v := (Int32.ofNat n1)) hx hb hK hP 0 1 (ha := rfl) (ht := rfl) rfl dJ7_fill_d0a16_3 ?_
  refine lv_topi (fun y4_1 e_y4_1 => ?_)
  have h := gx_let e_y4_1 h
  refine lv_istore (lv' := [(4, .int y4_1), (3, .int 0), (0, .ref z1), (1, .long x2)]) hx hb dJ7_fill_d0a16_4 hl (by decide) rfl (fun ls hl => ?_)
  obtain ⟨⟨o_2, o_3⟩, hL_4, h⟩ := gx_b h
  refine gJoin (Pj := fun H locs ls => va_P D vwCl [(z1, .inl (cy 1, n1, .inr (.inl o_3)))] H ∧ va_D A [(z1, .inl (cy 1, n1, .inr (.inl o_3)))] ∧ va_S A s.heap H locs ∧ lv_has ls 5 [(4, .int y4_1), (3, .int o_2), (0, .ref z1), (1, .long x2)]) (pcM := 22) (st := []) ?_ (fun hJ22 => ?_)
  · intro H locs ls hp_
    obtain ⟨hP, hD, hS, hl⟩ := hp_
    clear hL_4
    cases h
    exact gRv hx hb hr hlocks hP hD hS dJ7_fill_d0a16_22
  · refine gLoop (Hy := fun k_ v_ => fL_J7_fill_d0a16_6 K y4_1 x2 n1 k_ v_ = some (o_2, o_3)) (Pl := fun (v_ : Int32 × (Nat → Int64)) H locs ls => match v_ with | (a_5, a_6) => va_P D vwCl [(z1, .inl (cy 1, n1, .inr (.inl a_6)))] H ∧ va_D A [(z1, .inl (cy 1, n1, .inr (.inl a_6)))] ∧ va_S A s.heap H locs ∧ lv_has ls 5 [(4, .int y4_1), (3, .int a_5), (0, .ref z1), (1, .long x2)]) (pcH := 6) (fun _ q_ => by cases q_) ?_ K (0, v1) hL_4 ⟨hP, hD, hS, hl⟩
    clear hL_4 h hP hD hS hl
    intro k_ ih ⟨a_5, a_6⟩ H locs ls h hp_
    obtain ⟨hP, hD, hS, hl⟩ := hp_
    have hP : va_P D vwCl [(z1, .inl (cy 1, n1, .inr (.inl a_6)))] H := hP
    have hD : va_D A [(z1, .inl (cy 1, n1, .inr (.inl a_6)))] := hD
    have hl : lv_has ls 5 [(4, .int y4_1), (3, .int a_5), (0, .ref z1), (1, .long x2)] := hl
    change fL_J7_fill_d0a16_6 K y4_1 x2 n1 (k_ + 1) (a_5, a_6) = _ at h
    rw [fL_J7_fill_d0a16_6] at h
    refine lv_iload_n hx hb dJ7_fill_d0a16_6 rfl (lv_at hl 1 rfl) ?_
    refine lv_iload hx hb dJ7_fill_d0a16_7 (lv_at hl 0 rfl) ?_
    refine lv_icmp_ge (tgt := 22) hx hb dJ7_fill_d0a16_9 (by decide) (fun c_7 => ?_) (fun c_7 => ?_)
    · have h := gx_t c_7 h
      have hl := lv_sub (l' := [(4, .int y4_1), (3, .int a_5), (0, .ref z1), (1, .long x2)]) hl [0, 1, 2, 3] rfl
      cases h
      exact hJ22 _ _ _ ⟨hP, hD, hS, hl⟩
    · have h := gx_f c_7 h
      refine lv_aload_n hx hb dJ7_fill_d0a16_12 rfl (lv_at hl 2 rfl) ?_
      refine lv_iload_n hx hb dJ7_fill_d0a16_13 rfl (lv_at hl 1 rfl) ?_
      refine lv_lload_n hx hb dJ7_fill_d0a16_14 rfl (lv_at hl 3 rfl) ?_
      obtain ⟨hi_, h⟩ := gx_ix h
      refine va_last hx hb hK hP hD hS 0 1 rfl rfl hi_ dJ7_fill_d0a16_15 (fun H locs hP hD hS => ?_)
      obtain ⟨w_8, e_w_8⟩ : ∃ y : Nat → Int64, y = (vp_updL a_6 (Int32.toNatClampNeg a_5) x2) := ⟨_, rfl⟩
      have h := gx_let e_w_8 h
      have hP : va_P D vwCl [(z1, .inl (cy 1, n1, .inr (.inl (vp_updL a_6 (Int32.toNatClampNeg a_5) x2))))] H := hP
      have hD : va_D A [(z1, .inl (cy 1, n1, .inr (.inl (vp_updL a_6 (Int32.toNatClampNeg a_5) x2))))] := hD
      rw [← e_w_8] at hP hD
      obtain ⟨y3_9, e_y3_9⟩ : ∃ y : Int32, y = (a_5 + 1) := ⟨_, rfl⟩
      have h := gx_let e_y3_9 h
      refine lv_iinc (v := y3_9) (lv' := [(3, .int y3_9), (4, .int y4_1), (0, .ref z1), (1, .long x2)]) hx hb dJ7_fill_d0a16_16 hl (k := 1) rfl (by rw [e_y3_9]; rfl) (by decide) rfl (fun ls hl => ?_)
      refine lv_goto (tgt := 6) hx hb dJ7_fill_d0a16_19 (by decide) ?_
      exact ih (y3_9, w_8) _ _ _ h ⟨hP, hD, hS, lv_sub (l' := [(4, .int y4_1), (3, .int y3_9), (0, .ref z1), (1, .long x2)]) hl [1, 0, 2, 3] rfl⟩

def f_X6_begin (K : Nat) (x1 : Int32) (x2 : Int32) (v_cellsc : Nat → Int64) : Option (Int32 × Int32 × Int32 × (Nat → Int64)) :=
  Option.bind (f_J7_fill_d0a16 K 0 v_cellsc 40) fun o_1 =>
  some (1, x1, x2, o_1)
set_option maxHeartbeats 4000000 in
set_option maxRecDepth 100000 in
theorem c_X6_begin (l : Launch) (D : va_G) (cy : Nat → ClassId) (t sz K : Nat) (z : Nat) (z_cells : Nat) (v_isThere : Int32) (v_lane : Int32) (v_length : Int32) (v_cellsc : Nat → Int64) (x1 : Int32) (x2 : Int32) (o_v_isThere : Int32) (o_v_lane : Int32) (o_v_length : Int32) (o_v_cellsc : Nat → Int64) (h : f_X6_begin K x1 x2 v_cellsc = some (o_v_isThere, o_v_lane, o_v_length, o_v_cellsc)) : gMv l D cy t sz yX6_begin wsX6_begin 1 24 [.ref z, .int x1, .int x2] [(z, .inr (5, [.int v_isThere, .int v_lane, .int v_length, .ref z_cells])), (z_cells, .inl (cy 1, 40, .inr (.inl v_cellsc)))] [(z, .inr (5, [.int o_v_isThere, .int o_v_lane, .int o_v_length, .ref z_cells])), (z_cells, .inl (cy 1, 40, .inr (.inl o_v_cellsc)))] := by
  refine gBv (cc := cX6_begin) (maxL := 3) (ret := none) (by decide) rfl (Nat.le_of_ble_eq_true rfl) ?_
  intro p e s m below meth c A ls hAt hl
  obtain ⟨hx, hb, hml, hr, hts, hown, hlocks, hin, hK, hG, hA, hP, hD⟩ := hAt
  have hS : va_S A s.heap s.heap [] := va_S.rf
  have hl : lv_has ls 3 [(0, .ref z), (1, .int x1), (2, .int x2)] := hl
  have f15 := hts (.fieldLink RX6 15 "PlainLines$Sheet" "isThere" "Z") (by decide +kernel)
  have iX6 := (by decide +kernel : ∀ w ∈ u_ws RX6 TX6 4, w ∈ wsX6_begin)
  have f19 := hts (.fieldLink RX6 19 "PlainLines$Sheet" "lane" "I") (by decide +kernel)
  have f23 := hts (.fieldLink RX6 23 "PlainLines$Sheet" "length" "I") (by decide +kernel)
  have f9 := hts (.fieldLink RX6 9 "PlainLines$Sheet" "cells" "[J") (by decide +kernel)
  rw [f_X6_begin] at h
  refine lv_aload_n hx hb dX6_begin_0 rfl (lv_at hl 0 rfl) ?_
  refine lv_iconst (v := 1) hx hb dX6_begin_1 (by decide) ?_
  refine va_put (D := D) (ci := 5) (v := .int 1) (ty := .boolean) (C := RX6) (T := TX6) (N := 4) hx hb hts iX6 tyX6 tyX6_ok nmX6 hown hK hP hD hS 0 rfl rfl 0 (by decide) f15 (fun _ h9 => h9) rfl (by decide +kernel) rfl rfl (Nat.le_of_ble_eq_true rfl) dX6_begin_2 (fun H locs hP hD hS => ?_)
  have hP : va_P D vwCl [(z, .inr (5, [.int 1, .int v_lane, .int v_length, .ref z_cells])), (z_cells, .inl (cy 1, 40, .inr (.inl v_cellsc)))] H := hP
  have hD : va_D A [(z, .inr (5, [.int 1, .int v_lane, .int v_length, .ref z_cells])), (z_cells, .inl (cy 1, 40, .inr (.inl v_cellsc)))] := hD
  refine lv_aload_n hx hb dX6_begin_5 rfl (lv_at hl 0 rfl) ?_
  refine lv_iload_n hx hb dX6_begin_6 rfl (lv_at hl 1 rfl) ?_
  refine va_put (D := D) (ci := 5) (v := .int x1) (ty := .int) (C := RX6) (T := TX6) (N := 4) hx hb hts iX6 tyX6 tyX6_ok nmX6 hown hK hP hD hS 0 rfl rfl 1 (by decide) f19 (fun _ h9 => h9) rfl (by decide +kernel) rfl rfl (Nat.le_of_ble_eq_true rfl) dX6_begin_7 (fun H locs hP hD hS => ?_)
  have hP : va_P D vwCl [(z, .inr (5, [.int 1, .int x1, .int v_length, .ref z_cells])), (z_cells, .inl (cy 1, 40, .inr (.inl v_cellsc)))] H := hP
  have hD : va_D A [(z, .inr (5, [.int 1, .int x1, .int v_length, .ref z_cells])), (z_cells, .inl (cy 1, 40, .inr (.inl v_cellsc)))] := hD
  refine lv_aload_n hx hb dX6_begin_10 rfl (lv_at hl 0 rfl) ?_
  refine lv_iload_n hx hb dX6_begin_11 rfl (lv_at hl 2 rfl) ?_
  refine va_put (D := D) (ci := 5) (v := .int x2) (ty := .int) (C := RX6) (T := TX6) (N := 4) hx hb hts iX6 tyX6 tyX6_ok nmX6 hown hK hP hD hS 0 rfl rfl 2 (by decide) f23 (fun _ h9 => h9) rfl (by decide +kernel) rfl rfl (Nat.le_of_ble_eq_true rfl) dX6_begin_12 (fun H locs hP hD hS => ?_)
  have hP : va_P D vwCl [(z, .inr (5, [.int 1, .int x1, .int x2, .ref z_cells])), (z_cells, .inl (cy 1, 40, .inr (.inl v_cellsc)))] H := hP
  have hD : va_D A [(z, .inr (5, [.int 1, .int x1, .int x2, .ref z_cells])), (z_cells, .inl (cy 1, 40, .inr (.inl v_cellsc)))] := hD
  refine lv_aload_n hx hb dX6_begin_15 rfl (lv_at hl 0 rfl) ?_
  refine va_get (D := D) (ci := 5) (v := .ref z_cells) (C := RX6) (T := TX6) (N := 4) hx hb hts iX6 hown hK hP 0 rfl rfl 3 (by decide) f9 (fun _ h9 => h9) rfl dX6_begin_16 ?_
  refine lv_lconst (v := 0) hx hb dX6_begin_19 (by decide) ?_
  obtain ⟨o_1, hc_2, h⟩ := gx_b h
  refine gCallv (wr := [(z, .inr (5, [.int 1, .int x1, .int x2, .ref z_cells]))]) (va_runS (As := [.ref z_cells, .long 0]) (rest := []) ⟨hx, hb, hml, hown, hts⟩ (c_J7_fill_d0a16 l D cy t H.size K z_cells v_cellsc 40 0 o_1 hc_2) (va_cwS 2 hts gX6_begin_J7_fill_d0a16 rfl rfl rfl (by decide +kernel) ⟨Nat.le_of_ble_eq_true rfl, Nat.le_of_ble_eq_true rfl⟩) ⟨gBlind, fun U hU hW => ⟨rfl, gPre.call hK hG hA hP hD hS [1] (by decide) rfl U hU hW⟩⟩ rfl rfl hl.1 rfl (lv_room (Nat.le_of_ble_eq_true rfl)) dX6_begin_20 ⟨Nat.le_of_ble_eq_true rfl, Nat.le_of_ble_eq_true rfl⟩) hA hP hD hS [1] [0] rfl rfl (by decide) (by decide) (fun H locs hP hD hS => ?_)
  have hP : va_P D vwCl [(z, .inr (5, [.int 1, .int x1, .int x2, .ref z_cells])), (z_cells, .inl (cy 1, 40, .inr (.inl o_1)))] H := hP
  have hD : va_D A [(z, .inr (5, [.int 1, .int x1, .int x2, .ref z_cells])), (z_cells, .inl (cy 1, 40, .inr (.inl o_1)))] := hD
  cases h
  exact gRv hx hb hr hlocks hP hD hS dX6_begin_23

def f_X6_hasCell (K : Nat) (x1 : Int32) (v_length : Int32) : Option (Int32) :=
  if x1 < 0 then
    some 0
  else
    if v_length ≤ x1 then
      some 0
    else
      some 1
set_option maxHeartbeats 4000000 in
set_option maxRecDepth 100000 in
theorem c_X6_hasCell (l : Launch) (D : va_G) (cy : Nat → ClassId) (t sz K : Nat) (z : Nat) (z_cells : Nat) (v_isThere : Int32) (v_lane : Int32) (v_length : Int32) (x1 : Int32) (r_ : Int32) (h : f_X6_hasCell K x1 v_length = some r_) : gMi l D cy t sz yX6_hasCell wsX6_hasCell 0 0 [.ref z, .int x1] [(z, .inr (5, [.int v_isThere, .int v_lane, .int v_length, .ref z_cells]))] r_ [(z, .inr (5, [.int v_isThere, .int v_lane, .int v_length, .ref z_cells]))] := by
  refine gBi (cc := cX6_hasCell) (maxL := 2) (ret := (some .boolean)) (by decide) rfl (Nat.le_of_ble_eq_true rfl) ?_
  intro p e s m below meth c A ls hAt hl
  obtain ⟨hx, hb, hml, hr, hts, hown, hlocks, hin, hK, hG, hA, hP, hD⟩ := hAt
  have hS : va_S A s.heap s.heap [] := va_S.rf
  have hl : lv_has ls 2 [(0, .ref z), (1, .int x1)] := hl
  have f23 := hts (.fieldLink RX6 23 "PlainLines$Sheet" "length" "I") (by decide +kernel)
  have iX6 := (by decide +kernel : ∀ w ∈ u_ws RX6 TX6 4, w ∈ wsX6_hasCell)
  rw [f_X6_hasCell] at h
  refine lv_iload_n hx hb dX6_hasCell_0 rfl (lv_at hl 1 rfl) ?_
  refine lv_if_lt (tgt := 16) hx hb dX6_hasCell_1 (by decide) (fun c_1 => ?_) (fun c_1 => ?_)
  · have h := gx_t c_1 h
    refine lv_iconst (v := 0) hx hb dX6_hasCell_16 (by decide) ?_
    cases h
    exact gRz hx hb hr hlocks rfl hP hD hS dX6_hasCell_17
  · have h := gx_f c_1 h
    refine lv_iload_n hx hb dX6_hasCell_4 rfl (lv_at hl 1 rfl) ?_
    refine lv_aload_n hx hb dX6_hasCell_5 rfl (lv_at hl 0 rfl) ?_
    refine va_get (D := D) (ci := 5) (v := .int v_length) (C := RX6) (T := TX6) (N := 4) hx hb hts iX6 hown hK hP 0 rfl rfl 2 (by decide) f23 (fun _ h9 => h9) rfl dX6_hasCell_6 ?_
    refine lv_icmp_ge (tgt := 16) hx hb dX6_hasCell_9 (by decide) (fun c_2 => ?_) (fun c_2 => ?_)
    · have h := gx_t c_2 h
      refine lv_iconst (v := 0) hx hb dX6_hasCell_16 (by decide) ?_
      cases h
      exact gRz hx hb hr hlocks rfl hP hD hS dX6_hasCell_17
    · have h := gx_f c_2 h
      refine lv_iconst (v := 1) hx hb dX6_hasCell_12 (by decide) ?_
      refine lv_goto (tgt := 17) hx hb dX6_hasCell_13 (by decide) ?_
      cases h
      exact gRz hx hb hr hlocks rfl hP hD hS dX6_hasCell_17

def f_X6_hasCells (K : Nat) (x1 : Int32) (x2 : Int32) (v_length : Int32) : Option (Int32) :=
  if x1 < 0 then
    some 0
  else
    if x2 < 0 then
      some 0
    else
      if v_length < x1 then
        some 0
      else
        if (v_length - x1) < x2 then
          some 0
        else
          some 1
set_option maxHeartbeats 4000000 in
set_option maxRecDepth 100000 in
theorem c_X6_hasCells (l : Launch) (D : va_G) (cy : Nat → ClassId) (t sz K : Nat) (z : Nat) (z_cells : Nat) (v_isThere : Int32) (v_lane : Int32) (v_length : Int32) (x1 : Int32) (x2 : Int32) (r_ : Int32) (h : f_X6_hasCells K x1 x2 v_length = some r_) : gMi l D cy t sz yX6_hasCells wsX6_hasCells 0 0 [.ref z, .int x1, .int x2] [(z, .inr (5, [.int v_isThere, .int v_lane, .int v_length, .ref z_cells]))] r_ [(z, .inr (5, [.int v_isThere, .int v_lane, .int v_length, .ref z_cells]))] := by
  refine gBi (cc := cX6_hasCells) (maxL := 3) (ret := (some .boolean)) (by decide) rfl (Nat.le_of_ble_eq_true rfl) ?_
  intro p e s m below meth c A ls hAt hl
  obtain ⟨hx, hb, hml, hr, hts, hown, hlocks, hin, hK, hG, hA, hP, hD⟩ := hAt
  have hS : va_S A s.heap s.heap [] := va_S.rf
  have hl : lv_has ls 3 [(0, .ref z), (1, .int x1), (2, .int x2)] := hl
  have f23 := hts (.fieldLink RX6 23 "PlainLines$Sheet" "length" "I") (by decide +kernel)
  have iX6 := (by decide +kernel : ∀ w ∈ u_ws RX6 TX6 4, w ∈ wsX6_hasCells)
  rw [f_X6_hasCells] at h
  refine lv_iload_n hx hb dX6_hasCells_0 rfl (lv_at hl 1 rfl) ?_
  refine lv_if_lt (tgt := 30) hx hb dX6_hasCells_1 (by decide) (fun c_1 => ?_) (fun c_1 => ?_)
  · have h := gx_t c_1 h
    refine lv_iconst (v := 0) hx hb dX6_hasCells_30 (by decide) ?_
    cases h
    exact gRz hx hb hr hlocks rfl hP hD hS dX6_hasCells_31
  · have h := gx_f c_1 h
    refine lv_iload_n hx hb dX6_hasCells_4 rfl (lv_at hl 2 rfl) ?_
    refine lv_if_lt (tgt := 30) hx hb dX6_hasCells_5 (by decide) (fun c_2 => ?_) (fun c_2 => ?_)
    · have h := gx_t c_2 h
      refine lv_iconst (v := 0) hx hb dX6_hasCells_30 (by decide) ?_
      cases h
      exact gRz hx hb hr hlocks rfl hP hD hS dX6_hasCells_31
    · have h := gx_f c_2 h
      refine lv_iload_n hx hb dX6_hasCells_8 rfl (lv_at hl 1 rfl) ?_
      refine lv_aload_n hx hb dX6_hasCells_9 rfl (lv_at hl 0 rfl) ?_
      refine va_get (D := D) (ci := 5) (v := .int v_length) (C := RX6) (T := TX6) (N := 4) hx hb hts iX6 hown hK hP 0 rfl rfl 2 (by decide) f23 (fun _ h9 => h9) rfl dX6_hasCells_10 ?_
      refine lv_icmp_gt (tgt := 30) hx hb dX6_hasCells_13 (by decide) (fun c_3 => ?_) (fun c_3 => ?_)
      · have h := gx_t c_3 h
        refine lv_iconst (v := 0) hx hb dX6_hasCells_30 (by decide) ?_
        cases h
        exact gRz hx hb hr hlocks rfl hP hD hS dX6_hasCells_31
      · have h := gx_f c_3 h
        refine lv_iload_n hx hb dX6_hasCells_16 rfl (lv_at hl 2 rfl) ?_
        refine lv_aload_n hx hb dX6_hasCells_17 rfl (lv_at hl 0 rfl) ?_
        refine va_get (D := D) (ci := 5) (v := .int v_length) (C := RX6) (T := TX6) (N := 4) hx hb hts iX6 hown hK hP 0 rfl rfl 2 (by decide) f23 (fun _ h9 => h9) rfl dX6_hasCells_18 ?_
        refine lv_iload_n hx hb dX6_hasCells_21 rfl (lv_at hl 1 rfl) ?_
        refine lv_isub hx hb dX6_hasCells_22 ?_
        refine lv_icmp_gt (tgt := 30) hx hb dX6_hasCells_23 (by decide) (fun c_4 => ?_) (fun c_4 => ?_)
        · have h := gx_t c_4 h
          refine lv_iconst (v := 0) hx hb dX6_hasCells_30 (by decide) ?_
          cases h
          exact gRz hx hb hr hlocks rfl hP hD hS dX6_hasCells_31
        · have h := gx_f c_4 h
          refine lv_iconst (v := 1) hx hb dX6_hasCells_26 (by decide) ?_
          refine lv_goto (tgt := 31) hx hb dX6_hasCells_27 (by decide) ?_
          cases h
          exact gRz hx hb hr hlocks rfl hP hD hS dX6_hasCells_31

def f_X6_cellAt (K : Nat) (x1 : Int32) (v_cellsc : Nat → Int64) : Option (Int64) :=
  gIx x1 40 <|
  some (v_cellsc (Int32.toNatClampNeg x1))
set_option maxHeartbeats 4000000 in
set_option maxRecDepth 100000 in
theorem c_X6_cellAt (l : Launch) (D : va_G) (cy : Nat → ClassId) (t sz K : Nat) (z : Nat) (z_cells : Nat) (v_isThere : Int32) (v_lane : Int32) (v_length : Int32) (v_cellsc : Nat → Int64) (x1 : Int32) (r_ : Int64) (h : f_X6_cellAt K x1 v_cellsc = some r_) : gMl l D cy t sz yX6_cellAt wsX6_cellAt 0 0 [.ref z, .int x1] [(z, .inr (5, [.int v_isThere, .int v_lane, .int v_length, .ref z_cells])), (z_cells, .inl (cy 1, 40, .inr (.inl v_cellsc)))] r_ [(z, .inr (5, [.int v_isThere, .int v_lane, .int v_length, .ref z_cells])), (z_cells, .inl (cy 1, 40, .inr (.inl v_cellsc)))] := by
  refine gBl (cc := cX6_cellAt) (maxL := 2) (ret := (some .long)) (by decide) rfl (Nat.le_of_ble_eq_true rfl) ?_
  intro p e s m below meth c A ls hAt hl
  obtain ⟨hx, hb, hml, hr, hts, hown, hlocks, hin, hK, hG, hA, hP, hD⟩ := hAt
  have hS : va_S A s.heap s.heap [] := va_S.rf
  have hl : lv_has ls 2 [(0, .ref z), (1, .int x1)] := hl
  have f9 := hts (.fieldLink RX6 9 "PlainLines$Sheet" "cells" "[J") (by decide +kernel)
  have iX6 := (by decide +kernel : ∀ w ∈ u_ws RX6 TX6 4, w ∈ wsX6_cellAt)
  rw [f_X6_cellAt] at h
  refine lv_aload_n hx hb dX6_cellAt_0 rfl (lv_at hl 0 rfl) ?_
  refine va_get (D := D) (ci := 5) (v := .ref z_cells) (C := RX6) (T := TX6) (N := 4) hx hb hts iX6 hown hK hP 0 rfl rfl 3 (by decide) f9 (fun _ h9 => h9) rfl dX6_cellAt_1 ?_
  refine lv_iload_n hx hb dX6_cellAt_4 rfl (lv_at hl 1 rfl) ?_
  obtain ⟨hi_, h⟩ := gx_ix h
  refine va_lald hx hb hK hP 1 1 rfl rfl hi_ dX6_cellAt_5 ?_
  cases h
  exact gRl hx hb hr hlocks hP hD hS dX6_cellAt_6

def f_X6_setCell (K : Nat) (x1 : Int32) (x2 : Int64) (v_lane : Int32) (v_cellsc : Nat → Int64) : Option ((Nat → Int64)) :=
  if v_lane = 0 then
    gLet (Int32.toInt64 (Int8.toInt32 (Int32.toInt8 (Int64.toInt32 x2)))) fun y_6 =>
    gIx x1 40 <|
    gLet (vp_updL v_cellsc (Int32.toNatClampNeg x1) y_6) fun w_7 =>
    some w_7
  else
    if v_lane = 1 then
      gLet (Int32.toInt64 (Int64.toInt32 x2)) fun y_4 =>
      gIx x1 40 <|
      gLet (vp_updL v_cellsc (Int32.toNatClampNeg x1) y_4) fun w_5 =>
      some w_5
    else
      gIx x1 40 <|
      gLet (vp_updL v_cellsc (Int32.toNatClampNeg x1) x2) fun w_3 =>
      some w_3
set_option maxHeartbeats 4000000 in
set_option maxRecDepth 100000 in
theorem c_X6_setCell (l : Launch) (D : va_G) (cy : Nat → ClassId) (t sz K : Nat) (z : Nat) (z_cells : Nat) (v_isThere : Int32) (v_lane : Int32) (v_length : Int32) (v_cellsc : Nat → Int64) (x1 : Int32) (x2 : Int64) (o_v_cellsc : Nat → Int64) (h : f_X6_setCell K x1 x2 v_lane v_cellsc = some o_v_cellsc) : gMv l D cy t sz yX6_setCell wsX6_setCell 0 0 [.ref z, .int x1, .long x2] [(z, .inr (5, [.int v_isThere, .int v_lane, .int v_length, .ref z_cells])), (z_cells, .inl (cy 1, 40, .inr (.inl v_cellsc)))] [(z, .inr (5, [.int v_isThere, .int v_lane, .int v_length, .ref z_cells])), (z_cells, .inl (cy 1, 40, .inr (.inl o_v_cellsc)))] := by
  refine gBv (cc := cX6_setCell) (maxL := 4) (ret := none) (by decide) rfl (Nat.le_of_ble_eq_true rfl) ?_
  intro p e s m below meth c A ls hAt hl
  obtain ⟨hx, hb, hml, hr, hts, hown, hlocks, hin, hK, hG, hA, hP, hD⟩ := hAt
  have hS : va_S A s.heap s.heap [] := va_S.rf
  have hl : lv_has ls 4 [(0, .ref z), (1, .int x1), (2, .long x2)] := hl
  have f19 := hts (.fieldLink RX6 19 "PlainLines$Sheet" "lane" "I") (by decide +kernel)
  have iX6 := (by decide +kernel : ∀ w ∈ u_ws RX6 TX6 4, w ∈ wsX6_setCell)
  have f9 := hts (.fieldLink RX6 9 "PlainLines$Sheet" "cells" "[J") (by decide +kernel)
  rw [f_X6_setCell] at h
  refine lv_aload_n hx hb dX6_setCell_0 rfl (lv_at hl 0 rfl) ?_
  refine va_get (D := D) (ci := 5) (v := .int v_lane) (C := RX6) (T := TX6) (N := 4) hx hb hts iX6 hown hK hP 0 rfl rfl 1 (by decide) f19 (fun _ h9 => h9) rfl dX6_setCell_1 ?_
  refine lv_if_ne (tgt := 20) hx hb dX6_setCell_4 (by decide) (fun c_1 => ?_) (fun c_1 => ?_)
  · have h := gx_f c_1 h
    refine lv_aload_n hx hb dX6_setCell_20 rfl (lv_at hl 0 rfl) ?_
    refine va_get (D := D) (ci := 5) (v := .int v_lane) (C := RX6) (T := TX6) (N := 4) hx hb hts iX6 hown hK hP 0 rfl rfl 1 (by decide) f19 (fun _ h9 => h9) rfl dX6_setCell_21 ?_
    refine lv_iconst (v := 1) hx hb dX6_setCell_24 (by decide) ?_
    refine lv_icmp_ne (tgt := 40) hx hb dX6_setCell_25 (by decide) (fun c_2 => ?_) (fun c_2 => ?_)
    · have h := gx_f c_2 h
      refine lv_aload_n hx hb dX6_setCell_40 rfl (lv_at hl 0 rfl) ?_
      refine va_get (D := D) (ci := 5) (v := .ref z_cells) (C := RX6) (T := TX6) (N := 4) hx hb hts iX6 hown hK hP 0 rfl rfl 3 (by decide) f9 (fun _ h9 => h9) rfl dX6_setCell_41 ?_
      refine lv_iload_n hx hb dX6_setCell_44 rfl (lv_at hl 1 rfl) ?_
      refine lv_lload_n hx hb dX6_setCell_45 rfl (lv_at hl 2 rfl) ?_
      obtain ⟨hi_, h⟩ := gx_ix h
      refine va_last hx hb hK hP hD hS 1 1 rfl rfl hi_ dX6_setCell_46 (fun H locs hP hD hS => ?_)
      obtain ⟨w_3, e_w_3⟩ : ∃ y : Nat → Int64, y = (vp_updL v_cellsc (Int32.toNatClampNeg x1) x2) := ⟨_, rfl⟩
      have h := gx_let e_w_3 h
      have hP : va_P D vwCl [(z, .inr (5, [.int v_isThere, .int v_lane, .int v_length, .ref z_cells])), (z_cells, .inl (cy 1, 40, .inr (.inl (vp_updL v_cellsc (Int32.toNatClampNeg x1) x2))))] H := hP
      have hD : va_D A [(z, .inr (5, [.int v_isThere, .int v_lane, .int v_length, .ref z_cells])), (z_cells, .inl (cy 1, 40, .inr (.inl (vp_updL v_cellsc (Int32.toNatClampNeg x1) x2))))] := hD
      rw [← e_w_3] at hP hD
      cases h
      exact gRv hx hb hr hlocks hP hD hS dX6_setCell_47
    · have h := gx_t c_2 h
      refine lv_aload_n hx hb dX6_setCell_28 rfl (lv_at hl 0 rfl) ?_
      refine va_get (D := D) (ci := 5) (v := .ref z_cells) (C := RX6) (T := TX6) (N := 4) hx hb hts iX6 hown hK hP 0 rfl rfl 3 (by decide) f9 (fun _ h9 => h9) rfl dX6_setCell_29 ?_
      refine lv_iload_n hx hb dX6_setCell_32 rfl (lv_at hl 1 rfl) ?_
      refine lv_lload_n hx hb dX6_setCell_33 rfl (lv_at hl 2 rfl) ?_
      refine lv_l2i (v := (Int64.toInt32 x2)) hx hb dX6_setCell_34 rfl ?_
      refine lv_i2l (v := (Int32.toInt64 (Int64.toInt32 x2))) hx hb dX6_setCell_35 rfl ?_
      refine lv_topl (fun y_4 e_y_4 => ?_)
      have h := gx_let e_y_4 h
      obtain ⟨hi_, h⟩ := gx_ix h
      refine va_last hx hb hK hP hD hS 1 1 rfl rfl hi_ dX6_setCell_36 (fun H locs hP hD hS => ?_)
      obtain ⟨w_5, e_w_5⟩ : ∃ y : Nat → Int64, y = (vp_updL v_cellsc (Int32.toNatClampNeg x1) y_4) := ⟨_, rfl⟩
      have h := gx_let e_w_5 h
      have hP : va_P D vwCl [(z, .inr (5, [.int v_isThere, .int v_lane, .int v_length, .ref z_cells])), (z_cells, .inl (cy 1, 40, .inr (.inl (vp_updL v_cellsc (Int32.toNatClampNeg x1) y_4))))] H := hP
      have hD : va_D A [(z, .inr (5, [.int v_isThere, .int v_lane, .int v_length, .ref z_cells])), (z_cells, .inl (cy 1, 40, .inr (.inl (vp_updL v_cellsc (Int32.toNatClampNeg x1) y_4))))] := hD
      rw [← e_w_5] at hP hD
      refine lv_goto (tgt := 47) hx hb dX6_setCell_37 (by decide) ?_
      cases h
      exact gRv hx hb hr hlocks hP hD hS dX6_setCell_47
  · have h := gx_t c_1 h
    refine lv_aload_n hx hb dX6_setCell_7 rfl (lv_at hl 0 rfl) ?_
    refine va_get (D := D) (ci := 5) (v := .ref z_cells) (C := RX6) (T := TX6) (N := 4) hx hb hts iX6 hown hK hP 0 rfl rfl 3 (by decide) f9 (fun _ h9 => h9) rfl dX6_setCell_8 ?_
    refine lv_iload_n hx hb dX6_setCell_11 rfl (lv_at hl 1 rfl) ?_
    refine lv_lload_n hx hb dX6_setCell_12 rfl (lv_at hl 2 rfl) ?_
    refine lv_l2i (v := (Int64.toInt32 x2)) hx hb dX6_setCell_13 rfl ?_
    refine lv_i2b (v := (Int8.toInt32 (Int32.toInt8 (Int64.toInt32 x2)))) hx hb dX6_setCell_14 rfl ?_
    refine lv_i2l (v := (Int32.toInt64 (Int8.toInt32 (Int32.toInt8 (Int64.toInt32 x2))))) hx hb dX6_setCell_15 rfl ?_
    refine lv_topl (fun y_6 e_y_6 => ?_)
    have h := gx_let e_y_6 h
    obtain ⟨hi_, h⟩ := gx_ix h
    refine va_last hx hb hK hP hD hS 1 1 rfl rfl hi_ dX6_setCell_16 (fun H locs hP hD hS => ?_)
    obtain ⟨w_7, e_w_7⟩ : ∃ y : Nat → Int64, y = (vp_updL v_cellsc (Int32.toNatClampNeg x1) y_6) := ⟨_, rfl⟩
    have h := gx_let e_w_7 h
    have hP : va_P D vwCl [(z, .inr (5, [.int v_isThere, .int v_lane, .int v_length, .ref z_cells])), (z_cells, .inl (cy 1, 40, .inr (.inl (vp_updL v_cellsc (Int32.toNatClampNeg x1) y_6))))] H := hP
    have hD : va_D A [(z, .inr (5, [.int v_isThere, .int v_lane, .int v_length, .ref z_cells])), (z_cells, .inl (cy 1, 40, .inr (.inl (vp_updL v_cellsc (Int32.toNatClampNeg x1) y_6))))] := hD
    rw [← e_w_7] at hP hD
    refine lv_goto (tgt := 47) hx hb dX6_setCell_17 (by decide) ?_
    cases h
    exact gRv hx hb hr hlocks hP hD hS dX6_setCell_47

def fL_X6_ones_5 (K : Nat) (l1 : Int32) (u1 : Nat → Int64) : Nat → Int32 × Int64 → Option (Int32 × Int64)
  | 0, _ => none
  | k + 1, (l4, l2) =>
    if l1 ≤ l4 then
      some (l4, l2)
    else
      gIx l4 40 <|
      if (lg_cmp (u1 (Int32.toNatClampNeg l4)) 1) = 0 then
        gLet (l2 ||| (gLshl 1 l4)) fun y2_4 =>
        gLet (l4 + 1) fun y4_5 =>
        fL_X6_ones_5 K l1 u1 k (y4_5, y2_4)
      else
        gLet (l4 + 1) fun y4_3 =>
        fL_X6_ones_5 K l1 u1 k (y4_3, l2)
def f_X6_ones (K : Nat) (x1 : Int32) (v_cellsc : Nat → Int64) : Option (Int64) :=
  Option.bind (fL_X6_ones_5 K x1 v_cellsc K (0, 0)) fun (o_6, o_7) =>
  some o_7
set_option maxHeartbeats 4000000 in
set_option maxRecDepth 100000 in
theorem c_X6_ones (l : Launch) (D : va_G) (cy : Nat → ClassId) (t sz K : Nat) (z : Nat) (z_cells : Nat) (v_isThere : Int32) (v_lane : Int32) (v_length : Int32) (v_cellsc : Nat → Int64) (x1 : Int32) (r_ : Int64) (h : f_X6_ones K x1 v_cellsc = some r_) : gMl l D cy t sz yX6_ones wsX6_ones 0 0 [.ref z, .int x1] [(z, .inr (5, [.int v_isThere, .int v_lane, .int v_length, .ref z_cells])), (z_cells, .inl (cy 1, 40, .inr (.inl v_cellsc)))] r_ [(z, .inr (5, [.int v_isThere, .int v_lane, .int v_length, .ref z_cells])), (z_cells, .inl (cy 1, 40, .inr (.inl v_cellsc)))] := by
  refine gBl (cc := cX6_ones) (maxL := 5) (ret := (some .long)) (by decide) rfl (Nat.le_of_ble_eq_true rfl) ?_
  intro p e s m below meth c A ls hAt hl
  obtain ⟨hx, hb, hml, hr, hts, hown, hlocks, hin, hK, hG, hA, hP, hD⟩ := hAt
  have hS : va_S A s.heap s.heap [] := va_S.rf
  have hl : lv_has ls 5 [(0, .ref z), (1, .int x1)] := hl
  have f9 := hts (.fieldLink RX6 9 "PlainLines$Sheet" "cells" "[J") (by decide +kernel)
  have iX6 := (by decide +kernel : ∀ w ∈ u_ws RX6 TX6 4, w ∈ wsX6_ones)
  rw [f_X6_ones] at h
  refine lv_lconst (v := 0) hx hb dX6_ones_0 (by decide) ?_
  refine lv_lstore_n (lv' := [(2, .long 0), (0, .ref z), (1, .int x1)]) hx hb dX6_ones_1 rfl hl (by decide) rfl (fun ls hl => ?_)
  refine lv_iconst (v := 0) hx hb dX6_ones_2 (by decide) ?_
  refine lv_istore (lv' := [(4, .int 0), (2, .long 0), (0, .ref z), (1, .int x1)]) hx hb dX6_ones_3 hl (by decide) rfl (fun ls hl => ?_)
  obtain ⟨⟨o_1, o_2⟩, hL_3, h⟩ := gx_b h
  refine gJoin (Pj := fun H locs ls => va_P D vwCl [(z, .inr (5, [.int v_isThere, .int v_lane, .int v_length, .ref z_cells])), (z_cells, .inl (cy 1, 40, .inr (.inl v_cellsc)))] H ∧ va_D A [(z, .inr (5, [.int v_isThere, .int v_lane, .int v_length, .ref z_cells])), (z_cells, .inl (cy 1, 40, .inr (.inl v_cellsc)))] ∧ va_S A s.heap H locs ∧ lv_has ls 5 [(4, .int o_1), (2, .long o_2), (0, .ref z), (1, .int x1)]) (pcM := 36) (st := []) ?_ (fun hJ36 => ?_)
  · intro H locs ls hp_
    obtain ⟨hP, hD, hS, hl⟩ := hp_
    clear hL_3
    refine lv_lload_n hx hb dX6_ones_36 rfl (lv_at hl 1 rfl) ?_
    cases h
    exact gRl hx hb hr hlocks hP hD hS dX6_ones_37
  · refine gLoop (Hy := fun k_ v_ => fL_X6_ones_5 K x1 v_cellsc k_ v_ = some (o_1, o_2)) (Pl := fun (v_ : Int32 × Int64) H locs ls => match v_ with | (a_4, a_5) => va_P D vwCl [(z, .inr (5, [.int v_isThere, .int v_lane, .int v_length, .ref z_cells])), (z_cells, .inl (cy 1, 40, .inr (.inl v_cellsc)))] H ∧ va_D A [(z, .inr (5, [.int v_isThere, .int v_lane, .int v_length, .ref z_cells])), (z_cells, .inl (cy 1, 40, .inr (.inl v_cellsc)))] ∧ va_S A s.heap H locs ∧ lv_has ls 5 [(4, .int a_4), (2, .long a_5), (0, .ref z), (1, .int x1)]) (pcH := 5) (fun _ q_ => by cases q_) ?_ K (0, 0) hL_3 ⟨hP, hD, hS, hl⟩
    clear hL_3 h hP hD hS hl
    intro k_ ih ⟨a_4, a_5⟩ H locs ls h hp_
    obtain ⟨hP, hD, hS, hl⟩ := hp_
    have hP : va_P D vwCl [(z, .inr (5, [.int v_isThere, .int v_lane, .int v_length, .ref z_cells])), (z_cells, .inl (cy 1, 40, .inr (.inl v_cellsc)))] H := hP
    have hD : va_D A [(z, .inr (5, [.int v_isThere, .int v_lane, .int v_length, .ref z_cells])), (z_cells, .inl (cy 1, 40, .inr (.inl v_cellsc)))] := hD
    have hl : lv_has ls 5 [(4, .int a_4), (2, .long a_5), (0, .ref z), (1, .int x1)] := hl
    change fL_X6_ones_5 K x1 v_cellsc (k_ + 1) (a_4, a_5) = _ at h
    rw [fL_X6_ones_5] at h
    refine lv_iload hx hb dX6_ones_5 (lv_at hl 0 rfl) ?_
    refine lv_iload_n hx hb dX6_ones_7 rfl (lv_at hl 3 rfl) ?_
    refine lv_icmp_ge (tgt := 36) hx hb dX6_ones_8 (by decide) (fun c_6 => ?_) (fun c_6 => ?_)
    · have h := gx_t c_6 h
      have hl := lv_sub (l' := [(4, .int a_4), (2, .long a_5), (0, .ref z), (1, .int x1)]) hl [0, 1, 2, 3] rfl
      cases h
      exact hJ36 _ _ _ ⟨hP, hD, hS, hl⟩
    · have h := gx_f c_6 h
      refine lv_aload_n hx hb dX6_ones_11 rfl (lv_at hl 2 rfl) ?_
      refine va_get (D := D) (ci := 5) (v := .ref z_cells) (C := RX6) (T := TX6) (N := 4) hx hb hts iX6 hown hK hP 0 rfl rfl 3 (by decide) f9 (fun _ h9 => h9) rfl dX6_ones_12 ?_
      refine lv_iload hx hb dX6_ones_15 (lv_at hl 0 rfl) ?_
      obtain ⟨hi_, h⟩ := gx_ix h
      refine va_lald hx hb hK hP 1 1 rfl rfl hi_ dX6_ones_17 ?_
      refine lv_lconst (v := 1) hx hb dX6_ones_18 (by decide) ?_
      refine W.lcmp hx hb dX6_ones_19 ?_
      refine lv_if_ne (tgt := 30) hx hb dX6_ones_20 (by decide) (fun c_7 => ?_) (fun c_7 => ?_)
      · have h := gx_f c_7 h
        obtain ⟨y4_8, e_y4_8⟩ : ∃ y : Int32, y = (a_4 + 1) := ⟨_, rfl⟩
        have h := gx_let e_y4_8 h
        refine lv_iinc (v := y4_8) (lv' := [(4, .int y4_8), (2, .long a_5), (0, .ref z), (1, .int x1)]) hx hb dX6_ones_30 hl (k := 0) rfl (by rw [e_y4_8]; rfl) (by decide) rfl (fun ls hl => ?_)
        refine lv_goto (tgt := 5) hx hb dX6_ones_33 (by decide) ?_
        exact ih (y4_8, a_5) _ _ _ h ⟨hP, hD, hS, lv_sub (l' := [(4, .int y4_8), (2, .long a_5), (0, .ref z), (1, .int x1)]) hl [0, 1, 2, 3] rfl⟩
      · have h := gx_t c_7 h
        refine lv_lload_n hx hb dX6_ones_23 rfl (lv_at hl 1 rfl) ?_
        refine lv_lconst (v := 1) hx hb dX6_ones_24 (by decide) ?_
        refine lv_iload hx hb dX6_ones_25 (lv_at hl 0 rfl) ?_
        refine lv_lshl (v := (gLshl 1 a_4)) hx hb dX6_ones_27 rfl ?_
        refine lv_lor hx hb dX6_ones_28 ?_
        refine lv_topl (fun y2_9 e_y2_9 => ?_)
        have h := gx_let e_y2_9 h
        refine lv_lstore_n (lv' := [(2, .long y2_9), (4, .int a_4), (0, .ref z), (1, .int x1)]) hx hb dX6_ones_29 rfl hl (by decide) rfl (fun ls hl => ?_)
        obtain ⟨y4_10, e_y4_10⟩ : ∃ y : Int32, y = (a_4 + 1) := ⟨_, rfl⟩
        have h := gx_let e_y4_10 h
        refine lv_iinc (v := y4_10) (lv' := [(4, .int y4_10), (2, .long y2_9), (0, .ref z), (1, .int x1)]) hx hb dX6_ones_30 hl (k := 1) rfl (by rw [e_y4_10]; rfl) (by decide) rfl (fun ls hl => ?_)
        refine lv_goto (tgt := 5) hx hb dX6_ones_33 (by decide) ?_
        exact ih (y4_10, y2_9) _ _ _ h ⟨hP, hD, hS, lv_sub (l' := [(4, .int y4_10), (2, .long y2_9), (0, .ref z), (1, .int x1)]) hl [0, 1, 2, 3] rfl⟩

def fL_X6_lostSigns_5 (K : Nat) (l1 : Int32) (u1 : Nat → Int64) : Nat → Int32 × Int64 → Option (Int32 × Int64)
  | 0, _ => none
  | k + 1, (l4, l2) =>
    if l1 ≤ l4 then
      some (l4, l2)
    else
      gIx l4 40 <|
      if (lg_cmp (u1 (Int32.toNatClampNeg l4)) 0) = 0 then
        gLet (l4 + 1) fun y4_3 =>
        fL_X6_lostSigns_5 K l1 u1 k (y4_3, l2)
      else
        gIx l4 40 <|
        if (lg_cmp (u1 (Int32.toNatClampNeg l4)) 1) = 0 then
          gLet (l4 + 1) fun y4_5 =>
          fL_X6_lostSigns_5 K l1 u1 k (y4_5, l2)
        else
          gLet (l2 ||| (gLshl 1 l4)) fun y2_6 =>
          gLet (l4 + 1) fun y4_7 =>
          fL_X6_lostSigns_5 K l1 u1 k (y4_7, y2_6)
def f_X6_lostSigns (K : Nat) (x1 : Int32) (v_cellsc : Nat → Int64) : Option (Int64) :=
  Option.bind (fL_X6_lostSigns_5 K x1 v_cellsc K (0, 0)) fun (o_8, o_9) =>
  some o_9
set_option maxHeartbeats 4000000 in
set_option maxRecDepth 100000 in
theorem c_X6_lostSigns (l : Launch) (D : va_G) (cy : Nat → ClassId) (t sz K : Nat) (z : Nat) (z_cells : Nat) (v_isThere : Int32) (v_lane : Int32) (v_length : Int32) (v_cellsc : Nat → Int64) (x1 : Int32) (r_ : Int64) (h : f_X6_lostSigns K x1 v_cellsc = some r_) : gMl l D cy t sz yX6_lostSigns wsX6_lostSigns 0 0 [.ref z, .int x1] [(z, .inr (5, [.int v_isThere, .int v_lane, .int v_length, .ref z_cells])), (z_cells, .inl (cy 1, 40, .inr (.inl v_cellsc)))] r_ [(z, .inr (5, [.int v_isThere, .int v_lane, .int v_length, .ref z_cells])), (z_cells, .inl (cy 1, 40, .inr (.inl v_cellsc)))] := by
  refine gBl (cc := cX6_lostSigns) (maxL := 5) (ret := (some .long)) (by decide) rfl (Nat.le_of_ble_eq_true rfl) ?_
  intro p e s m below meth c A ls hAt hl
  obtain ⟨hx, hb, hml, hr, hts, hown, hlocks, hin, hK, hG, hA, hP, hD⟩ := hAt
  have hS : va_S A s.heap s.heap [] := va_S.rf
  have hl : lv_has ls 5 [(0, .ref z), (1, .int x1)] := hl
  have f9 := hts (.fieldLink RX6 9 "PlainLines$Sheet" "cells" "[J") (by decide +kernel)
  have iX6 := (by decide +kernel : ∀ w ∈ u_ws RX6 TX6 4, w ∈ wsX6_lostSigns)
  rw [f_X6_lostSigns] at h
  refine lv_lconst (v := 0) hx hb dX6_lostSigns_0 (by decide) ?_
  refine lv_lstore_n (lv' := [(2, .long 0), (0, .ref z), (1, .int x1)]) hx hb dX6_lostSigns_1 rfl hl (by decide) rfl (fun ls hl => ?_)
  refine lv_iconst (v := 0) hx hb dX6_lostSigns_2 (by decide) ?_
  refine lv_istore (lv' := [(4, .int 0), (2, .long 0), (0, .ref z), (1, .int x1)]) hx hb dX6_lostSigns_3 hl (by decide) rfl (fun ls hl => ?_)
  obtain ⟨⟨o_1, o_2⟩, hL_3, h⟩ := gx_b h
  refine gJoin (Pj := fun H locs ls => va_P D vwCl [(z, .inr (5, [.int v_isThere, .int v_lane, .int v_length, .ref z_cells])), (z_cells, .inl (cy 1, 40, .inr (.inl v_cellsc)))] H ∧ va_D A [(z, .inr (5, [.int v_isThere, .int v_lane, .int v_length, .ref z_cells])), (z_cells, .inl (cy 1, 40, .inr (.inl v_cellsc)))] ∧ va_S A s.heap H locs ∧ lv_has ls 5 [(4, .int o_1), (2, .long o_2), (0, .ref z), (1, .int x1)]) (pcM := 48) (st := []) ?_ (fun hJ48 => ?_)
  · intro H locs ls hp_
    obtain ⟨hP, hD, hS, hl⟩ := hp_
    clear hL_3
    refine lv_lload_n hx hb dX6_lostSigns_48 rfl (lv_at hl 1 rfl) ?_
    cases h
    exact gRl hx hb hr hlocks hP hD hS dX6_lostSigns_49
  · refine gLoop (Hy := fun k_ v_ => fL_X6_lostSigns_5 K x1 v_cellsc k_ v_ = some (o_1, o_2)) (Pl := fun (v_ : Int32 × Int64) H locs ls => match v_ with | (a_4, a_5) => va_P D vwCl [(z, .inr (5, [.int v_isThere, .int v_lane, .int v_length, .ref z_cells])), (z_cells, .inl (cy 1, 40, .inr (.inl v_cellsc)))] H ∧ va_D A [(z, .inr (5, [.int v_isThere, .int v_lane, .int v_length, .ref z_cells])), (z_cells, .inl (cy 1, 40, .inr (.inl v_cellsc)))] ∧ va_S A s.heap H locs ∧ lv_has ls 5 [(4, .int a_4), (2, .long a_5), (0, .ref z), (1, .int x1)]) (pcH := 5) (fun _ q_ => by cases q_) ?_ K (0, 0) hL_3 ⟨hP, hD, hS, hl⟩
    clear hL_3 h hP hD hS hl
    intro k_ ih ⟨a_4, a_5⟩ H locs ls h hp_
    obtain ⟨hP, hD, hS, hl⟩ := hp_
    have hP : va_P D vwCl [(z, .inr (5, [.int v_isThere, .int v_lane, .int v_length, .ref z_cells])), (z_cells, .inl (cy 1, 40, .inr (.inl v_cellsc)))] H := hP
    have hD : va_D A [(z, .inr (5, [.int v_isThere, .int v_lane, .int v_length, .ref z_cells])), (z_cells, .inl (cy 1, 40, .inr (.inl v_cellsc)))] := hD
    have hl : lv_has ls 5 [(4, .int a_4), (2, .long a_5), (0, .ref z), (1, .int x1)] := hl
    change fL_X6_lostSigns_5 K x1 v_cellsc (k_ + 1) (a_4, a_5) = _ at h
    rw [fL_X6_lostSigns_5] at h
    refine lv_iload hx hb dX6_lostSigns_5 (lv_at hl 0 rfl) ?_
    refine lv_iload_n hx hb dX6_lostSigns_7 rfl (lv_at hl 3 rfl) ?_
    refine lv_icmp_ge (tgt := 48) hx hb dX6_lostSigns_8 (by decide) (fun c_6 => ?_) (fun c_6 => ?_)
    · have h := gx_t c_6 h
      have hl := lv_sub (l' := [(4, .int a_4), (2, .long a_5), (0, .ref z), (1, .int x1)]) hl [0, 1, 2, 3] rfl
      cases h
      exact hJ48 _ _ _ ⟨hP, hD, hS, hl⟩
    · have h := gx_f c_6 h
      refine lv_aload_n hx hb dX6_lostSigns_11 rfl (lv_at hl 2 rfl) ?_
      refine va_get (D := D) (ci := 5) (v := .ref z_cells) (C := RX6) (T := TX6) (N := 4) hx hb hts iX6 hown hK hP 0 rfl rfl 3 (by decide) f9 (fun _ h9 => h9) rfl dX6_lostSigns_12 ?_
      refine lv_iload hx hb dX6_lostSigns_15 (lv_at hl 0 rfl) ?_
      obtain ⟨hi_, h⟩ := gx_ix h
      refine va_lald hx hb hK hP 1 1 rfl rfl hi_ dX6_lostSigns_17 ?_
      refine lv_lconst (v := 0) hx hb dX6_lostSigns_18 (by decide) ?_
      refine W.lcmp hx hb dX6_lostSigns_19 ?_
      refine lv_if_eq (tgt := 42) hx hb dX6_lostSigns_20 (by decide) (fun c_7 => ?_) (fun c_7 => ?_)
      · have h := gx_t c_7 h
        obtain ⟨y4_8, e_y4_8⟩ : ∃ y : Int32, y = (a_4 + 1) := ⟨_, rfl⟩
        have h := gx_let e_y4_8 h
        refine lv_iinc (v := y4_8) (lv' := [(4, .int y4_8), (2, .long a_5), (0, .ref z), (1, .int x1)]) hx hb dX6_lostSigns_42 hl (k := 0) rfl (by rw [e_y4_8]; rfl) (by decide) rfl (fun ls hl => ?_)
        refine lv_goto (tgt := 5) hx hb dX6_lostSigns_45 (by decide) ?_
        exact ih (y4_8, a_5) _ _ _ h ⟨hP, hD, hS, lv_sub (l' := [(4, .int y4_8), (2, .long a_5), (0, .ref z), (1, .int x1)]) hl [0, 1, 2, 3] rfl⟩
      · have h := gx_f c_7 h
        refine lv_aload_n hx hb dX6_lostSigns_23 rfl (lv_at hl 2 rfl) ?_
        refine va_get (D := D) (ci := 5) (v := .ref z_cells) (C := RX6) (T := TX6) (N := 4) hx hb hts iX6 hown hK hP 0 rfl rfl 3 (by decide) f9 (fun _ h9 => h9) rfl dX6_lostSigns_24 ?_
        refine lv_iload hx hb dX6_lostSigns_27 (lv_at hl 0 rfl) ?_
        obtain ⟨hi_, h⟩ := gx_ix h
        refine va_lald hx hb hK hP 1 1 rfl rfl hi_ dX6_lostSigns_29 ?_
        refine lv_lconst (v := 1) hx hb dX6_lostSigns_30 (by decide) ?_
        refine W.lcmp hx hb dX6_lostSigns_31 ?_
        refine lv_if_eq (tgt := 42) hx hb dX6_lostSigns_32 (by decide) (fun c_9 => ?_) (fun c_9 => ?_)
        · have h := gx_t c_9 h
          obtain ⟨y4_10, e_y4_10⟩ : ∃ y : Int32, y = (a_4 + 1) := ⟨_, rfl⟩
          have h := gx_let e_y4_10 h
          refine lv_iinc (v := y4_10) (lv' := [(4, .int y4_10), (2, .long a_5), (0, .ref z), (1, .int x1)]) hx hb dX6_lostSigns_42 hl (k := 0) rfl (by rw [e_y4_10]; rfl) (by decide) rfl (fun ls hl => ?_)
          refine lv_goto (tgt := 5) hx hb dX6_lostSigns_45 (by decide) ?_
          exact ih (y4_10, a_5) _ _ _ h ⟨hP, hD, hS, lv_sub (l' := [(4, .int y4_10), (2, .long a_5), (0, .ref z), (1, .int x1)]) hl [0, 1, 2, 3] rfl⟩
        · have h := gx_f c_9 h
          refine lv_lload_n hx hb dX6_lostSigns_35 rfl (lv_at hl 1 rfl) ?_
          refine lv_lconst (v := 1) hx hb dX6_lostSigns_36 (by decide) ?_
          refine lv_iload hx hb dX6_lostSigns_37 (lv_at hl 0 rfl) ?_
          refine lv_lshl (v := (gLshl 1 a_4)) hx hb dX6_lostSigns_39 rfl ?_
          refine lv_lor hx hb dX6_lostSigns_40 ?_
          refine lv_topl (fun y2_11 e_y2_11 => ?_)
          have h := gx_let e_y2_11 h
          refine lv_lstore_n (lv' := [(2, .long y2_11), (4, .int a_4), (0, .ref z), (1, .int x1)]) hx hb dX6_lostSigns_41 rfl hl (by decide) rfl (fun ls hl => ?_)
          obtain ⟨y4_12, e_y4_12⟩ : ∃ y : Int32, y = (a_4 + 1) := ⟨_, rfl⟩
          have h := gx_let e_y4_12 h
          refine lv_iinc (v := y4_12) (lv' := [(4, .int y4_12), (2, .long y2_11), (0, .ref z), (1, .int x1)]) hx hb dX6_lostSigns_42 hl (k := 1) rfl (by rw [e_y4_12]; rfl) (by decide) rfl (fun ls hl => ?_)
          refine lv_goto (tgt := 5) hx hb dX6_lostSigns_45 (by decide) ?_
          exact ih (y4_12, y2_11) _ _ _ h ⟨hP, hD, hS, lv_sub (l' := [(4, .int y4_12), (2, .long y2_11), (0, .ref z), (1, .int x1)]) hl [0, 1, 2, 3] rfl⟩

def fL_X6_receive_3 (K : Nat) (l1 : Int64) (l3 : Int64) (l5 : Int32) : Nat → Int32 × (Nat → Int64) → Option (Int32 × (Nat → Int64))
  | 0, _ => none
  | k + 1, (l6, u1) =>
    if l5 ≤ l6 then
      some (l6, u1)
    else
      Option.bind (α := Int64) (
        if (lg_cmp ((gLushr l3 l6) &&& 1) 0) = 0 then
          some ((gLushr l1 l6) &&& 1)
        else
          some 2) fun ms_7 =>
      gIx l6 40 <|
      gLet (vp_updL u1 (Int32.toNatClampNeg l6) ms_7) fun w_9 =>
      gLet (l6 + 1) fun y6_10 =>
      fL_X6_receive_3 K l1 l3 l5 k (y6_10, w_9)
def f_X6_receive (K : Nat) (x1 : Int64) (x2 : Int64) (x3 : Int32) (v_cellsc : Nat → Int64) : Option ((Nat → Int64)) :=
  Option.bind (fL_X6_receive_3 K x1 x2 x3 K (0, v_cellsc)) fun (o_11, o_12) =>
  some o_12
set_option maxHeartbeats 4000000 in
set_option maxRecDepth 100000 in
theorem c_X6_receive (l : Launch) (D : va_G) (cy : Nat → ClassId) (t sz K : Nat) (z : Nat) (z_cells : Nat) (v_isThere : Int32) (v_lane : Int32) (v_length : Int32) (v_cellsc : Nat → Int64) (x1 : Int64) (x2 : Int64) (x3 : Int32) (o_v_cellsc : Nat → Int64) (h : f_X6_receive K x1 x2 x3 v_cellsc = some o_v_cellsc) : gMv l D cy t sz yX6_receive wsX6_receive 0 0 [.ref z, .long x1, .long x2, .int x3] [(z, .inr (5, [.int v_isThere, .int v_lane, .int v_length, .ref z_cells])), (z_cells, .inl (cy 1, 40, .inr (.inl v_cellsc)))] [(z, .inr (5, [.int v_isThere, .int v_lane, .int v_length, .ref z_cells])), (z_cells, .inl (cy 1, 40, .inr (.inl o_v_cellsc)))] := by
  refine gBv (cc := cX6_receive) (maxL := 7) (ret := none) (by decide) rfl (Nat.le_of_ble_eq_true rfl) ?_
  intro p e s m below meth c A ls hAt hl
  obtain ⟨hx, hb, hml, hr, hts, hown, hlocks, hin, hK, hG, hA, hP, hD⟩ := hAt
  have hS : va_S A s.heap s.heap [] := va_S.rf
  have hl : lv_has ls 7 [(0, .ref z), (1, .long x1), (3, .long x2), (5, .int x3)] := hl
  have f9 := hts (.fieldLink RX6 9 "PlainLines$Sheet" "cells" "[J") (by decide +kernel)
  have iX6 := (by decide +kernel : ∀ w ∈ u_ws RX6 TX6 4, w ∈ wsX6_receive)
  have k32 := hts (.constantLong RX6 32 (2)) (by decide +kernel)
  rw [f_X6_receive] at h
  refine lv_iconst (v := 0) hx hb dX6_receive_0 (by decide) ?_
  refine lv_istore (lv' := [(6, .int 0), (0, .ref z), (1, .long x1), (3, .long x2), (5, .int x3)]) hx hb dX6_receive_1 hl (by decide) rfl (fun ls hl => ?_)
  obtain ⟨⟨o_1, o_2⟩, hL_3, h⟩ := gx_b h
  refine gJoin (Pj := fun H locs ls => va_P D vwCl [(z, .inr (5, [.int v_isThere, .int v_lane, .int v_length, .ref z_cells])), (z_cells, .inl (cy 1, 40, .inr (.inl o_2)))] H ∧ va_D A [(z, .inr (5, [.int v_isThere, .int v_lane, .int v_length, .ref z_cells])), (z_cells, .inl (cy 1, 40, .inr (.inl o_2)))] ∧ va_S A s.heap H locs ∧ lv_has ls 7 [(6, .int o_1), (0, .ref z), (1, .long x1), (3, .long x2), (5, .int x3)]) (pcM := 46) (st := []) ?_ (fun hJ46 => ?_)
  · intro H locs ls hp_
    obtain ⟨hP, hD, hS, hl⟩ := hp_
    clear hL_3
    cases h
    exact gRv hx hb hr hlocks hP hD hS dX6_receive_46
  · refine gLoop (Hy := fun k_ v_ => fL_X6_receive_3 K x1 x2 x3 k_ v_ = some (o_1, o_2)) (Pl := fun (v_ : Int32 × (Nat → Int64)) H locs ls => match v_ with | (a_4, a_5) => va_P D vwCl [(z, .inr (5, [.int v_isThere, .int v_lane, .int v_length, .ref z_cells])), (z_cells, .inl (cy 1, 40, .inr (.inl a_5)))] H ∧ va_D A [(z, .inr (5, [.int v_isThere, .int v_lane, .int v_length, .ref z_cells])), (z_cells, .inl (cy 1, 40, .inr (.inl a_5)))] ∧ va_S A s.heap H locs ∧ lv_has ls 7 [(6, .int a_4), (0, .ref z), (1, .long x1), (3, .long x2), (5, .int x3)]) (pcH := 3) (fun _ q_ => by cases q_) ?_ K (0, v_cellsc) hL_3 ⟨hP, hD, hS, hl⟩
    clear hL_3 h hP hD hS hl
    intro k_ ih ⟨a_4, a_5⟩ H locs ls h hp_
    obtain ⟨hP, hD, hS, hl⟩ := hp_
    have hP : va_P D vwCl [(z, .inr (5, [.int v_isThere, .int v_lane, .int v_length, .ref z_cells])), (z_cells, .inl (cy 1, 40, .inr (.inl a_5)))] H := hP
    have hD : va_D A [(z, .inr (5, [.int v_isThere, .int v_lane, .int v_length, .ref z_cells])), (z_cells, .inl (cy 1, 40, .inr (.inl a_5)))] := hD
    have hl : lv_has ls 7 [(6, .int a_4), (0, .ref z), (1, .long x1), (3, .long x2), (5, .int x3)] := hl
    change fL_X6_receive_3 K x1 x2 x3 (k_ + 1) (a_4, a_5) = _ at h
    rw [fL_X6_receive_3] at h
    refine lv_iload hx hb dX6_receive_3 (lv_at hl 0 rfl) ?_
    refine lv_iload hx hb dX6_receive_5 (lv_at hl 4 rfl) ?_
    refine lv_icmp_ge (tgt := 46) hx hb dX6_receive_7 (by decide) (fun c_6 => ?_) (fun c_6 => ?_)
    · have h := gx_t c_6 h
      have hl := lv_sub (l' := [(6, .int a_4), (0, .ref z), (1, .long x1), (3, .long x2), (5, .int x3)]) hl [0, 1, 2, 3, 4] rfl
      cases h
      exact hJ46 _ _ _ ⟨hP, hD, hS, hl⟩
    · have h := gx_f c_6 h
      refine lv_aload_n hx hb dX6_receive_10 rfl (lv_at hl 1 rfl) ?_
      refine va_get (D := D) (ci := 5) (v := .ref z_cells) (C := RX6) (T := TX6) (N := 4) hx hb hts iX6 hown hK hP 0 rfl rfl 3 (by decide) f9 (fun _ h9 => h9) rfl dX6_receive_11 ?_
      refine lv_iload hx hb dX6_receive_14 (lv_at hl 0 rfl) ?_
      refine lv_lload_n hx hb dX6_receive_16 rfl (lv_at hl 3 rfl) ?_
      refine lv_iload hx hb dX6_receive_17 (lv_at hl 0 rfl) ?_
      refine lv_lushr (v := (gLushr x2 a_4)) hx hb dX6_receive_19 rfl ?_
      refine lv_lconst (v := 1) hx hb dX6_receive_20 (by decide) ?_
      refine lv_land hx hb dX6_receive_21 ?_
      refine lv_lconst (v := 0) hx hb dX6_receive_22 (by decide) ?_
      refine W.lcmp hx hb dX6_receive_23 ?_
      obtain ⟨ms_7, hR_8, h⟩ := gx_b h
      refine gJoin (Pj := fun H locs ls => va_P D vwCl [(z, .inr (5, [.int v_isThere, .int v_lane, .int v_length, .ref z_cells])), (z_cells, .inl (cy 1, 40, .inr (.inl a_5)))] H ∧ va_D A [(z, .inr (5, [.int v_isThere, .int v_lane, .int v_length, .ref z_cells])), (z_cells, .inl (cy 1, 40, .inr (.inl a_5)))] ∧ va_S A s.heap H locs ∧ lv_has ls 7 [(6, .int a_4), (0, .ref z), (1, .long x1), (3, .long x2), (5, .int x3)]) (pcM := 39) (st := [.long ms_7, .int a_4, .ref z_cells]) ?_ (fun hJ39 => ?_)
      · intro H locs ls hp_
        obtain ⟨hP, hD, hS, hl⟩ := hp_
        clear hR_8
        obtain ⟨hi_, h⟩ := gx_ix h
        refine va_last hx hb hK hP hD hS 1 1 rfl rfl hi_ dX6_receive_39 (fun H locs hP hD hS => ?_)
        obtain ⟨w_9, e_w_9⟩ : ∃ y : Nat → Int64, y = (vp_updL a_5 (Int32.toNatClampNeg a_4) ms_7) := ⟨_, rfl⟩
        have h := gx_let e_w_9 h
        have hP : va_P D vwCl [(z, .inr (5, [.int v_isThere, .int v_lane, .int v_length, .ref z_cells])), (z_cells, .inl (cy 1, 40, .inr (.inl (vp_updL a_5 (Int32.toNatClampNeg a_4) ms_7))))] H := hP
        have hD : va_D A [(z, .inr (5, [.int v_isThere, .int v_lane, .int v_length, .ref z_cells])), (z_cells, .inl (cy 1, 40, .inr (.inl (vp_updL a_5 (Int32.toNatClampNeg a_4) ms_7))))] := hD
        rw [← e_w_9] at hP hD
        obtain ⟨y6_10, e_y6_10⟩ : ∃ y : Int32, y = (a_4 + 1) := ⟨_, rfl⟩
        have h := gx_let e_y6_10 h
        refine lv_iinc (v := y6_10) (lv' := [(6, .int y6_10), (0, .ref z), (1, .long x1), (3, .long x2), (5, .int x3)]) hx hb dX6_receive_40 hl (k := 0) rfl (by rw [e_y6_10]; rfl) (by decide) rfl (fun ls hl => ?_)
        refine lv_goto (tgt := 3) hx hb dX6_receive_43 (by decide) ?_
        exact ih (y6_10, w_9) _ _ _ h ⟨hP, hD, hS, lv_sub (l' := [(6, .int y6_10), (0, .ref z), (1, .long x1), (3, .long x2), (5, .int x3)]) hl [0, 1, 2, 3, 4] rfl⟩
      · have h := hR_8
        refine lv_if_eq (tgt := 33) hx hb dX6_receive_24 (by decide) (fun c_11 => ?_) (fun c_11 => ?_)
        · have h := gx_t c_11 h
          refine lv_lload_n hx hb dX6_receive_33 rfl (lv_at hl 2 rfl) ?_
          refine lv_iload hx hb dX6_receive_34 (lv_at hl 0 rfl) ?_
          refine lv_lushr (v := (gLushr x1 a_4)) hx hb dX6_receive_36 rfl ?_
          refine lv_lconst (v := 1) hx hb dX6_receive_37 (by decide) ?_
          refine lv_land hx hb dX6_receive_38 ?_
          have hl := lv_sub (l' := [(6, .int a_4), (0, .ref z), (1, .long x1), (3, .long x2), (5, .int x3)]) hl [0, 1, 2, 3, 4] rfl
          cases h
          exact hJ39 _ _ _ ⟨hP, hD, hS, hl⟩
        · have h := gx_f c_11 h
          refine lv_ldc2 hx hb hown k32 dX6_receive_27 ?_
          refine lv_goto (tgt := 39) hx hb dX6_receive_30 (by decide) ?_
          have hl := lv_sub (l' := [(6, .int a_4), (0, .ref z), (1, .long x1), (3, .long x2), (5, .int x3)]) hl [0, 1, 2, 3, 4] rfl
          cases h
          exact hJ39 _ _ _ ⟨hP, hD, hS, hl⟩

def fL_J7_fill_53178_5 (K : Nat) (l3 : Int32) (l1 : Int32) (n1 : Nat) : Nat → Int32 × (Nat → Int32) → Option (Int32 × (Nat → Int32))
  | 0, _ => none
  | k + 1, (l2, u0) =>
    if l3 ≤ l2 then
      some (l2, u0)
    else
      gIx l2 n1 <|
      gLet (upd u0 (Int32.toNatClampNeg l2) l1) fun w_6 =>
      gLet (l2 + 1) fun y2_7 =>
      fL_J7_fill_53178_5 K l3 l1 n1 k (y2_7, w_6)
def f_J7_fill_53178 (K : Nat) (x2 : Int32) (v1 : Nat → Int32) (n1 : Nat) : Option ((Nat → Int32)) :=
  gLet (Int32.ofNat n1) fun y3_1 =>
  Option.bind (fL_J7_fill_53178_5 K y3_1 x2 n1 K (0, v1)) fun (o_8, o_9) =>
  some o_9
set_option maxHeartbeats 4000000 in
set_option maxRecDepth 100000 in
theorem c_J7_fill_53178 (l : Launch) (D : va_G) (cy : Nat → ClassId) (t sz K : Nat) (z1 : Nat) (v1 : Nat → Int32) (n1 : Nat) (x2 : Int32) (o_v1 : Nat → Int32) (h : f_J7_fill_53178 K x2 v1 n1 = some o_v1) : gMv l D cy t sz yJ7_fill_53178 wsJ7_fill_53178 0 0 [.ref z1, .int x2] [(z1, .inl (cy 0, n1, .inl v1))] [(z1, .inl (cy 0, n1, .inl o_v1))] := by
  refine gBv (cc := cJ7_fill_53178) (maxL := 4) (ret := none) (by decide) rfl (Nat.le_of_ble_eq_true rfl) ?_
  intro p e s m below meth c A ls hAt hl
  obtain ⟨hx, hb, hml, hr, hts, hown, hlocks, hin, hK, hG, hA, hP, hD⟩ := hAt
  have hS : va_S A s.heap s.heap [] := va_S.rf
  have hl : lv_has ls 4 [(0, .ref z1), (1, .int x2)] := hl
  rw [f_J7_fill_53178] at h
  refine lv_iconst (v := 0) hx hb dJ7_fill_53178_0 (by decide) ?_
  refine lv_istore_n (lv' := [(2, .int 0), (0, .ref z1), (1, .int x2)]) hx hb dJ7_fill_53178_1 rfl hl (by decide) rfl (fun ls hl => ?_)
  refine lv_aload_n hx hb dJ7_fill_53178_2 rfl (lv_at hl 1 rfl) ?_
  refine va_alen (v := (Int32.ofNat n1)) hx hb hK hP 0 0 (ha := rfl) (ht := rfl) rfl dJ7_fill_53178_3 ?_
  refine lv_topi (fun y3_1 e_y3_1 => ?_)
  have h := gx_let e_y3_1 h
  refine lv_istore_n (lv' := [(3, .int y3_1), (2, .int 0), (0, .ref z1), (1, .int x2)]) hx hb dJ7_fill_53178_4 rfl hl (by decide) rfl (fun ls hl => ?_)
  obtain ⟨⟨o_2, o_3⟩, hL_4, h⟩ := gx_b h
  refine gJoin (Pj := fun H locs ls => va_P D vwCl [(z1, .inl (cy 0, n1, .inl o_3))] H ∧ va_D A [(z1, .inl (cy 0, n1, .inl o_3))] ∧ va_S A s.heap H locs ∧ lv_has ls 4 [(3, .int y3_1), (2, .int o_2), (0, .ref z1), (1, .int x2)]) (pcM := 20) (st := []) ?_ (fun hJ20 => ?_)
  · intro H locs ls hp_
    obtain ⟨hP, hD, hS, hl⟩ := hp_
    clear hL_4
    cases h
    exact gRv hx hb hr hlocks hP hD hS dJ7_fill_53178_20
  · refine gLoop (Hy := fun k_ v_ => fL_J7_fill_53178_5 K y3_1 x2 n1 k_ v_ = some (o_2, o_3)) (Pl := fun (v_ : Int32 × (Nat → Int32)) H locs ls => match v_ with | (a_5, a_6) => va_P D vwCl [(z1, .inl (cy 0, n1, .inl a_6))] H ∧ va_D A [(z1, .inl (cy 0, n1, .inl a_6))] ∧ va_S A s.heap H locs ∧ lv_has ls 4 [(3, .int y3_1), (2, .int a_5), (0, .ref z1), (1, .int x2)]) (pcH := 5) (fun _ q_ => by cases q_) ?_ K (0, v1) hL_4 ⟨hP, hD, hS, hl⟩
    clear hL_4 h hP hD hS hl
    intro k_ ih ⟨a_5, a_6⟩ H locs ls h hp_
    obtain ⟨hP, hD, hS, hl⟩ := hp_
    have hP : va_P D vwCl [(z1, .inl (cy 0, n1, .inl a_6))] H := hP
    have hD : va_D A [(z1, .inl (cy 0, n1, .inl a_6))] := hD
    have hl : lv_has ls 4 [(3, .int y3_1), (2, .int a_5), (0, .ref z1), (1, .int x2)] := hl
    change fL_J7_fill_53178_5 K y3_1 x2 n1 (k_ + 1) (a_5, a_6) = _ at h
    rw [fL_J7_fill_53178_5] at h
    refine lv_iload_n hx hb dJ7_fill_53178_5 rfl (lv_at hl 1 rfl) ?_
    refine lv_iload_n hx hb dJ7_fill_53178_6 rfl (lv_at hl 0 rfl) ?_
    refine lv_icmp_ge (tgt := 20) hx hb dJ7_fill_53178_7 (by decide) (fun c_7 => ?_) (fun c_7 => ?_)
    · have h := gx_t c_7 h
      have hl := lv_sub (l' := [(3, .int y3_1), (2, .int a_5), (0, .ref z1), (1, .int x2)]) hl [0, 1, 2, 3] rfl
      cases h
      exact hJ20 _ _ _ ⟨hP, hD, hS, hl⟩
    · have h := gx_f c_7 h
      refine lv_aload_n hx hb dJ7_fill_53178_10 rfl (lv_at hl 2 rfl) ?_
      refine lv_iload_n hx hb dJ7_fill_53178_11 rfl (lv_at hl 1 rfl) ?_
      refine lv_iload_n hx hb dJ7_fill_53178_12 rfl (lv_at hl 3 rfl) ?_
      obtain ⟨hi_, h⟩ := gx_ix h
      refine va_iast hx hb hK hP hD hS 0 0 rfl rfl hi_ dJ7_fill_53178_13 (fun H locs hP hD hS => ?_)
      obtain ⟨w_8, e_w_8⟩ : ∃ y : Nat → Int32, y = (upd a_6 (Int32.toNatClampNeg a_5) x2) := ⟨_, rfl⟩
      have h := gx_let e_w_8 h
      have hP : va_P D vwCl [(z1, .inl (cy 0, n1, .inl (upd a_6 (Int32.toNatClampNeg a_5) x2)))] H := hP
      have hD : va_D A [(z1, .inl (cy 0, n1, .inl (upd a_6 (Int32.toNatClampNeg a_5) x2)))] := hD
      rw [← e_w_8] at hP hD
      obtain ⟨y2_9, e_y2_9⟩ : ∃ y : Int32, y = (a_5 + 1) := ⟨_, rfl⟩
      have h := gx_let e_y2_9 h
      refine lv_iinc (v := y2_9) (lv' := [(2, .int y2_9), (3, .int y3_1), (0, .ref z1), (1, .int x2)]) hx hb dJ7_fill_53178_14 hl (k := 1) rfl (by rw [e_y2_9]; rfl) (by decide) rfl (fun ls hl => ?_)
      refine lv_goto (tgt := 5) hx hb dJ7_fill_53178_17 (by decide) ?_
      exact ih (y2_9, w_8) _ _ _ h ⟨hP, hD, hS, lv_sub (l' := [(3, .int y3_1), (2, .int y2_9), (0, .ref z1), (1, .int x2)]) hl [1, 0, 2, 3] rfl⟩

def f_J6_numberOfTrailingZeros_0f7a4 (K : Nat) (x1 : Int32) : Option (Int32) :=
  gLet ((x1 ^^^ (-1)) &&& (x1 - 1)) fun y0_1 =>
  if 0 < y0_1 then
    Option.bind (α := Int32 × Int32) (
      if y0_1 ≤ 65536 then
        some (1, y0_1)
      else
        gLet (1 + 16) fun y1_6 =>
        gLet (gIushr y0_1 16) fun y0_7 =>
        some (y1_6, y0_7)) fun (m1_3, m0_4) =>
    Option.bind (α := Int32 × Int32) (
      if m0_4 ≤ 256 then
        some (m1_3, m0_4)
      else
        gLet (m1_3 + 8) fun y1_11 =>
        gLet (gIushr m0_4 8) fun y0_12 =>
        some (y1_11, y0_12)) fun (m1_8, m0_9) =>
    Option.bind (α := Int32 × Int32) (
      if m0_9 ≤ 16 then
        some (m1_8, m0_9)
      else
        gLet (m1_8 + 4) fun y1_16 =>
        gLet (gIushr m0_9 4) fun y0_17 =>
        some (y1_16, y0_17)) fun (m1_13, m0_14) =>
    Option.bind (α := Int32 × Int32) (
      if m0_14 ≤ 4 then
        some (m1_13, m0_14)
      else
        gLet (m1_13 + 2) fun y1_21 =>
        gLet (gIushr m0_14 2) fun y0_22 =>
        some (y1_21, y0_22)) fun (m1_18, m0_19) =>
    some (m1_18 + (gIushr m0_19 1))
  else
    some (y0_1 &&& 32)
set_option maxHeartbeats 4000000 in
set_option maxRecDepth 100000 in
theorem c_J6_numberOfTrailingZeros_0f7a4 (l : Launch) (D : va_G) (cy : Nat → ClassId) (t sz K : Nat) (x1 : Int32) (r_ : Int32) (h : f_J6_numberOfTrailingZeros_0f7a4 K x1 = some r_) : gMi l D cy t sz yJ6_numberOfTrailingZeros_0f7a4 wsJ6_numberOfTrailingZeros_0f7a4 0 0 [.int x1] [] r_ [] := by
  refine gBi (cc := cJ6_numberOfTrailingZeros_0f7a4) (maxL := 2) (ret := (some .int)) (by decide) rfl (Nat.le_of_ble_eq_true rfl) ?_
  intro p e s m below meth c A ls hAt hl
  obtain ⟨hx, hb, hml, hr, hts, hown, hlocks, hin, hK, hG, hA, hP, hD⟩ := hAt
  have hS : va_S A s.heap s.heap [] := va_S.rf
  have hl : lv_has ls 2 [(0, .int x1)] := hl
  have k264 := hts (.constant RJ6 264 (65536)) (by decide +kernel)
  rw [f_J6_numberOfTrailingZeros_0f7a4] at h
  refine lv_iload_n hx hb dJ6_numberOfTrailingZeros_0f7a4_0 rfl (lv_at hl 0 rfl) ?_
  refine lv_iconst (v := (-1)) hx hb dJ6_numberOfTrailingZeros_0f7a4_1 (by decide) ?_
  refine lv_ixor hx hb dJ6_numberOfTrailingZeros_0f7a4_2 ?_
  refine lv_iload_n hx hb dJ6_numberOfTrailingZeros_0f7a4_3 rfl (lv_at hl 0 rfl) ?_
  refine lv_iconst (v := 1) hx hb dJ6_numberOfTrailingZeros_0f7a4_4 (by decide) ?_
  refine lv_isub hx hb dJ6_numberOfTrailingZeros_0f7a4_5 ?_
  refine lv_iand hx hb dJ6_numberOfTrailingZeros_0f7a4_6 ?_
  refine lv_topi (fun y0_1 e_y0_1 => ?_)
  have h := gx_let e_y0_1 h
  refine lv_istore_n (lv' := [(0, .int y0_1)]) hx hb dJ6_numberOfTrailingZeros_0f7a4_7 rfl hl (by decide) rfl (fun ls hl => ?_)
  refine lv_iload_n hx hb dJ6_numberOfTrailingZeros_0f7a4_8 rfl (lv_at hl 0 rfl) ?_
  refine lv_if_gt (tgt := 17) hx hb dJ6_numberOfTrailingZeros_0f7a4_9 (by decide) (fun c_2 => ?_) (fun c_2 => ?_)
  · have h := gx_t c_2 h
    refine lv_iconst (v := 1) hx hb dJ6_numberOfTrailingZeros_0f7a4_17 (by decide) ?_
    refine lv_istore_n (lv' := [(1, .int 1), (0, .int y0_1)]) hx hb dJ6_numberOfTrailingZeros_0f7a4_18 rfl hl (by decide) rfl (fun ls hl => ?_)
    refine lv_iload_n hx hb dJ6_numberOfTrailingZeros_0f7a4_19 rfl (lv_at hl 1 rfl) ?_
    refine lv_ldcw hx hb hown k264 dJ6_numberOfTrailingZeros_0f7a4_20 ?_
    obtain ⟨⟨m1_3, m0_4⟩, hR_5, h⟩ := gx_b h
    refine gJoin (Pj := fun H locs ls => va_P D vwCl [] H ∧ va_D A [] ∧ va_S A s.heap H locs ∧ lv_has ls 2 [(1, .int m1_3), (0, .int m0_4)]) (pcM := 34) (st := []) ?_ (fun hJ34 => ?_)
    · intro H locs ls hp_
      obtain ⟨hP, hD, hS, hl⟩ := hp_
      clear hR_5
      refine lv_iload_n hx hb dJ6_numberOfTrailingZeros_0f7a4_34 rfl (lv_at hl 1 rfl) ?_
      refine lv_sipush (v := 256) hx hb dJ6_numberOfTrailingZeros_0f7a4_35 (by decide) ?_
      obtain ⟨⟨m1_6, m0_7⟩, hR_8, h⟩ := gx_b h
      refine gJoin (Pj := fun H locs ls => va_P D vwCl [] H ∧ va_D A [] ∧ va_S A s.heap H locs ∧ lv_has ls 2 [(1, .int m1_6), (0, .int m0_7)]) (pcM := 49) (st := []) ?_ (fun hJ49 => ?_)
      · intro H locs ls hp_
        obtain ⟨hP, hD, hS, hl⟩ := hp_
        clear hR_8
        refine lv_iload_n hx hb dJ6_numberOfTrailingZeros_0f7a4_49 rfl (lv_at hl 1 rfl) ?_
        refine lv_bipush (v := 16) hx hb dJ6_numberOfTrailingZeros_0f7a4_50 (by decide) ?_
        obtain ⟨⟨m1_9, m0_10⟩, hR_11, h⟩ := gx_b h
        refine gJoin (Pj := fun H locs ls => va_P D vwCl [] H ∧ va_D A [] ∧ va_S A s.heap H locs ∧ lv_has ls 2 [(1, .int m1_9), (0, .int m0_10)]) (pcM := 62) (st := []) ?_ (fun hJ62 => ?_)
        · intro H locs ls hp_
          obtain ⟨hP, hD, hS, hl⟩ := hp_
          clear hR_11
          refine lv_iload_n hx hb dJ6_numberOfTrailingZeros_0f7a4_62 rfl (lv_at hl 1 rfl) ?_
          refine lv_iconst (v := 4) hx hb dJ6_numberOfTrailingZeros_0f7a4_63 (by decide) ?_
          obtain ⟨⟨m1_12, m0_13⟩, hR_14, h⟩ := gx_b h
          refine gJoin (Pj := fun H locs ls => va_P D vwCl [] H ∧ va_D A [] ∧ va_S A s.heap H locs ∧ lv_has ls 2 [(1, .int m1_12), (0, .int m0_13)]) (pcM := 74) (st := []) ?_ (fun hJ74 => ?_)
          · intro H locs ls hp_
            obtain ⟨hP, hD, hS, hl⟩ := hp_
            clear hR_14
            refine lv_iload_n hx hb dJ6_numberOfTrailingZeros_0f7a4_74 rfl (lv_at hl 0 rfl) ?_
            refine lv_iload_n hx hb dJ6_numberOfTrailingZeros_0f7a4_75 rfl (lv_at hl 1 rfl) ?_
            refine lv_iconst (v := 1) hx hb dJ6_numberOfTrailingZeros_0f7a4_76 (by decide) ?_
            refine lv_iushr (v := (gIushr m0_13 1)) hx hb dJ6_numberOfTrailingZeros_0f7a4_77 rfl ?_
            refine lv_iadd hx hb dJ6_numberOfTrailingZeros_0f7a4_78 ?_
            cases h
            exact gRi hx hb hr hlocks hP hD hS dJ6_numberOfTrailingZeros_0f7a4_79
          · have h := hR_14
            refine lv_icmp_le (tgt := 74) hx hb dJ6_numberOfTrailingZeros_0f7a4_64 (by decide) (fun c_15 => ?_) (fun c_15 => ?_)
            · have h := gx_t c_15 h
              have hl := lv_sub (l' := [(1, .int m1_9), (0, .int m0_10)]) hl [0, 1] rfl
              cases h
              exact hJ74 _ _ _ ⟨hP, hD, hS, hl⟩
            · have h := gx_f c_15 h
              obtain ⟨y1_16, e_y1_16⟩ : ∃ y : Int32, y = (m1_9 + 2) := ⟨_, rfl⟩
              have h := gx_let e_y1_16 h
              refine lv_iinc (v := y1_16) (lv' := [(1, .int y1_16), (0, .int m0_10)]) hx hb dJ6_numberOfTrailingZeros_0f7a4_67 hl (k := 0) rfl (by rw [e_y1_16]; rfl) (by decide) rfl (fun ls hl => ?_)
              refine lv_iload_n hx hb dJ6_numberOfTrailingZeros_0f7a4_70 rfl (lv_at hl 1 rfl) ?_
              refine lv_iconst (v := 2) hx hb dJ6_numberOfTrailingZeros_0f7a4_71 (by decide) ?_
              refine lv_iushr (v := (gIushr m0_10 2)) hx hb dJ6_numberOfTrailingZeros_0f7a4_72 rfl ?_
              refine lv_topi (fun y0_17 e_y0_17 => ?_)
              have h := gx_let e_y0_17 h
              refine lv_istore_n (lv' := [(0, .int y0_17), (1, .int y1_16)]) hx hb dJ6_numberOfTrailingZeros_0f7a4_73 rfl hl (by decide) rfl (fun ls hl => ?_)
              have hl := lv_sub (l' := [(1, .int y1_16), (0, .int y0_17)]) hl [1, 0] rfl
              cases h
              exact hJ74 _ _ _ ⟨hP, hD, hS, hl⟩
        · have h := hR_11
          refine lv_icmp_le (tgt := 62) hx hb dJ6_numberOfTrailingZeros_0f7a4_52 (by decide) (fun c_18 => ?_) (fun c_18 => ?_)
          · have h := gx_t c_18 h
            have hl := lv_sub (l' := [(1, .int m1_6), (0, .int m0_7)]) hl [0, 1] rfl
            cases h
            exact hJ62 _ _ _ ⟨hP, hD, hS, hl⟩
          · have h := gx_f c_18 h
            obtain ⟨y1_19, e_y1_19⟩ : ∃ y : Int32, y = (m1_6 + 4) := ⟨_, rfl⟩
            have h := gx_let e_y1_19 h
            refine lv_iinc (v := y1_19) (lv' := [(1, .int y1_19), (0, .int m0_7)]) hx hb dJ6_numberOfTrailingZeros_0f7a4_55 hl (k := 0) rfl (by rw [e_y1_19]; rfl) (by decide) rfl (fun ls hl => ?_)
            refine lv_iload_n hx hb dJ6_numberOfTrailingZeros_0f7a4_58 rfl (lv_at hl 1 rfl) ?_
            refine lv_iconst (v := 4) hx hb dJ6_numberOfTrailingZeros_0f7a4_59 (by decide) ?_
            refine lv_iushr (v := (gIushr m0_7 4)) hx hb dJ6_numberOfTrailingZeros_0f7a4_60 rfl ?_
            refine lv_topi (fun y0_20 e_y0_20 => ?_)
            have h := gx_let e_y0_20 h
            refine lv_istore_n (lv' := [(0, .int y0_20), (1, .int y1_19)]) hx hb dJ6_numberOfTrailingZeros_0f7a4_61 rfl hl (by decide) rfl (fun ls hl => ?_)
            have hl := lv_sub (l' := [(1, .int y1_19), (0, .int y0_20)]) hl [1, 0] rfl
            cases h
            exact hJ62 _ _ _ ⟨hP, hD, hS, hl⟩
      · have h := hR_8
        refine lv_icmp_le (tgt := 49) hx hb dJ6_numberOfTrailingZeros_0f7a4_38 (by decide) (fun c_21 => ?_) (fun c_21 => ?_)
        · have h := gx_t c_21 h
          have hl := lv_sub (l' := [(1, .int m1_3), (0, .int m0_4)]) hl [0, 1] rfl
          cases h
          exact hJ49 _ _ _ ⟨hP, hD, hS, hl⟩
        · have h := gx_f c_21 h
          obtain ⟨y1_22, e_y1_22⟩ : ∃ y : Int32, y = (m1_3 + 8) := ⟨_, rfl⟩
          have h := gx_let e_y1_22 h
          refine lv_iinc (v := y1_22) (lv' := [(1, .int y1_22), (0, .int m0_4)]) hx hb dJ6_numberOfTrailingZeros_0f7a4_41 hl (k := 0) rfl (by rw [e_y1_22]; rfl) (by decide) rfl (fun ls hl => ?_)
          refine lv_iload_n hx hb dJ6_numberOfTrailingZeros_0f7a4_44 rfl (lv_at hl 1 rfl) ?_
          refine lv_bipush (v := 8) hx hb dJ6_numberOfTrailingZeros_0f7a4_45 (by decide) ?_
          refine lv_iushr (v := (gIushr m0_4 8)) hx hb dJ6_numberOfTrailingZeros_0f7a4_47 rfl ?_
          refine lv_topi (fun y0_23 e_y0_23 => ?_)
          have h := gx_let e_y0_23 h
          refine lv_istore_n (lv' := [(0, .int y0_23), (1, .int y1_22)]) hx hb dJ6_numberOfTrailingZeros_0f7a4_48 rfl hl (by decide) rfl (fun ls hl => ?_)
          have hl := lv_sub (l' := [(1, .int y1_22), (0, .int y0_23)]) hl [1, 0] rfl
          cases h
          exact hJ49 _ _ _ ⟨hP, hD, hS, hl⟩
    · have h := hR_5
      refine lv_icmp_le (tgt := 34) hx hb dJ6_numberOfTrailingZeros_0f7a4_23 (by decide) (fun c_24 => ?_) (fun c_24 => ?_)
      · have h := gx_t c_24 h
        have hl := lv_sub (l' := [(1, .int 1), (0, .int y0_1)]) hl [0, 1] rfl
        cases h
        exact hJ34 _ _ _ ⟨hP, hD, hS, hl⟩
      · have h := gx_f c_24 h
        obtain ⟨y1_25, e_y1_25⟩ : ∃ y : Int32, y = (1 + 16) := ⟨_, rfl⟩
        have h := gx_let e_y1_25 h
        refine lv_iinc (v := y1_25) (lv' := [(1, .int y1_25), (0, .int y0_1)]) hx hb dJ6_numberOfTrailingZeros_0f7a4_26 hl (k := 0) rfl (by rw [e_y1_25]; rfl) (by decide) rfl (fun ls hl => ?_)
        refine lv_iload_n hx hb dJ6_numberOfTrailingZeros_0f7a4_29 rfl (lv_at hl 1 rfl) ?_
        refine lv_bipush (v := 16) hx hb dJ6_numberOfTrailingZeros_0f7a4_30 (by decide) ?_
        refine lv_iushr (v := (gIushr y0_1 16)) hx hb dJ6_numberOfTrailingZeros_0f7a4_32 rfl ?_
        refine lv_topi (fun y0_26 e_y0_26 => ?_)
        have h := gx_let e_y0_26 h
        refine lv_istore_n (lv' := [(0, .int y0_26), (1, .int y1_25)]) hx hb dJ6_numberOfTrailingZeros_0f7a4_33 rfl hl (by decide) rfl (fun ls hl => ?_)
        have hl := lv_sub (l' := [(1, .int y1_25), (0, .int y0_26)]) hl [1, 0] rfl
        cases h
        exact hJ34 _ _ _ ⟨hP, hD, hS, hl⟩
  · have h := gx_f c_2 h
    refine lv_iload_n hx hb dJ6_numberOfTrailingZeros_0f7a4_12 rfl (lv_at hl 0 rfl) ?_
    refine lv_bipush (v := 32) hx hb dJ6_numberOfTrailingZeros_0f7a4_13 (by decide) ?_
    refine lv_iand hx hb dJ6_numberOfTrailingZeros_0f7a4_15 ?_
    cases h
    exact gRi hx hb hr hlocks hP hD hS dJ6_numberOfTrailingZeros_0f7a4_16

def f_J13_reverseBytes_067f4 (K : Nat) (x1 : Int64) : Option (Int64) :=
  gLet ((gLshl (x1 &&& 71777214294589695) 8) ||| ((gLushr x1 8) &&& 71777214294589695)) fun y0_1 =>
  some ((((gLshl y0_1 48) ||| (gLshl (y0_1 &&& 4294901760) 16)) ||| ((gLushr y0_1 16) &&& 4294901760)) ||| (gLushr y0_1 48))
set_option maxHeartbeats 4000000 in
set_option maxRecDepth 100000 in
theorem c_J13_reverseBytes_067f4 (l : Launch) (D : va_G) (cy : Nat → ClassId) (t sz K : Nat) (x1 : Int64) (r_ : Int64) (h : f_J13_reverseBytes_067f4 K x1 = some r_) : gMl l D cy t sz yJ13_reverseBytes_067f4 wsJ13_reverseBytes_067f4 0 0 [.long x1] [] r_ [] := by
  refine gBl (cc := cJ13_reverseBytes_067f4) (maxL := 2) (ret := (some .long)) (by decide) rfl (Nat.le_of_ble_eq_true rfl) ?_
  intro p e s m below meth c A ls hAt hl
  obtain ⟨hx, hb, hml, hr, hts, hown, hlocks, hin, hK, hG, hA, hP, hD⟩ := hAt
  have hS : va_S A s.heap s.heap [] := va_S.rf
  have hl : lv_has ls 2 [(0, .long x1)] := hl
  have k327 := hts (.constantLong RJ13 327 (71777214294589695)) (by decide +kernel)
  have k329 := hts (.constantLong RJ13 329 (4294901760)) (by decide +kernel)
  rw [f_J13_reverseBytes_067f4] at h
  refine lv_lload_n hx hb dJ13_reverseBytes_067f4_0 rfl (lv_at hl 0 rfl) ?_
  refine lv_ldc2 hx hb hown k327 dJ13_reverseBytes_067f4_1 ?_
  refine lv_land hx hb dJ13_reverseBytes_067f4_4 ?_
  refine lv_bipush (v := 8) hx hb dJ13_reverseBytes_067f4_5 (by decide) ?_
  refine lv_lshl (v := (gLshl (x1 &&& 71777214294589695) 8)) hx hb dJ13_reverseBytes_067f4_7 rfl ?_
  refine lv_lload_n hx hb dJ13_reverseBytes_067f4_8 rfl (lv_at hl 0 rfl) ?_
  refine lv_bipush (v := 8) hx hb dJ13_reverseBytes_067f4_9 (by decide) ?_
  refine lv_lushr (v := (gLushr x1 8)) hx hb dJ13_reverseBytes_067f4_11 rfl ?_
  refine lv_ldc2 hx hb hown k327 dJ13_reverseBytes_067f4_12 ?_
  refine lv_land hx hb dJ13_reverseBytes_067f4_15 ?_
  refine lv_lor hx hb dJ13_reverseBytes_067f4_16 ?_
  refine lv_topl (fun y0_1 e_y0_1 => ?_)
  have h := gx_let e_y0_1 h
  refine lv_lstore_n (lv' := [(0, .long y0_1)]) hx hb dJ13_reverseBytes_067f4_17 rfl hl (by decide) rfl (fun ls hl => ?_)
  refine lv_lload_n hx hb dJ13_reverseBytes_067f4_18 rfl (lv_at hl 0 rfl) ?_
  refine lv_bipush (v := 48) hx hb dJ13_reverseBytes_067f4_19 (by decide) ?_
  refine lv_lshl (v := (gLshl y0_1 48)) hx hb dJ13_reverseBytes_067f4_21 rfl ?_
  refine lv_lload_n hx hb dJ13_reverseBytes_067f4_22 rfl (lv_at hl 0 rfl) ?_
  refine lv_ldc2 hx hb hown k329 dJ13_reverseBytes_067f4_23 ?_
  refine lv_land hx hb dJ13_reverseBytes_067f4_26 ?_
  refine lv_bipush (v := 16) hx hb dJ13_reverseBytes_067f4_27 (by decide) ?_
  refine lv_lshl (v := (gLshl (y0_1 &&& 4294901760) 16)) hx hb dJ13_reverseBytes_067f4_29 rfl ?_
  refine lv_lor hx hb dJ13_reverseBytes_067f4_30 ?_
  refine lv_lload_n hx hb dJ13_reverseBytes_067f4_31 rfl (lv_at hl 0 rfl) ?_
  refine lv_bipush (v := 16) hx hb dJ13_reverseBytes_067f4_32 (by decide) ?_
  refine lv_lushr (v := (gLushr y0_1 16)) hx hb dJ13_reverseBytes_067f4_34 rfl ?_
  refine lv_ldc2 hx hb hown k329 dJ13_reverseBytes_067f4_35 ?_
  refine lv_land hx hb dJ13_reverseBytes_067f4_38 ?_
  refine lv_lor hx hb dJ13_reverseBytes_067f4_39 ?_
  refine lv_lload_n hx hb dJ13_reverseBytes_067f4_40 rfl (lv_at hl 0 rfl) ?_
  refine lv_bipush (v := 48) hx hb dJ13_reverseBytes_067f4_41 (by decide) ?_
  refine lv_lushr (v := (gLushr y0_1 48)) hx hb dJ13_reverseBytes_067f4_43 rfl ?_
  refine lv_lor hx hb dJ13_reverseBytes_067f4_44 ?_
  cases h
  exact gRl hx hb hr hlocks hP hD hS dJ13_reverseBytes_067f4_45

def f_J13_reverse_067f4 (K : Nat) (x1 : Int64) : Option (Int64) :=
  gLet ((gLshl (x1 &&& 6148914691236517205) 1) ||| ((gLushr x1 1) &&& 6148914691236517205)) fun y0_1 =>
  gLet ((gLshl (y0_1 &&& 3689348814741910323) 2) ||| ((gLushr y0_1 2) &&& 3689348814741910323)) fun y0_2 =>
  gLet ((gLshl (y0_2 &&& 1085102592571150095) 4) ||| ((gLushr y0_2 4) &&& 1085102592571150095)) fun y0_3 =>
  Option.bind (f_J13_reverseBytes_067f4 K y0_3) fun r_4 =>
  some r_4
set_option maxHeartbeats 4000000 in
set_option maxRecDepth 100000 in
theorem c_J13_reverse_067f4 (l : Launch) (D : va_G) (cy : Nat → ClassId) (t sz K : Nat) (x1 : Int64) (r_ : Int64) (h : f_J13_reverse_067f4 K x1 = some r_) : gMl l D cy t sz yJ13_reverse_067f4 wsJ13_reverse_067f4 1 21 [.long x1] [] r_ [] := by
  refine gBl (cc := cJ13_reverse_067f4) (maxL := 2) (ret := (some .long)) (by decide) rfl (Nat.le_of_ble_eq_true rfl) ?_
  intro p e s m below meth c A ls hAt hl
  obtain ⟨hx, hb, hml, hr, hts, hown, hlocks, hin, hK, hG, hA, hP, hD⟩ := hAt
  have hS : va_S A s.heap s.heap [] := va_S.rf
  have hl : lv_has ls 2 [(0, .long x1)] := hl
  have k314 := hts (.constantLong RJ13 314 (6148914691236517205)) (by decide +kernel)
  have k316 := hts (.constantLong RJ13 316 (3689348814741910323)) (by decide +kernel)
  have k318 := hts (.constantLong RJ13 318 (1085102592571150095)) (by decide +kernel)
  rw [f_J13_reverse_067f4] at h
  refine lv_lload_n hx hb dJ13_reverse_067f4_0 rfl (lv_at hl 0 rfl) ?_
  refine lv_ldc2 hx hb hown k314 dJ13_reverse_067f4_1 ?_
  refine lv_land hx hb dJ13_reverse_067f4_4 ?_
  refine lv_iconst (v := 1) hx hb dJ13_reverse_067f4_5 (by decide) ?_
  refine lv_lshl (v := (gLshl (x1 &&& 6148914691236517205) 1)) hx hb dJ13_reverse_067f4_6 rfl ?_
  refine lv_lload_n hx hb dJ13_reverse_067f4_7 rfl (lv_at hl 0 rfl) ?_
  refine lv_iconst (v := 1) hx hb dJ13_reverse_067f4_8 (by decide) ?_
  refine lv_lushr (v := (gLushr x1 1)) hx hb dJ13_reverse_067f4_9 rfl ?_
  refine lv_ldc2 hx hb hown k314 dJ13_reverse_067f4_10 ?_
  refine lv_land hx hb dJ13_reverse_067f4_13 ?_
  refine lv_lor hx hb dJ13_reverse_067f4_14 ?_
  refine lv_topl (fun y0_1 e_y0_1 => ?_)
  have h := gx_let e_y0_1 h
  refine lv_lstore_n (lv' := [(0, .long y0_1)]) hx hb dJ13_reverse_067f4_15 rfl hl (by decide) rfl (fun ls hl => ?_)
  refine lv_lload_n hx hb dJ13_reverse_067f4_16 rfl (lv_at hl 0 rfl) ?_
  refine lv_ldc2 hx hb hown k316 dJ13_reverse_067f4_17 ?_
  refine lv_land hx hb dJ13_reverse_067f4_20 ?_
  refine lv_iconst (v := 2) hx hb dJ13_reverse_067f4_21 (by decide) ?_
  refine lv_lshl (v := (gLshl (y0_1 &&& 3689348814741910323) 2)) hx hb dJ13_reverse_067f4_22 rfl ?_
  refine lv_lload_n hx hb dJ13_reverse_067f4_23 rfl (lv_at hl 0 rfl) ?_
  refine lv_iconst (v := 2) hx hb dJ13_reverse_067f4_24 (by decide) ?_
  refine lv_lushr (v := (gLushr y0_1 2)) hx hb dJ13_reverse_067f4_25 rfl ?_
  refine lv_ldc2 hx hb hown k316 dJ13_reverse_067f4_26 ?_
  refine lv_land hx hb dJ13_reverse_067f4_29 ?_
  refine lv_lor hx hb dJ13_reverse_067f4_30 ?_
  refine lv_topl (fun y0_2 e_y0_2 => ?_)
  have h := gx_let e_y0_2 h
  refine lv_lstore_n (lv' := [(0, .long y0_2)]) hx hb dJ13_reverse_067f4_31 rfl hl (by decide) rfl (fun ls hl => ?_)
  refine lv_lload_n hx hb dJ13_reverse_067f4_32 rfl (lv_at hl 0 rfl) ?_
  refine lv_ldc2 hx hb hown k318 dJ13_reverse_067f4_33 ?_
  refine lv_land hx hb dJ13_reverse_067f4_36 ?_
  refine lv_iconst (v := 4) hx hb dJ13_reverse_067f4_37 (by decide) ?_
  refine lv_lshl (v := (gLshl (y0_2 &&& 1085102592571150095) 4)) hx hb dJ13_reverse_067f4_38 rfl ?_
  refine lv_lload_n hx hb dJ13_reverse_067f4_39 rfl (lv_at hl 0 rfl) ?_
  refine lv_iconst (v := 4) hx hb dJ13_reverse_067f4_40 (by decide) ?_
  refine lv_lushr (v := (gLushr y0_2 4)) hx hb dJ13_reverse_067f4_41 rfl ?_
  refine lv_ldc2 hx hb hown k318 dJ13_reverse_067f4_42 ?_
  refine lv_land hx hb dJ13_reverse_067f4_45 ?_
  refine lv_lor hx hb dJ13_reverse_067f4_46 ?_
  refine lv_topl (fun y0_3 e_y0_3 => ?_)
  have h := gx_let e_y0_3 h
  refine lv_lstore_n (lv' := [(0, .long y0_3)]) hx hb dJ13_reverse_067f4_47 rfl hl (by decide) rfl (fun ls hl => ?_)
  refine lv_lload_n hx hb dJ13_reverse_067f4_48 rfl (lv_at hl 0 rfl) ?_
  obtain ⟨r_4, hc_5, h⟩ := gx_b h
  refine gCalll (wr := []) (va_runS (As := [.long y0_3]) (rest := []) ⟨hx, hb, hml, hown, hts⟩ (c_J13_reverseBytes_067f4 l D cy t s.heap.size K y0_3 r_4 hc_5) (va_cwS 1 hts gJ13_reverse_067f4_J13_reverseBytes_067f4 rfl rfl rfl (by decide +kernel) ⟨Nat.le_of_ble_eq_true rfl, Nat.le_of_ble_eq_true rfl⟩) ⟨gBlind, fun U hU hW => ⟨rfl, gPre.call hK hG hA hP hD hS [] (by decide) rfl U hU hW⟩⟩ rfl rfl hl.1 rfl (lv_room (Nat.le_of_ble_eq_true rfl)) dJ13_reverse_067f4_49 ⟨Nat.le_of_ble_eq_true rfl, Nat.le_of_ble_eq_true rfl⟩) hA hP hD hS [] [] rfl rfl (by decide) (by decide) (fun H locs hP hD hS => ?_)
  have hP : va_P D vwCl [] H := hP
  have hD : va_D A [] := hD
  cases h
  exact gRl hx hb hr hlocks hP hD hS dJ13_reverse_067f4_52

def f_J6_bitCount_0f7a4 (K : Nat) (x1 : Int32) : Option (Int32) :=
  gLet (x1 - ((gIushr x1 1) &&& 1431655765)) fun y0_1 =>
  gLet ((y0_1 &&& 858993459) + ((gIushr y0_1 2) &&& 858993459)) fun y0_2 =>
  gLet ((y0_2 + (gIushr y0_2 4)) &&& 252645135) fun y0_3 =>
  gLet (y0_3 + (gIushr y0_3 8)) fun y0_4 =>
  gLet (y0_4 + (gIushr y0_4 16)) fun y0_5 =>
  some (y0_5 &&& 63)
set_option maxHeartbeats 4000000 in
set_option maxRecDepth 100000 in
theorem c_J6_bitCount_0f7a4 (l : Launch) (D : va_G) (cy : Nat → ClassId) (t sz K : Nat) (x1 : Int32) (r_ : Int32) (h : f_J6_bitCount_0f7a4 K x1 = some r_) : gMi l D cy t sz yJ6_bitCount_0f7a4 wsJ6_bitCount_0f7a4 0 0 [.int x1] [] r_ [] := by
  refine gBi (cc := cJ6_bitCount_0f7a4) (maxL := 1) (ret := (some .int)) (by decide) rfl (Nat.le_of_ble_eq_true rfl) ?_
  intro p e s m below meth c A ls hAt hl
  obtain ⟨hx, hb, hml, hr, hts, hown, hlocks, hin, hK, hG, hA, hP, hD⟩ := hAt
  have hS : va_S A s.heap s.heap [] := va_S.rf
  have hl : lv_has ls 1 [(0, .int x1)] := hl
  have k265 := hts (.constant RJ6 265 (1431655765)) (by decide +kernel)
  have k266 := hts (.constant RJ6 266 (858993459)) (by decide +kernel)
  have k267 := hts (.constant RJ6 267 (252645135)) (by decide +kernel)
  rw [f_J6_bitCount_0f7a4] at h
  refine lv_iload_n hx hb dJ6_bitCount_0f7a4_0 rfl (lv_at hl 0 rfl) ?_
  refine lv_iload_n hx hb dJ6_bitCount_0f7a4_1 rfl (lv_at hl 0 rfl) ?_
  refine lv_iconst (v := 1) hx hb dJ6_bitCount_0f7a4_2 (by decide) ?_
  refine lv_iushr (v := (gIushr x1 1)) hx hb dJ6_bitCount_0f7a4_3 rfl ?_
  refine lv_ldcw hx hb hown k265 dJ6_bitCount_0f7a4_4 ?_
  refine lv_iand hx hb dJ6_bitCount_0f7a4_7 ?_
  refine lv_isub hx hb dJ6_bitCount_0f7a4_8 ?_
  refine lv_topi (fun y0_1 e_y0_1 => ?_)
  have h := gx_let e_y0_1 h
  refine lv_istore_n (lv' := [(0, .int y0_1)]) hx hb dJ6_bitCount_0f7a4_9 rfl hl (by decide) rfl (fun ls hl => ?_)
  refine lv_iload_n hx hb dJ6_bitCount_0f7a4_10 rfl (lv_at hl 0 rfl) ?_
  refine lv_ldcw hx hb hown k266 dJ6_bitCount_0f7a4_11 ?_
  refine lv_iand hx hb dJ6_bitCount_0f7a4_14 ?_
  refine lv_iload_n hx hb dJ6_bitCount_0f7a4_15 rfl (lv_at hl 0 rfl) ?_
  refine lv_iconst (v := 2) hx hb dJ6_bitCount_0f7a4_16 (by decide) ?_
  refine lv_iushr (v := (gIushr y0_1 2)) hx hb dJ6_bitCount_0f7a4_17 rfl ?_
  refine lv_ldcw hx hb hown k266 dJ6_bitCount_0f7a4_18 ?_
  refine lv_iand hx hb dJ6_bitCount_0f7a4_21 ?_
  refine lv_iadd hx hb dJ6_bitCount_0f7a4_22 ?_
  refine lv_topi (fun y0_2 e_y0_2 => ?_)
  have h := gx_let e_y0_2 h
  refine lv_istore_n (lv' := [(0, .int y0_2)]) hx hb dJ6_bitCount_0f7a4_23 rfl hl (by decide) rfl (fun ls hl => ?_)
  refine lv_iload_n hx hb dJ6_bitCount_0f7a4_24 rfl (lv_at hl 0 rfl) ?_
  refine lv_iload_n hx hb dJ6_bitCount_0f7a4_25 rfl (lv_at hl 0 rfl) ?_
  refine lv_iconst (v := 4) hx hb dJ6_bitCount_0f7a4_26 (by decide) ?_
  refine lv_iushr (v := (gIushr y0_2 4)) hx hb dJ6_bitCount_0f7a4_27 rfl ?_
  refine lv_iadd hx hb dJ6_bitCount_0f7a4_28 ?_
  refine lv_ldcw hx hb hown k267 dJ6_bitCount_0f7a4_29 ?_
  refine lv_iand hx hb dJ6_bitCount_0f7a4_32 ?_
  refine lv_topi (fun y0_3 e_y0_3 => ?_)
  have h := gx_let e_y0_3 h
  refine lv_istore_n (lv' := [(0, .int y0_3)]) hx hb dJ6_bitCount_0f7a4_33 rfl hl (by decide) rfl (fun ls hl => ?_)
  refine lv_iload_n hx hb dJ6_bitCount_0f7a4_34 rfl (lv_at hl 0 rfl) ?_
  refine lv_iload_n hx hb dJ6_bitCount_0f7a4_35 rfl (lv_at hl 0 rfl) ?_
  refine lv_bipush (v := 8) hx hb dJ6_bitCount_0f7a4_36 (by decide) ?_
  refine lv_iushr (v := (gIushr y0_3 8)) hx hb dJ6_bitCount_0f7a4_38 rfl ?_
  refine lv_iadd hx hb dJ6_bitCount_0f7a4_39 ?_
  refine lv_topi (fun y0_4 e_y0_4 => ?_)
  have h := gx_let e_y0_4 h
  refine lv_istore_n (lv' := [(0, .int y0_4)]) hx hb dJ6_bitCount_0f7a4_40 rfl hl (by decide) rfl (fun ls hl => ?_)
  refine lv_iload_n hx hb dJ6_bitCount_0f7a4_41 rfl (lv_at hl 0 rfl) ?_
  refine lv_iload_n hx hb dJ6_bitCount_0f7a4_42 rfl (lv_at hl 0 rfl) ?_
  refine lv_bipush (v := 16) hx hb dJ6_bitCount_0f7a4_43 (by decide) ?_
  refine lv_iushr (v := (gIushr y0_4 16)) hx hb dJ6_bitCount_0f7a4_45 rfl ?_
  refine lv_iadd hx hb dJ6_bitCount_0f7a4_46 ?_
  refine lv_topi (fun y0_5 e_y0_5 => ?_)
  have h := gx_let e_y0_5 h
  refine lv_istore_n (lv' := [(0, .int y0_5)]) hx hb dJ6_bitCount_0f7a4_47 rfl hl (by decide) rfl (fun ls hl => ?_)
  refine lv_iload_n hx hb dJ6_bitCount_0f7a4_48 rfl (lv_at hl 0 rfl) ?_
  refine lv_bipush (v := 63) hx hb dJ6_bitCount_0f7a4_49 (by decide) ?_
  refine lv_iand hx hb dJ6_bitCount_0f7a4_51 ?_
  cases h
  exact gRi hx hb hr hlocks hP hD hS dJ6_bitCount_0f7a4_52
