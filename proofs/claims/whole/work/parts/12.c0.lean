def f_X7_forgetAll (K : Nat) : Option (Int32 × Int32 × Int32) :=
  some (0, 0, 0)
set_option maxHeartbeats 4000000 in
set_option maxRecDepth 100000 in
theorem c_X7_forgetAll (l : Launch) (D : va_G) (cy : Nat → ClassId) (t sz K : Nat) (z : Nat) (z_words : Nat) (z_rows : Nat) (z_failures : Nat) (z_stepWords : Nat) (z_plain : Nat) (z_factors : Nat) (z_lostByLost : Nat) (v_hasWords : Int32) (v_hasRows : Int32) (v_hasFailures : Int32) (o_v_hasWords : Int32) (o_v_hasRows : Int32) (o_v_hasFailures : Int32) (h : f_X7_forgetAll K = some (o_v_hasWords, o_v_hasRows, o_v_hasFailures)) : gMv l D cy t sz yX7_forgetAll wsX7_forgetAll 0 0 [.ref z] [(z, .inr (6, [.ref z_words, .ref z_rows, .ref z_failures, .int v_hasWords, .int v_hasRows, .int v_hasFailures, .ref z_stepWords, .ref z_plain, .ref z_factors, .ref z_lostByLost]))] [(z, .inr (6, [.ref z_words, .ref z_rows, .ref z_failures, .int o_v_hasWords, .int o_v_hasRows, .int o_v_hasFailures, .ref z_stepWords, .ref z_plain, .ref z_factors, .ref z_lostByLost]))] := by
  refine gBv (cc := cX7_forgetAll) (maxL := 1) (ret := none) (by decide) rfl (Nat.le_of_ble_eq_true rfl) ?_
  intro p e s m below meth c A ls hAt hl
  obtain ⟨hx, hb, hml, hr, hts, hown, hlocks, hin, hK, hG, hA, hP, hD⟩ := hAt
  have hS : va_S A s.heap s.heap [] := va_S.rf
  have hl : lv_has ls 1 [(0, .ref z)] := hl
  have f34 := hts (.fieldLink RX7 34 "PlainLines$Tally" "hasWords" "Z") (by decide +kernel)
  have iX7 := (by decide +kernel : ∀ w ∈ u_ws RX7 TX7 10, w ∈ wsX7_forgetAll)
  have f38 := hts (.fieldLink RX7 38 "PlainLines$Tally" "hasRows" "Z") (by decide +kernel)
  have f41 := hts (.fieldLink RX7 41 "PlainLines$Tally" "hasFailures" "Z") (by decide +kernel)
  rw [f_X7_forgetAll] at h
  refine lv_aload_n hx hb dX7_forgetAll_0 rfl (lv_at hl 0 rfl) ?_
  refine lv_iconst (v := 0) hx hb dX7_forgetAll_1 (by decide) ?_
  refine va_put (D := D) (ci := 6) (v := .int 0) (ty := .boolean) (C := RX7) (T := TX7) (N := 10) hx hb hts iX7 tyX7 tyX7_ok nmX7 hown hK hP hD hS 0 rfl rfl 3 (by decide) f34 (fun _ h9 => h9) rfl (by decide +kernel) rfl rfl (Nat.le_of_ble_eq_true rfl) dX7_forgetAll_2 (fun H locs hP hD hS => ?_)
  have hP : va_P D vwCl [(z, .inr (6, [.ref z_words, .ref z_rows, .ref z_failures, .int 0, .int v_hasRows, .int v_hasFailures, .ref z_stepWords, .ref z_plain, .ref z_factors, .ref z_lostByLost]))] H := hP
  have hD : va_D A [(z, .inr (6, [.ref z_words, .ref z_rows, .ref z_failures, .int 0, .int v_hasRows, .int v_hasFailures, .ref z_stepWords, .ref z_plain, .ref z_factors, .ref z_lostByLost]))] := hD
  refine lv_aload_n hx hb dX7_forgetAll_5 rfl (lv_at hl 0 rfl) ?_
  refine lv_iconst (v := 0) hx hb dX7_forgetAll_6 (by decide) ?_
  refine va_put (D := D) (ci := 6) (v := .int 0) (ty := .boolean) (C := RX7) (T := TX7) (N := 10) hx hb hts iX7 tyX7 tyX7_ok nmX7 hown hK hP hD hS 0 rfl rfl 4 (by decide) f38 (fun _ h9 => h9) rfl (by decide +kernel) rfl rfl (Nat.le_of_ble_eq_true rfl) dX7_forgetAll_7 (fun H locs hP hD hS => ?_)
  have hP : va_P D vwCl [(z, .inr (6, [.ref z_words, .ref z_rows, .ref z_failures, .int 0, .int 0, .int v_hasFailures, .ref z_stepWords, .ref z_plain, .ref z_factors, .ref z_lostByLost]))] H := hP
  have hD : va_D A [(z, .inr (6, [.ref z_words, .ref z_rows, .ref z_failures, .int 0, .int 0, .int v_hasFailures, .ref z_stepWords, .ref z_plain, .ref z_factors, .ref z_lostByLost]))] := hD
  refine lv_aload_n hx hb dX7_forgetAll_10 rfl (lv_at hl 0 rfl) ?_
  refine lv_iconst (v := 0) hx hb dX7_forgetAll_11 (by decide) ?_
  refine va_put (D := D) (ci := 6) (v := .int 0) (ty := .boolean) (C := RX7) (T := TX7) (N := 10) hx hb hts iX7 tyX7 tyX7_ok nmX7 hown hK hP hD hS 0 rfl rfl 5 (by decide) f41 (fun _ h9 => h9) rfl (by decide +kernel) rfl rfl (Nat.le_of_ble_eq_true rfl) dX7_forgetAll_12 (fun H locs hP hD hS => ?_)
  have hP : va_P D vwCl [(z, .inr (6, [.ref z_words, .ref z_rows, .ref z_failures, .int 0, .int 0, .int 0, .ref z_stepWords, .ref z_plain, .ref z_factors, .ref z_lostByLost]))] H := hP
  have hD : va_D A [(z, .inr (6, [.ref z_words, .ref z_rows, .ref z_failures, .int 0, .int 0, .int 0, .ref z_stepWords, .ref z_plain, .ref z_factors, .ref z_lostByLost]))] := hD
  cases h
  exact gRv hx hb hr hlocks hP hD hS dX7_forgetAll_15

def fL_X7_prepareSteps_9 (K : Nat) (l1 : Int64) (l3 : Int32) : Nat → Int32 × Int32 × Int64 × (Nat → Int64) → Option (Int32 × Int32 × Int64 × (Nat → Int64))
  | 0, _ => none
  | k + 1, (l7, l6, l4, u1) =>
    if l3 ≤ l7 then
      some (l7, l6, l4, u1)
    else
      if (lg_cmp ((gLushr l1 l7) &&& 1) 0) = 0 then
        gLet (l7 + 1) fun y7_11 =>
        fL_X7_prepareSteps_9 K l1 l3 k (y7_11, l6, l4, u1)
      else
        gLet (l4 ||| (gLshl 1 l7)) fun y4_12 =>
        Option.bind (f_X9_folded K y4_12 l3) fun r_13 =>
        gIx l6 32 <|
        gLet (vp_updL u1 (Int32.toNatClampNeg l6) r_13) fun w_14 =>
        gLet (l6 + 1) fun y6_15 =>
        gLet (l7 + 1) fun y7_16 =>
        fL_X7_prepareSteps_9 K l1 l3 k (y7_16, y6_15, y4_12, w_14)
def f_X7_prepareSteps (K : Nat) (x1 : Int64) (x2 : Int32) (v_stepWordsc : Nat → Int64) : Option ((Nat → Int64)) :=
  Option.bind (fL_X7_prepareSteps_9 K x1 x2 K (0, 0, 0, v_stepWordsc)) fun (o_17, o_18, o_19, o_20) =>
  some o_20
set_option maxHeartbeats 4000000 in
set_option maxRecDepth 100000 in
theorem c_X7_prepareSteps (l : Launch) (D : va_G) (cy : Nat → ClassId) (t sz K : Nat) (z : Nat) (z_stepWords : Nat) (z_words : Nat) (z_rows : Nat) (z_failures : Nat) (z_plain : Nat) (z_factors : Nat) (z_lostByLost : Nat) (v_hasWords : Int32) (v_hasRows : Int32) (v_hasFailures : Int32) (v_stepWordsc : Nat → Int64) (x1 : Int64) (x2 : Int32) (o_v_stepWordsc : Nat → Int64) (h : f_X7_prepareSteps K x1 x2 v_stepWordsc = some o_v_stepWordsc) : gMv l D cy t sz yX7_prepareSteps wsX7_prepareSteps 1 25 [.ref z, .long x1, .int x2] [(z, .inr (6, [.ref z_words, .ref z_rows, .ref z_failures, .int v_hasWords, .int v_hasRows, .int v_hasFailures, .ref z_stepWords, .ref z_plain, .ref z_factors, .ref z_lostByLost])), (z_stepWords, .inl (cy 1, 32, .inr (.inl v_stepWordsc)))] [(z, .inr (6, [.ref z_words, .ref z_rows, .ref z_failures, .int v_hasWords, .int v_hasRows, .int v_hasFailures, .ref z_stepWords, .ref z_plain, .ref z_factors, .ref z_lostByLost])), (z_stepWords, .inl (cy 1, 32, .inr (.inl o_v_stepWordsc)))] := by
  refine gBv (cc := cX7_prepareSteps) (maxL := 8) (ret := none) (by decide) rfl (Nat.le_of_ble_eq_true rfl) ?_
  intro p e s m below meth c A ls hAt hl
  obtain ⟨hx, hb, hml, hr, hts, hown, hlocks, hin, hK, hG, hA, hP, hD⟩ := hAt
  have hS : va_S A s.heap s.heap [] := va_S.rf
  have hl : lv_has ls 8 [(0, .ref z), (1, .long x1), (3, .int x2)] := hl
  have f21 := hts (.fieldLink RX7 21 "PlainLines$Tally" "stepWords" "[J") (by decide +kernel)
  have iX7 := (by decide +kernel : ∀ w ∈ u_ws RX7 TX7 10, w ∈ wsX7_prepareSteps)
  rw [f_X7_prepareSteps] at h
  refine lv_lconst (v := 0) hx hb dX7_prepareSteps_0 (by decide) ?_
  refine lv_lstore (lv' := [(4, .long 0), (0, .ref z), (1, .long x1), (3, .int x2)]) hx hb dX7_prepareSteps_1 hl (by decide) rfl (fun ls hl => ?_)
  refine lv_iconst (v := 0) hx hb dX7_prepareSteps_3 (by decide) ?_
  refine lv_istore (lv' := [(6, .int 0), (4, .long 0), (0, .ref z), (1, .long x1), (3, .int x2)]) hx hb dX7_prepareSteps_4 hl (by decide) rfl (fun ls hl => ?_)
  refine lv_iconst (v := 0) hx hb dX7_prepareSteps_6 (by decide) ?_
  refine lv_istore (lv' := [(7, .int 0), (6, .int 0), (4, .long 0), (0, .ref z), (1, .long x1), (3, .int x2)]) hx hb dX7_prepareSteps_7 hl (by decide) rfl (fun ls hl => ?_)
  obtain ⟨⟨o_1, o_2, o_3, o_4⟩, hL_5, h⟩ := gx_b h
  refine gJoin (Pj := fun H locs ls => va_P D vwCl [(z, .inr (6, [.ref z_words, .ref z_rows, .ref z_failures, .int v_hasWords, .int v_hasRows, .int v_hasFailures, .ref z_stepWords, .ref z_plain, .ref z_factors, .ref z_lostByLost])), (z_stepWords, .inl (cy 1, 32, .inr (.inl o_4)))] H ∧ va_D A [(z, .inr (6, [.ref z_words, .ref z_rows, .ref z_failures, .int v_hasWords, .int v_hasRows, .int v_hasFailures, .ref z_stepWords, .ref z_plain, .ref z_factors, .ref z_lostByLost])), (z_stepWords, .inl (cy 1, 32, .inr (.inl o_4)))] ∧ va_S A s.heap H locs ∧ lv_has ls 8 [(7, .int o_1), (6, .int o_2), (4, .long o_3), (0, .ref z), (1, .long x1), (3, .int x2)]) (pcM := 57) (st := []) ?_ (fun hJ57 => ?_)
  · intro H locs ls hp_
    obtain ⟨hP, hD, hS, hl⟩ := hp_
    clear hL_5
    cases h
    exact gRv hx hb hr hlocks hP hD hS dX7_prepareSteps_57
  · refine gLoop (Hy := fun k_ v_ => fL_X7_prepareSteps_9 K x1 x2 k_ v_ = some (o_1, o_2, o_3, o_4)) (Pl := fun (v_ : Int32 × Int32 × Int64 × (Nat → Int64)) H locs ls => match v_ with | (a_6, a_7, a_8, a_9) => va_P D vwCl [(z, .inr (6, [.ref z_words, .ref z_rows, .ref z_failures, .int v_hasWords, .int v_hasRows, .int v_hasFailures, .ref z_stepWords, .ref z_plain, .ref z_factors, .ref z_lostByLost])), (z_stepWords, .inl (cy 1, 32, .inr (.inl a_9)))] H ∧ va_D A [(z, .inr (6, [.ref z_words, .ref z_rows, .ref z_failures, .int v_hasWords, .int v_hasRows, .int v_hasFailures, .ref z_stepWords, .ref z_plain, .ref z_factors, .ref z_lostByLost])), (z_stepWords, .inl (cy 1, 32, .inr (.inl a_9)))] ∧ va_S A s.heap H locs ∧ lv_has ls 8 [(7, .int a_6), (6, .int a_7), (4, .long a_8), (0, .ref z), (1, .long x1), (3, .int x2)]) (pcH := 9) (fun _ q_ => by cases q_) ?_ K (0, 0, 0, v_stepWordsc) hL_5 ⟨hP, hD, hS, hl⟩
    clear hL_5 h hP hD hS hl
    intro k_ ih ⟨a_6, a_7, a_8, a_9⟩ H locs ls h hp_
    obtain ⟨hP, hD, hS, hl⟩ := hp_
    have hP : va_P D vwCl [(z, .inr (6, [.ref z_words, .ref z_rows, .ref z_failures, .int v_hasWords, .int v_hasRows, .int v_hasFailures, .ref z_stepWords, .ref z_plain, .ref z_factors, .ref z_lostByLost])), (z_stepWords, .inl (cy 1, 32, .inr (.inl a_9)))] H := hP
    have hD : va_D A [(z, .inr (6, [.ref z_words, .ref z_rows, .ref z_failures, .int v_hasWords, .int v_hasRows, .int v_hasFailures, .ref z_stepWords, .ref z_plain, .ref z_factors, .ref z_lostByLost])), (z_stepWords, .inl (cy 1, 32, .inr (.inl a_9)))] := hD
    have hl : lv_has ls 8 [(7, .int a_6), (6, .int a_7), (4, .long a_8), (0, .ref z), (1, .long x1), (3, .int x2)] := hl
    change fL_X7_prepareSteps_9 K x1 x2 (k_ + 1) (a_6, a_7, a_8, a_9) = _ at h
    rw [fL_X7_prepareSteps_9] at h
    refine lv_iload hx hb dX7_prepareSteps_9 (lv_at hl 0 rfl) ?_
    refine lv_iload_n hx hb dX7_prepareSteps_11 rfl (lv_at hl 5 rfl) ?_
    refine lv_icmp_ge (tgt := 57) hx hb dX7_prepareSteps_12 (by decide) (fun c_10 => ?_) (fun c_10 => ?_)
    · have h := gx_t c_10 h
      have hl := lv_sub (l' := [(7, .int a_6), (6, .int a_7), (4, .long a_8), (0, .ref z), (1, .long x1), (3, .int x2)]) hl [0, 1, 2, 3, 4, 5] rfl
      cases h
      exact hJ57 _ _ _ ⟨hP, hD, hS, hl⟩
    · have h := gx_f c_10 h
      refine lv_lload_n hx hb dX7_prepareSteps_15 rfl (lv_at hl 4 rfl) ?_
      refine lv_iload hx hb dX7_prepareSteps_16 (lv_at hl 0 rfl) ?_
      refine lv_lushr (v := (gLushr x1 a_6)) hx hb dX7_prepareSteps_18 rfl ?_
      refine lv_lconst (v := 1) hx hb dX7_prepareSteps_19 (by decide) ?_
      refine lv_land hx hb dX7_prepareSteps_20 ?_
      refine lv_lconst (v := 0) hx hb dX7_prepareSteps_21 (by decide) ?_
      refine W.lcmp hx hb dX7_prepareSteps_22 ?_
      refine lv_if_eq (tgt := 51) hx hb dX7_prepareSteps_23 (by decide) (fun c_11 => ?_) (fun c_11 => ?_)
      · have h := gx_t c_11 h
        obtain ⟨y7_12, e_y7_12⟩ : ∃ y : Int32, y = (a_6 + 1) := ⟨_, rfl⟩
        have h := gx_let e_y7_12 h
        refine lv_iinc (v := y7_12) (lv' := [(7, .int y7_12), (6, .int a_7), (4, .long a_8), (0, .ref z), (1, .long x1), (3, .int x2)]) hx hb dX7_prepareSteps_51 hl (k := 0) rfl (by rw [e_y7_12]; rfl) (by decide) rfl (fun ls hl => ?_)
        refine lv_goto (tgt := 9) hx hb dX7_prepareSteps_54 (by decide) ?_
        exact ih (y7_12, a_7, a_8, a_9) _ _ _ h ⟨hP, hD, hS, lv_sub (l' := [(7, .int y7_12), (6, .int a_7), (4, .long a_8), (0, .ref z), (1, .long x1), (3, .int x2)]) hl [0, 1, 2, 3, 4, 5] rfl⟩
      · have h := gx_f c_11 h
        refine lv_lload hx hb dX7_prepareSteps_26 (lv_at hl 2 rfl) ?_
        refine lv_lconst (v := 1) hx hb dX7_prepareSteps_28 (by decide) ?_
        refine lv_iload hx hb dX7_prepareSteps_29 (lv_at hl 0 rfl) ?_
        refine lv_lshl (v := (gLshl 1 a_6)) hx hb dX7_prepareSteps_31 rfl ?_
        refine lv_lor hx hb dX7_prepareSteps_32 ?_
        refine lv_topl (fun y4_13 e_y4_13 => ?_)
        have h := gx_let e_y4_13 h
        refine lv_lstore (lv' := [(4, .long y4_13), (7, .int a_6), (6, .int a_7), (0, .ref z), (1, .long x1), (3, .int x2)]) hx hb dX7_prepareSteps_33 hl (by decide) rfl (fun ls hl => ?_)
        refine lv_aload_n hx hb dX7_prepareSteps_35 rfl (lv_at hl 3 rfl) ?_
        refine va_get (D := D) (ci := 6) (v := .ref z_stepWords) (C := RX7) (T := TX7) (N := 10) hx hb hts iX7 hown hK hP 0 rfl rfl 6 (by decide) f21 (fun _ h9 => h9) rfl dX7_prepareSteps_36 ?_
        refine lv_iload hx hb dX7_prepareSteps_39 (lv_at hl 2 rfl) ?_
        refine lv_lload hx hb dX7_prepareSteps_41 (lv_at hl 0 rfl) ?_
        refine lv_iload_n hx hb dX7_prepareSteps_43 rfl (lv_at hl 5 rfl) ?_
        obtain ⟨r_14, hc_15, h⟩ := gx_b h
        refine gCalll (wr := [(z, .inr (6, [.ref z_words, .ref z_rows, .ref z_failures, .int v_hasWords, .int v_hasRows, .int v_hasFailures, .ref z_stepWords, .ref z_plain, .ref z_factors, .ref z_lostByLost])), (z_stepWords, .inl (cy 1, 32, .inr (.inl a_9)))]) (va_runSN (As := [.long y4_13, .int x2]) (rest := [.int a_7, .ref z_stepWords]) ⟨hx, hb, hml, hown, hts⟩ (c_X9_folded l D cy t H.size K y4_13 x2 r_14 hc_15) ⟨va_cnB 2 hts gX7_prepareSteps_X9_folded_n89 rfl rfl rfl (hG.2.2.1 13 _ rfl) (hts (.initialized RX9) (by decide +kernel)) (by decide +kernel) ⟨Nat.le_of_ble_eq_true rfl, Nat.le_of_ble_eq_true rfl⟩, hts (.static yX9_folded) (by decide +kernel), trivial⟩ ⟨gBlind, fun U hU hW => ⟨rfl, gPre.call hK hG hA hP hD hS [] (by decide) rfl U hU hW⟩⟩ rfl rfl hl.1 rfl (lv_room (Nat.le_of_ble_eq_true rfl)) dX7_prepareSteps_44 ⟨Nat.le_of_ble_eq_true rfl, Nat.le_of_ble_eq_true rfl⟩) hA hP hD hS [] [0, 1] rfl rfl (by decide) (by decide) (fun H locs hP hD hS => ?_)
        have hP : va_P D vwCl [(z, .inr (6, [.ref z_words, .ref z_rows, .ref z_failures, .int v_hasWords, .int v_hasRows, .int v_hasFailures, .ref z_stepWords, .ref z_plain, .ref z_factors, .ref z_lostByLost])), (z_stepWords, .inl (cy 1, 32, .inr (.inl a_9)))] H := hP
        have hD : va_D A [(z, .inr (6, [.ref z_words, .ref z_rows, .ref z_failures, .int v_hasWords, .int v_hasRows, .int v_hasFailures, .ref z_stepWords, .ref z_plain, .ref z_factors, .ref z_lostByLost])), (z_stepWords, .inl (cy 1, 32, .inr (.inl a_9)))] := hD
        obtain ⟨hi_, h⟩ := gx_ix h
        refine va_last hx hb hK hP hD hS 1 1 rfl rfl hi_ dX7_prepareSteps_47 (fun H locs hP hD hS => ?_)
        obtain ⟨w_16, e_w_16⟩ : ∃ y : Nat → Int64, y = (vp_updL a_9 (Int32.toNatClampNeg a_7) r_14) := ⟨_, rfl⟩
        have h := gx_let e_w_16 h
        have hP : va_P D vwCl [(z, .inr (6, [.ref z_words, .ref z_rows, .ref z_failures, .int v_hasWords, .int v_hasRows, .int v_hasFailures, .ref z_stepWords, .ref z_plain, .ref z_factors, .ref z_lostByLost])), (z_stepWords, .inl (cy 1, 32, .inr (.inl (vp_updL a_9 (Int32.toNatClampNeg a_7) r_14))))] H := hP
        have hD : va_D A [(z, .inr (6, [.ref z_words, .ref z_rows, .ref z_failures, .int v_hasWords, .int v_hasRows, .int v_hasFailures, .ref z_stepWords, .ref z_plain, .ref z_factors, .ref z_lostByLost])), (z_stepWords, .inl (cy 1, 32, .inr (.inl (vp_updL a_9 (Int32.toNatClampNeg a_7) r_14))))] := hD
        rw [← e_w_16] at hP hD
        obtain ⟨y6_17, e_y6_17⟩ : ∃ y : Int32, y = (a_7 + 1) := ⟨_, rfl⟩
        have h := gx_let e_y6_17 h
        refine lv_iinc (v := y6_17) (lv' := [(6, .int y6_17), (4, .long y4_13), (7, .int a_6), (0, .ref z), (1, .long x1), (3, .int x2)]) hx hb dX7_prepareSteps_48 hl (k := 2) rfl (by rw [e_y6_17]; rfl) (by decide) rfl (fun ls hl => ?_)
        obtain ⟨y7_18, e_y7_18⟩ : ∃ y : Int32, y = (a_6 + 1) := ⟨_, rfl⟩
        have h := gx_let e_y7_18 h
        refine lv_iinc (v := y7_18) (lv' := [(7, .int y7_18), (6, .int y6_17), (4, .long y4_13), (0, .ref z), (1, .long x1), (3, .int x2)]) hx hb dX7_prepareSteps_51 hl (k := 2) rfl (by rw [e_y7_18]; rfl) (by decide) rfl (fun ls hl => ?_)
        refine lv_goto (tgt := 9) hx hb dX7_prepareSteps_54 (by decide) ?_
        exact ih (y7_18, y6_17, y4_13, w_16) _ _ _ h ⟨hP, hD, hS, lv_sub (l' := [(7, .int y7_18), (6, .int y6_17), (4, .long y4_13), (0, .ref z), (1, .long x1), (3, .int x2)]) hl [0, 1, 2, 3, 4, 5] rfl⟩

def fL_X7_countByOnes_39 (K : Nat) (l9 : Int32) (u1 : Nat → Int64) (n4 : Nat) : Nat → Int32 × Int64 × (Nat → Int32) → Option (Int32 × Int64 × (Nat → Int32))
  | 0, _ => none
  | k + 1, (l10, l7, u2) =>
    if l9 ≤ l10 then
      some (l10, l7, u2)
    else
      Option.bind (f_J6_numberOfTrailingZeros_0f7a4 K l10) fun r_16 =>
      gIx r_16 32 <|
      gLet (l7 ^^^ (u1 (Int32.toNatClampNeg r_16))) fun y7_17 =>
      Option.bind (f_J13_bitCount_95d88 K y7_17) fun r_18 =>
      gIx r_18 n4 <|
      gLet ((u2 (Int32.toNatClampNeg r_18)) + 1) fun y_19 =>
      gIx r_18 n4 <|
      gLet (upd u2 (Int32.toNatClampNeg r_18) y_19) fun w_20 =>
      gLet (l10 + 1) fun y10_21 =>
      fL_X7_countByOnes_39 K l9 u1 n4 k (y10_21, y7_17, w_20)
def f_X7_countByOnes (K : Nat) (x1 : Int64) (x2 : Int64) (x3 : Int32) (v_stepWordsc : Nat → Int64) (v4 : Nat → Int32) (n4 : Nat) : Option ((Nat → Int64) × (Nat → Int32)) :=
  Option.bind (f_X7_prepareSteps K x1 x3 v_stepWordsc) fun o_1 =>
  Option.bind (f_J7_fill_53178 K 0 v4 n4) fun o_2 =>
  Option.bind (f_J13_bitCount_95d88 K x2) fun r_3 =>
  gIx r_3 n4 <|
  gLet ((o_2 (Int32.toNatClampNeg r_3)) + 1) fun y_4 =>
  gIx r_3 n4 <|
  gLet (upd o_2 (Int32.toNatClampNeg r_3) y_4) fun w_5 =>
  Option.bind (f_J13_bitCount_95d88 K x1) fun r_6 =>
  gLet (1 <<< (r_6 &&& 31)) fun y9_7 =>
  Option.bind (fL_X7_countByOnes_39 K y9_7 o_1 n4 K (1, x2, w_5)) fun (o_22, o_23, o_24) =>
  some (o_1, o_24)
set_option maxHeartbeats 4000000 in
set_option maxRecDepth 100000 in
theorem c_X7_countByOnes (l : Launch) (D : va_G) (cy : Nat → ClassId) (t sz K : Nat) (z : Nat) (z_stepWords : Nat) (z4 : Nat) (z_words : Nat) (z_rows : Nat) (z_failures : Nat) (z_plain : Nat) (z_factors : Nat) (z_lostByLost : Nat) (v_hasWords : Int32) (v_hasRows : Int32) (v_hasFailures : Int32) (v_stepWordsc : Nat → Int64) (v4 : Nat → Int32) (n4 : Nat) (x1 : Int64) (x2 : Int64) (x3 : Int32) (o_v_stepWordsc : Nat → Int64) (o_v4 : Nat → Int32) (h : f_X7_countByOnes K x1 x2 x3 v_stepWordsc v4 n4 = some (o_v_stepWordsc, o_v4)) : gMv l D cy t sz yX7_countByOnes wsX7_countByOnes 2 52 [.ref z, .long x1, .long x2, .int x3, .ref z4] [(z, .inr (6, [.ref z_words, .ref z_rows, .ref z_failures, .int v_hasWords, .int v_hasRows, .int v_hasFailures, .ref z_stepWords, .ref z_plain, .ref z_factors, .ref z_lostByLost])), (z_stepWords, .inl (cy 1, 32, .inr (.inl v_stepWordsc))), (z4, .inl (cy 0, n4, .inl v4))] [(z, .inr (6, [.ref z_words, .ref z_rows, .ref z_failures, .int v_hasWords, .int v_hasRows, .int v_hasFailures, .ref z_stepWords, .ref z_plain, .ref z_factors, .ref z_lostByLost])), (z_stepWords, .inl (cy 1, 32, .inr (.inl o_v_stepWordsc))), (z4, .inl (cy 0, n4, .inl o_v4))] := by
  refine gBv (cc := cX7_countByOnes) (maxL := 11) (ret := none) (by decide) rfl (Nat.le_of_ble_eq_true rfl) ?_
  intro p e s m below meth c A ls hAt hl
  obtain ⟨hx, hb, hml, hr, hts, hown, hlocks, hin, hK, hG, hA, hP, hD⟩ := hAt
  have hS : va_S A s.heap s.heap [] := va_S.rf
  have hl : lv_has ls 11 [(0, .ref z), (1, .long x1), (3, .long x2), (5, .int x3), (6, .ref z4)] := hl
  have f21 := hts (.fieldLink RX7 21 "PlainLines$Tally" "stepWords" "[J") (by decide +kernel)
  have iX7 := (by decide +kernel : ∀ w ∈ u_ws RX7 TX7 10, w ∈ wsX7_countByOnes)
  rw [f_X7_countByOnes] at h
  refine lv_aload_n hx hb dX7_countByOnes_0 rfl (lv_at hl 0 rfl) ?_
  refine lv_lload_n hx hb dX7_countByOnes_1 rfl (lv_at hl 1 rfl) ?_
  refine lv_iload hx hb dX7_countByOnes_2 (lv_at hl 3 rfl) ?_
  obtain ⟨o_1, hc_2, h⟩ := gx_b h
  refine gCallv (wr := [(z4, .inl (cy 0, n4, .inl v4))]) (va_runV (As := [.long x1, .int x3]) (rest := []) ⟨hx, hb, hml, hown, hts⟩ (c_X7_prepareSteps l D cy t s.heap.size K z z_stepWords z_words z_rows z_failures z_plain z_factors z_lostByLost v_hasWords v_hasRows v_hasFailures v_stepWordsc x1 x3 o_1 hc_2) (cwV 2 hts gX7_countByOnes_X7_prepareSteps rfl rfl rfl (by decide +kernel) ⟨Nat.le_of_ble_eq_true rfl, Nat.le_of_ble_eq_true rfl⟩) ⟨gBlind, va_recv hK hP (ci := 6) (q0 := 0) rfl rfl, fun U hU hW => ⟨rfl, gPre.call hK hG hA hP hD hS [0, 1] (by decide) rfl U hU hW⟩⟩ rfl rfl hl.1 rfl (lv_room (Nat.le_of_ble_eq_true rfl)) dX7_countByOnes_4 ⟨Nat.le_of_ble_eq_true rfl, Nat.le_of_ble_eq_true rfl⟩) hA hP hD hS [0, 1] [2] rfl rfl (by decide) (by decide) (fun H locs hP hD hS => ?_)
  have hP := hP.sub (ws' := [(z, .inr (6, [.ref z_words, .ref z_rows, .ref z_failures, .int v_hasWords, .int v_hasRows, .int v_hasFailures, .ref z_stepWords, .ref z_plain, .ref z_factors, .ref z_lostByLost])), (z_stepWords, .inl (cy 1, 32, .inr (.inl o_1))), (z4, .inl (cy 0, n4, .inl v4))]) [1, 2, 0] rfl
  have hD := hD.sub (ws' := [(z, .inr (6, [.ref z_words, .ref z_rows, .ref z_failures, .int v_hasWords, .int v_hasRows, .int v_hasFailures, .ref z_stepWords, .ref z_plain, .ref z_factors, .ref z_lostByLost])), (z_stepWords, .inl (cy 1, 32, .inr (.inl o_1))), (z4, .inl (cy 0, n4, .inl v4))]) [1, 2, 0] (by decide) rfl
  refine lv_aload hx hb dX7_countByOnes_7 (lv_at hl 4 rfl) ?_
  refine lv_iconst (v := 0) hx hb dX7_countByOnes_9 (by decide) ?_
  obtain ⟨o_3, hc_4, h⟩ := gx_b h
  refine gCallv (wr := [(z, .inr (6, [.ref z_words, .ref z_rows, .ref z_failures, .int v_hasWords, .int v_hasRows, .int v_hasFailures, .ref z_stepWords, .ref z_plain, .ref z_factors, .ref z_lostByLost])), (z_stepWords, .inl (cy 1, 32, .inr (.inl o_1)))]) (va_runS (As := [.ref z4, .int 0]) (rest := []) ⟨hx, hb, hml, hown, hts⟩ (c_J7_fill_53178 l D cy t H.size K z4 v4 n4 0 o_3 hc_4) (va_cwS 2 hts gX7_countByOnes_J7_fill_53178 rfl rfl rfl (by decide +kernel) ⟨Nat.le_of_ble_eq_true rfl, Nat.le_of_ble_eq_true rfl⟩) ⟨gBlind, fun U hU hW => ⟨rfl, gPre.call hK hG hA hP hD hS [2] (by decide) rfl U hU hW⟩⟩ rfl rfl hl.1 rfl (lv_room (Nat.le_of_ble_eq_true rfl)) dX7_countByOnes_10 ⟨Nat.le_of_ble_eq_true rfl, Nat.le_of_ble_eq_true rfl⟩) hA hP hD hS [2] [0, 1] rfl rfl (by decide) (by decide) (fun H locs hP hD hS => ?_)
  have hP : va_P D vwCl [(z, .inr (6, [.ref z_words, .ref z_rows, .ref z_failures, .int v_hasWords, .int v_hasRows, .int v_hasFailures, .ref z_stepWords, .ref z_plain, .ref z_factors, .ref z_lostByLost])), (z_stepWords, .inl (cy 1, 32, .inr (.inl o_1))), (z4, .inl (cy 0, n4, .inl o_3))] H := hP
  have hD : va_D A [(z, .inr (6, [.ref z_words, .ref z_rows, .ref z_failures, .int v_hasWords, .int v_hasRows, .int v_hasFailures, .ref z_stepWords, .ref z_plain, .ref z_factors, .ref z_lostByLost])), (z_stepWords, .inl (cy 1, 32, .inr (.inl o_1))), (z4, .inl (cy 0, n4, .inl o_3))] := hD
  refine lv_lload_n hx hb dX7_countByOnes_13 rfl (lv_at hl 2 rfl) ?_
  refine lv_lstore (lv' := [(7, .long x2), (0, .ref z), (1, .long x1), (3, .long x2), (5, .int x3), (6, .ref z4)]) hx hb dX7_countByOnes_14 hl (by decide) rfl (fun ls hl => ?_)
  refine lv_aload hx hb dX7_countByOnes_16 (lv_at hl 5 rfl) ?_
  refine lv_lload hx hb dX7_countByOnes_18 (lv_at hl 0 rfl) ?_
  obtain ⟨r_5, hc_6, h⟩ := gx_b h
  refine gCalli (wr := [(z, .inr (6, [.ref z_words, .ref z_rows, .ref z_failures, .int v_hasWords, .int v_hasRows, .int v_hasFailures, .ref z_stepWords, .ref z_plain, .ref z_factors, .ref z_lostByLost])), (z_stepWords, .inl (cy 1, 32, .inr (.inl o_1))), (z4, .inl (cy 0, n4, .inl o_3))]) (va_runS (As := [.long x2]) (rest := [.ref z4]) ⟨hx, hb, hml, hown, hts⟩ (c_J13_bitCount_95d88 l D cy t H.size K x2 r_5 hc_6) (va_cwS 1 hts gX7_countByOnes_J13_bitCount_95d88 rfl rfl rfl (by decide +kernel) ⟨Nat.le_of_ble_eq_true rfl, Nat.le_of_ble_eq_true rfl⟩) ⟨gBlind, fun U hU hW => ⟨rfl, gPre.call hK hG hA hP hD hS [] (by decide) rfl U hU hW⟩⟩ rfl rfl hl.1 rfl (lv_room (Nat.le_of_ble_eq_true rfl)) dX7_countByOnes_20 ⟨Nat.le_of_ble_eq_true rfl, Nat.le_of_ble_eq_true rfl⟩) hA hP hD hS [] [0, 1, 2] rfl rfl (by decide) (by decide) (fun H locs hP hD hS => ?_)
  have hP : va_P D vwCl [(z, .inr (6, [.ref z_words, .ref z_rows, .ref z_failures, .int v_hasWords, .int v_hasRows, .int v_hasFailures, .ref z_stepWords, .ref z_plain, .ref z_factors, .ref z_lostByLost])), (z_stepWords, .inl (cy 1, 32, .inr (.inl o_1))), (z4, .inl (cy 0, n4, .inl o_3))] H := hP
  have hD : va_D A [(z, .inr (6, [.ref z_words, .ref z_rows, .ref z_failures, .int v_hasWords, .int v_hasRows, .int v_hasFailures, .ref z_stepWords, .ref z_plain, .ref z_factors, .ref z_lostByLost])), (z_stepWords, .inl (cy 1, 32, .inr (.inl o_1))), (z4, .inl (cy 0, n4, .inl o_3))] := hD
  refine lv_dup2_11 hx hb dX7_countByOnes_23 rfl rfl ?_
  obtain ⟨hi_, h⟩ := gx_ix h
  refine va_iald hx hb hK hP 2 0 rfl rfl hi_ dX7_countByOnes_24 ?_
  refine lv_iconst (v := 1) hx hb dX7_countByOnes_25 (by decide) ?_
  refine lv_iadd hx hb dX7_countByOnes_26 ?_
  refine lv_topi (fun y_7 e_y_7 => ?_)
  have h := gx_let e_y_7 h
  obtain ⟨hi_, h⟩ := gx_ix h
  refine va_iast hx hb hK hP hD hS 2 0 rfl rfl hi_ dX7_countByOnes_27 (fun H locs hP hD hS => ?_)
  obtain ⟨w_8, e_w_8⟩ : ∃ y : Nat → Int32, y = (upd o_3 (Int32.toNatClampNeg r_5) y_7) := ⟨_, rfl⟩
  have h := gx_let e_w_8 h
  have hP : va_P D vwCl [(z, .inr (6, [.ref z_words, .ref z_rows, .ref z_failures, .int v_hasWords, .int v_hasRows, .int v_hasFailures, .ref z_stepWords, .ref z_plain, .ref z_factors, .ref z_lostByLost])), (z_stepWords, .inl (cy 1, 32, .inr (.inl o_1))), (z4, .inl (cy 0, n4, .inl (upd o_3 (Int32.toNatClampNeg r_5) y_7)))] H := hP
  have hD : va_D A [(z, .inr (6, [.ref z_words, .ref z_rows, .ref z_failures, .int v_hasWords, .int v_hasRows, .int v_hasFailures, .ref z_stepWords, .ref z_plain, .ref z_factors, .ref z_lostByLost])), (z_stepWords, .inl (cy 1, 32, .inr (.inl o_1))), (z4, .inl (cy 0, n4, .inl (upd o_3 (Int32.toNatClampNeg r_5) y_7)))] := hD
  rw [← e_w_8] at hP hD
  refine lv_iconst (v := 1) hx hb dX7_countByOnes_28 (by decide) ?_
  refine lv_lload_n hx hb dX7_countByOnes_29 rfl (lv_at hl 2 rfl) ?_
  obtain ⟨r_9, hc_10, h⟩ := gx_b h
  refine gCalli (wr := [(z, .inr (6, [.ref z_words, .ref z_rows, .ref z_failures, .int v_hasWords, .int v_hasRows, .int v_hasFailures, .ref z_stepWords, .ref z_plain, .ref z_factors, .ref z_lostByLost])), (z_stepWords, .inl (cy 1, 32, .inr (.inl o_1))), (z4, .inl (cy 0, n4, .inl w_8))]) (va_runS (As := [.long x1]) (rest := [.int 1]) ⟨hx, hb, hml, hown, hts⟩ (c_J13_bitCount_95d88 l D cy t H.size K x1 r_9 hc_10) (va_cwS 1 hts gX7_countByOnes_J13_bitCount_95d88 rfl rfl rfl (by decide +kernel) ⟨Nat.le_of_ble_eq_true rfl, Nat.le_of_ble_eq_true rfl⟩) ⟨gBlind, fun U hU hW => ⟨rfl, gPre.call hK hG hA hP hD hS [] (by decide) rfl U hU hW⟩⟩ rfl rfl hl.1 rfl (lv_room (Nat.le_of_ble_eq_true rfl)) dX7_countByOnes_30 ⟨Nat.le_of_ble_eq_true rfl, Nat.le_of_ble_eq_true rfl⟩) hA hP hD hS [] [0, 1, 2] rfl rfl (by decide) (by decide) (fun H locs hP hD hS => ?_)
  have hP : va_P D vwCl [(z, .inr (6, [.ref z_words, .ref z_rows, .ref z_failures, .int v_hasWords, .int v_hasRows, .int v_hasFailures, .ref z_stepWords, .ref z_plain, .ref z_factors, .ref z_lostByLost])), (z_stepWords, .inl (cy 1, 32, .inr (.inl o_1))), (z4, .inl (cy 0, n4, .inl w_8))] H := hP
  have hD : va_D A [(z, .inr (6, [.ref z_words, .ref z_rows, .ref z_failures, .int v_hasWords, .int v_hasRows, .int v_hasFailures, .ref z_stepWords, .ref z_plain, .ref z_factors, .ref z_lostByLost])), (z_stepWords, .inl (cy 1, 32, .inr (.inl o_1))), (z4, .inl (cy 0, n4, .inl w_8))] := hD
  refine lv_ishl hx hb dX7_countByOnes_33 ?_
  refine lv_topi (fun y9_11 e_y9_11 => ?_)
  have h := gx_let e_y9_11 h
  refine lv_istore (lv' := [(9, .int y9_11), (7, .long x2), (0, .ref z), (1, .long x1), (3, .long x2), (5, .int x3), (6, .ref z4)]) hx hb dX7_countByOnes_34 hl (by decide) rfl (fun ls hl => ?_)
  refine lv_iconst (v := 1) hx hb dX7_countByOnes_36 (by decide) ?_
  refine lv_istore (lv' := [(10, .int 1), (9, .int y9_11), (7, .long x2), (0, .ref z), (1, .long x1), (3, .long x2), (5, .int x3), (6, .ref z4)]) hx hb dX7_countByOnes_37 hl (by decide) rfl (fun ls hl => ?_)
  obtain ⟨⟨o_12, o_13, o_14⟩, hL_15, h⟩ := gx_b h
  refine gJoin (Pj := fun H locs ls => va_P D vwCl [(z, .inr (6, [.ref z_words, .ref z_rows, .ref z_failures, .int v_hasWords, .int v_hasRows, .int v_hasFailures, .ref z_stepWords, .ref z_plain, .ref z_factors, .ref z_lostByLost])), (z_stepWords, .inl (cy 1, 32, .inr (.inl o_1))), (z4, .inl (cy 0, n4, .inl o_14))] H ∧ va_D A [(z, .inr (6, [.ref z_words, .ref z_rows, .ref z_failures, .int v_hasWords, .int v_hasRows, .int v_hasFailures, .ref z_stepWords, .ref z_plain, .ref z_factors, .ref z_lostByLost])), (z_stepWords, .inl (cy 1, 32, .inr (.inl o_1))), (z4, .inl (cy 0, n4, .inl o_14))] ∧ va_S A s.heap H locs ∧ lv_has ls 11 [(10, .int o_12), (9, .int y9_11), (7, .long o_13), (0, .ref z), (1, .long x1), (3, .long x2), (5, .int x3), (6, .ref z4)]) (pcM := 79) (st := []) ?_ (fun hJ79 => ?_)
  · intro H locs ls hp_
    obtain ⟨hP, hD, hS, hl⟩ := hp_
    clear hL_15
    cases h
    exact gRv hx hb hr hlocks hP hD hS dX7_countByOnes_79
  · refine gLoop (Hy := fun k_ v_ => fL_X7_countByOnes_39 K y9_11 o_1 n4 k_ v_ = some (o_12, o_13, o_14)) (Pl := fun (v_ : Int32 × Int64 × (Nat → Int32)) H locs ls => match v_ with | (a_16, a_17, a_18) => va_P D vwCl [(z, .inr (6, [.ref z_words, .ref z_rows, .ref z_failures, .int v_hasWords, .int v_hasRows, .int v_hasFailures, .ref z_stepWords, .ref z_plain, .ref z_factors, .ref z_lostByLost])), (z_stepWords, .inl (cy 1, 32, .inr (.inl o_1))), (z4, .inl (cy 0, n4, .inl a_18))] H ∧ va_D A [(z, .inr (6, [.ref z_words, .ref z_rows, .ref z_failures, .int v_hasWords, .int v_hasRows, .int v_hasFailures, .ref z_stepWords, .ref z_plain, .ref z_factors, .ref z_lostByLost])), (z_stepWords, .inl (cy 1, 32, .inr (.inl o_1))), (z4, .inl (cy 0, n4, .inl a_18))] ∧ va_S A s.heap H locs ∧ lv_has ls 11 [(10, .int a_16), (9, .int y9_11), (7, .long a_17), (0, .ref z), (1, .long x1), (3, .long x2), (5, .int x3), (6, .ref z4)]) (pcH := 39) (fun _ q_ => by cases q_) ?_ K (1, x2, w_8) hL_15 ⟨hP, hD, hS, hl⟩
    clear hL_15 h hP hD hS hl
    intro k_ ih ⟨a_16, a_17, a_18⟩ H locs ls h hp_
    obtain ⟨hP, hD, hS, hl⟩ := hp_
    have hP : va_P D vwCl [(z, .inr (6, [.ref z_words, .ref z_rows, .ref z_failures, .int v_hasWords, .int v_hasRows, .int v_hasFailures, .ref z_stepWords, .ref z_plain, .ref z_factors, .ref z_lostByLost])), (z_stepWords, .inl (cy 1, 32, .inr (.inl o_1))), (z4, .inl (cy 0, n4, .inl a_18))] H := hP
    have hD : va_D A [(z, .inr (6, [.ref z_words, .ref z_rows, .ref z_failures, .int v_hasWords, .int v_hasRows, .int v_hasFailures, .ref z_stepWords, .ref z_plain, .ref z_factors, .ref z_lostByLost])), (z_stepWords, .inl (cy 1, 32, .inr (.inl o_1))), (z4, .inl (cy 0, n4, .inl a_18))] := hD
    have hl : lv_has ls 11 [(10, .int a_16), (9, .int y9_11), (7, .long a_17), (0, .ref z), (1, .long x1), (3, .long x2), (5, .int x3), (6, .ref z4)] := hl
    change fL_X7_countByOnes_39 K y9_11 o_1 n4 (k_ + 1) (a_16, a_17, a_18) = _ at h
    rw [fL_X7_countByOnes_39] at h
    refine lv_iload hx hb dX7_countByOnes_39 (lv_at hl 0 rfl) ?_
    refine lv_iload hx hb dX7_countByOnes_41 (lv_at hl 1 rfl) ?_
    refine lv_icmp_ge (tgt := 79) hx hb dX7_countByOnes_43 (by decide) (fun c_19 => ?_) (fun c_19 => ?_)
    · have h := gx_t c_19 h
      have hl := lv_sub (l' := [(10, .int a_16), (9, .int y9_11), (7, .long a_17), (0, .ref z), (1, .long x1), (3, .long x2), (5, .int x3), (6, .ref z4)]) hl [0, 1, 2, 3, 4, 5, 6, 7] rfl
      cases h
      exact hJ79 _ _ _ ⟨hP, hD, hS, hl⟩
    · have h := gx_f c_19 h
      refine lv_lload hx hb dX7_countByOnes_46 (lv_at hl 2 rfl) ?_
      refine lv_aload_n hx hb dX7_countByOnes_48 rfl (lv_at hl 3 rfl) ?_
      refine va_get (D := D) (ci := 6) (v := .ref z_stepWords) (C := RX7) (T := TX7) (N := 10) hx hb hts iX7 hown hK hP 0 rfl rfl 6 (by decide) f21 (fun _ h9 => h9) rfl dX7_countByOnes_49 ?_
      refine lv_iload hx hb dX7_countByOnes_52 (lv_at hl 0 rfl) ?_
      obtain ⟨r_20, hc_21, h⟩ := gx_b h
      refine gCalli (wr := [(z, .inr (6, [.ref z_words, .ref z_rows, .ref z_failures, .int v_hasWords, .int v_hasRows, .int v_hasFailures, .ref z_stepWords, .ref z_plain, .ref z_factors, .ref z_lostByLost])), (z_stepWords, .inl (cy 1, 32, .inr (.inl o_1))), (z4, .inl (cy 0, n4, .inl a_18))]) (va_runS (As := [.int a_16]) (rest := [.ref z_stepWords, .long a_17]) ⟨hx, hb, hml, hown, hts⟩ (c_J6_numberOfTrailingZeros_0f7a4 l D cy t H.size K a_16 r_20 hc_21) (va_cwS 1 hts gX7_countByOnes_J6_numberOfTrailingZeros_0f7a4 rfl rfl rfl (by decide +kernel) ⟨Nat.le_of_ble_eq_true rfl, Nat.le_of_ble_eq_true rfl⟩) ⟨gBlind, fun U hU hW => ⟨rfl, gPre.call hK hG hA hP hD hS [] (by decide) rfl U hU hW⟩⟩ rfl rfl hl.1 rfl (lv_room (Nat.le_of_ble_eq_true rfl)) dX7_countByOnes_54 ⟨Nat.le_of_ble_eq_true rfl, Nat.le_of_ble_eq_true rfl⟩) hA hP hD hS [] [0, 1, 2] rfl rfl (by decide) (by decide) (fun H locs hP hD hS => ?_)
      have hP : va_P D vwCl [(z, .inr (6, [.ref z_words, .ref z_rows, .ref z_failures, .int v_hasWords, .int v_hasRows, .int v_hasFailures, .ref z_stepWords, .ref z_plain, .ref z_factors, .ref z_lostByLost])), (z_stepWords, .inl (cy 1, 32, .inr (.inl o_1))), (z4, .inl (cy 0, n4, .inl a_18))] H := hP
      have hD : va_D A [(z, .inr (6, [.ref z_words, .ref z_rows, .ref z_failures, .int v_hasWords, .int v_hasRows, .int v_hasFailures, .ref z_stepWords, .ref z_plain, .ref z_factors, .ref z_lostByLost])), (z_stepWords, .inl (cy 1, 32, .inr (.inl o_1))), (z4, .inl (cy 0, n4, .inl a_18))] := hD
      obtain ⟨hi_, h⟩ := gx_ix h
      refine va_lald hx hb hK hP 1 1 rfl rfl hi_ dX7_countByOnes_57 ?_
      refine lv_lxor hx hb dX7_countByOnes_58 ?_
      refine lv_topl (fun y7_22 e_y7_22 => ?_)
      have h := gx_let e_y7_22 h
      refine lv_lstore (lv' := [(7, .long y7_22), (10, .int a_16), (9, .int y9_11), (0, .ref z), (1, .long x1), (3, .long x2), (5, .int x3), (6, .ref z4)]) hx hb dX7_countByOnes_59 hl (by decide) rfl (fun ls hl => ?_)
      refine lv_aload hx hb dX7_countByOnes_61 (lv_at hl 7 rfl) ?_
      refine lv_lload hx hb dX7_countByOnes_63 (lv_at hl 0 rfl) ?_
      obtain ⟨r_23, hc_24, h⟩ := gx_b h
      refine gCalli (wr := [(z, .inr (6, [.ref z_words, .ref z_rows, .ref z_failures, .int v_hasWords, .int v_hasRows, .int v_hasFailures, .ref z_stepWords, .ref z_plain, .ref z_factors, .ref z_lostByLost])), (z_stepWords, .inl (cy 1, 32, .inr (.inl o_1))), (z4, .inl (cy 0, n4, .inl a_18))]) (va_runS (As := [.long y7_22]) (rest := [.ref z4]) ⟨hx, hb, hml, hown, hts⟩ (c_J13_bitCount_95d88 l D cy t H.size K y7_22 r_23 hc_24) (va_cwS 1 hts gX7_countByOnes_J13_bitCount_95d88 rfl rfl rfl (by decide +kernel) ⟨Nat.le_of_ble_eq_true rfl, Nat.le_of_ble_eq_true rfl⟩) ⟨gBlind, fun U hU hW => ⟨rfl, gPre.call hK hG hA hP hD hS [] (by decide) rfl U hU hW⟩⟩ rfl rfl hl.1 rfl (lv_room (Nat.le_of_ble_eq_true rfl)) dX7_countByOnes_65 ⟨Nat.le_of_ble_eq_true rfl, Nat.le_of_ble_eq_true rfl⟩) hA hP hD hS [] [0, 1, 2] rfl rfl (by decide) (by decide) (fun H locs hP hD hS => ?_)
      have hP : va_P D vwCl [(z, .inr (6, [.ref z_words, .ref z_rows, .ref z_failures, .int v_hasWords, .int v_hasRows, .int v_hasFailures, .ref z_stepWords, .ref z_plain, .ref z_factors, .ref z_lostByLost])), (z_stepWords, .inl (cy 1, 32, .inr (.inl o_1))), (z4, .inl (cy 0, n4, .inl a_18))] H := hP
      have hD : va_D A [(z, .inr (6, [.ref z_words, .ref z_rows, .ref z_failures, .int v_hasWords, .int v_hasRows, .int v_hasFailures, .ref z_stepWords, .ref z_plain, .ref z_factors, .ref z_lostByLost])), (z_stepWords, .inl (cy 1, 32, .inr (.inl o_1))), (z4, .inl (cy 0, n4, .inl a_18))] := hD
      refine lv_dup2_11 hx hb dX7_countByOnes_68 rfl rfl ?_
      obtain ⟨hi_, h⟩ := gx_ix h
      refine va_iald hx hb hK hP 2 0 rfl rfl hi_ dX7_countByOnes_69 ?_
      refine lv_iconst (v := 1) hx hb dX7_countByOnes_70 (by decide) ?_
      refine lv_iadd hx hb dX7_countByOnes_71 ?_
      refine lv_topi (fun y_25 e_y_25 => ?_)
      have h := gx_let e_y_25 h
      obtain ⟨hi_, h⟩ := gx_ix h
      refine va_iast hx hb hK hP hD hS 2 0 rfl rfl hi_ dX7_countByOnes_72 (fun H locs hP hD hS => ?_)
      obtain ⟨w_26, e_w_26⟩ : ∃ y : Nat → Int32, y = (upd a_18 (Int32.toNatClampNeg r_23) y_25) := ⟨_, rfl⟩
      have h := gx_let e_w_26 h
      have hP : va_P D vwCl [(z, .inr (6, [.ref z_words, .ref z_rows, .ref z_failures, .int v_hasWords, .int v_hasRows, .int v_hasFailures, .ref z_stepWords, .ref z_plain, .ref z_factors, .ref z_lostByLost])), (z_stepWords, .inl (cy 1, 32, .inr (.inl o_1))), (z4, .inl (cy 0, n4, .inl (upd a_18 (Int32.toNatClampNeg r_23) y_25)))] H := hP
      have hD : va_D A [(z, .inr (6, [.ref z_words, .ref z_rows, .ref z_failures, .int v_hasWords, .int v_hasRows, .int v_hasFailures, .ref z_stepWords, .ref z_plain, .ref z_factors, .ref z_lostByLost])), (z_stepWords, .inl (cy 1, 32, .inr (.inl o_1))), (z4, .inl (cy 0, n4, .inl (upd a_18 (Int32.toNatClampNeg r_23) y_25)))] := hD
      rw [← e_w_26] at hP hD
      obtain ⟨y10_27, e_y10_27⟩ : ∃ y : Int32, y = (a_16 + 1) := ⟨_, rfl⟩
      have h := gx_let e_y10_27 h
      refine lv_iinc (v := y10_27) (lv' := [(10, .int y10_27), (7, .long y7_22), (9, .int y9_11), (0, .ref z), (1, .long x1), (3, .long x2), (5, .int x3), (6, .ref z4)]) hx hb dX7_countByOnes_73 hl (k := 1) rfl (by rw [e_y10_27]; rfl) (by decide) rfl (fun ls hl => ?_)
      refine lv_goto (tgt := 39) hx hb dX7_countByOnes_76 (by decide) ?_
      exact ih (y10_27, y7_22, w_26) _ _ _ h ⟨hP, hD, hS, lv_sub (l' := [(10, .int y10_27), (9, .int y9_11), (7, .long y7_22), (0, .ref z), (1, .long x1), (3, .long x2), (5, .int x3), (6, .ref z4)]) hl [0, 2, 1, 3, 4, 5, 6, 7] rfl⟩

def f_X7_wordsWithOnes (K : Nat) (x2 : Int32) (v_hasWords : Int32) (v1_n : Int32) (v1_goodOnes : Int64) (v1_frozenOnes : Int64) (v_stepWordsc : Nat → Int64) (v_wordsc : Nat → Int32) : Option (Int32 × Int32 × (Nat → Int64) × (Nat → Int32)) :=
  Option.bind (α := Int32 × (Nat → Int64) × (Nat → Int32)) (
    if v_hasWords = 0 then
      Option.bind (f_X4_wordOf K 0 v1_n v1_goodOnes v1_frozenOnes) fun r_5 =>
      Option.bind (f_X7_countByOnes K v1_goodOnes r_5 v1_n v_stepWordsc v_wordsc 33) fun (o_6, o_7) =>
      some (1, o_6, o_7)
    else
      some (v_hasWords, v_stepWordsc, v_wordsc)) fun (mf_1, mc_2, mc_3) =>
  gIx x2 33 <|
  some ((mc_3 (Int32.toNatClampNeg x2)), mf_1, mc_2, mc_3)
set_option maxHeartbeats 4000000 in
set_option maxRecDepth 100000 in
theorem c_X7_wordsWithOnes (l : Launch) (D : va_G) (cy : Nat → ClassId) (t sz K : Nat) (z : Nat) (z1 : Nat) (z_stepWords : Nat) (z_words : Nat) (z_rows : Nat) (z_failures : Nat) (z_plain : Nat) (z_factors : Nat) (z_lostByLost : Nat) (z1_uppers : Nat) (v_hasWords : Int32) (v_hasRows : Int32) (v_hasFailures : Int32) (v1_n : Int32) (v1_p : Int32) (v1_q : Int32) (v1_goodOnes : Int64) (v1_frozenOnes : Int64) (v_stepWordsc : Nat → Int64) (v_wordsc : Nat → Int32) (x2 : Int32) (r_ : Int32) (o_v_hasWords : Int32) (o_v_stepWordsc : Nat → Int64) (o_v_wordsc : Nat → Int32) (h : f_X7_wordsWithOnes K x2 v_hasWords v1_n v1_goodOnes v1_frozenOnes v_stepWordsc v_wordsc = some (r_, o_v_hasWords, o_v_stepWordsc, o_v_wordsc)) : gMi l D cy t sz yX7_wordsWithOnes wsX7_wordsWithOnes 3 82 [.ref z, .ref z1, .int x2] [(z, .inr (6, [.ref z_words, .ref z_rows, .ref z_failures, .int v_hasWords, .int v_hasRows, .int v_hasFailures, .ref z_stepWords, .ref z_plain, .ref z_factors, .ref z_lostByLost])), (z1, .inr (3, [.int v1_n, .int v1_p, .int v1_q, .long v1_goodOnes, .long v1_frozenOnes, .ref z1_uppers])), (z_stepWords, .inl (cy 1, 32, .inr (.inl v_stepWordsc))), (z_words, .inl (cy 0, 33, .inl v_wordsc))] r_ [(z, .inr (6, [.ref z_words, .ref z_rows, .ref z_failures, .int o_v_hasWords, .int v_hasRows, .int v_hasFailures, .ref z_stepWords, .ref z_plain, .ref z_factors, .ref z_lostByLost])), (z1, .inr (3, [.int v1_n, .int v1_p, .int v1_q, .long v1_goodOnes, .long v1_frozenOnes, .ref z1_uppers])), (z_stepWords, .inl (cy 1, 32, .inr (.inl o_v_stepWordsc))), (z_words, .inl (cy 0, 33, .inl o_v_wordsc))] := by
  refine gBi (cc := cX7_wordsWithOnes) (maxL := 3) (ret := (some .int)) (by decide) rfl (Nat.le_of_ble_eq_true rfl) ?_
  intro p e s m below meth c A ls hAt hl
  obtain ⟨hx, hb, hml, hr, hts, hown, hlocks, hin, hK, hG, hA, hP, hD⟩ := hAt
  have hS : va_S A s.heap s.heap [] := va_S.rf
  have hl : lv_has ls 3 [(0, .ref z), (1, .ref z1), (2, .int x2)] := hl
  have f34 := hts (.fieldLink RX7 34 "PlainLines$Tally" "hasWords" "Z") (by decide +kernel)
  have iX7 := (by decide +kernel : ∀ w ∈ u_ws RX7 TX7 10, w ∈ wsX7_wordsWithOnes)
  have f44 := hts (.fieldLink RX7 44 "PlainLines$Places" "goodOnes" "J") (by decide +kernel)
  have iX4 := (by decide +kernel : ∀ w ∈ u_ws RX4 TX4 6, w ∈ wsX7_wordsWithOnes)
  have f54 := hts (.fieldLink RX7 54 "PlainLines$Places" "n" "I") (by decide +kernel)
  have f9 := hts (.fieldLink RX7 9 "PlainLines$Tally" "words" "[I") (by decide +kernel)
  rw [f_X7_wordsWithOnes] at h
  refine lv_aload_n hx hb dX7_wordsWithOnes_0 rfl (lv_at hl 0 rfl) ?_
  refine va_get (D := D) (ci := 6) (v := .int v_hasWords) (C := RX7) (T := TX7) (N := 10) hx hb hts iX7 hown hK hP 0 rfl rfl 3 (by decide) f34 (fun _ h9 => h9) rfl dX7_wordsWithOnes_1 ?_
  obtain ⟨⟨mf_1, mc_2, mc_3⟩, hR_4, h⟩ := gx_b h
  refine gJoin (Pj := fun H locs ls => va_P D vwCl [(z, .inr (6, [.ref z_words, .ref z_rows, .ref z_failures, .int mf_1, .int v_hasRows, .int v_hasFailures, .ref z_stepWords, .ref z_plain, .ref z_factors, .ref z_lostByLost])), (z1, .inr (3, [.int v1_n, .int v1_p, .int v1_q, .long v1_goodOnes, .long v1_frozenOnes, .ref z1_uppers])), (z_stepWords, .inl (cy 1, 32, .inr (.inl mc_2))), (z_words, .inl (cy 0, 33, .inl mc_3))] H ∧ va_D A [(z, .inr (6, [.ref z_words, .ref z_rows, .ref z_failures, .int mf_1, .int v_hasRows, .int v_hasFailures, .ref z_stepWords, .ref z_plain, .ref z_factors, .ref z_lostByLost])), (z1, .inr (3, [.int v1_n, .int v1_p, .int v1_q, .long v1_goodOnes, .long v1_frozenOnes, .ref z1_uppers])), (z_stepWords, .inl (cy 1, 32, .inr (.inl mc_2))), (z_words, .inl (cy 0, 33, .inl mc_3))] ∧ va_S A s.heap H locs ∧ lv_has ls 3 [(0, .ref z), (1, .ref z1), (2, .int x2)]) (pcM := 33) (st := []) ?_ (fun hJ33 => ?_)
  · intro H locs ls hp_
    obtain ⟨hP, hD, hS, hl⟩ := hp_
    clear hR_4
    refine lv_aload_n hx hb dX7_wordsWithOnes_33 rfl (lv_at hl 0 rfl) ?_
    refine va_get (D := D) (ci := 6) (v := .ref z_words) (C := RX7) (T := TX7) (N := 10) hx hb hts iX7 hown hK hP 0 rfl rfl 0 (by decide) f9 (fun _ h9 => h9) rfl dX7_wordsWithOnes_34 ?_
    refine lv_iload_n hx hb dX7_wordsWithOnes_37 rfl (lv_at hl 2 rfl) ?_
    obtain ⟨hi_, h⟩ := gx_ix h
    refine va_iald hx hb hK hP 3 0 rfl rfl hi_ dX7_wordsWithOnes_38 ?_
    cases h
    exact gRi hx hb hr hlocks hP hD hS dX7_wordsWithOnes_39
  · have h := hR_4
    refine lv_if_ne (tgt := 33) hx hb dX7_wordsWithOnes_4 (by decide) (fun c_5 => ?_) (fun c_5 => ?_)
    · have h := gx_f c_5 h
      have hl := lv_sub (l' := [(0, .ref z), (1, .ref z1), (2, .int x2)]) hl [0, 1, 2] rfl
      cases h
      exact hJ33 _ _ _ ⟨hP, hD, hS, hl⟩
    · have h := gx_t c_5 h
      refine lv_aload_n hx hb dX7_wordsWithOnes_7 rfl (lv_at hl 0 rfl) ?_
      refine lv_aload_n hx hb dX7_wordsWithOnes_8 rfl (lv_at hl 1 rfl) ?_
      refine va_get (D := D) (ci := 3) (v := .long v1_goodOnes) (C := RX4) (T := TX4) (N := 6) hx hb hts iX4 hown hK hP 1 rfl rfl 3 (by decide) f44 (fun _ h9 => h9) rfl dX7_wordsWithOnes_9 ?_
      refine lv_aload_n hx hb dX7_wordsWithOnes_12 rfl (lv_at hl 1 rfl) ?_
      refine lv_lconst (v := 0) hx hb dX7_wordsWithOnes_13 (by decide) ?_
      obtain ⟨r_6, hc_7, h⟩ := gx_b h
      refine gCalll (wr := [(z, .inr (6, [.ref z_words, .ref z_rows, .ref z_failures, .int v_hasWords, .int v_hasRows, .int v_hasFailures, .ref z_stepWords, .ref z_plain, .ref z_factors, .ref z_lostByLost])), (z_stepWords, .inl (cy 1, 32, .inr (.inl v_stepWordsc))), (z_words, .inl (cy 0, 33, .inl v_wordsc))]) (va_runV (As := [.long 0]) (rest := [.long v1_goodOnes, .ref z]) ⟨hx, hb, hml, hown, hts⟩ (c_X4_wordOf l D cy t s.heap.size K z1 z1_uppers v1_n v1_p v1_q v1_goodOnes v1_frozenOnes 0 r_6 hc_7) (cwV 1 hts gX7_wordsWithOnes_X4_wordOf rfl rfl rfl (by decide +kernel) ⟨Nat.le_of_ble_eq_true rfl, Nat.le_of_ble_eq_true rfl⟩) ⟨gBlind, va_recv hK hP (ci := 3) (q0 := 1) rfl rfl, fun U hU hW => ⟨rfl, gPre.call hK hG hA hP hD hS [1] (by decide) rfl U hU hW⟩⟩ rfl rfl hl.1 rfl (lv_room (Nat.le_of_ble_eq_true rfl)) dX7_wordsWithOnes_14 ⟨Nat.le_of_ble_eq_true rfl, Nat.le_of_ble_eq_true rfl⟩) hA hP hD hS [1] [0, 2, 3] rfl rfl (by decide) (by decide) (fun H locs hP hD hS => ?_)
      have hP := hP.sub (ws' := [(z, .inr (6, [.ref z_words, .ref z_rows, .ref z_failures, .int v_hasWords, .int v_hasRows, .int v_hasFailures, .ref z_stepWords, .ref z_plain, .ref z_factors, .ref z_lostByLost])), (z1, .inr (3, [.int v1_n, .int v1_p, .int v1_q, .long v1_goodOnes, .long v1_frozenOnes, .ref z1_uppers])), (z_stepWords, .inl (cy 1, 32, .inr (.inl v_stepWordsc))), (z_words, .inl (cy 0, 33, .inl v_wordsc))]) [0, 3, 1, 2] rfl
      have hD := hD.sub (ws' := [(z, .inr (6, [.ref z_words, .ref z_rows, .ref z_failures, .int v_hasWords, .int v_hasRows, .int v_hasFailures, .ref z_stepWords, .ref z_plain, .ref z_factors, .ref z_lostByLost])), (z1, .inr (3, [.int v1_n, .int v1_p, .int v1_q, .long v1_goodOnes, .long v1_frozenOnes, .ref z1_uppers])), (z_stepWords, .inl (cy 1, 32, .inr (.inl v_stepWordsc))), (z_words, .inl (cy 0, 33, .inl v_wordsc))]) [0, 3, 1, 2] (by decide) rfl
      refine lv_aload_n hx hb dX7_wordsWithOnes_17 rfl (lv_at hl 1 rfl) ?_
      refine va_get (D := D) (ci := 3) (v := .int v1_n) (C := RX4) (T := TX4) (N := 6) hx hb hts iX4 hown hK hP 1 rfl rfl 0 (by decide) f54 (fun _ h9 => h9) rfl dX7_wordsWithOnes_18 ?_
      refine lv_aload_n hx hb dX7_wordsWithOnes_21 rfl (lv_at hl 0 rfl) ?_
      refine va_get (D := D) (ci := 6) (v := .ref z_words) (C := RX7) (T := TX7) (N := 10) hx hb hts iX7 hown hK hP 0 rfl rfl 0 (by decide) f9 (fun _ h9 => h9) rfl dX7_wordsWithOnes_22 ?_
      obtain ⟨⟨o_8, o_9⟩, hc_10, h⟩ := gx_b h
      refine gCallv (wr := [(z1, .inr (3, [.int v1_n, .int v1_p, .int v1_q, .long v1_goodOnes, .long v1_frozenOnes, .ref z1_uppers]))]) (va_runV (As := [.long v1_goodOnes, .long r_6, .int v1_n, .ref z_words]) (rest := []) ⟨hx, hb, hml, hown, hts⟩ (c_X7_countByOnes l D cy t H.size K z z_stepWords z_words z_words z_rows z_failures z_plain z_factors z_lostByLost v_hasWords v_hasRows v_hasFailures v_stepWordsc v_wordsc 33 v1_goodOnes r_6 v1_n o_8 o_9 hc_10) (cwV 4 hts gX7_wordsWithOnes_X7_countByOnes rfl rfl rfl (by decide +kernel) ⟨Nat.le_of_ble_eq_true rfl, Nat.le_of_ble_eq_true rfl⟩) ⟨gBlind, va_recv hK hP (ci := 6) (q0 := 0) rfl rfl, fun U hU hW => ⟨rfl, gPre.call hK hG hA hP hD hS [0, 2, 3] (by decide) rfl U hU hW⟩⟩ rfl rfl hl.1 rfl (lv_room (Nat.le_of_ble_eq_true rfl)) dX7_wordsWithOnes_25 ⟨Nat.le_of_ble_eq_true rfl, Nat.le_of_ble_eq_true rfl⟩) hA hP hD hS [0, 2, 3] [1] rfl rfl (by decide) (by decide) (fun H locs hP hD hS => ?_)
      have hP := hP.sub (ws' := [(z, .inr (6, [.ref z_words, .ref z_rows, .ref z_failures, .int v_hasWords, .int v_hasRows, .int v_hasFailures, .ref z_stepWords, .ref z_plain, .ref z_factors, .ref z_lostByLost])), (z1, .inr (3, [.int v1_n, .int v1_p, .int v1_q, .long v1_goodOnes, .long v1_frozenOnes, .ref z1_uppers])), (z_stepWords, .inl (cy 1, 32, .inr (.inl o_8))), (z_words, .inl (cy 0, 33, .inl o_9))]) [1, 0, 2, 3] rfl
      have hD := hD.sub (ws' := [(z, .inr (6, [.ref z_words, .ref z_rows, .ref z_failures, .int v_hasWords, .int v_hasRows, .int v_hasFailures, .ref z_stepWords, .ref z_plain, .ref z_factors, .ref z_lostByLost])), (z1, .inr (3, [.int v1_n, .int v1_p, .int v1_q, .long v1_goodOnes, .long v1_frozenOnes, .ref z1_uppers])), (z_stepWords, .inl (cy 1, 32, .inr (.inl o_8))), (z_words, .inl (cy 0, 33, .inl o_9))]) [1, 0, 2, 3] (by decide) rfl
      refine lv_aload_n hx hb dX7_wordsWithOnes_28 rfl (lv_at hl 0 rfl) ?_
      refine lv_iconst (v := 1) hx hb dX7_wordsWithOnes_29 (by decide) ?_
      refine va_put (D := D) (ci := 6) (v := .int 1) (ty := .boolean) (C := RX7) (T := TX7) (N := 10) hx hb hts iX7 tyX7 tyX7_ok nmX7 hown hK hP hD hS 0 rfl rfl 3 (by decide) f34 (fun _ h9 => h9) rfl (by decide +kernel) rfl rfl (Nat.le_of_ble_eq_true rfl) dX7_wordsWithOnes_30 (fun H locs hP hD hS => ?_)
      have hP : va_P D vwCl [(z, .inr (6, [.ref z_words, .ref z_rows, .ref z_failures, .int 1, .int v_hasRows, .int v_hasFailures, .ref z_stepWords, .ref z_plain, .ref z_factors, .ref z_lostByLost])), (z1, .inr (3, [.int v1_n, .int v1_p, .int v1_q, .long v1_goodOnes, .long v1_frozenOnes, .ref z1_uppers])), (z_stepWords, .inl (cy 1, 32, .inr (.inl o_8))), (z_words, .inl (cy 0, 33, .inl o_9))] H := hP
      have hD : va_D A [(z, .inr (6, [.ref z_words, .ref z_rows, .ref z_failures, .int 1, .int v_hasRows, .int v_hasFailures, .ref z_stepWords, .ref z_plain, .ref z_factors, .ref z_lostByLost])), (z1, .inr (3, [.int v1_n, .int v1_p, .int v1_q, .long v1_goodOnes, .long v1_frozenOnes, .ref z1_uppers])), (z_stepWords, .inl (cy 1, 32, .inr (.inl o_8))), (z_words, .inl (cy 0, 33, .inl o_9))] := hD
      have hl := lv_sub (l' := [(0, .ref z), (1, .ref z1), (2, .int x2)]) hl [0, 1, 2] rfl
      cases h
      exact hJ33 _ _ _ ⟨hP, hD, hS, hl⟩

def fL_X7_multiplyOut_27 (K : Nat) (l3 : Int32) (l1 : Int32) : Nat → Int32 × (Nat → Int32) → Option (Int32 × (Nat → Int32))
  | 0, _ => none
  | k + 1, (l4, u1) =>
    if l4 < 1 then
      some (l4, u1)
    else
      gIx l4 17 <|
      Option.bind (α := Int32) (
        if l1 ≤ l3 then
          gIx (l4 - 1) 17 <|
          some (u1 (Int32.toNatClampNeg (l4 - 1)))
        else
          gIx (l4 - 1) 17 <|
          some (-(u1 (Int32.toNatClampNeg (l4 - 1))))) fun ms_12 =>
      gLet ((u1 (Int32.toNatClampNeg l4)) + ms_12) fun y_14 =>
      gIx l4 17 <|
      gLet (upd u1 (Int32.toNatClampNeg l4) y_14) fun w_15 =>
      gLet (l4 + (-1)) fun y4_16 =>
      fL_X7_multiplyOut_27 K l3 l1 k (y4_16, w_15)
def fL_X7_multiplyOut_17 (K : Nat) (l1 : Int32) (l2 : Int32) : Nat → Int32 × (Nat → Int32) → Option (Int32 × (Nat → Int32))
  | 0, _ => none
  | k + 1, (l3, u1) =>
    if l2 ≤ l3 then
      some (l3, u1)
    else
      gLet (l3 + 1) fun y4_21 =>
      Option.bind (fL_X7_multiplyOut_27 K l3 l1 K (y4_21, u1)) fun (o_22, o_23) =>
      gLet (l3 + 1) fun y3_24 =>
      fL_X7_multiplyOut_17 K l1 l2 k (y3_24, o_23)
def f_X7_multiplyOut (K : Nat) (x1 : Int32) (x2 : Int32) (v_factorsc : Nat → Int32) : Option ((Nat → Int32)) :=
  Option.bind (f_J7_fill_53178 K 0 v_factorsc 17) fun o_1 =>
  gIx 0 17 <|
  gLet (upd o_1 (Int32.toNatClampNeg 0) 1) fun w_2 =>
  Option.bind (fL_X7_multiplyOut_17 K x1 x2 K (0, w_2)) fun (o_25, o_26) =>
  some o_26
set_option maxHeartbeats 4000000 in
set_option maxRecDepth 100000 in
theorem c_X7_multiplyOut (l : Launch) (D : va_G) (cy : Nat → ClassId) (t sz K : Nat) (z : Nat) (z_factors : Nat) (z_words : Nat) (z_rows : Nat) (z_failures : Nat) (z_stepWords : Nat) (z_plain : Nat) (z_lostByLost : Nat) (v_hasWords : Int32) (v_hasRows : Int32) (v_hasFailures : Int32) (v_factorsc : Nat → Int32) (x1 : Int32) (x2 : Int32) (o_v_factorsc : Nat → Int32) (h : f_X7_multiplyOut K x1 x2 v_factorsc = some o_v_factorsc) : gMv l D cy t sz yX7_multiplyOut wsX7_multiplyOut 1 23 [.ref z, .int x1, .int x2] [(z, .inr (6, [.ref z_words, .ref z_rows, .ref z_failures, .int v_hasWords, .int v_hasRows, .int v_hasFailures, .ref z_stepWords, .ref z_plain, .ref z_factors, .ref z_lostByLost])), (z_factors, .inl (cy 0, 17, .inl v_factorsc))] [(z, .inr (6, [.ref z_words, .ref z_rows, .ref z_failures, .int v_hasWords, .int v_hasRows, .int v_hasFailures, .ref z_stepWords, .ref z_plain, .ref z_factors, .ref z_lostByLost])), (z_factors, .inl (cy 0, 17, .inl o_v_factorsc))] := by
  refine gBv (cc := cX7_multiplyOut) (maxL := 5) (ret := none) (by decide) rfl (Nat.le_of_ble_eq_true rfl) ?_
  intro p e s m below meth c A ls hAt hl
  obtain ⟨hx, hb, hml, hr, hts, hown, hlocks, hin, hK, hG, hA, hP, hD⟩ := hAt
  have hS : va_S A s.heap s.heap [] := va_S.rf
  have hl : lv_has ls 5 [(0, .ref z), (1, .int x1), (2, .int x2)] := hl
  have f28 := hts (.fieldLink RX7 28 "PlainLines$Tally" "factors" "[I") (by decide +kernel)
  have iX7 := (by decide +kernel : ∀ w ∈ u_ws RX7 TX7 10, w ∈ wsX7_multiplyOut)
  rw [f_X7_multiplyOut] at h
  refine lv_aload_n hx hb dX7_multiplyOut_0 rfl (lv_at hl 0 rfl) ?_
  refine va_get (D := D) (ci := 6) (v := .ref z_factors) (C := RX7) (T := TX7) (N := 10) hx hb hts iX7 hown hK hP 0 rfl rfl 8 (by decide) f28 (fun _ h9 => h9) rfl dX7_multiplyOut_1 ?_
  refine lv_iconst (v := 0) hx hb dX7_multiplyOut_4 (by decide) ?_
  obtain ⟨o_1, hc_2, h⟩ := gx_b h
  refine gCallv (wr := [(z, .inr (6, [.ref z_words, .ref z_rows, .ref z_failures, .int v_hasWords, .int v_hasRows, .int v_hasFailures, .ref z_stepWords, .ref z_plain, .ref z_factors, .ref z_lostByLost]))]) (va_runS (As := [.ref z_factors, .int 0]) (rest := []) ⟨hx, hb, hml, hown, hts⟩ (c_J7_fill_53178 l D cy t s.heap.size K z_factors v_factorsc 17 0 o_1 hc_2) (va_cwS 2 hts gX7_multiplyOut_J7_fill_53178 rfl rfl rfl (by decide +kernel) ⟨Nat.le_of_ble_eq_true rfl, Nat.le_of_ble_eq_true rfl⟩) ⟨gBlind, fun U hU hW => ⟨rfl, gPre.call hK hG hA hP hD hS [1] (by decide) rfl U hU hW⟩⟩ rfl rfl hl.1 rfl (lv_room (Nat.le_of_ble_eq_true rfl)) dX7_multiplyOut_5 ⟨Nat.le_of_ble_eq_true rfl, Nat.le_of_ble_eq_true rfl⟩) hA hP hD hS [1] [0] rfl rfl (by decide) (by decide) (fun H locs hP hD hS => ?_)
  have hP : va_P D vwCl [(z, .inr (6, [.ref z_words, .ref z_rows, .ref z_failures, .int v_hasWords, .int v_hasRows, .int v_hasFailures, .ref z_stepWords, .ref z_plain, .ref z_factors, .ref z_lostByLost])), (z_factors, .inl (cy 0, 17, .inl o_1))] H := hP
  have hD : va_D A [(z, .inr (6, [.ref z_words, .ref z_rows, .ref z_failures, .int v_hasWords, .int v_hasRows, .int v_hasFailures, .ref z_stepWords, .ref z_plain, .ref z_factors, .ref z_lostByLost])), (z_factors, .inl (cy 0, 17, .inl o_1))] := hD
  refine lv_aload_n hx hb dX7_multiplyOut_8 rfl (lv_at hl 0 rfl) ?_
  refine va_get (D := D) (ci := 6) (v := .ref z_factors) (C := RX7) (T := TX7) (N := 10) hx hb hts iX7 hown hK hP 0 rfl rfl 8 (by decide) f28 (fun _ h9 => h9) rfl dX7_multiplyOut_9 ?_
  refine lv_iconst (v := 0) hx hb dX7_multiplyOut_12 (by decide) ?_
  refine lv_iconst (v := 1) hx hb dX7_multiplyOut_13 (by decide) ?_
  obtain ⟨hi_, h⟩ := gx_ix h
  refine va_iast hx hb hK hP hD hS 1 0 rfl rfl hi_ dX7_multiplyOut_14 (fun H locs hP hD hS => ?_)
  obtain ⟨w_3, e_w_3⟩ : ∃ y : Nat → Int32, y = (upd o_1 (Int32.toNatClampNeg 0) 1) := ⟨_, rfl⟩
  have h := gx_let e_w_3 h
  have hP : va_P D vwCl [(z, .inr (6, [.ref z_words, .ref z_rows, .ref z_failures, .int v_hasWords, .int v_hasRows, .int v_hasFailures, .ref z_stepWords, .ref z_plain, .ref z_factors, .ref z_lostByLost])), (z_factors, .inl (cy 0, 17, .inl (upd o_1 (Int32.toNatClampNeg 0) 1)))] H := hP
  have hD : va_D A [(z, .inr (6, [.ref z_words, .ref z_rows, .ref z_failures, .int v_hasWords, .int v_hasRows, .int v_hasFailures, .ref z_stepWords, .ref z_plain, .ref z_factors, .ref z_lostByLost])), (z_factors, .inl (cy 0, 17, .inl (upd o_1 (Int32.toNatClampNeg 0) 1)))] := hD
  rw [← e_w_3] at hP hD
  refine lv_iconst (v := 0) hx hb dX7_multiplyOut_15 (by decide) ?_
  refine lv_istore_n (lv' := [(3, .int 0), (0, .ref z), (1, .int x1), (2, .int x2)]) hx hb dX7_multiplyOut_16 rfl hl (by decide) rfl (fun ls hl => ?_)
  obtain ⟨⟨o_4, o_5⟩, hL_6, h⟩ := gx_b h
  refine gJoin (Pj := fun H locs ls => va_P D vwCl [(z, .inr (6, [.ref z_words, .ref z_rows, .ref z_failures, .int v_hasWords, .int v_hasRows, .int v_hasFailures, .ref z_stepWords, .ref z_plain, .ref z_factors, .ref z_lostByLost])), (z_factors, .inl (cy 0, 17, .inl o_5))] H ∧ va_D A [(z, .inr (6, [.ref z_words, .ref z_rows, .ref z_failures, .int v_hasWords, .int v_hasRows, .int v_hasFailures, .ref z_stepWords, .ref z_plain, .ref z_factors, .ref z_lostByLost])), (z_factors, .inl (cy 0, 17, .inl o_5))] ∧ va_S A s.heap H locs ∧ lv_has ls 5 [(3, .int o_4), (0, .ref z), (1, .int x1), (2, .int x2)]) (pcM := 82) (st := []) ?_ (fun hJ82 => ?_)
  · intro H locs ls hp_
    obtain ⟨hP, hD, hS, hl⟩ := hp_
    clear hL_6
    cases h
    exact gRv hx hb hr hlocks hP hD hS dX7_multiplyOut_82
  · refine gLoop (Hy := fun k_ v_ => fL_X7_multiplyOut_17 K x1 x2 k_ v_ = some (o_4, o_5)) (Pl := fun (v_ : Int32 × (Nat → Int32)) H locs ls => match v_ with | (a_7, a_8) => va_P D vwCl [(z, .inr (6, [.ref z_words, .ref z_rows, .ref z_failures, .int v_hasWords, .int v_hasRows, .int v_hasFailures, .ref z_stepWords, .ref z_plain, .ref z_factors, .ref z_lostByLost])), (z_factors, .inl (cy 0, 17, .inl a_8))] H ∧ va_D A [(z, .inr (6, [.ref z_words, .ref z_rows, .ref z_failures, .int v_hasWords, .int v_hasRows, .int v_hasFailures, .ref z_stepWords, .ref z_plain, .ref z_factors, .ref z_lostByLost])), (z_factors, .inl (cy 0, 17, .inl a_8))] ∧ va_S A s.heap H locs ∧ lv_has ls 5 [(3, .int a_7), (0, .ref z), (1, .int x1), (2, .int x2)]) (pcH := 17) (fun _ q_ => by cases q_) ?_ K (0, w_3) hL_6 ⟨hP, hD, hS, hl⟩
    clear hL_6 h hP hD hS hl
    intro k_ ih ⟨a_7, a_8⟩ H locs ls h hp_
    obtain ⟨hP, hD, hS, hl⟩ := hp_
    have hP : va_P D vwCl [(z, .inr (6, [.ref z_words, .ref z_rows, .ref z_failures, .int v_hasWords, .int v_hasRows, .int v_hasFailures, .ref z_stepWords, .ref z_plain, .ref z_factors, .ref z_lostByLost])), (z_factors, .inl (cy 0, 17, .inl a_8))] H := hP
    have hD : va_D A [(z, .inr (6, [.ref z_words, .ref z_rows, .ref z_failures, .int v_hasWords, .int v_hasRows, .int v_hasFailures, .ref z_stepWords, .ref z_plain, .ref z_factors, .ref z_lostByLost])), (z_factors, .inl (cy 0, 17, .inl a_8))] := hD
    have hl : lv_has ls 5 [(3, .int a_7), (0, .ref z), (1, .int x1), (2, .int x2)] := hl
    change fL_X7_multiplyOut_17 K x1 x2 (k_ + 1) (a_7, a_8) = _ at h
    rw [fL_X7_multiplyOut_17] at h
    refine lv_iload_n hx hb dX7_multiplyOut_17 rfl (lv_at hl 0 rfl) ?_
    refine lv_iload_n hx hb dX7_multiplyOut_18 rfl (lv_at hl 3 rfl) ?_
    refine lv_icmp_ge (tgt := 82) hx hb dX7_multiplyOut_19 (by decide) (fun c_9 => ?_) (fun c_9 => ?_)
    · have h := gx_t c_9 h
      have hl := lv_sub (l' := [(3, .int a_7), (0, .ref z), (1, .int x1), (2, .int x2)]) hl [0, 1, 2, 3] rfl
      cases h
      exact hJ82 _ _ _ ⟨hP, hD, hS, hl⟩
    · have h := gx_f c_9 h
      refine lv_iload_n hx hb dX7_multiplyOut_22 rfl (lv_at hl 0 rfl) ?_
      refine lv_iconst (v := 1) hx hb dX7_multiplyOut_23 (by decide) ?_
      refine lv_iadd hx hb dX7_multiplyOut_24 ?_
      refine lv_topi (fun y4_10 e_y4_10 => ?_)
      have h := gx_let e_y4_10 h
      refine lv_istore (lv' := [(4, .int y4_10), (3, .int a_7), (0, .ref z), (1, .int x1), (2, .int x2)]) hx hb dX7_multiplyOut_25 hl (by decide) rfl (fun ls hl => ?_)
      obtain ⟨⟨o_11, o_12⟩, hL_13, h⟩ := gx_b h
      refine gJoin (Pj := fun H locs ls => va_P D vwCl [(z, .inr (6, [.ref z_words, .ref z_rows, .ref z_failures, .int v_hasWords, .int v_hasRows, .int v_hasFailures, .ref z_stepWords, .ref z_plain, .ref z_factors, .ref z_lostByLost])), (z_factors, .inl (cy 0, 17, .inl o_12))] H ∧ va_D A [(z, .inr (6, [.ref z_words, .ref z_rows, .ref z_failures, .int v_hasWords, .int v_hasRows, .int v_hasFailures, .ref z_stepWords, .ref z_plain, .ref z_factors, .ref z_lostByLost])), (z_factors, .inl (cy 0, 17, .inl o_12))] ∧ va_S A s.heap H locs ∧ lv_has ls 5 [(4, .int o_11), (3, .int a_7), (0, .ref z), (1, .int x1), (2, .int x2)]) (pcM := 76) (st := []) ?_ (fun hJ76 => ?_)
      · intro H locs ls hp_
        obtain ⟨hP, hD, hS, hl⟩ := hp_
        clear hL_13
        obtain ⟨y3_14, e_y3_14⟩ : ∃ y : Int32, y = (a_7 + 1) := ⟨_, rfl⟩
        have h := gx_let e_y3_14 h
        refine lv_iinc (v := y3_14) (lv' := [(3, .int y3_14), (4, .int o_11), (0, .ref z), (1, .int x1), (2, .int x2)]) hx hb dX7_multiplyOut_76 hl (k := 1) rfl (by rw [e_y3_14]; rfl) (by decide) rfl (fun ls hl => ?_)
        refine lv_goto (tgt := 17) hx hb dX7_multiplyOut_79 (by decide) ?_
        exact ih (y3_14, o_12) _ _ _ h ⟨hP, hD, hS, lv_sub (l' := [(3, .int y3_14), (0, .ref z), (1, .int x1), (2, .int x2)]) hl [0, 2, 3, 4] rfl⟩
      · refine gLoop (Hy := fun k_ v_ => fL_X7_multiplyOut_27 K a_7 x1 k_ v_ = some (o_11, o_12)) (Pl := fun (v_ : Int32 × (Nat → Int32)) H locs ls => match v_ with | (a_15, a_16) => va_P D vwCl [(z, .inr (6, [.ref z_words, .ref z_rows, .ref z_failures, .int v_hasWords, .int v_hasRows, .int v_hasFailures, .ref z_stepWords, .ref z_plain, .ref z_factors, .ref z_lostByLost])), (z_factors, .inl (cy 0, 17, .inl a_16))] H ∧ va_D A [(z, .inr (6, [.ref z_words, .ref z_rows, .ref z_failures, .int v_hasWords, .int v_hasRows, .int v_hasFailures, .ref z_stepWords, .ref z_plain, .ref z_factors, .ref z_lostByLost])), (z_factors, .inl (cy 0, 17, .inl a_16))] ∧ va_S A s.heap H locs ∧ lv_has ls 5 [(4, .int a_15), (3, .int a_7), (0, .ref z), (1, .int x1), (2, .int x2)]) (pcH := 27) (fun _ q_ => by cases q_) ?_ K (y4_10, a_8) hL_13 ⟨hP, hD, hS, hl⟩
        clear hL_13 h hP hD hS hl
        intro k_ ih ⟨a_15, a_16⟩ H locs ls h hp_
        obtain ⟨hP, hD, hS, hl⟩ := hp_
        have hP : va_P D vwCl [(z, .inr (6, [.ref z_words, .ref z_rows, .ref z_failures, .int v_hasWords, .int v_hasRows, .int v_hasFailures, .ref z_stepWords, .ref z_plain, .ref z_factors, .ref z_lostByLost])), (z_factors, .inl (cy 0, 17, .inl a_16))] H := hP
        have hD : va_D A [(z, .inr (6, [.ref z_words, .ref z_rows, .ref z_failures, .int v_hasWords, .int v_hasRows, .int v_hasFailures, .ref z_stepWords, .ref z_plain, .ref z_factors, .ref z_lostByLost])), (z_factors, .inl (cy 0, 17, .inl a_16))] := hD
        have hl : lv_has ls 5 [(4, .int a_15), (3, .int a_7), (0, .ref z), (1, .int x1), (2, .int x2)] := hl
        change fL_X7_multiplyOut_27 K a_7 x1 (k_ + 1) (a_15, a_16) = _ at h
        rw [fL_X7_multiplyOut_27] at h
        refine lv_iload hx hb dX7_multiplyOut_27 (lv_at hl 0 rfl) ?_
        refine lv_iconst (v := 1) hx hb dX7_multiplyOut_29 (by decide) ?_
        refine lv_icmp_lt (tgt := 76) hx hb dX7_multiplyOut_30 (by decide) (fun c_17 => ?_) (fun c_17 => ?_)
        · have h := gx_t c_17 h
          have hl := lv_sub (l' := [(4, .int a_15), (3, .int a_7), (0, .ref z), (1, .int x1), (2, .int x2)]) hl [0, 1, 2, 3, 4] rfl
          cases h
          exact hJ76 _ _ _ ⟨hP, hD, hS, hl⟩
        · have h := gx_f c_17 h
          refine lv_aload_n hx hb dX7_multiplyOut_33 rfl (lv_at hl 2 rfl) ?_
          refine va_get (D := D) (ci := 6) (v := .ref z_factors) (C := RX7) (T := TX7) (N := 10) hx hb hts iX7 hown hK hP 0 rfl rfl 8 (by decide) f28 (fun _ h9 => h9) rfl dX7_multiplyOut_34 ?_
          refine lv_iload hx hb dX7_multiplyOut_37 (lv_at hl 0 rfl) ?_
          refine lv_dup2_11 hx hb dX7_multiplyOut_39 rfl rfl ?_
          obtain ⟨hi_, h⟩ := gx_ix h
          refine va_iald hx hb hK hP 1 0 rfl rfl hi_ dX7_multiplyOut_40 ?_
          refine lv_iload_n hx hb dX7_multiplyOut_41 rfl (lv_at hl 1 rfl) ?_
          refine lv_iload_n hx hb dX7_multiplyOut_42 rfl (lv_at hl 3 rfl) ?_
          obtain ⟨ms_18, hR_19, h⟩ := gx_b h
          refine gJoin (Pj := fun H locs ls => va_P D vwCl [(z, .inr (6, [.ref z_words, .ref z_rows, .ref z_failures, .int v_hasWords, .int v_hasRows, .int v_hasFailures, .ref z_stepWords, .ref z_plain, .ref z_factors, .ref z_lostByLost])), (z_factors, .inl (cy 0, 17, .inl a_16))] H ∧ va_D A [(z, .inr (6, [.ref z_words, .ref z_rows, .ref z_failures, .int v_hasWords, .int v_hasRows, .int v_hasFailures, .ref z_stepWords, .ref z_plain, .ref z_factors, .ref z_lostByLost])), (z_factors, .inl (cy 0, 17, .inl a_16))] ∧ va_S A s.heap H locs ∧ lv_has ls 5 [(4, .int a_15), (3, .int a_7), (0, .ref z), (1, .int x1), (2, .int x2)]) (pcM := 68) (st := [.int ms_18, .int (a_16 (Int32.toNatClampNeg a_15)), .int a_15, .ref z_factors]) ?_ (fun hJ68 => ?_)
          · intro H locs ls hp_
            obtain ⟨hP, hD, hS, hl⟩ := hp_
            clear hR_19
            refine lv_iadd hx hb dX7_multiplyOut_68 ?_
            refine lv_topi (fun y_20 e_y_20 => ?_)
            have h := gx_let e_y_20 h
            obtain ⟨hi_, h⟩ := gx_ix h
            refine va_iast hx hb hK hP hD hS 1 0 rfl rfl hi_ dX7_multiplyOut_69 (fun H locs hP hD hS => ?_)
            obtain ⟨w_21, e_w_21⟩ : ∃ y : Nat → Int32, y = (upd a_16 (Int32.toNatClampNeg a_15) y_20) := ⟨_, rfl⟩
            have h := gx_let e_w_21 h
            have hP : va_P D vwCl [(z, .inr (6, [.ref z_words, .ref z_rows, .ref z_failures, .int v_hasWords, .int v_hasRows, .int v_hasFailures, .ref z_stepWords, .ref z_plain, .ref z_factors, .ref z_lostByLost])), (z_factors, .inl (cy 0, 17, .inl (upd a_16 (Int32.toNatClampNeg a_15) y_20)))] H := hP
            have hD : va_D A [(z, .inr (6, [.ref z_words, .ref z_rows, .ref z_failures, .int v_hasWords, .int v_hasRows, .int v_hasFailures, .ref z_stepWords, .ref z_plain, .ref z_factors, .ref z_lostByLost])), (z_factors, .inl (cy 0, 17, .inl (upd a_16 (Int32.toNatClampNeg a_15) y_20)))] := hD
            rw [← e_w_21] at hP hD
            obtain ⟨y4_22, e_y4_22⟩ : ∃ y : Int32, y = (a_15 + (-1)) := ⟨_, rfl⟩
            have h := gx_let e_y4_22 h
            refine lv_iinc (v := y4_22) (lv' := [(4, .int y4_22), (3, .int a_7), (0, .ref z), (1, .int x1), (2, .int x2)]) hx hb dX7_multiplyOut_70 hl (k := 0) rfl (by rw [e_y4_22]; rfl) (by decide) rfl (fun ls hl => ?_)
            refine lv_goto (tgt := 27) hx hb dX7_multiplyOut_73 (by decide) ?_
            exact ih (y4_22, w_21) _ _ _ h ⟨hP, hD, hS, lv_sub (l' := [(4, .int y4_22), (3, .int a_7), (0, .ref z), (1, .int x1), (2, .int x2)]) hl [0, 1, 2, 3, 4] rfl⟩
          · have h := hR_19
            refine lv_icmp_ge (tgt := 59) hx hb dX7_multiplyOut_43 (by decide) (fun c_23 => ?_) (fun c_23 => ?_)
            · have h := gx_t c_23 h
              refine lv_aload_n hx hb dX7_multiplyOut_59 rfl (lv_at hl 2 rfl) ?_
              refine va_get (D := D) (ci := 6) (v := .ref z_factors) (C := RX7) (T := TX7) (N := 10) hx hb hts iX7 hown hK hP 0 rfl rfl 8 (by decide) f28 (fun _ h9 => h9) rfl dX7_multiplyOut_60 ?_
              refine lv_iload hx hb dX7_multiplyOut_63 (lv_at hl 0 rfl) ?_
              refine lv_iconst (v := 1) hx hb dX7_multiplyOut_65 (by decide) ?_
              refine lv_isub hx hb dX7_multiplyOut_66 ?_
              obtain ⟨hi_, h⟩ := gx_ix h
              refine va_iald hx hb hK hP 1 0 rfl rfl hi_ dX7_multiplyOut_67 ?_
              have hl := lv_sub (l' := [(4, .int a_15), (3, .int a_7), (0, .ref z), (1, .int x1), (2, .int x2)]) hl [0, 1, 2, 3, 4] rfl
              cases h
              exact hJ68 _ _ _ ⟨hP, hD, hS, hl⟩
            · have h := gx_f c_23 h
              refine lv_aload_n hx hb dX7_multiplyOut_46 rfl (lv_at hl 2 rfl) ?_
              refine va_get (D := D) (ci := 6) (v := .ref z_factors) (C := RX7) (T := TX7) (N := 10) hx hb hts iX7 hown hK hP 0 rfl rfl 8 (by decide) f28 (fun _ h9 => h9) rfl dX7_multiplyOut_47 ?_
              refine lv_iload hx hb dX7_multiplyOut_50 (lv_at hl 0 rfl) ?_
              refine lv_iconst (v := 1) hx hb dX7_multiplyOut_52 (by decide) ?_
              refine lv_isub hx hb dX7_multiplyOut_53 ?_
              obtain ⟨hi_, h⟩ := gx_ix h
              refine va_iald hx hb hK hP 1 0 rfl rfl hi_ dX7_multiplyOut_54 ?_
              refine lv_ineg hx hb dX7_multiplyOut_55 ?_
              refine lv_goto (tgt := 68) hx hb dX7_multiplyOut_56 (by decide) ?_
              have hl := lv_sub (l' := [(4, .int a_15), (3, .int a_7), (0, .ref z), (1, .int x1), (2, .int x2)]) hl [0, 1, 2, 3, 4] rfl
              cases h
              exact hJ68 _ _ _ ⟨hP, hD, hS, hl⟩

def fL_X7_turnAcross_33 (K : Nat) (l3 : Int32) (l1 : Int32) (u2 : Nat → Int32) (u3 : Nat → Int32) : Nat → Int32 × (Nat → Int32) → Option (Int32 × (Nat → Int32))
  | 0, _ => none
  | k + 1, (l4, u1) =>
    if l1 < l4 then
      some (l4, u1)
    else
      gIx l4 17 <|
      gIx l3 17 <|
      gIx l4 17 <|
      gLet ((u1 (Int32.toNatClampNeg l4)) + ((u2 (Int32.toNatClampNeg l3)) * (u3 (Int32.toNatClampNeg l4)))) fun y_11 =>
      gIx l4 17 <|
      gLet (upd u1 (Int32.toNatClampNeg l4) y_11) fun w_12 =>
      gLet (l4 + 1) fun y4_13 =>
      fL_X7_turnAcross_33 K l3 l1 u2 u3 k (y4_13, w_12)
def fL_X7_turnAcross_10 (K : Nat) (l1 : Int32) (u2 : Nat → Int32) : Nat → Int32 × (Nat → Int32) × (Nat → Int32) → Option (Int32 × (Nat → Int32) × (Nat → Int32))
  | 0, _ => none
  | k + 1, (l3, u1, u3) =>
    if l1 < l3 then
      some (l3, u1, u3)
    else
      gIx l3 17 <|
      if (u2 (Int32.toNatClampNeg l3)) = 0 then
        gLet (l3 + 1) fun y3_19 =>
        fL_X7_turnAcross_10 K l1 u2 k (y3_19, u1, u3)
      else
        Option.bind (f_X7_multiplyOut K l3 l1 u3) fun o_20 =>
        Option.bind (fL_X7_turnAcross_33 K l3 l1 u2 o_20 K (0, u1)) fun (o_21, o_22) =>
        gLet (l3 + 1) fun y3_23 =>
        fL_X7_turnAcross_10 K l1 u2 k (y3_23, o_22, o_20)
def fL_X7_turnAcross_77 (K : Nat) (l1 : Int32) (l2 : Int32) : Nat → Int32 × (Nat → Int32) → Option (Int32 × (Nat → Int32))
  | 0, _ => none
  | k + 1, (l3, u1) =>
    if l1 < l3 then
      some (l3, u1)
    else
      gIx l3 17 <|
      gLet ((u1 (Int32.toNatClampNeg l3)) >>> (l2 &&& 31)) fun y_32 =>
      gIx l3 17 <|
      gLet (upd u1 (Int32.toNatClampNeg l3) y_32) fun w_33 =>
      gLet (l3 + 1) fun y3_34 =>
      fL_X7_turnAcross_77 K l1 l2 k (y3_34, w_33)
def f_X7_turnAcross (K : Nat) (x1 : Int32) (x2 : Int32) (v_rowsc : Nat → Int32) (v_plainc : Nat → Int32) (v_factorsc : Nat → Int32) : Option ((Nat → Int32) × (Nat → Int32)) :=
  Option.bind (f_J7_fill_53178 K 0 v_rowsc 17) fun o_1 =>
  Option.bind (fL_X7_turnAcross_10 K x1 v_plainc K (0, o_1, v_factorsc)) fun (o_24, o_25, o_26) =>
  Option.bind (fL_X7_turnAcross_77 K x1 x2 K (0, o_25)) fun (o_35, o_36) =>
  some (o_36, o_26)
set_option maxHeartbeats 4000000 in
set_option maxRecDepth 100000 in
theorem c_X7_turnAcross (l : Launch) (D : va_G) (cy : Nat → ClassId) (t sz K : Nat) (z : Nat) (z_rows : Nat) (z_plain : Nat) (z_factors : Nat) (z_words : Nat) (z_failures : Nat) (z_stepWords : Nat) (z_lostByLost : Nat) (v_hasWords : Int32) (v_hasRows : Int32) (v_hasFailures : Int32) (v_rowsc : Nat → Int32) (v_plainc : Nat → Int32) (v_factorsc : Nat → Int32) (x1 : Int32) (x2 : Int32) (o_v_rowsc : Nat → Int32) (o_v_factorsc : Nat → Int32) (h : f_X7_turnAcross K x1 x2 v_rowsc v_plainc v_factorsc = some (o_v_rowsc, o_v_factorsc)) : gMv l D cy t sz yX7_turnAcross wsX7_turnAcross 2 47 [.ref z, .int x1, .int x2] [(z, .inr (6, [.ref z_words, .ref z_rows, .ref z_failures, .int v_hasWords, .int v_hasRows, .int v_hasFailures, .ref z_stepWords, .ref z_plain, .ref z_factors, .ref z_lostByLost])), (z_rows, .inl (cy 0, 17, .inl v_rowsc)), (z_plain, .inl (cy 0, 17, .inl v_plainc)), (z_factors, .inl (cy 0, 17, .inl v_factorsc))] [(z, .inr (6, [.ref z_words, .ref z_rows, .ref z_failures, .int v_hasWords, .int v_hasRows, .int v_hasFailures, .ref z_stepWords, .ref z_plain, .ref z_factors, .ref z_lostByLost])), (z_rows, .inl (cy 0, 17, .inl o_v_rowsc)), (z_plain, .inl (cy 0, 17, .inl v_plainc)), (z_factors, .inl (cy 0, 17, .inl o_v_factorsc))] := by
  refine gBv (cc := cX7_turnAcross) (maxL := 5) (ret := none) (by decide) rfl (Nat.le_of_ble_eq_true rfl) ?_
  intro p e s m below meth c A ls hAt hl
  obtain ⟨hx, hb, hml, hr, hts, hown, hlocks, hin, hK, hG, hA, hP, hD⟩ := hAt
  have hS : va_S A s.heap s.heap [] := va_S.rf
  have hl : lv_has ls 5 [(0, .ref z), (1, .int x1), (2, .int x2)] := hl
  have f15 := hts (.fieldLink RX7 15 "PlainLines$Tally" "rows" "[I") (by decide +kernel)
  have iX7 := (by decide +kernel : ∀ w ∈ u_ws RX7 TX7 10, w ∈ wsX7_turnAcross)
  have f25 := hts (.fieldLink RX7 25 "PlainLines$Tally" "plain" "[I") (by decide +kernel)
  have f28 := hts (.fieldLink RX7 28 "PlainLines$Tally" "factors" "[I") (by decide +kernel)
  rw [f_X7_turnAcross] at h
  refine lv_aload_n hx hb dX7_turnAcross_0 rfl (lv_at hl 0 rfl) ?_
  refine va_get (D := D) (ci := 6) (v := .ref z_rows) (C := RX7) (T := TX7) (N := 10) hx hb hts iX7 hown hK hP 0 rfl rfl 1 (by decide) f15 (fun _ h9 => h9) rfl dX7_turnAcross_1 ?_
  refine lv_iconst (v := 0) hx hb dX7_turnAcross_4 (by decide) ?_
  obtain ⟨o_1, hc_2, h⟩ := gx_b h
  refine gCallv (wr := [(z, .inr (6, [.ref z_words, .ref z_rows, .ref z_failures, .int v_hasWords, .int v_hasRows, .int v_hasFailures, .ref z_stepWords, .ref z_plain, .ref z_factors, .ref z_lostByLost])), (z_plain, .inl (cy 0, 17, .inl v_plainc)), (z_factors, .inl (cy 0, 17, .inl v_factorsc))]) (va_runS (As := [.ref z_rows, .int 0]) (rest := []) ⟨hx, hb, hml, hown, hts⟩ (c_J7_fill_53178 l D cy t s.heap.size K z_rows v_rowsc 17 0 o_1 hc_2) (va_cwS 2 hts gX7_turnAcross_J7_fill_53178 rfl rfl rfl (by decide +kernel) ⟨Nat.le_of_ble_eq_true rfl, Nat.le_of_ble_eq_true rfl⟩) ⟨gBlind, fun U hU hW => ⟨rfl, gPre.call hK hG hA hP hD hS [1] (by decide) rfl U hU hW⟩⟩ rfl rfl hl.1 rfl (lv_room (Nat.le_of_ble_eq_true rfl)) dX7_turnAcross_5 ⟨Nat.le_of_ble_eq_true rfl, Nat.le_of_ble_eq_true rfl⟩) hA hP hD hS [1] [0, 2, 3] rfl rfl (by decide) (by decide) (fun H locs hP hD hS => ?_)
  have hP := hP.sub (ws' := [(z, .inr (6, [.ref z_words, .ref z_rows, .ref z_failures, .int v_hasWords, .int v_hasRows, .int v_hasFailures, .ref z_stepWords, .ref z_plain, .ref z_factors, .ref z_lostByLost])), (z_rows, .inl (cy 0, 17, .inl o_1)), (z_plain, .inl (cy 0, 17, .inl v_plainc)), (z_factors, .inl (cy 0, 17, .inl v_factorsc))]) [0, 3, 1, 2] rfl
  have hD := hD.sub (ws' := [(z, .inr (6, [.ref z_words, .ref z_rows, .ref z_failures, .int v_hasWords, .int v_hasRows, .int v_hasFailures, .ref z_stepWords, .ref z_plain, .ref z_factors, .ref z_lostByLost])), (z_rows, .inl (cy 0, 17, .inl o_1)), (z_plain, .inl (cy 0, 17, .inl v_plainc)), (z_factors, .inl (cy 0, 17, .inl v_factorsc))]) [0, 3, 1, 2] (by decide) rfl
  refine lv_iconst (v := 0) hx hb dX7_turnAcross_8 (by decide) ?_
  refine lv_istore_n (lv' := [(3, .int 0), (0, .ref z), (1, .int x1), (2, .int x2)]) hx hb dX7_turnAcross_9 rfl hl (by decide) rfl (fun ls hl => ?_)
  obtain ⟨⟨o_3, o_4, o_5⟩, hL_6, h⟩ := gx_b h
  refine gJoin (Pj := fun H locs ls => va_P D vwCl [(z, .inr (6, [.ref z_words, .ref z_rows, .ref z_failures, .int v_hasWords, .int v_hasRows, .int v_hasFailures, .ref z_stepWords, .ref z_plain, .ref z_factors, .ref z_lostByLost])), (z_rows, .inl (cy 0, 17, .inl o_4)), (z_plain, .inl (cy 0, 17, .inl v_plainc)), (z_factors, .inl (cy 0, 17, .inl o_5))] H ∧ va_D A [(z, .inr (6, [.ref z_words, .ref z_rows, .ref z_failures, .int v_hasWords, .int v_hasRows, .int v_hasFailures, .ref z_stepWords, .ref z_plain, .ref z_factors, .ref z_lostByLost])), (z_rows, .inl (cy 0, 17, .inl o_4)), (z_plain, .inl (cy 0, 17, .inl v_plainc)), (z_factors, .inl (cy 0, 17, .inl o_5))] ∧ va_S A s.heap H locs ∧ lv_has ls 5 [(3, .int o_3), (0, .ref z), (1, .int x1), (2, .int x2)]) (pcM := 75) (st := []) ?_ (fun hJ75 => ?_)
  · intro H locs ls hp_
    obtain ⟨hP, hD, hS, hl⟩ := hp_
    clear hL_6
    refine lv_iconst (v := 0) hx hb dX7_turnAcross_75 (by decide) ?_
    refine lv_istore_n (lv' := [(3, .int 0), (0, .ref z), (1, .int x1), (2, .int x2)]) hx hb dX7_turnAcross_76 rfl hl (by decide) rfl (fun ls hl => ?_)
    obtain ⟨⟨o_7, o_8⟩, hL_9, h⟩ := gx_b h
    refine gJoin (Pj := fun H locs ls => va_P D vwCl [(z, .inr (6, [.ref z_words, .ref z_rows, .ref z_failures, .int v_hasWords, .int v_hasRows, .int v_hasFailures, .ref z_stepWords, .ref z_plain, .ref z_factors, .ref z_lostByLost])), (z_rows, .inl (cy 0, 17, .inl o_8)), (z_plain, .inl (cy 0, 17, .inl v_plainc)), (z_factors, .inl (cy 0, 17, .inl o_5))] H ∧ va_D A [(z, .inr (6, [.ref z_words, .ref z_rows, .ref z_failures, .int v_hasWords, .int v_hasRows, .int v_hasFailures, .ref z_stepWords, .ref z_plain, .ref z_factors, .ref z_lostByLost])), (z_rows, .inl (cy 0, 17, .inl o_8)), (z_plain, .inl (cy 0, 17, .inl v_plainc)), (z_factors, .inl (cy 0, 17, .inl o_5))] ∧ va_S A s.heap H locs ∧ lv_has ls 5 [(3, .int o_7), (0, .ref z), (1, .int x1), (2, .int x2)]) (pcM := 98) (st := []) ?_ (fun hJ98 => ?_)
    · intro H locs ls hp_
      obtain ⟨hP, hD, hS, hl⟩ := hp_
      clear hL_9
      cases h
      exact gRv hx hb hr hlocks hP hD hS dX7_turnAcross_98
    · refine gLoop (Hy := fun k_ v_ => fL_X7_turnAcross_77 K x1 x2 k_ v_ = some (o_7, o_8)) (Pl := fun (v_ : Int32 × (Nat → Int32)) H locs ls => match v_ with | (a_10, a_11) => va_P D vwCl [(z, .inr (6, [.ref z_words, .ref z_rows, .ref z_failures, .int v_hasWords, .int v_hasRows, .int v_hasFailures, .ref z_stepWords, .ref z_plain, .ref z_factors, .ref z_lostByLost])), (z_rows, .inl (cy 0, 17, .inl a_11)), (z_plain, .inl (cy 0, 17, .inl v_plainc)), (z_factors, .inl (cy 0, 17, .inl o_5))] H ∧ va_D A [(z, .inr (6, [.ref z_words, .ref z_rows, .ref z_failures, .int v_hasWords, .int v_hasRows, .int v_hasFailures, .ref z_stepWords, .ref z_plain, .ref z_factors, .ref z_lostByLost])), (z_rows, .inl (cy 0, 17, .inl a_11)), (z_plain, .inl (cy 0, 17, .inl v_plainc)), (z_factors, .inl (cy 0, 17, .inl o_5))] ∧ va_S A s.heap H locs ∧ lv_has ls 5 [(3, .int a_10), (0, .ref z), (1, .int x1), (2, .int x2)]) (pcH := 77) (fun _ q_ => by cases q_) ?_ K (0, o_4) hL_9 ⟨hP, hD, hS, hl⟩
      clear hL_9 h hP hD hS hl
      intro k_ ih ⟨a_10, a_11⟩ H locs ls h hp_
      obtain ⟨hP, hD, hS, hl⟩ := hp_
      have hP : va_P D vwCl [(z, .inr (6, [.ref z_words, .ref z_rows, .ref z_failures, .int v_hasWords, .int v_hasRows, .int v_hasFailures, .ref z_stepWords, .ref z_plain, .ref z_factors, .ref z_lostByLost])), (z_rows, .inl (cy 0, 17, .inl a_11)), (z_plain, .inl (cy 0, 17, .inl v_plainc)), (z_factors, .inl (cy 0, 17, .inl o_5))] H := hP
      have hD : va_D A [(z, .inr (6, [.ref z_words, .ref z_rows, .ref z_failures, .int v_hasWords, .int v_hasRows, .int v_hasFailures, .ref z_stepWords, .ref z_plain, .ref z_factors, .ref z_lostByLost])), (z_rows, .inl (cy 0, 17, .inl a_11)), (z_plain, .inl (cy 0, 17, .inl v_plainc)), (z_factors, .inl (cy 0, 17, .inl o_5))] := hD
      have hl : lv_has ls 5 [(3, .int a_10), (0, .ref z), (1, .int x1), (2, .int x2)] := hl
      change fL_X7_turnAcross_77 K x1 x2 (k_ + 1) (a_10, a_11) = _ at h
      rw [fL_X7_turnAcross_77] at h
      refine lv_iload_n hx hb dX7_turnAcross_77 rfl (lv_at hl 0 rfl) ?_
      refine lv_iload_n hx hb dX7_turnAcross_78 rfl (lv_at hl 2 rfl) ?_
      refine lv_icmp_gt (tgt := 98) hx hb dX7_turnAcross_79 (by decide) (fun c_12 => ?_) (fun c_12 => ?_)
      · have h := gx_t c_12 h
        have hl := lv_sub (l' := [(3, .int a_10), (0, .ref z), (1, .int x1), (2, .int x2)]) hl [0, 1, 2, 3] rfl
        cases h
        exact hJ98 _ _ _ ⟨hP, hD, hS, hl⟩
      · have h := gx_f c_12 h
        refine lv_aload_n hx hb dX7_turnAcross_82 rfl (lv_at hl 1 rfl) ?_
        refine va_get (D := D) (ci := 6) (v := .ref z_rows) (C := RX7) (T := TX7) (N := 10) hx hb hts iX7 hown hK hP 0 rfl rfl 1 (by decide) f15 (fun _ h9 => h9) rfl dX7_turnAcross_83 ?_
        refine lv_iload_n hx hb dX7_turnAcross_86 rfl (lv_at hl 0 rfl) ?_
        refine lv_dup2_11 hx hb dX7_turnAcross_87 rfl rfl ?_
        obtain ⟨hi_, h⟩ := gx_ix h
        refine va_iald hx hb hK hP 1 0 rfl rfl hi_ dX7_turnAcross_88 ?_
        refine lv_iload_n hx hb dX7_turnAcross_89 rfl (lv_at hl 3 rfl) ?_
        refine lv_ishr hx hb dX7_turnAcross_90 ?_
        refine lv_topi (fun y_13 e_y_13 => ?_)
        have h := gx_let e_y_13 h
        obtain ⟨hi_, h⟩ := gx_ix h
        refine va_iast hx hb hK hP hD hS 1 0 rfl rfl hi_ dX7_turnAcross_91 (fun H locs hP hD hS => ?_)
        obtain ⟨w_14, e_w_14⟩ : ∃ y : Nat → Int32, y = (upd a_11 (Int32.toNatClampNeg a_10) y_13) := ⟨_, rfl⟩
        have h := gx_let e_w_14 h
        have hP : va_P D vwCl [(z, .inr (6, [.ref z_words, .ref z_rows, .ref z_failures, .int v_hasWords, .int v_hasRows, .int v_hasFailures, .ref z_stepWords, .ref z_plain, .ref z_factors, .ref z_lostByLost])), (z_rows, .inl (cy 0, 17, .inl (upd a_11 (Int32.toNatClampNeg a_10) y_13))), (z_plain, .inl (cy 0, 17, .inl v_plainc)), (z_factors, .inl (cy 0, 17, .inl o_5))] H := hP
        have hD : va_D A [(z, .inr (6, [.ref z_words, .ref z_rows, .ref z_failures, .int v_hasWords, .int v_hasRows, .int v_hasFailures, .ref z_stepWords, .ref z_plain, .ref z_factors, .ref z_lostByLost])), (z_rows, .inl (cy 0, 17, .inl (upd a_11 (Int32.toNatClampNeg a_10) y_13))), (z_plain, .inl (cy 0, 17, .inl v_plainc)), (z_factors, .inl (cy 0, 17, .inl o_5))] := hD
        rw [← e_w_14] at hP hD
        obtain ⟨y3_15, e_y3_15⟩ : ∃ y : Int32, y = (a_10 + 1) := ⟨_, rfl⟩
        have h := gx_let e_y3_15 h
        refine lv_iinc (v := y3_15) (lv' := [(3, .int y3_15), (0, .ref z), (1, .int x1), (2, .int x2)]) hx hb dX7_turnAcross_92 hl (k := 0) rfl (by rw [e_y3_15]; rfl) (by decide) rfl (fun ls hl => ?_)
        refine lv_goto (tgt := 77) hx hb dX7_turnAcross_95 (by decide) ?_
        exact ih (y3_15, w_14) _ _ _ h ⟨hP, hD, hS, lv_sub (l' := [(3, .int y3_15), (0, .ref z), (1, .int x1), (2, .int x2)]) hl [0, 1, 2, 3] rfl⟩
  · refine gLoop (Hy := fun k_ v_ => fL_X7_turnAcross_10 K x1 v_plainc k_ v_ = some (o_3, o_4, o_5)) (Pl := fun (v_ : Int32 × (Nat → Int32) × (Nat → Int32)) H locs ls => match v_ with | (a_16, a_17, a_18) => va_P D vwCl [(z, .inr (6, [.ref z_words, .ref z_rows, .ref z_failures, .int v_hasWords, .int v_hasRows, .int v_hasFailures, .ref z_stepWords, .ref z_plain, .ref z_factors, .ref z_lostByLost])), (z_rows, .inl (cy 0, 17, .inl a_17)), (z_plain, .inl (cy 0, 17, .inl v_plainc)), (z_factors, .inl (cy 0, 17, .inl a_18))] H ∧ va_D A [(z, .inr (6, [.ref z_words, .ref z_rows, .ref z_failures, .int v_hasWords, .int v_hasRows, .int v_hasFailures, .ref z_stepWords, .ref z_plain, .ref z_factors, .ref z_lostByLost])), (z_rows, .inl (cy 0, 17, .inl a_17)), (z_plain, .inl (cy 0, 17, .inl v_plainc)), (z_factors, .inl (cy 0, 17, .inl a_18))] ∧ va_S A s.heap H locs ∧ lv_has ls 5 [(3, .int a_16), (0, .ref z), (1, .int x1), (2, .int x2)]) (pcH := 10) (fun _ q_ => by cases q_) ?_ K (0, o_1, v_factorsc) hL_6 ⟨hP, hD, hS, hl⟩
    clear hL_6 h hP hD hS hl
    intro k_ ih ⟨a_16, a_17, a_18⟩ H locs ls h hp_
    obtain ⟨hP, hD, hS, hl⟩ := hp_
    have hP : va_P D vwCl [(z, .inr (6, [.ref z_words, .ref z_rows, .ref z_failures, .int v_hasWords, .int v_hasRows, .int v_hasFailures, .ref z_stepWords, .ref z_plain, .ref z_factors, .ref z_lostByLost])), (z_rows, .inl (cy 0, 17, .inl a_17)), (z_plain, .inl (cy 0, 17, .inl v_plainc)), (z_factors, .inl (cy 0, 17, .inl a_18))] H := hP
    have hD : va_D A [(z, .inr (6, [.ref z_words, .ref z_rows, .ref z_failures, .int v_hasWords, .int v_hasRows, .int v_hasFailures, .ref z_stepWords, .ref z_plain, .ref z_factors, .ref z_lostByLost])), (z_rows, .inl (cy 0, 17, .inl a_17)), (z_plain, .inl (cy 0, 17, .inl v_plainc)), (z_factors, .inl (cy 0, 17, .inl a_18))] := hD
    have hl : lv_has ls 5 [(3, .int a_16), (0, .ref z), (1, .int x1), (2, .int x2)] := hl
    change fL_X7_turnAcross_10 K x1 v_plainc (k_ + 1) (a_16, a_17, a_18) = _ at h
    rw [fL_X7_turnAcross_10] at h
    refine lv_iload_n hx hb dX7_turnAcross_10 rfl (lv_at hl 0 rfl) ?_
    refine lv_iload_n hx hb dX7_turnAcross_11 rfl (lv_at hl 2 rfl) ?_
    refine lv_icmp_gt (tgt := 75) hx hb dX7_turnAcross_12 (by decide) (fun c_19 => ?_) (fun c_19 => ?_)
    · have h := gx_t c_19 h
      have hl := lv_sub (l' := [(3, .int a_16), (0, .ref z), (1, .int x1), (2, .int x2)]) hl [0, 1, 2, 3] rfl
      cases h
      exact hJ75 _ _ _ ⟨hP, hD, hS, hl⟩
    · have h := gx_f c_19 h
      refine lv_aload_n hx hb dX7_turnAcross_15 rfl (lv_at hl 1 rfl) ?_
      refine va_get (D := D) (ci := 6) (v := .ref z_plain) (C := RX7) (T := TX7) (N := 10) hx hb hts iX7 hown hK hP 0 rfl rfl 7 (by decide) f25 (fun _ h9 => h9) rfl dX7_turnAcross_16 ?_
      refine lv_iload_n hx hb dX7_turnAcross_19 rfl (lv_at hl 0 rfl) ?_
      obtain ⟨hi_, h⟩ := gx_ix h
      refine va_iald hx hb hK hP 2 0 rfl rfl hi_ dX7_turnAcross_20 ?_
      refine lv_if_eq (tgt := 69) hx hb dX7_turnAcross_21 (by decide) (fun c_20 => ?_) (fun c_20 => ?_)
      · have h := gx_t c_20 h
        obtain ⟨y3_21, e_y3_21⟩ : ∃ y : Int32, y = (a_16 + 1) := ⟨_, rfl⟩
        have h := gx_let e_y3_21 h
        refine lv_iinc (v := y3_21) (lv' := [(3, .int y3_21), (0, .ref z), (1, .int x1), (2, .int x2)]) hx hb dX7_turnAcross_69 hl (k := 0) rfl (by rw [e_y3_21]; rfl) (by decide) rfl (fun ls hl => ?_)
        refine lv_goto (tgt := 10) hx hb dX7_turnAcross_72 (by decide) ?_
        exact ih (y3_21, a_17, a_18) _ _ _ h ⟨hP, hD, hS, lv_sub (l' := [(3, .int y3_21), (0, .ref z), (1, .int x1), (2, .int x2)]) hl [0, 1, 2, 3] rfl⟩
      · have h := gx_f c_20 h
        refine lv_aload_n hx hb dX7_turnAcross_24 rfl (lv_at hl 1 rfl) ?_
        refine lv_iload_n hx hb dX7_turnAcross_25 rfl (lv_at hl 0 rfl) ?_
        refine lv_iload_n hx hb dX7_turnAcross_26 rfl (lv_at hl 2 rfl) ?_
        obtain ⟨o_22, hc_23, h⟩ := gx_b h
        refine gCallv (wr := [(z_rows, .inl (cy 0, 17, .inl a_17)), (z_plain, .inl (cy 0, 17, .inl v_plainc))]) (va_runV (As := [.int a_16, .int x1]) (rest := []) ⟨hx, hb, hml, hown, hts⟩ (c_X7_multiplyOut l D cy t H.size K z z_factors z_words z_rows z_failures z_stepWords z_plain z_lostByLost v_hasWords v_hasRows v_hasFailures a_18 a_16 x1 o_22 hc_23) (cwV 2 hts gX7_turnAcross_X7_multiplyOut rfl rfl rfl (by decide +kernel) ⟨Nat.le_of_ble_eq_true rfl, Nat.le_of_ble_eq_true rfl⟩) ⟨gBlind, va_recv hK hP (ci := 6) (q0 := 0) rfl rfl, fun U hU hW => ⟨rfl, gPre.call hK hG hA hP hD hS [0, 3] (by decide) rfl U hU hW⟩⟩ rfl rfl hl.1 rfl (lv_room (Nat.le_of_ble_eq_true rfl)) dX7_turnAcross_27 ⟨Nat.le_of_ble_eq_true rfl, Nat.le_of_ble_eq_true rfl⟩) hA hP hD hS [0, 3] [1, 2] rfl rfl (by decide) (by decide) (fun H locs hP hD hS => ?_)
        have hP := hP.sub (ws' := [(z, .inr (6, [.ref z_words, .ref z_rows, .ref z_failures, .int v_hasWords, .int v_hasRows, .int v_hasFailures, .ref z_stepWords, .ref z_plain, .ref z_factors, .ref z_lostByLost])), (z_rows, .inl (cy 0, 17, .inl a_17)), (z_plain, .inl (cy 0, 17, .inl v_plainc)), (z_factors, .inl (cy 0, 17, .inl o_22))]) [2, 0, 1, 3] rfl
        have hD := hD.sub (ws' := [(z, .inr (6, [.ref z_words, .ref z_rows, .ref z_failures, .int v_hasWords, .int v_hasRows, .int v_hasFailures, .ref z_stepWords, .ref z_plain, .ref z_factors, .ref z_lostByLost])), (z_rows, .inl (cy 0, 17, .inl a_17)), (z_plain, .inl (cy 0, 17, .inl v_plainc)), (z_factors, .inl (cy 0, 17, .inl o_22))]) [2, 0, 1, 3] (by decide) rfl
        refine lv_iconst (v := 0) hx hb dX7_turnAcross_30 (by decide) ?_
        refine lv_istore (lv' := [(4, .int 0), (3, .int a_16), (0, .ref z), (1, .int x1), (2, .int x2)]) hx hb dX7_turnAcross_31 hl (by decide) rfl (fun ls hl => ?_)
        obtain ⟨⟨o_24, o_25⟩, hL_26, h⟩ := gx_b h
        refine gJoin (Pj := fun H locs ls => va_P D vwCl [(z, .inr (6, [.ref z_words, .ref z_rows, .ref z_failures, .int v_hasWords, .int v_hasRows, .int v_hasFailures, .ref z_stepWords, .ref z_plain, .ref z_factors, .ref z_lostByLost])), (z_rows, .inl (cy 0, 17, .inl o_25)), (z_plain, .inl (cy 0, 17, .inl v_plainc)), (z_factors, .inl (cy 0, 17, .inl o_22))] H ∧ va_D A [(z, .inr (6, [.ref z_words, .ref z_rows, .ref z_failures, .int v_hasWords, .int v_hasRows, .int v_hasFailures, .ref z_stepWords, .ref z_plain, .ref z_factors, .ref z_lostByLost])), (z_rows, .inl (cy 0, 17, .inl o_25)), (z_plain, .inl (cy 0, 17, .inl v_plainc)), (z_factors, .inl (cy 0, 17, .inl o_22))] ∧ va_S A s.heap H locs ∧ lv_has ls 5 [(4, .int o_24), (3, .int a_16), (0, .ref z), (1, .int x1), (2, .int x2)]) (pcM := 69) (st := []) ?_ (fun hJ69 => ?_)
        · intro H locs ls hp_
          obtain ⟨hP, hD, hS, hl⟩ := hp_
          clear hL_26
          obtain ⟨y3_27, e_y3_27⟩ : ∃ y : Int32, y = (a_16 + 1) := ⟨_, rfl⟩
          have h := gx_let e_y3_27 h
          refine lv_iinc (v := y3_27) (lv' := [(3, .int y3_27), (4, .int o_24), (0, .ref z), (1, .int x1), (2, .int x2)]) hx hb dX7_turnAcross_69 hl (k := 1) rfl (by rw [e_y3_27]; rfl) (by decide) rfl (fun ls hl => ?_)
          refine lv_goto (tgt := 10) hx hb dX7_turnAcross_72 (by decide) ?_
          exact ih (y3_27, o_25, o_22) _ _ _ h ⟨hP, hD, hS, lv_sub (l' := [(3, .int y3_27), (0, .ref z), (1, .int x1), (2, .int x2)]) hl [0, 2, 3, 4] rfl⟩
        · refine gLoop (Hy := fun k_ v_ => fL_X7_turnAcross_33 K a_16 x1 v_plainc o_22 k_ v_ = some (o_24, o_25)) (Pl := fun (v_ : Int32 × (Nat → Int32)) H locs ls => match v_ with | (a_28, a_29) => va_P D vwCl [(z, .inr (6, [.ref z_words, .ref z_rows, .ref z_failures, .int v_hasWords, .int v_hasRows, .int v_hasFailures, .ref z_stepWords, .ref z_plain, .ref z_factors, .ref z_lostByLost])), (z_rows, .inl (cy 0, 17, .inl a_29)), (z_plain, .inl (cy 0, 17, .inl v_plainc)), (z_factors, .inl (cy 0, 17, .inl o_22))] H ∧ va_D A [(z, .inr (6, [.ref z_words, .ref z_rows, .ref z_failures, .int v_hasWords, .int v_hasRows, .int v_hasFailures, .ref z_stepWords, .ref z_plain, .ref z_factors, .ref z_lostByLost])), (z_rows, .inl (cy 0, 17, .inl a_29)), (z_plain, .inl (cy 0, 17, .inl v_plainc)), (z_factors, .inl (cy 0, 17, .inl o_22))] ∧ va_S A s.heap H locs ∧ lv_has ls 5 [(4, .int a_28), (3, .int a_16), (0, .ref z), (1, .int x1), (2, .int x2)]) (pcH := 33) (fun _ q_ => by cases q_) ?_ K (0, a_17) hL_26 ⟨hP, hD, hS, hl⟩
          clear hL_26 h hP hD hS hl
          intro k_ ih ⟨a_28, a_29⟩ H locs ls h hp_
          obtain ⟨hP, hD, hS, hl⟩ := hp_
          have hP : va_P D vwCl [(z, .inr (6, [.ref z_words, .ref z_rows, .ref z_failures, .int v_hasWords, .int v_hasRows, .int v_hasFailures, .ref z_stepWords, .ref z_plain, .ref z_factors, .ref z_lostByLost])), (z_rows, .inl (cy 0, 17, .inl a_29)), (z_plain, .inl (cy 0, 17, .inl v_plainc)), (z_factors, .inl (cy 0, 17, .inl o_22))] H := hP
          have hD : va_D A [(z, .inr (6, [.ref z_words, .ref z_rows, .ref z_failures, .int v_hasWords, .int v_hasRows, .int v_hasFailures, .ref z_stepWords, .ref z_plain, .ref z_factors, .ref z_lostByLost])), (z_rows, .inl (cy 0, 17, .inl a_29)), (z_plain, .inl (cy 0, 17, .inl v_plainc)), (z_factors, .inl (cy 0, 17, .inl o_22))] := hD
          have hl : lv_has ls 5 [(4, .int a_28), (3, .int a_16), (0, .ref z), (1, .int x1), (2, .int x2)] := hl
          change fL_X7_turnAcross_33 K a_16 x1 v_plainc o_22 (k_ + 1) (a_28, a_29) = _ at h
          rw [fL_X7_turnAcross_33] at h
          refine lv_iload hx hb dX7_turnAcross_33 (lv_at hl 0 rfl) ?_
          refine lv_iload_n hx hb dX7_turnAcross_35 rfl (lv_at hl 3 rfl) ?_
          refine lv_icmp_gt (tgt := 69) hx hb dX7_turnAcross_36 (by decide) (fun c_30 => ?_) (fun c_30 => ?_)
          · have h := gx_t c_30 h
            have hl := lv_sub (l' := [(4, .int a_28), (3, .int a_16), (0, .ref z), (1, .int x1), (2, .int x2)]) hl [0, 1, 2, 3, 4] rfl
            cases h
            exact hJ69 _ _ _ ⟨hP, hD, hS, hl⟩
          · have h := gx_f c_30 h
            refine lv_aload_n hx hb dX7_turnAcross_39 rfl (lv_at hl 2 rfl) ?_
            refine va_get (D := D) (ci := 6) (v := .ref z_rows) (C := RX7) (T := TX7) (N := 10) hx hb hts iX7 hown hK hP 0 rfl rfl 1 (by decide) f15 (fun _ h9 => h9) rfl dX7_turnAcross_40 ?_
            refine lv_iload hx hb dX7_turnAcross_43 (lv_at hl 0 rfl) ?_
            refine lv_dup2_11 hx hb dX7_turnAcross_45 rfl rfl ?_
            obtain ⟨hi_, h⟩ := gx_ix h
            refine va_iald hx hb hK hP 1 0 rfl rfl hi_ dX7_turnAcross_46 ?_
            refine lv_aload_n hx hb dX7_turnAcross_47 rfl (lv_at hl 2 rfl) ?_
            refine va_get (D := D) (ci := 6) (v := .ref z_plain) (C := RX7) (T := TX7) (N := 10) hx hb hts iX7 hown hK hP 0 rfl rfl 7 (by decide) f25 (fun _ h9 => h9) rfl dX7_turnAcross_48 ?_
            refine lv_iload_n hx hb dX7_turnAcross_51 rfl (lv_at hl 1 rfl) ?_
            obtain ⟨hi_, h⟩ := gx_ix h
            refine va_iald hx hb hK hP 2 0 rfl rfl hi_ dX7_turnAcross_52 ?_
            refine lv_aload_n hx hb dX7_turnAcross_53 rfl (lv_at hl 2 rfl) ?_
            refine va_get (D := D) (ci := 6) (v := .ref z_factors) (C := RX7) (T := TX7) (N := 10) hx hb hts iX7 hown hK hP 0 rfl rfl 8 (by decide) f28 (fun _ h9 => h9) rfl dX7_turnAcross_54 ?_
            refine lv_iload hx hb dX7_turnAcross_57 (lv_at hl 0 rfl) ?_
            obtain ⟨hi_, h⟩ := gx_ix h
            refine va_iald hx hb hK hP 3 0 rfl rfl hi_ dX7_turnAcross_59 ?_
            refine lv_imul hx hb dX7_turnAcross_60 ?_
            refine lv_iadd hx hb dX7_turnAcross_61 ?_
            refine lv_topi (fun y_31 e_y_31 => ?_)
            have h := gx_let e_y_31 h
            obtain ⟨hi_, h⟩ := gx_ix h
            refine va_iast hx hb hK hP hD hS 1 0 rfl rfl hi_ dX7_turnAcross_62 (fun H locs hP hD hS => ?_)
            obtain ⟨w_32, e_w_32⟩ : ∃ y : Nat → Int32, y = (upd a_29 (Int32.toNatClampNeg a_28) y_31) := ⟨_, rfl⟩
            have h := gx_let e_w_32 h
            have hP : va_P D vwCl [(z, .inr (6, [.ref z_words, .ref z_rows, .ref z_failures, .int v_hasWords, .int v_hasRows, .int v_hasFailures, .ref z_stepWords, .ref z_plain, .ref z_factors, .ref z_lostByLost])), (z_rows, .inl (cy 0, 17, .inl (upd a_29 (Int32.toNatClampNeg a_28) y_31))), (z_plain, .inl (cy 0, 17, .inl v_plainc)), (z_factors, .inl (cy 0, 17, .inl o_22))] H := hP
            have hD : va_D A [(z, .inr (6, [.ref z_words, .ref z_rows, .ref z_failures, .int v_hasWords, .int v_hasRows, .int v_hasFailures, .ref z_stepWords, .ref z_plain, .ref z_factors, .ref z_lostByLost])), (z_rows, .inl (cy 0, 17, .inl (upd a_29 (Int32.toNatClampNeg a_28) y_31))), (z_plain, .inl (cy 0, 17, .inl v_plainc)), (z_factors, .inl (cy 0, 17, .inl o_22))] := hD
            rw [← e_w_32] at hP hD
            obtain ⟨y4_33, e_y4_33⟩ : ∃ y : Int32, y = (a_28 + 1) := ⟨_, rfl⟩
            have h := gx_let e_y4_33 h
            refine lv_iinc (v := y4_33) (lv' := [(4, .int y4_33), (3, .int a_16), (0, .ref z), (1, .int x1), (2, .int x2)]) hx hb dX7_turnAcross_63 hl (k := 0) rfl (by rw [e_y4_33]; rfl) (by decide) rfl (fun ls hl => ?_)
            refine lv_goto (tgt := 33) hx hb dX7_turnAcross_66 (by decide) ?_
            exact ih (y4_33, w_32) _ _ _ h ⟨hP, hD, hS, lv_sub (l' := [(4, .int y4_33), (3, .int a_16), (0, .ref z), (1, .int x1), (2, .int x2)]) hl [0, 1, 2, 3, 4] rfl⟩

def f_X7_countAcross (K : Nat) (v1_n : Int32) (v1_goodOnes : Int64) (v_stepWordsc : Nat → Int64) (v_plainc : Nat → Int32) (v_rowsc : Nat → Int32) (v_factorsc : Nat → Int32) : Option ((Nat → Int64) × (Nat → Int32) × (Nat → Int32) × (Nat → Int32)) :=
  Option.bind (f_X4_goodCount K v1_goodOnes) fun r_1 =>
  if (r_1 * 2) < v1_n then
    Option.bind (f_X7_countByOnes K v1_goodOnes 0 v1_n v_stepWordsc v_plainc 17) fun (o_3, o_4) =>
    Option.bind (f_X4_goodCount K v1_goodOnes) fun r_5 =>
    Option.bind (f_X7_turnAcross K v1_n r_5 v_rowsc o_4 v_factorsc) fun (o_6, o_7) =>
    some (o_3, o_4, o_6, o_7)
  else
    Option.bind (f_X4_allPlaces K v1_n) fun r_8 =>
    gLet (r_8 &&& (v1_goodOnes ^^^ (-1))) fun y3_9 =>
    Option.bind (f_J13_reverse_067f4 K y3_9) fun r_10 =>
    Option.bind (f_X7_countByOnes K (gLushr r_10 (64 - v1_n)) 0 v1_n v_stepWordsc v_rowsc 17) fun (o_11, o_12) =>
    some (o_11, v_plainc, o_12, v_factorsc)
set_option maxHeartbeats 4000000 in
set_option maxRecDepth 100000 in
theorem c_X7_countAcross (l : Launch) (D : va_G) (cy : Nat → ClassId) (t sz K : Nat) (z1 : Nat) (z : Nat) (z_stepWords : Nat) (z_plain : Nat) (z_rows : Nat) (z_factors : Nat) (z1_uppers : Nat) (z_words : Nat) (z_failures : Nat) (z_lostByLost : Nat) (v1_n : Int32) (v1_p : Int32) (v1_q : Int32) (v1_goodOnes : Int64) (v1_frozenOnes : Int64) (v_hasWords : Int32) (v_hasRows : Int32) (v_hasFailures : Int32) (v_stepWordsc : Nat → Int64) (v_plainc : Nat → Int32) (v_rowsc : Nat → Int32) (v_factorsc : Nat → Int32) (o_v_stepWordsc : Nat → Int64) (o_v_plainc : Nat → Int32) (o_v_rowsc : Nat → Int32) (o_v_factorsc : Nat → Int32) (h : f_X7_countAcross K v1_n v1_goodOnes v_stepWordsc v_plainc v_rowsc v_factorsc = some (o_v_stepWordsc, o_v_plainc, o_v_rowsc, o_v_factorsc)) : gMv l D cy t sz yX7_countAcross wsX7_countAcross 3 82 [.ref z, .ref z1] [(z1, .inr (3, [.int v1_n, .int v1_p, .int v1_q, .long v1_goodOnes, .long v1_frozenOnes, .ref z1_uppers])), (z, .inr (6, [.ref z_words, .ref z_rows, .ref z_failures, .int v_hasWords, .int v_hasRows, .int v_hasFailures, .ref z_stepWords, .ref z_plain, .ref z_factors, .ref z_lostByLost])), (z_stepWords, .inl (cy 1, 32, .inr (.inl v_stepWordsc))), (z_plain, .inl (cy 0, 17, .inl v_plainc)), (z_rows, .inl (cy 0, 17, .inl v_rowsc)), (z_factors, .inl (cy 0, 17, .inl v_factorsc))] [(z1, .inr (3, [.int v1_n, .int v1_p, .int v1_q, .long v1_goodOnes, .long v1_frozenOnes, .ref z1_uppers])), (z, .inr (6, [.ref z_words, .ref z_rows, .ref z_failures, .int v_hasWords, .int v_hasRows, .int v_hasFailures, .ref z_stepWords, .ref z_plain, .ref z_factors, .ref z_lostByLost])), (z_stepWords, .inl (cy 1, 32, .inr (.inl o_v_stepWordsc))), (z_plain, .inl (cy 0, 17, .inl o_v_plainc)), (z_rows, .inl (cy 0, 17, .inl o_v_rowsc)), (z_factors, .inl (cy 0, 17, .inl o_v_factorsc))] := by
  refine gBv (cc := cX7_countAcross) (maxL := 5) (ret := none) (by decide) rfl (Nat.le_of_ble_eq_true rfl) ?_
  intro p e s m below meth c A ls hAt hl
  obtain ⟨hx, hb, hml, hr, hts, hown, hlocks, hin, hK, hG, hA, hP, hD⟩ := hAt
  have hS : va_S A s.heap s.heap [] := va_S.rf
  have hl : lv_has ls 5 [(0, .ref z), (1, .ref z1)] := hl
  have f54 := hts (.fieldLink RX7 54 "PlainLines$Places" "n" "I") (by decide +kernel)
  have iX4 := (by decide +kernel : ∀ w ∈ u_ws RX4 TX4 6, w ∈ wsX7_countAcross)
  have f44 := hts (.fieldLink RX7 44 "PlainLines$Places" "goodOnes" "J") (by decide +kernel)
  have f25 := hts (.fieldLink RX7 25 "PlainLines$Tally" "plain" "[I") (by decide +kernel)
  have iX7 := (by decide +kernel : ∀ w ∈ u_ws RX7 TX7 10, w ∈ wsX7_countAcross)
  have k103 := hts (.constantLong RX7 103 (-1)) (by decide +kernel)
  have f15 := hts (.fieldLink RX7 15 "PlainLines$Tally" "rows" "[I") (by decide +kernel)
  rw [f_X7_countAcross] at h
  refine lv_aload_n hx hb dX7_countAcross_0 rfl (lv_at hl 1 rfl) ?_
  refine va_get (D := D) (ci := 3) (v := .int v1_n) (C := RX4) (T := TX4) (N := 6) hx hb hts iX4 hown hK hP 0 rfl rfl 0 (by decide) f54 (fun _ h9 => h9) rfl dX7_countAcross_1 ?_
  refine lv_istore_n (lv' := [(2, .int v1_n), (0, .ref z), (1, .ref z1)]) hx hb dX7_countAcross_4 rfl hl (by decide) rfl (fun ls hl => ?_)
  refine lv_aload_n hx hb dX7_countAcross_5 rfl (lv_at hl 2 rfl) ?_
  obtain ⟨r_1, hc_2, h⟩ := gx_b h
  refine gCalli (wr := [(z, .inr (6, [.ref z_words, .ref z_rows, .ref z_failures, .int v_hasWords, .int v_hasRows, .int v_hasFailures, .ref z_stepWords, .ref z_plain, .ref z_factors, .ref z_lostByLost])), (z_stepWords, .inl (cy 1, 32, .inr (.inl v_stepWordsc))), (z_plain, .inl (cy 0, 17, .inl v_plainc)), (z_rows, .inl (cy 0, 17, .inl v_rowsc)), (z_factors, .inl (cy 0, 17, .inl v_factorsc))]) (va_runV (As := []) (rest := []) ⟨hx, hb, hml, hown, hts⟩ (c_X4_goodCount l D cy t s.heap.size K z1 z1_uppers v1_n v1_p v1_q v1_goodOnes v1_frozenOnes r_1 hc_2) (cwV 0 hts gX7_countAcross_X4_goodCount rfl rfl rfl (by decide +kernel) ⟨Nat.le_of_ble_eq_true rfl, Nat.le_of_ble_eq_true rfl⟩) ⟨gBlind, va_recv hK hP (ci := 3) (q0 := 0) rfl rfl, fun U hU hW => ⟨rfl, gPre.call hK hG hA hP hD hS [0] (by decide) rfl U hU hW⟩⟩ rfl rfl hl.1 rfl (lv_room (Nat.le_of_ble_eq_true rfl)) dX7_countAcross_6 ⟨Nat.le_of_ble_eq_true rfl, Nat.le_of_ble_eq_true rfl⟩) hA hP hD hS [0] [1, 2, 3, 4, 5] rfl rfl (by decide) (by decide) (fun H locs hP hD hS => ?_)
  have hP := hP.sub (ws' := [(z1, .inr (3, [.int v1_n, .int v1_p, .int v1_q, .long v1_goodOnes, .long v1_frozenOnes, .ref z1_uppers])), (z, .inr (6, [.ref z_words, .ref z_rows, .ref z_failures, .int v_hasWords, .int v_hasRows, .int v_hasFailures, .ref z_stepWords, .ref z_plain, .ref z_factors, .ref z_lostByLost])), (z_stepWords, .inl (cy 1, 32, .inr (.inl v_stepWordsc))), (z_plain, .inl (cy 0, 17, .inl v_plainc)), (z_rows, .inl (cy 0, 17, .inl v_rowsc)), (z_factors, .inl (cy 0, 17, .inl v_factorsc))]) [5, 0, 1, 2, 3, 4] rfl
  have hD := hD.sub (ws' := [(z1, .inr (3, [.int v1_n, .int v1_p, .int v1_q, .long v1_goodOnes, .long v1_frozenOnes, .ref z1_uppers])), (z, .inr (6, [.ref z_words, .ref z_rows, .ref z_failures, .int v_hasWords, .int v_hasRows, .int v_hasFailures, .ref z_stepWords, .ref z_plain, .ref z_factors, .ref z_lostByLost])), (z_stepWords, .inl (cy 1, 32, .inr (.inl v_stepWordsc))), (z_plain, .inl (cy 0, 17, .inl v_plainc)), (z_rows, .inl (cy 0, 17, .inl v_rowsc)), (z_factors, .inl (cy 0, 17, .inl v_factorsc))]) [5, 0, 1, 2, 3, 4] (by decide) rfl
  refine lv_iconst (v := 2) hx hb dX7_countAcross_9 (by decide) ?_
  refine lv_imul hx hb dX7_countAcross_10 ?_
  refine lv_iload_n hx hb dX7_countAcross_11 rfl (lv_at hl 0 rfl) ?_
  refine lv_icmp_lt (tgt := 51) hx hb dX7_countAcross_12 (by decide) (fun c_3 => ?_) (fun c_3 => ?_)
  · have h := gx_t c_3 h
    refine lv_aload_n hx hb dX7_countAcross_51 rfl (lv_at hl 1 rfl) ?_
    refine lv_aload_n hx hb dX7_countAcross_52 rfl (lv_at hl 2 rfl) ?_
    refine va_get (D := D) (ci := 3) (v := .long v1_goodOnes) (C := RX4) (T := TX4) (N := 6) hx hb hts iX4 hown hK hP 0 rfl rfl 3 (by decide) f44 (fun _ h9 => h9) rfl dX7_countAcross_53 ?_
    refine lv_lconst (v := 0) hx hb dX7_countAcross_56 (by decide) ?_
    refine lv_iload_n hx hb dX7_countAcross_57 rfl (lv_at hl 0 rfl) ?_
    refine lv_aload_n hx hb dX7_countAcross_58 rfl (lv_at hl 1 rfl) ?_
    refine va_get (D := D) (ci := 6) (v := .ref z_plain) (C := RX7) (T := TX7) (N := 10) hx hb hts iX7 hown hK hP 1 rfl rfl 7 (by decide) f25 (fun _ h9 => h9) rfl dX7_countAcross_59 ?_
    obtain ⟨⟨o_4, o_5⟩, hc_6, h⟩ := gx_b h
    refine gCallv (wr := [(z1, .inr (3, [.int v1_n, .int v1_p, .int v1_q, .long v1_goodOnes, .long v1_frozenOnes, .ref z1_uppers])), (z_rows, .inl (cy 0, 17, .inl v_rowsc)), (z_factors, .inl (cy 0, 17, .inl v_factorsc))]) (va_runV (As := [.long v1_goodOnes, .long 0, .int v1_n, .ref z_plain]) (rest := []) ⟨hx, hb, hml, hown, hts⟩ (c_X7_countByOnes l D cy t H.size K z z_stepWords z_plain z_words z_rows z_failures z_plain z_factors z_lostByLost v_hasWords v_hasRows v_hasFailures v_stepWordsc v_plainc 17 v1_goodOnes 0 v1_n o_4 o_5 hc_6) (cwV 4 hts gX7_countAcross_X7_countByOnes rfl rfl rfl (by decide +kernel) ⟨Nat.le_of_ble_eq_true rfl, Nat.le_of_ble_eq_true rfl⟩) ⟨gBlind, va_recv hK hP (ci := 6) (q0 := 1) rfl rfl, fun U hU hW => ⟨rfl, gPre.call hK hG hA hP hD hS [1, 2, 3] (by decide) rfl U hU hW⟩⟩ rfl rfl hl.1 rfl (lv_room (Nat.le_of_ble_eq_true rfl)) dX7_countAcross_62 ⟨Nat.le_of_ble_eq_true rfl, Nat.le_of_ble_eq_true rfl⟩) hA hP hD hS [1, 2, 3] [0, 4, 5] rfl rfl (by decide) (by decide) (fun H locs hP hD hS => ?_)
    have hP := hP.sub (ws' := [(z1, .inr (3, [.int v1_n, .int v1_p, .int v1_q, .long v1_goodOnes, .long v1_frozenOnes, .ref z1_uppers])), (z, .inr (6, [.ref z_words, .ref z_rows, .ref z_failures, .int v_hasWords, .int v_hasRows, .int v_hasFailures, .ref z_stepWords, .ref z_plain, .ref z_factors, .ref z_lostByLost])), (z_stepWords, .inl (cy 1, 32, .inr (.inl o_4))), (z_plain, .inl (cy 0, 17, .inl o_5)), (z_rows, .inl (cy 0, 17, .inl v_rowsc)), (z_factors, .inl (cy 0, 17, .inl v_factorsc))]) [0, 3, 4, 5, 1, 2] rfl
    have hD := hD.sub (ws' := [(z1, .inr (3, [.int v1_n, .int v1_p, .int v1_q, .long v1_goodOnes, .long v1_frozenOnes, .ref z1_uppers])), (z, .inr (6, [.ref z_words, .ref z_rows, .ref z_failures, .int v_hasWords, .int v_hasRows, .int v_hasFailures, .ref z_stepWords, .ref z_plain, .ref z_factors, .ref z_lostByLost])), (z_stepWords, .inl (cy 1, 32, .inr (.inl o_4))), (z_plain, .inl (cy 0, 17, .inl o_5)), (z_rows, .inl (cy 0, 17, .inl v_rowsc)), (z_factors, .inl (cy 0, 17, .inl v_factorsc))]) [0, 3, 4, 5, 1, 2] (by decide) rfl
    refine lv_aload_n hx hb dX7_countAcross_65 rfl (lv_at hl 1 rfl) ?_
    refine lv_iload_n hx hb dX7_countAcross_66 rfl (lv_at hl 0 rfl) ?_
    refine lv_aload_n hx hb dX7_countAcross_67 rfl (lv_at hl 2 rfl) ?_
    obtain ⟨r_7, hc_8, h⟩ := gx_b h
    refine gCalli (wr := [(z, .inr (6, [.ref z_words, .ref z_rows, .ref z_failures, .int v_hasWords, .int v_hasRows, .int v_hasFailures, .ref z_stepWords, .ref z_plain, .ref z_factors, .ref z_lostByLost])), (z_stepWords, .inl (cy 1, 32, .inr (.inl o_4))), (z_plain, .inl (cy 0, 17, .inl o_5)), (z_rows, .inl (cy 0, 17, .inl v_rowsc)), (z_factors, .inl (cy 0, 17, .inl v_factorsc))]) (va_runV (As := []) (rest := [.int v1_n, .ref z]) ⟨hx, hb, hml, hown, hts⟩ (c_X4_goodCount l D cy t H.size K z1 z1_uppers v1_n v1_p v1_q v1_goodOnes v1_frozenOnes r_7 hc_8) (cwV 0 hts gX7_countAcross_X4_goodCount rfl rfl rfl (by decide +kernel) ⟨Nat.le_of_ble_eq_true rfl, Nat.le_of_ble_eq_true rfl⟩) ⟨gBlind, va_recv hK hP (ci := 3) (q0 := 0) rfl rfl, fun U hU hW => ⟨rfl, gPre.call hK hG hA hP hD hS [0] (by decide) rfl U hU hW⟩⟩ rfl rfl hl.1 rfl (lv_room (Nat.le_of_ble_eq_true rfl)) dX7_countAcross_68 ⟨Nat.le_of_ble_eq_true rfl, Nat.le_of_ble_eq_true rfl⟩) hA hP hD hS [0] [1, 2, 3, 4, 5] rfl rfl (by decide) (by decide) (fun H locs hP hD hS => ?_)
    have hP := hP.sub (ws' := [(z1, .inr (3, [.int v1_n, .int v1_p, .int v1_q, .long v1_goodOnes, .long v1_frozenOnes, .ref z1_uppers])), (z, .inr (6, [.ref z_words, .ref z_rows, .ref z_failures, .int v_hasWords, .int v_hasRows, .int v_hasFailures, .ref z_stepWords, .ref z_plain, .ref z_factors, .ref z_lostByLost])), (z_stepWords, .inl (cy 1, 32, .inr (.inl o_4))), (z_plain, .inl (cy 0, 17, .inl o_5)), (z_rows, .inl (cy 0, 17, .inl v_rowsc)), (z_factors, .inl (cy 0, 17, .inl v_factorsc))]) [5, 0, 1, 2, 3, 4] rfl
    have hD := hD.sub (ws' := [(z1, .inr (3, [.int v1_n, .int v1_p, .int v1_q, .long v1_goodOnes, .long v1_frozenOnes, .ref z1_uppers])), (z, .inr (6, [.ref z_words, .ref z_rows, .ref z_failures, .int v_hasWords, .int v_hasRows, .int v_hasFailures, .ref z_stepWords, .ref z_plain, .ref z_factors, .ref z_lostByLost])), (z_stepWords, .inl (cy 1, 32, .inr (.inl o_4))), (z_plain, .inl (cy 0, 17, .inl o_5)), (z_rows, .inl (cy 0, 17, .inl v_rowsc)), (z_factors, .inl (cy 0, 17, .inl v_factorsc))]) [5, 0, 1, 2, 3, 4] (by decide) rfl
    obtain ⟨⟨o_9, o_10⟩, hc_11, h⟩ := gx_b h
    refine gCallv (wr := [(z1, .inr (3, [.int v1_n, .int v1_p, .int v1_q, .long v1_goodOnes, .long v1_frozenOnes, .ref z1_uppers])), (z_stepWords, .inl (cy 1, 32, .inr (.inl o_4)))]) (va_runV (As := [.int v1_n, .int r_7]) (rest := []) ⟨hx, hb, hml, hown, hts⟩ (c_X7_turnAcross l D cy t H.size K z z_rows z_plain z_factors z_words z_failures z_stepWords z_lostByLost v_hasWords v_hasRows v_hasFailures v_rowsc o_5 v_factorsc v1_n r_7 o_9 o_10 hc_11) (cwV 2 hts gX7_countAcross_X7_turnAcross rfl rfl rfl (by decide +kernel) ⟨Nat.le_of_ble_eq_true rfl, Nat.le_of_ble_eq_true rfl⟩) ⟨gBlind, va_recv hK hP (ci := 6) (q0 := 1) rfl rfl, fun U hU hW => ⟨rfl, gPre.call hK hG hA hP hD hS [1, 4, 3, 5] (by decide) rfl U hU hW⟩⟩ rfl rfl hl.1 rfl (lv_room (Nat.le_of_ble_eq_true rfl)) dX7_countAcross_71 ⟨Nat.le_of_ble_eq_true rfl, Nat.le_of_ble_eq_true rfl⟩) hA hP hD hS [1, 4, 3, 5] [0, 2] rfl rfl (by decide) (by decide) (fun H locs hP hD hS => ?_)
    have hP := hP.sub (ws' := [(z1, .inr (3, [.int v1_n, .int v1_p, .int v1_q, .long v1_goodOnes, .long v1_frozenOnes, .ref z1_uppers])), (z, .inr (6, [.ref z_words, .ref z_rows, .ref z_failures, .int v_hasWords, .int v_hasRows, .int v_hasFailures, .ref z_stepWords, .ref z_plain, .ref z_factors, .ref z_lostByLost])), (z_stepWords, .inl (cy 1, 32, .inr (.inl o_4))), (z_plain, .inl (cy 0, 17, .inl o_5)), (z_rows, .inl (cy 0, 17, .inl o_9)), (z_factors, .inl (cy 0, 17, .inl o_10))]) [0, 2, 1, 4, 3, 5] rfl
    have hD := hD.sub (ws' := [(z1, .inr (3, [.int v1_n, .int v1_p, .int v1_q, .long v1_goodOnes, .long v1_frozenOnes, .ref z1_uppers])), (z, .inr (6, [.ref z_words, .ref z_rows, .ref z_failures, .int v_hasWords, .int v_hasRows, .int v_hasFailures, .ref z_stepWords, .ref z_plain, .ref z_factors, .ref z_lostByLost])), (z_stepWords, .inl (cy 1, 32, .inr (.inl o_4))), (z_plain, .inl (cy 0, 17, .inl o_5)), (z_rows, .inl (cy 0, 17, .inl o_9)), (z_factors, .inl (cy 0, 17, .inl o_10))]) [0, 2, 1, 4, 3, 5] (by decide) rfl
    cases h
    exact gRv hx hb hr hlocks hP hD hS dX7_countAcross_74
  · have h := gx_f c_3 h
    refine lv_aload_n hx hb dX7_countAcross_15 rfl (lv_at hl 2 rfl) ?_
    obtain ⟨r_12, hc_13, h⟩ := gx_b h
    refine gCalll (wr := [(z, .inr (6, [.ref z_words, .ref z_rows, .ref z_failures, .int v_hasWords, .int v_hasRows, .int v_hasFailures, .ref z_stepWords, .ref z_plain, .ref z_factors, .ref z_lostByLost])), (z_stepWords, .inl (cy 1, 32, .inr (.inl v_stepWordsc))), (z_plain, .inl (cy 0, 17, .inl v_plainc)), (z_rows, .inl (cy 0, 17, .inl v_rowsc)), (z_factors, .inl (cy 0, 17, .inl v_factorsc))]) (va_runV (As := []) (rest := []) ⟨hx, hb, hml, hown, hts⟩ (c_X4_allPlaces l D cy t H.size K z1 z1_uppers v1_n v1_p v1_q v1_goodOnes v1_frozenOnes r_12 hc_13) (cwV 0 hts gX7_countAcross_X4_allPlaces rfl rfl rfl (by decide +kernel) ⟨Nat.le_of_ble_eq_true rfl, Nat.le_of_ble_eq_true rfl⟩) ⟨gBlind, va_recv hK hP (ci := 3) (q0 := 0) rfl rfl, fun U hU hW => ⟨rfl, gPre.call hK hG hA hP hD hS [0] (by decide) rfl U hU hW⟩⟩ rfl rfl hl.1 rfl (lv_room (Nat.le_of_ble_eq_true rfl)) dX7_countAcross_16 ⟨Nat.le_of_ble_eq_true rfl, Nat.le_of_ble_eq_true rfl⟩) hA hP hD hS [0] [1, 2, 3, 4, 5] rfl rfl (by decide) (by decide) (fun H locs hP hD hS => ?_)
    have hP := hP.sub (ws' := [(z1, .inr (3, [.int v1_n, .int v1_p, .int v1_q, .long v1_goodOnes, .long v1_frozenOnes, .ref z1_uppers])), (z, .inr (6, [.ref z_words, .ref z_rows, .ref z_failures, .int v_hasWords, .int v_hasRows, .int v_hasFailures, .ref z_stepWords, .ref z_plain, .ref z_factors, .ref z_lostByLost])), (z_stepWords, .inl (cy 1, 32, .inr (.inl v_stepWordsc))), (z_plain, .inl (cy 0, 17, .inl v_plainc)), (z_rows, .inl (cy 0, 17, .inl v_rowsc)), (z_factors, .inl (cy 0, 17, .inl v_factorsc))]) [5, 0, 1, 2, 3, 4] rfl
    have hD := hD.sub (ws' := [(z1, .inr (3, [.int v1_n, .int v1_p, .int v1_q, .long v1_goodOnes, .long v1_frozenOnes, .ref z1_uppers])), (z, .inr (6, [.ref z_words, .ref z_rows, .ref z_failures, .int v_hasWords, .int v_hasRows, .int v_hasFailures, .ref z_stepWords, .ref z_plain, .ref z_factors, .ref z_lostByLost])), (z_stepWords, .inl (cy 1, 32, .inr (.inl v_stepWordsc))), (z_plain, .inl (cy 0, 17, .inl v_plainc)), (z_rows, .inl (cy 0, 17, .inl v_rowsc)), (z_factors, .inl (cy 0, 17, .inl v_factorsc))]) [5, 0, 1, 2, 3, 4] (by decide) rfl
    refine lv_aload_n hx hb dX7_countAcross_19 rfl (lv_at hl 2 rfl) ?_
    refine va_get (D := D) (ci := 3) (v := .long v1_goodOnes) (C := RX4) (T := TX4) (N := 6) hx hb hts iX4 hown hK hP 0 rfl rfl 3 (by decide) f44 (fun _ h9 => h9) rfl dX7_countAcross_20 ?_
    refine lv_ldc2 hx hb hown k103 dX7_countAcross_23 ?_
    refine lv_lxor hx hb dX7_countAcross_26 ?_
    refine lv_land hx hb dX7_countAcross_27 ?_
    refine lv_topl (fun y3_14 e_y3_14 => ?_)
    have h := gx_let e_y3_14 h
    refine lv_lstore_n (lv' := [(3, .long y3_14), (2, .int v1_n), (0, .ref z), (1, .ref z1)]) hx hb dX7_countAcross_28 rfl hl (by decide) rfl (fun ls hl => ?_)
    refine lv_aload_n hx hb dX7_countAcross_29 rfl (lv_at hl 2 rfl) ?_
    refine lv_lload_n hx hb dX7_countAcross_30 rfl (lv_at hl 0 rfl) ?_
    obtain ⟨r_15, hc_16, h⟩ := gx_b h
    refine gCalll (wr := [(z1, .inr (3, [.int v1_n, .int v1_p, .int v1_q, .long v1_goodOnes, .long v1_frozenOnes, .ref z1_uppers])), (z, .inr (6, [.ref z_words, .ref z_rows, .ref z_failures, .int v_hasWords, .int v_hasRows, .int v_hasFailures, .ref z_stepWords, .ref z_plain, .ref z_factors, .ref z_lostByLost])), (z_stepWords, .inl (cy 1, 32, .inr (.inl v_stepWordsc))), (z_plain, .inl (cy 0, 17, .inl v_plainc)), (z_rows, .inl (cy 0, 17, .inl v_rowsc)), (z_factors, .inl (cy 0, 17, .inl v_factorsc))]) (va_runS (As := [.long y3_14]) (rest := [.ref z]) ⟨hx, hb, hml, hown, hts⟩ (c_J13_reverse_067f4 l D cy t H.size K y3_14 r_15 hc_16) (va_cwS 1 hts gX7_countAcross_J13_reverse_067f4 rfl rfl rfl (by decide +kernel) ⟨Nat.le_of_ble_eq_true rfl, Nat.le_of_ble_eq_true rfl⟩) ⟨gBlind, fun U hU hW => ⟨rfl, gPre.call hK hG hA hP hD hS [] (by decide) rfl U hU hW⟩⟩ rfl rfl hl.1 rfl (lv_room (Nat.le_of_ble_eq_true rfl)) dX7_countAcross_31 ⟨Nat.le_of_ble_eq_true rfl, Nat.le_of_ble_eq_true rfl⟩) hA hP hD hS [] [0, 1, 2, 3, 4, 5] rfl rfl (by decide) (by decide) (fun H locs hP hD hS => ?_)
    have hP : va_P D vwCl [(z1, .inr (3, [.int v1_n, .int v1_p, .int v1_q, .long v1_goodOnes, .long v1_frozenOnes, .ref z1_uppers])), (z, .inr (6, [.ref z_words, .ref z_rows, .ref z_failures, .int v_hasWords, .int v_hasRows, .int v_hasFailures, .ref z_stepWords, .ref z_plain, .ref z_factors, .ref z_lostByLost])), (z_stepWords, .inl (cy 1, 32, .inr (.inl v_stepWordsc))), (z_plain, .inl (cy 0, 17, .inl v_plainc)), (z_rows, .inl (cy 0, 17, .inl v_rowsc)), (z_factors, .inl (cy 0, 17, .inl v_factorsc))] H := hP
    have hD : va_D A [(z1, .inr (3, [.int v1_n, .int v1_p, .int v1_q, .long v1_goodOnes, .long v1_frozenOnes, .ref z1_uppers])), (z, .inr (6, [.ref z_words, .ref z_rows, .ref z_failures, .int v_hasWords, .int v_hasRows, .int v_hasFailures, .ref z_stepWords, .ref z_plain, .ref z_factors, .ref z_lostByLost])), (z_stepWords, .inl (cy 1, 32, .inr (.inl v_stepWordsc))), (z_plain, .inl (cy 0, 17, .inl v_plainc)), (z_rows, .inl (cy 0, 17, .inl v_rowsc)), (z_factors, .inl (cy 0, 17, .inl v_factorsc))] := hD
    refine lv_bipush (v := 64) hx hb dX7_countAcross_34 (by decide) ?_
    refine lv_iload_n hx hb dX7_countAcross_36 rfl (lv_at hl 1 rfl) ?_
    refine lv_isub hx hb dX7_countAcross_37 ?_
    refine lv_lushr (v := (gLushr r_15 (64 - v1_n))) hx hb dX7_countAcross_38 rfl ?_
    refine lv_lconst (v := 0) hx hb dX7_countAcross_39 (by decide) ?_
    refine lv_iload_n hx hb dX7_countAcross_40 rfl (lv_at hl 1 rfl) ?_
    refine lv_aload_n hx hb dX7_countAcross_41 rfl (lv_at hl 2 rfl) ?_
    refine va_get (D := D) (ci := 6) (v := .ref z_rows) (C := RX7) (T := TX7) (N := 10) hx hb hts iX7 hown hK hP 1 rfl rfl 1 (by decide) f15 (fun _ h9 => h9) rfl dX7_countAcross_42 ?_
    obtain ⟨⟨o_17, o_18⟩, hc_19, h⟩ := gx_b h
    refine gCallv (wr := [(z1, .inr (3, [.int v1_n, .int v1_p, .int v1_q, .long v1_goodOnes, .long v1_frozenOnes, .ref z1_uppers])), (z_plain, .inl (cy 0, 17, .inl v_plainc)), (z_factors, .inl (cy 0, 17, .inl v_factorsc))]) (va_runV (As := [.long (gLushr r_15 (64 - v1_n)), .long 0, .int v1_n, .ref z_rows]) (rest := []) ⟨hx, hb, hml, hown, hts⟩ (c_X7_countByOnes l D cy t H.size K z z_stepWords z_rows z_words z_rows z_failures z_plain z_factors z_lostByLost v_hasWords v_hasRows v_hasFailures v_stepWordsc v_rowsc 17 (gLushr r_15 (64 - v1_n)) 0 v1_n o_17 o_18 hc_19) (cwV 4 hts gX7_countAcross_X7_countByOnes rfl rfl rfl (by decide +kernel) ⟨Nat.le_of_ble_eq_true rfl, Nat.le_of_ble_eq_true rfl⟩) ⟨gBlind, va_recv hK hP (ci := 6) (q0 := 1) rfl rfl, fun U hU hW => ⟨rfl, gPre.call hK hG hA hP hD hS [1, 2, 4] (by decide) rfl U hU hW⟩⟩ rfl rfl hl.1 rfl (lv_room (Nat.le_of_ble_eq_true rfl)) dX7_countAcross_45 ⟨Nat.le_of_ble_eq_true rfl, Nat.le_of_ble_eq_true rfl⟩) hA hP hD hS [1, 2, 4] [0, 3, 5] rfl rfl (by decide) (by decide) (fun H locs hP hD hS => ?_)
    have hP := hP.sub (ws' := [(z1, .inr (3, [.int v1_n, .int v1_p, .int v1_q, .long v1_goodOnes, .long v1_frozenOnes, .ref z1_uppers])), (z, .inr (6, [.ref z_words, .ref z_rows, .ref z_failures, .int v_hasWords, .int v_hasRows, .int v_hasFailures, .ref z_stepWords, .ref z_plain, .ref z_factors, .ref z_lostByLost])), (z_stepWords, .inl (cy 1, 32, .inr (.inl o_17))), (z_plain, .inl (cy 0, 17, .inl v_plainc)), (z_rows, .inl (cy 0, 17, .inl o_18)), (z_factors, .inl (cy 0, 17, .inl v_factorsc))]) [0, 3, 4, 1, 5, 2] rfl
    have hD := hD.sub (ws' := [(z1, .inr (3, [.int v1_n, .int v1_p, .int v1_q, .long v1_goodOnes, .long v1_frozenOnes, .ref z1_uppers])), (z, .inr (6, [.ref z_words, .ref z_rows, .ref z_failures, .int v_hasWords, .int v_hasRows, .int v_hasFailures, .ref z_stepWords, .ref z_plain, .ref z_factors, .ref z_lostByLost])), (z_stepWords, .inl (cy 1, 32, .inr (.inl o_17))), (z_plain, .inl (cy 0, 17, .inl v_plainc)), (z_rows, .inl (cy 0, 17, .inl o_18)), (z_factors, .inl (cy 0, 17, .inl v_factorsc))]) [0, 3, 4, 1, 5, 2] (by decide) rfl
    refine lv_goto (tgt := 74) hx hb dX7_countAcross_48 (by decide) ?_
    cases h
    exact gRv hx hb hr hlocks hP hD hS dX7_countAcross_74

def f_X7_rowsAcross (K : Nat) (x2 : Int32) (v_hasRows : Int32) (v1_n : Int32) (v1_goodOnes : Int64) (v_stepWordsc : Nat → Int64) (v_plainc : Nat → Int32) (v_rowsc : Nat → Int32) (v_factorsc : Nat → Int32) : Option (Int32 × Int32 × (Nat → Int64) × (Nat → Int32) × (Nat → Int32) × (Nat → Int32)) :=
  Option.bind (α := Int32 × (Nat → Int64) × (Nat → Int32) × (Nat → Int32) × (Nat → Int32)) (
    if v_hasRows = 0 then
      Option.bind (f_X7_countAcross K v1_n v1_goodOnes v_stepWordsc v_plainc v_rowsc v_factorsc) fun (o_7, o_8, o_9, o_10) =>
      some (1, o_7, o_8, o_9, o_10)
    else
      some (v_hasRows, v_stepWordsc, v_plainc, v_rowsc, v_factorsc)) fun (mf_1, mc_2, mc_3, mc_4, mc_5) =>
  gIx x2 17 <|
  some ((mc_4 (Int32.toNatClampNeg x2)), mf_1, mc_2, mc_3, mc_4, mc_5)
set_option maxHeartbeats 4000000 in
set_option maxRecDepth 100000 in
theorem c_X7_rowsAcross (l : Launch) (D : va_G) (cy : Nat → ClassId) (t sz K : Nat) (z : Nat) (z1 : Nat) (z_stepWords : Nat) (z_plain : Nat) (z_rows : Nat) (z_factors : Nat) (z_words : Nat) (z_failures : Nat) (z_lostByLost : Nat) (z1_uppers : Nat) (v_hasWords : Int32) (v_hasRows : Int32) (v_hasFailures : Int32) (v1_n : Int32) (v1_p : Int32) (v1_q : Int32) (v1_goodOnes : Int64) (v1_frozenOnes : Int64) (v_stepWordsc : Nat → Int64) (v_plainc : Nat → Int32) (v_rowsc : Nat → Int32) (v_factorsc : Nat → Int32) (x2 : Int32) (r_ : Int32) (o_v_hasRows : Int32) (o_v_stepWordsc : Nat → Int64) (o_v_plainc : Nat → Int32) (o_v_rowsc : Nat → Int32) (o_v_factorsc : Nat → Int32) (h : f_X7_rowsAcross K x2 v_hasRows v1_n v1_goodOnes v_stepWordsc v_plainc v_rowsc v_factorsc = some (r_, o_v_hasRows, o_v_stepWordsc, o_v_plainc, o_v_rowsc, o_v_factorsc)) : gMi l D cy t sz yX7_rowsAcross wsX7_rowsAcross 4 106 [.ref z, .ref z1, .int x2] [(z, .inr (6, [.ref z_words, .ref z_rows, .ref z_failures, .int v_hasWords, .int v_hasRows, .int v_hasFailures, .ref z_stepWords, .ref z_plain, .ref z_factors, .ref z_lostByLost])), (z1, .inr (3, [.int v1_n, .int v1_p, .int v1_q, .long v1_goodOnes, .long v1_frozenOnes, .ref z1_uppers])), (z_stepWords, .inl (cy 1, 32, .inr (.inl v_stepWordsc))), (z_plain, .inl (cy 0, 17, .inl v_plainc)), (z_rows, .inl (cy 0, 17, .inl v_rowsc)), (z_factors, .inl (cy 0, 17, .inl v_factorsc))] r_ [(z, .inr (6, [.ref z_words, .ref z_rows, .ref z_failures, .int v_hasWords, .int o_v_hasRows, .int v_hasFailures, .ref z_stepWords, .ref z_plain, .ref z_factors, .ref z_lostByLost])), (z1, .inr (3, [.int v1_n, .int v1_p, .int v1_q, .long v1_goodOnes, .long v1_frozenOnes, .ref z1_uppers])), (z_stepWords, .inl (cy 1, 32, .inr (.inl o_v_stepWordsc))), (z_plain, .inl (cy 0, 17, .inl o_v_plainc)), (z_rows, .inl (cy 0, 17, .inl o_v_rowsc)), (z_factors, .inl (cy 0, 17, .inl o_v_factorsc))] := by
  refine gBi (cc := cX7_rowsAcross) (maxL := 3) (ret := (some .int)) (by decide) rfl (Nat.le_of_ble_eq_true rfl) ?_
  intro p e s m below meth c A ls hAt hl
  obtain ⟨hx, hb, hml, hr, hts, hown, hlocks, hin, hK, hG, hA, hP, hD⟩ := hAt
  have hS : va_S A s.heap s.heap [] := va_S.rf
  have hl : lv_has ls 3 [(0, .ref z), (1, .ref z1), (2, .int x2)] := hl
  have f38 := hts (.fieldLink RX7 38 "PlainLines$Tally" "hasRows" "Z") (by decide +kernel)
  have iX7 := (by decide +kernel : ∀ w ∈ u_ws RX7 TX7 10, w ∈ wsX7_rowsAcross)
  have f15 := hts (.fieldLink RX7 15 "PlainLines$Tally" "rows" "[I") (by decide +kernel)
  rw [f_X7_rowsAcross] at h
  refine lv_aload_n hx hb dX7_rowsAcross_0 rfl (lv_at hl 0 rfl) ?_
  refine va_get (D := D) (ci := 6) (v := .int v_hasRows) (C := RX7) (T := TX7) (N := 10) hx hb hts iX7 hown hK hP 0 rfl rfl 4 (by decide) f38 (fun _ h9 => h9) rfl dX7_rowsAcross_1 ?_
  obtain ⟨⟨mf_1, mc_2, mc_3, mc_4, mc_5⟩, hR_6, h⟩ := gx_b h
  refine gJoin (Pj := fun H locs ls => va_P D vwCl [(z, .inr (6, [.ref z_words, .ref z_rows, .ref z_failures, .int v_hasWords, .int mf_1, .int v_hasFailures, .ref z_stepWords, .ref z_plain, .ref z_factors, .ref z_lostByLost])), (z1, .inr (3, [.int v1_n, .int v1_p, .int v1_q, .long v1_goodOnes, .long v1_frozenOnes, .ref z1_uppers])), (z_stepWords, .inl (cy 1, 32, .inr (.inl mc_2))), (z_plain, .inl (cy 0, 17, .inl mc_3)), (z_rows, .inl (cy 0, 17, .inl mc_4)), (z_factors, .inl (cy 0, 17, .inl mc_5))] H ∧ va_D A [(z, .inr (6, [.ref z_words, .ref z_rows, .ref z_failures, .int v_hasWords, .int mf_1, .int v_hasFailures, .ref z_stepWords, .ref z_plain, .ref z_factors, .ref z_lostByLost])), (z1, .inr (3, [.int v1_n, .int v1_p, .int v1_q, .long v1_goodOnes, .long v1_frozenOnes, .ref z1_uppers])), (z_stepWords, .inl (cy 1, 32, .inr (.inl mc_2))), (z_plain, .inl (cy 0, 17, .inl mc_3)), (z_rows, .inl (cy 0, 17, .inl mc_4)), (z_factors, .inl (cy 0, 17, .inl mc_5))] ∧ va_S A s.heap H locs ∧ lv_has ls 3 [(0, .ref z), (1, .ref z1), (2, .int x2)]) (pcM := 17) (st := []) ?_ (fun hJ17 => ?_)
  · intro H locs ls hp_
    obtain ⟨hP, hD, hS, hl⟩ := hp_
    clear hR_6
    refine lv_aload_n hx hb dX7_rowsAcross_17 rfl (lv_at hl 0 rfl) ?_
    refine va_get (D := D) (ci := 6) (v := .ref z_rows) (C := RX7) (T := TX7) (N := 10) hx hb hts iX7 hown hK hP 0 rfl rfl 1 (by decide) f15 (fun _ h9 => h9) rfl dX7_rowsAcross_18 ?_
    refine lv_iload_n hx hb dX7_rowsAcross_21 rfl (lv_at hl 2 rfl) ?_
    obtain ⟨hi_, h⟩ := gx_ix h
    refine va_iald hx hb hK hP 4 0 rfl rfl hi_ dX7_rowsAcross_22 ?_
    cases h
    exact gRi hx hb hr hlocks hP hD hS dX7_rowsAcross_23
  · have h := hR_6
    refine lv_if_ne (tgt := 17) hx hb dX7_rowsAcross_4 (by decide) (fun c_7 => ?_) (fun c_7 => ?_)
    · have h := gx_f c_7 h
      have hl := lv_sub (l' := [(0, .ref z), (1, .ref z1), (2, .int x2)]) hl [0, 1, 2] rfl
      cases h
      exact hJ17 _ _ _ ⟨hP, hD, hS, hl⟩
    · have h := gx_t c_7 h
      refine lv_aload_n hx hb dX7_rowsAcross_7 rfl (lv_at hl 0 rfl) ?_
      refine lv_aload_n hx hb dX7_rowsAcross_8 rfl (lv_at hl 1 rfl) ?_
      obtain ⟨⟨o_8, o_9, o_10, o_11⟩, hc_12, h⟩ := gx_b h
      refine gCallv (wr := []) (va_runV (As := [.ref z1]) (rest := []) ⟨hx, hb, hml, hown, hts⟩ (c_X7_countAcross l D cy t s.heap.size K z1 z z_stepWords z_plain z_rows z_factors z1_uppers z_words z_failures z_lostByLost v1_n v1_p v1_q v1_goodOnes v1_frozenOnes v_hasWords v_hasRows v_hasFailures v_stepWordsc v_plainc v_rowsc v_factorsc o_8 o_9 o_10 o_11 hc_12) (cwV 1 hts gX7_rowsAcross_X7_countAcross rfl rfl rfl (by decide +kernel) ⟨Nat.le_of_ble_eq_true rfl, Nat.le_of_ble_eq_true rfl⟩) ⟨gBlind, va_recv hK hP (ci := 6) (q0 := 0) rfl rfl, fun U hU hW => ⟨rfl, gPre.call hK hG hA hP hD hS [1, 0, 2, 3, 4, 5] (by decide) rfl U hU hW⟩⟩ rfl rfl hl.1 rfl (lv_room (Nat.le_of_ble_eq_true rfl)) dX7_rowsAcross_9 ⟨Nat.le_of_ble_eq_true rfl, Nat.le_of_ble_eq_true rfl⟩) hA hP hD hS [1, 0, 2, 3, 4, 5] [] rfl rfl (by decide) (by decide) (fun H locs hP hD hS => ?_)
      have hP := hP.sub (ws' := [(z, .inr (6, [.ref z_words, .ref z_rows, .ref z_failures, .int v_hasWords, .int v_hasRows, .int v_hasFailures, .ref z_stepWords, .ref z_plain, .ref z_factors, .ref z_lostByLost])), (z1, .inr (3, [.int v1_n, .int v1_p, .int v1_q, .long v1_goodOnes, .long v1_frozenOnes, .ref z1_uppers])), (z_stepWords, .inl (cy 1, 32, .inr (.inl o_8))), (z_plain, .inl (cy 0, 17, .inl o_9)), (z_rows, .inl (cy 0, 17, .inl o_10)), (z_factors, .inl (cy 0, 17, .inl o_11))]) [1, 0, 2, 3, 4, 5] rfl
      have hD := hD.sub (ws' := [(z, .inr (6, [.ref z_words, .ref z_rows, .ref z_failures, .int v_hasWords, .int v_hasRows, .int v_hasFailures, .ref z_stepWords, .ref z_plain, .ref z_factors, .ref z_lostByLost])), (z1, .inr (3, [.int v1_n, .int v1_p, .int v1_q, .long v1_goodOnes, .long v1_frozenOnes, .ref z1_uppers])), (z_stepWords, .inl (cy 1, 32, .inr (.inl o_8))), (z_plain, .inl (cy 0, 17, .inl o_9)), (z_rows, .inl (cy 0, 17, .inl o_10)), (z_factors, .inl (cy 0, 17, .inl o_11))]) [1, 0, 2, 3, 4, 5] (by decide) rfl
      refine lv_aload_n hx hb dX7_rowsAcross_12 rfl (lv_at hl 0 rfl) ?_
      refine lv_iconst (v := 1) hx hb dX7_rowsAcross_13 (by decide) ?_
      refine va_put (D := D) (ci := 6) (v := .int 1) (ty := .boolean) (C := RX7) (T := TX7) (N := 10) hx hb hts iX7 tyX7 tyX7_ok nmX7 hown hK hP hD hS 0 rfl rfl 4 (by decide) f38 (fun _ h9 => h9) rfl (by decide +kernel) rfl rfl (Nat.le_of_ble_eq_true rfl) dX7_rowsAcross_14 (fun H locs hP hD hS => ?_)
      have hP : va_P D vwCl [(z, .inr (6, [.ref z_words, .ref z_rows, .ref z_failures, .int v_hasWords, .int 1, .int v_hasFailures, .ref z_stepWords, .ref z_plain, .ref z_factors, .ref z_lostByLost])), (z1, .inr (3, [.int v1_n, .int v1_p, .int v1_q, .long v1_goodOnes, .long v1_frozenOnes, .ref z1_uppers])), (z_stepWords, .inl (cy 1, 32, .inr (.inl o_8))), (z_plain, .inl (cy 0, 17, .inl o_9)), (z_rows, .inl (cy 0, 17, .inl o_10)), (z_factors, .inl (cy 0, 17, .inl o_11))] H := hP
      have hD : va_D A [(z, .inr (6, [.ref z_words, .ref z_rows, .ref z_failures, .int v_hasWords, .int 1, .int v_hasFailures, .ref z_stepWords, .ref z_plain, .ref z_factors, .ref z_lostByLost])), (z1, .inr (3, [.int v1_n, .int v1_p, .int v1_q, .long v1_goodOnes, .long v1_frozenOnes, .ref z1_uppers])), (z_stepWords, .inl (cy 1, 32, .inr (.inl o_8))), (z_plain, .inl (cy 0, 17, .inl o_9)), (z_rows, .inl (cy 0, 17, .inl o_10)), (z_factors, .inl (cy 0, 17, .inl o_11))] := hD
      have hl := lv_sub (l' := [(0, .ref z), (1, .ref z1), (2, .int x2)]) hl [0, 1, 2] rfl
      cases h
      exact hJ17 _ _ _ ⟨hP, hD, hS, hl⟩

def fL_X7_lostPlaces_9 (K : Nat) (l1 : Int32) : Nat → Int32 × Int32 → Option (Int32 × Int32)
  | 0, _ => none
  | k + 1, (l3, l2) =>
    if l3 < 0 then
      some (l3, l2)
    else
      gLet (1 <<< (l3 &&& 31)) fun y4_3 =>
      if l1 ≤ y4_3 then
        gLet (l3 + (-1)) fun y3_5 =>
        fL_X7_lostPlaces_9 K l1 k (y3_5, l2)
      else
        gIx l3 5 <|
        gLet (l2 &&& (Int64.toInt32 (gFP (Int32.toNatClampNeg l3)))) fun y5_6 =>
        gIx l3 5 <|
        gLet ((gIushr l2 y4_3) &&& (Int64.toInt32 (gFP (Int32.toNatClampNeg l3)))) fun y6_7 =>
        gLet ((y5_6 ||| y6_7) ||| ((y5_6 &&& y6_7) <<< (y4_3 &&& 31))) fun y2_8 =>
        gLet (l3 + (-1)) fun y3_9 =>
        fL_X7_lostPlaces_9 K l1 k (y3_9, y2_8)
def f_X7_lostPlaces (K : Nat) (x1 : Int32) (x2 : Int32) : Option (Int32) :=
  gLet (5 - 1) fun y3_1 =>
  Option.bind (fL_X7_lostPlaces_9 K x2 K (y3_1, x1)) fun (o_10, o_11) =>
  some o_11
set_option maxHeartbeats 4000000 in
set_option maxRecDepth 100000 in
theorem c_X7_lostPlaces (l : Launch) (D : va_G) (cy : Nat → ClassId) (t sz K : Nat) (x1 : Int32) (x2 : Int32) (r_ : Int32) (h : f_X7_lostPlaces K x1 x2 = some r_) : gMi l D cy t sz yX7_lostPlaces wsX7_lostPlaces 0 0 [.int x1, .int x2] [] r_ [] := by
  refine gBi (cc := cX7_lostPlaces) (maxL := 7) (ret := (some .int)) (by decide) rfl (Nat.le_of_ble_eq_true rfl) ?_
  intro p e s m below meth c A ls hAt hl
  obtain ⟨hx, hb, hml, hr, hts, hown, hlocks, hin, hK, hG, hA, hP, hD⟩ := hAt
  have hS : va_S A s.heap s.heap [] := va_S.rf
  have hl : lv_has ls 7 [(0, .int x1), (1, .int x2)] := hl
  rw [f_X7_lostPlaces] at h
  refine lv_iload_n hx hb dX7_lostPlaces_0 rfl (lv_at hl 0 rfl) ?_
  refine lv_istore_n (lv' := [(2, .int x1), (0, .int x1), (1, .int x2)]) hx hb dX7_lostPlaces_1 rfl hl (by decide) rfl (fun ls hl => ?_)
  refine va_getsN hx hb hG.1 hS hown (va_Nw.use rfl hG.2.2.2.1) (fun _ h9 => h9) dX7_lostPlaces_2 ?_
  refine va_tlen (v := 5) hx hb hG.2.1 hS rfl dX7_lostPlaces_5 ?_
  refine lv_iconst (v := 1) hx hb dX7_lostPlaces_6 (by decide) ?_
  refine lv_isub hx hb dX7_lostPlaces_7 ?_
  refine lv_topi (fun y3_1 e_y3_1 => ?_)
  have h := gx_let e_y3_1 h
  refine lv_istore_n (lv' := [(3, .int y3_1), (2, .int x1), (0, .int x1), (1, .int x2)]) hx hb dX7_lostPlaces_8 rfl hl (by decide) rfl (fun ls hl => ?_)
  obtain ⟨⟨o_2, o_3⟩, hL_4, h⟩ := gx_b h
  refine gJoin (Pj := fun H locs ls => va_P D vwCl [] H ∧ va_D A [] ∧ va_S A s.heap H locs ∧ lv_has ls 7 [(3, .int o_2), (2, .int o_3), (0, .int x1), (1, .int x2)]) (pcM := 68) (st := []) ?_ (fun hJ68 => ?_)
  · intro H locs ls hp_
    obtain ⟨hP, hD, hS, hl⟩ := hp_
    clear hL_4
    refine lv_iload_n hx hb dX7_lostPlaces_68 rfl (lv_at hl 1 rfl) ?_
    cases h
    exact gRi hx hb hr hlocks hP hD hS dX7_lostPlaces_69
  · refine gLoop (Hy := fun k_ v_ => fL_X7_lostPlaces_9 K x2 k_ v_ = some (o_2, o_3)) (Pl := fun (v_ : Int32 × Int32) H locs ls => match v_ with | (a_5, a_6) => va_P D vwCl [] H ∧ va_D A [] ∧ va_S A s.heap H locs ∧ lv_has ls 7 [(3, .int a_5), (2, .int a_6), (0, .int x1), (1, .int x2)]) (pcH := 9) (fun _ q_ => by cases q_) ?_ K (y3_1, x1) hL_4 ⟨hP, hD, hS, hl⟩
    clear hL_4 h hP hD hS hl
    intro k_ ih ⟨a_5, a_6⟩ H locs ls h hp_
    obtain ⟨hP, hD, hS, hl⟩ := hp_
    have hP : va_P D vwCl [] H := hP
    have hD : va_D A [] := hD
    have hl : lv_has ls 7 [(3, .int a_5), (2, .int a_6), (0, .int x1), (1, .int x2)] := hl
    change fL_X7_lostPlaces_9 K x2 (k_ + 1) (a_5, a_6) = _ at h
    rw [fL_X7_lostPlaces_9] at h
    refine lv_iload_n hx hb dX7_lostPlaces_9 rfl (lv_at hl 0 rfl) ?_
    refine lv_if_lt (tgt := 68) hx hb dX7_lostPlaces_10 (by decide) (fun c_7 => ?_) (fun c_7 => ?_)
    · have h := gx_t c_7 h
      have hl := lv_sub (l' := [(3, .int a_5), (2, .int a_6), (0, .int x1), (1, .int x2)]) hl [0, 1, 2, 3] rfl
      cases h
      exact hJ68 _ _ _ ⟨hP, hD, hS, hl⟩
    · have h := gx_f c_7 h
      refine lv_iconst (v := 1) hx hb dX7_lostPlaces_13 (by decide) ?_
      refine lv_iload_n hx hb dX7_lostPlaces_14 rfl (lv_at hl 0 rfl) ?_
      refine lv_ishl hx hb dX7_lostPlaces_15 ?_
      refine lv_topi (fun y4_8 e_y4_8 => ?_)
      have h := gx_let e_y4_8 h
      refine lv_istore (lv' := [(4, .int y4_8), (3, .int a_5), (2, .int a_6), (0, .int x1), (1, .int x2)]) hx hb dX7_lostPlaces_16 hl (by decide) rfl (fun ls hl => ?_)
      refine lv_iload hx hb dX7_lostPlaces_18 (lv_at hl 0 rfl) ?_
      refine lv_iload_n hx hb dX7_lostPlaces_20 rfl (lv_at hl 4 rfl) ?_
      refine lv_icmp_ge (tgt := 62) hx hb dX7_lostPlaces_21 (by decide) (fun c_9 => ?_) (fun c_9 => ?_)
      · have h := gx_t c_9 h
        obtain ⟨y3_10, e_y3_10⟩ : ∃ y : Int32, y = (a_5 + (-1)) := ⟨_, rfl⟩
        have h := gx_let e_y3_10 h
        refine lv_iinc (v := y3_10) (lv' := [(3, .int y3_10), (4, .int y4_8), (2, .int a_6), (0, .int x1), (1, .int x2)]) hx hb dX7_lostPlaces_62 hl (k := 1) rfl (by rw [e_y3_10]; rfl) (by decide) rfl (fun ls hl => ?_)
        refine lv_goto (tgt := 9) hx hb dX7_lostPlaces_65 (by decide) ?_
        exact ih (y3_10, a_6) _ _ _ h ⟨hP, hD, hS, lv_sub (l' := [(3, .int y3_10), (2, .int a_6), (0, .int x1), (1, .int x2)]) hl [0, 2, 3, 4] rfl⟩
      · have h := gx_f c_9 h
        refine lv_iload_n hx hb dX7_lostPlaces_24 rfl (lv_at hl 2 rfl) ?_
        refine va_getsN hx hb hG.1 hS hown (va_Nw.use rfl hG.2.2.2.1) (fun _ h9 => h9) dX7_lostPlaces_25 ?_
        refine lv_iload_n hx hb dX7_lostPlaces_28 rfl (lv_at hl 1 rfl) ?_
        obtain ⟨hi_, h⟩ := gx_ix h
        refine va_tl hx hb hG.2.1 hS hi_ rfl dX7_lostPlaces_29 ?_
        refine lv_l2i (v := (Int64.toInt32 (gFP (Int32.toNatClampNeg a_5)))) hx hb dX7_lostPlaces_30 rfl ?_
        refine lv_iand hx hb dX7_lostPlaces_31 ?_
        refine lv_topi (fun y5_11 e_y5_11 => ?_)
        have h := gx_let e_y5_11 h
        refine lv_istore (lv' := [(5, .int y5_11), (4, .int y4_8), (3, .int a_5), (2, .int a_6), (0, .int x1), (1, .int x2)]) hx hb dX7_lostPlaces_32 hl (by decide) rfl (fun ls hl => ?_)
        refine lv_iload_n hx hb dX7_lostPlaces_34 rfl (lv_at hl 3 rfl) ?_
        refine lv_iload hx hb dX7_lostPlaces_35 (lv_at hl 1 rfl) ?_
        refine lv_iushr (v := (gIushr a_6 y4_8)) hx hb dX7_lostPlaces_37 rfl ?_
        refine va_getsN hx hb hG.1 hS hown (va_Nw.use rfl hG.2.2.2.1) (fun _ h9 => h9) dX7_lostPlaces_38 ?_
        refine lv_iload_n hx hb dX7_lostPlaces_41 rfl (lv_at hl 2 rfl) ?_
        obtain ⟨hi_, h⟩ := gx_ix h
        refine va_tl hx hb hG.2.1 hS hi_ rfl dX7_lostPlaces_42 ?_
        refine lv_l2i (v := (Int64.toInt32 (gFP (Int32.toNatClampNeg a_5)))) hx hb dX7_lostPlaces_43 rfl ?_
        refine lv_iand hx hb dX7_lostPlaces_44 ?_
        refine lv_topi (fun y6_12 e_y6_12 => ?_)
        have h := gx_let e_y6_12 h
        refine lv_istore (lv' := [(6, .int y6_12), (5, .int y5_11), (4, .int y4_8), (3, .int a_5), (2, .int a_6), (0, .int x1), (1, .int x2)]) hx hb dX7_lostPlaces_45 hl (by decide) rfl (fun ls hl => ?_)
        refine lv_iload hx hb dX7_lostPlaces_47 (lv_at hl 1 rfl) ?_
        refine lv_iload hx hb dX7_lostPlaces_49 (lv_at hl 0 rfl) ?_
        refine lv_ior hx hb dX7_lostPlaces_51 ?_
        refine lv_iload hx hb dX7_lostPlaces_52 (lv_at hl 1 rfl) ?_
        refine lv_iload hx hb dX7_lostPlaces_54 (lv_at hl 0 rfl) ?_
        refine lv_iand hx hb dX7_lostPlaces_56 ?_
        refine lv_iload hx hb dX7_lostPlaces_57 (lv_at hl 2 rfl) ?_
        refine lv_ishl hx hb dX7_lostPlaces_59 ?_
        refine lv_ior hx hb dX7_lostPlaces_60 ?_
        refine lv_topi (fun y2_13 e_y2_13 => ?_)
        have h := gx_let e_y2_13 h
        refine lv_istore_n (lv' := [(2, .int y2_13), (6, .int y6_12), (5, .int y5_11), (4, .int y4_8), (3, .int a_5), (0, .int x1), (1, .int x2)]) hx hb dX7_lostPlaces_61 rfl hl (by decide) rfl (fun ls hl => ?_)
        obtain ⟨y3_14, e_y3_14⟩ : ∃ y : Int32, y = (a_5 + (-1)) := ⟨_, rfl⟩
        have h := gx_let e_y3_14 h
        refine lv_iinc (v := y3_14) (lv' := [(3, .int y3_14), (2, .int y2_13), (6, .int y6_12), (5, .int y5_11), (4, .int y4_8), (0, .int x1), (1, .int x2)]) hx hb dX7_lostPlaces_62 hl (k := 4) rfl (by rw [e_y3_14]; rfl) (by decide) rfl (fun ls hl => ?_)
        refine lv_goto (tgt := 9) hx hb dX7_lostPlaces_65 (by decide) ?_
        exact ih (y3_14, y2_13) _ _ _ h ⟨hP, hD, hS, lv_sub (l' := [(3, .int y3_14), (2, .int y2_13), (0, .int x1), (1, .int x2)]) hl [0, 1, 5, 6] rfl⟩

def fL_X7_countFailures_35 (K : Nat) (l3 : Int32) (l2 : Int32) : Nat → Int32 × (Nat → Int32) → Option (Int32 × (Nat → Int32))
  | 0, _ => none
  | k + 1, (l6, u2) =>
    if l3 ≤ l6 then
      some (l6, u2)
    else
      Option.bind (f_X7_lostPlaces K l6 l2) fun r_10 =>
      gIx l6 256 <|
      gLet (upd u2 (Int32.toNatClampNeg l6) r_10) fun w_11 =>
      gLet (l6 + 1) fun y6_12 =>
      fL_X7_countFailures_35 K l3 l2 k (y6_12, w_11)
def fL_X7_countFailures_114 (K : Nat) (l8 : Int32) (l7 : Int32) (l6 : Int32) (l5 : Int32) (u2 : Nat → Int32) : Nat → Int32 × Int32 × (Nat → Int32) → Option (Int32 × Int32 × (Nat → Int32))
  | 0, _ => none
  | k + 1, (l10, l9, u3) =>
    if l10 ≤ 0 then
      some (l10, l9, u3)
    else
      Option.bind (α := (Nat → Int32)) (
        if l7 = 0 then
          gIx l9 256 <|
          if ((u2 (Int32.toNatClampNeg l9)) &&& l5) = 0 then
            some u3
          else
            Option.bind (f_J6_bitCount_0f7a4 K l9) fun r_40 =>
            gIx (l8 + r_40) 17 <|
            gLet ((u3 (Int32.toNatClampNeg (l8 + r_40))) + (1 <<< ((l8 - r_40) &&& 31))) fun y_41 =>
            gIx (l8 + r_40) 17 <|
            gLet (upd u3 (Int32.toNatClampNeg (l8 + r_40)) y_41) fun w_42 =>
            some w_42
        else
          Option.bind (f_J6_bitCount_0f7a4 K l9) fun r_36 =>
          gIx (l8 + r_36) 17 <|
          gLet ((u3 (Int32.toNatClampNeg (l8 + r_36))) + (1 <<< ((l8 - r_36) &&& 31))) fun y_37 =>
          gIx (l8 + r_36) 17 <|
          gLet (upd u3 (Int32.toNatClampNeg (l8 + r_36)) y_37) fun w_38 =>
          some w_38) fun mc_34 =>
      gLet ((l9 - 1) &&& l6) fun y9_43 =>
      gLet (l10 + (-1)) fun y10_44 =>
      fL_X7_countFailures_114 K l8 l7 l6 l5 u2 k (y10_44, y9_43, mc_34)
def fL_X7_countFailures_71 (K : Nat) (l5 : Int32) (l4 : Int32) (l3 : Int32) (u2 : Nat → Int32) : Nat → Int32 × (Nat → Int32) → Option (Int32 × (Nat → Int32))
  | 0, _ => none
  | k + 1, (l6, u3) =>
    if l3 ≤ l6 then
      some (l6, u3)
    else
      gIx l6 256 <|
      Option.bind (α := Int32) (
        if ((u2 (Int32.toNatClampNeg l6)) &&& l4) = 0 then
          some 0
        else
          some 1) fun ms_50 =>
      Option.bind (f_J6_bitCount_0f7a4 K l6) fun r_52 =>
      gLet (1 <<< (r_52 &&& 31)) fun y10_53 =>
      Option.bind (fL_X7_countFailures_114 K r_52 ms_50 l6 l5 u2 K (y10_53, l6, u3)) fun (o_54, o_55, o_56) =>
      gLet (l6 + 1) fun y6_57 =>
      fL_X7_countFailures_71 K l5 l4 l3 u2 k (y6_57, o_56)
def f_X7_countFailures (K : Nat) (v1_n : Int32) (v1_goodOnes : Int64) (v_lostByLostc : Nat → Int32) (v_failuresc : Nat → Int32) : Option ((Nat → Int32) × (Nat → Int32)) :=
  gLet (v1_n / 2) fun y2_1 =>
  gLet (1 <<< (y2_1 &&& 31)) fun y3_2 =>
  gLet (Int64.toInt32 (v1_goodOnes &&& (Int32.toInt64 (y3_2 - 1)))) fun y4_3 =>
  gLet (Int64.toInt32 (gLushr v1_goodOnes y2_1)) fun y5_4 =>
  Option.bind (fL_X7_countFailures_35 K y3_2 y2_1 K (0, v_lostByLostc)) fun (o_13, o_14) =>
  Option.bind (f_J7_fill_53178 K 0 v_failuresc 17) fun o_15 =>
  Option.bind (fL_X7_countFailures_71 K y5_4 y4_3 y3_2 o_14 K (0, o_15)) fun (o_58, o_59) =>
  some (o_14, o_59)
set_option maxHeartbeats 4000000 in
set_option maxRecDepth 100000 in
theorem c_X7_countFailures (l : Launch) (D : va_G) (cy : Nat → ClassId) (t sz K : Nat) (z1 : Nat) (z : Nat) (z_lostByLost : Nat) (z_failures : Nat) (z1_uppers : Nat) (z_words : Nat) (z_rows : Nat) (z_stepWords : Nat) (z_plain : Nat) (z_factors : Nat) (v1_n : Int32) (v1_p : Int32) (v1_q : Int32) (v1_goodOnes : Int64) (v1_frozenOnes : Int64) (v_hasWords : Int32) (v_hasRows : Int32) (v_hasFailures : Int32) (v_lostByLostc : Nat → Int32) (v_failuresc : Nat → Int32) (o_v_lostByLostc : Nat → Int32) (o_v_failuresc : Nat → Int32) (h : f_X7_countFailures K v1_n v1_goodOnes v_lostByLostc v_failuresc = some (o_v_lostByLostc, o_v_failuresc)) : gMv l D cy t sz yX7_countFailures wsX7_countFailures 1 26 [.ref z, .ref z1] [(z1, .inr (3, [.int v1_n, .int v1_p, .int v1_q, .long v1_goodOnes, .long v1_frozenOnes, .ref z1_uppers])), (z, .inr (6, [.ref z_words, .ref z_rows, .ref z_failures, .int v_hasWords, .int v_hasRows, .int v_hasFailures, .ref z_stepWords, .ref z_plain, .ref z_factors, .ref z_lostByLost])), (z_lostByLost, .inl (cy 0, 256, .inl v_lostByLostc)), (z_failures, .inl (cy 0, 17, .inl v_failuresc))] [(z1, .inr (3, [.int v1_n, .int v1_p, .int v1_q, .long v1_goodOnes, .long v1_frozenOnes, .ref z1_uppers])), (z, .inr (6, [.ref z_words, .ref z_rows, .ref z_failures, .int v_hasWords, .int v_hasRows, .int v_hasFailures, .ref z_stepWords, .ref z_plain, .ref z_factors, .ref z_lostByLost])), (z_lostByLost, .inl (cy 0, 256, .inl o_v_lostByLostc)), (z_failures, .inl (cy 0, 17, .inl o_v_failuresc))] := by
  refine gBv (cc := cX7_countFailures) (maxL := 12) (ret := none) (by decide) rfl (Nat.le_of_ble_eq_true rfl) ?_
  intro p e s m below meth c A ls hAt hl
  obtain ⟨hx, hb, hml, hr, hts, hown, hlocks, hin, hK, hG, hA, hP, hD⟩ := hAt
  have hS : va_S A s.heap s.heap [] := va_S.rf
  have hl : lv_has ls 12 [(0, .ref z), (1, .ref z1)] := hl
  have f54 := hts (.fieldLink RX7 54 "PlainLines$Places" "n" "I") (by decide +kernel)
  have iX4 := (by decide +kernel : ∀ w ∈ u_ws RX4 TX4 6, w ∈ wsX7_countFailures)
  have f44 := hts (.fieldLink RX7 44 "PlainLines$Places" "goodOnes" "J") (by decide +kernel)
  have f18 := hts (.fieldLink RX7 18 "PlainLines$Tally" "failures" "[I") (by decide +kernel)
  have iX7 := (by decide +kernel : ∀ w ∈ u_ws RX7 TX7 10, w ∈ wsX7_countFailures)
  have f31 := hts (.fieldLink RX7 31 "PlainLines$Tally" "lostByLost" "[I") (by decide +kernel)
  rw [f_X7_countFailures] at h
  refine lv_aload_n hx hb dX7_countFailures_0 rfl (lv_at hl 1 rfl) ?_
  refine va_get (D := D) (ci := 3) (v := .int v1_n) (C := RX4) (T := TX4) (N := 6) hx hb hts iX4 hown hK hP 0 rfl rfl 0 (by decide) f54 (fun _ h9 => h9) rfl dX7_countFailures_1 ?_
  refine lv_iconst (v := 2) hx hb dX7_countFailures_4 (by decide) ?_
  refine lv_idiv hx hb dX7_countFailures_5 (by decide) ?_
  refine lv_topi (fun y2_1 e_y2_1 => ?_)
  have h := gx_let e_y2_1 h
  refine lv_istore_n (lv' := [(2, .int y2_1), (0, .ref z), (1, .ref z1)]) hx hb dX7_countFailures_6 rfl hl (by decide) rfl (fun ls hl => ?_)
  refine lv_iconst (v := 1) hx hb dX7_countFailures_7 (by decide) ?_
  refine lv_iload_n hx hb dX7_countFailures_8 rfl (lv_at hl 0 rfl) ?_
  refine lv_ishl hx hb dX7_countFailures_9 ?_
  refine lv_topi (fun y3_2 e_y3_2 => ?_)
  have h := gx_let e_y3_2 h
  refine lv_istore_n (lv' := [(3, .int y3_2), (2, .int y2_1), (0, .ref z), (1, .ref z1)]) hx hb dX7_countFailures_10 rfl hl (by decide) rfl (fun ls hl => ?_)
  refine lv_aload_n hx hb dX7_countFailures_11 rfl (lv_at hl 3 rfl) ?_
  refine va_get (D := D) (ci := 3) (v := .long v1_goodOnes) (C := RX4) (T := TX4) (N := 6) hx hb hts iX4 hown hK hP 0 rfl rfl 3 (by decide) f44 (fun _ h9 => h9) rfl dX7_countFailures_12 ?_
  refine lv_iload_n hx hb dX7_countFailures_15 rfl (lv_at hl 0 rfl) ?_
  refine lv_iconst (v := 1) hx hb dX7_countFailures_16 (by decide) ?_
  refine lv_isub hx hb dX7_countFailures_17 ?_
  refine lv_i2l (v := (Int32.toInt64 (y3_2 - 1))) hx hb dX7_countFailures_18 rfl ?_
  refine lv_land hx hb dX7_countFailures_19 ?_
  refine lv_l2i (v := (Int64.toInt32 (v1_goodOnes &&& (Int32.toInt64 (y3_2 - 1))))) hx hb dX7_countFailures_20 rfl ?_
  refine lv_topi (fun y4_3 e_y4_3 => ?_)
  have h := gx_let e_y4_3 h
  refine lv_istore (lv' := [(4, .int y4_3), (3, .int y3_2), (2, .int y2_1), (0, .ref z), (1, .ref z1)]) hx hb dX7_countFailures_21 hl (by decide) rfl (fun ls hl => ?_)
  refine lv_aload_n hx hb dX7_countFailures_23 rfl (lv_at hl 4 rfl) ?_
  refine va_get (D := D) (ci := 3) (v := .long v1_goodOnes) (C := RX4) (T := TX4) (N := 6) hx hb hts iX4 hown hK hP 0 rfl rfl 3 (by decide) f44 (fun _ h9 => h9) rfl dX7_countFailures_24 ?_
  refine lv_iload_n hx hb dX7_countFailures_27 rfl (lv_at hl 2 rfl) ?_
  refine lv_lushr (v := (gLushr v1_goodOnes y2_1)) hx hb dX7_countFailures_28 rfl ?_
  refine lv_l2i (v := (Int64.toInt32 (gLushr v1_goodOnes y2_1))) hx hb dX7_countFailures_29 rfl ?_
  refine lv_topi (fun y5_4 e_y5_4 => ?_)
  have h := gx_let e_y5_4 h
  refine lv_istore (lv' := [(5, .int y5_4), (4, .int y4_3), (3, .int y3_2), (2, .int y2_1), (0, .ref z), (1, .ref z1)]) hx hb dX7_countFailures_30 hl (by decide) rfl (fun ls hl => ?_)
  refine lv_iconst (v := 0) hx hb dX7_countFailures_32 (by decide) ?_
  refine lv_istore (lv' := [(6, .int 0), (5, .int y5_4), (4, .int y4_3), (3, .int y3_2), (2, .int y2_1), (0, .ref z), (1, .ref z1)]) hx hb dX7_countFailures_33 hl (by decide) rfl (fun ls hl => ?_)
  obtain ⟨⟨o_5, o_6⟩, hL_7, h⟩ := gx_b h
  refine gJoin (Pj := fun H locs ls => va_P D vwCl [(z1, .inr (3, [.int v1_n, .int v1_p, .int v1_q, .long v1_goodOnes, .long v1_frozenOnes, .ref z1_uppers])), (z, .inr (6, [.ref z_words, .ref z_rows, .ref z_failures, .int v_hasWords, .int v_hasRows, .int v_hasFailures, .ref z_stepWords, .ref z_plain, .ref z_factors, .ref z_lostByLost])), (z_lostByLost, .inl (cy 0, 256, .inl o_6)), (z_failures, .inl (cy 0, 17, .inl v_failuresc))] H ∧ va_D A [(z1, .inr (3, [.int v1_n, .int v1_p, .int v1_q, .long v1_goodOnes, .long v1_frozenOnes, .ref z1_uppers])), (z, .inr (6, [.ref z_words, .ref z_rows, .ref z_failures, .int v_hasWords, .int v_hasRows, .int v_hasFailures, .ref z_stepWords, .ref z_plain, .ref z_factors, .ref z_lostByLost])), (z_lostByLost, .inl (cy 0, 256, .inl o_6)), (z_failures, .inl (cy 0, 17, .inl v_failuresc))] ∧ va_S A s.heap H locs ∧ lv_has ls 12 [(6, .int o_5), (5, .int y5_4), (4, .int y4_3), (3, .int y3_2), (2, .int y2_1), (0, .ref z), (1, .ref z1)]) (pcM := 60) (st := []) ?_ (fun hJ60 => ?_)
  · intro H locs ls hp_
    obtain ⟨hP, hD, hS, hl⟩ := hp_
    clear hL_7
    refine lv_aload_n hx hb dX7_countFailures_60 rfl (lv_at hl 5 rfl) ?_
    refine va_get (D := D) (ci := 6) (v := .ref z_failures) (C := RX7) (T := TX7) (N := 10) hx hb hts iX7 hown hK hP 1 rfl rfl 2 (by decide) f18 (fun _ h9 => h9) rfl dX7_countFailures_61 ?_
    refine lv_iconst (v := 0) hx hb dX7_countFailures_64 (by decide) ?_
    obtain ⟨o_8, hc_9, h⟩ := gx_b h
    refine gCallv (wr := [(z1, .inr (3, [.int v1_n, .int v1_p, .int v1_q, .long v1_goodOnes, .long v1_frozenOnes, .ref z1_uppers])), (z, .inr (6, [.ref z_words, .ref z_rows, .ref z_failures, .int v_hasWords, .int v_hasRows, .int v_hasFailures, .ref z_stepWords, .ref z_plain, .ref z_factors, .ref z_lostByLost])), (z_lostByLost, .inl (cy 0, 256, .inl o_6))]) (va_runS (As := [.ref z_failures, .int 0]) (rest := []) ⟨hx, hb, hml, hown, hts⟩ (c_J7_fill_53178 l D cy t H.size K z_failures v_failuresc 17 0 o_8 hc_9) (va_cwS 2 hts gX7_countFailures_J7_fill_53178 rfl rfl rfl (by decide +kernel) ⟨Nat.le_of_ble_eq_true rfl, Nat.le_of_ble_eq_true rfl⟩) ⟨gBlind, fun U hU hW => ⟨rfl, gPre.call hK hG hA hP hD hS [3] (by decide) rfl U hU hW⟩⟩ rfl rfl hl.1 rfl (lv_room (Nat.le_of_ble_eq_true rfl)) dX7_countFailures_65 ⟨Nat.le_of_ble_eq_true rfl, Nat.le_of_ble_eq_true rfl⟩) hA hP hD hS [3] [0, 1, 2] rfl rfl (by decide) (by decide) (fun H locs hP hD hS => ?_)
    have hP : va_P D vwCl [(z1, .inr (3, [.int v1_n, .int v1_p, .int v1_q, .long v1_goodOnes, .long v1_frozenOnes, .ref z1_uppers])), (z, .inr (6, [.ref z_words, .ref z_rows, .ref z_failures, .int v_hasWords, .int v_hasRows, .int v_hasFailures, .ref z_stepWords, .ref z_plain, .ref z_factors, .ref z_lostByLost])), (z_lostByLost, .inl (cy 0, 256, .inl o_6)), (z_failures, .inl (cy 0, 17, .inl o_8))] H := hP
    have hD : va_D A [(z1, .inr (3, [.int v1_n, .int v1_p, .int v1_q, .long v1_goodOnes, .long v1_frozenOnes, .ref z1_uppers])), (z, .inr (6, [.ref z_words, .ref z_rows, .ref z_failures, .int v_hasWords, .int v_hasRows, .int v_hasFailures, .ref z_stepWords, .ref z_plain, .ref z_factors, .ref z_lostByLost])), (z_lostByLost, .inl (cy 0, 256, .inl o_6)), (z_failures, .inl (cy 0, 17, .inl o_8))] := hD
    refine lv_iconst (v := 0) hx hb dX7_countFailures_68 (by decide) ?_
    refine lv_istore (lv' := [(6, .int 0), (5, .int y5_4), (4, .int y4_3), (3, .int y3_2), (2, .int y2_1), (0, .ref z), (1, .ref z1)]) hx hb dX7_countFailures_69 hl (by decide) rfl (fun ls hl => ?_)
    obtain ⟨⟨o_10, o_11⟩, hL_12, h⟩ := gx_b h
    refine gJoin (Pj := fun H locs ls => va_P D vwCl [(z1, .inr (3, [.int v1_n, .int v1_p, .int v1_q, .long v1_goodOnes, .long v1_frozenOnes, .ref z1_uppers])), (z, .inr (6, [.ref z_words, .ref z_rows, .ref z_failures, .int v_hasWords, .int v_hasRows, .int v_hasFailures, .ref z_stepWords, .ref z_plain, .ref z_factors, .ref z_lostByLost])), (z_lostByLost, .inl (cy 0, 256, .inl o_6)), (z_failures, .inl (cy 0, 17, .inl o_11))] H ∧ va_D A [(z1, .inr (3, [.int v1_n, .int v1_p, .int v1_q, .long v1_goodOnes, .long v1_frozenOnes, .ref z1_uppers])), (z, .inr (6, [.ref z_words, .ref z_rows, .ref z_failures, .int v_hasWords, .int v_hasRows, .int v_hasFailures, .ref z_stepWords, .ref z_plain, .ref z_factors, .ref z_lostByLost])), (z_lostByLost, .inl (cy 0, 256, .inl o_6)), (z_failures, .inl (cy 0, 17, .inl o_11))] ∧ va_S A s.heap H locs ∧ lv_has ls 12 [(6, .int o_10), (5, .int y5_4), (4, .int y4_3), (3, .int y3_2), (2, .int y2_1), (0, .ref z), (1, .ref z1)]) (pcM := 185) (st := []) ?_ (fun hJ185 => ?_)
    · intro H locs ls hp_
      obtain ⟨hP, hD, hS, hl⟩ := hp_
      clear hL_12
      cases h
      exact gRv hx hb hr hlocks hP hD hS dX7_countFailures_185
    · refine gLoop (Hy := fun k_ v_ => fL_X7_countFailures_71 K y5_4 y4_3 y3_2 o_6 k_ v_ = some (o_10, o_11)) (Pl := fun (v_ : Int32 × (Nat → Int32)) H locs ls => match v_ with | (a_13, a_14) => va_P D vwCl [(z1, .inr (3, [.int v1_n, .int v1_p, .int v1_q, .long v1_goodOnes, .long v1_frozenOnes, .ref z1_uppers])), (z, .inr (6, [.ref z_words, .ref z_rows, .ref z_failures, .int v_hasWords, .int v_hasRows, .int v_hasFailures, .ref z_stepWords, .ref z_plain, .ref z_factors, .ref z_lostByLost])), (z_lostByLost, .inl (cy 0, 256, .inl o_6)), (z_failures, .inl (cy 0, 17, .inl a_14))] H ∧ va_D A [(z1, .inr (3, [.int v1_n, .int v1_p, .int v1_q, .long v1_goodOnes, .long v1_frozenOnes, .ref z1_uppers])), (z, .inr (6, [.ref z_words, .ref z_rows, .ref z_failures, .int v_hasWords, .int v_hasRows, .int v_hasFailures, .ref z_stepWords, .ref z_plain, .ref z_factors, .ref z_lostByLost])), (z_lostByLost, .inl (cy 0, 256, .inl o_6)), (z_failures, .inl (cy 0, 17, .inl a_14))] ∧ va_S A s.heap H locs ∧ lv_has ls 12 [(6, .int a_13), (5, .int y5_4), (4, .int y4_3), (3, .int y3_2), (2, .int y2_1), (0, .ref z), (1, .ref z1)]) (pcH := 71) (fun _ q_ => by cases q_) ?_ K (0, o_8) hL_12 ⟨hP, hD, hS, hl⟩
      clear hL_12 h hP hD hS hl
      intro k_ ih ⟨a_13, a_14⟩ H locs ls h hp_
      obtain ⟨hP, hD, hS, hl⟩ := hp_
      have hP : va_P D vwCl [(z1, .inr (3, [.int v1_n, .int v1_p, .int v1_q, .long v1_goodOnes, .long v1_frozenOnes, .ref z1_uppers])), (z, .inr (6, [.ref z_words, .ref z_rows, .ref z_failures, .int v_hasWords, .int v_hasRows, .int v_hasFailures, .ref z_stepWords, .ref z_plain, .ref z_factors, .ref z_lostByLost])), (z_lostByLost, .inl (cy 0, 256, .inl o_6)), (z_failures, .inl (cy 0, 17, .inl a_14))] H := hP
      have hD : va_D A [(z1, .inr (3, [.int v1_n, .int v1_p, .int v1_q, .long v1_goodOnes, .long v1_frozenOnes, .ref z1_uppers])), (z, .inr (6, [.ref z_words, .ref z_rows, .ref z_failures, .int v_hasWords, .int v_hasRows, .int v_hasFailures, .ref z_stepWords, .ref z_plain, .ref z_factors, .ref z_lostByLost])), (z_lostByLost, .inl (cy 0, 256, .inl o_6)), (z_failures, .inl (cy 0, 17, .inl a_14))] := hD
      have hl : lv_has ls 12 [(6, .int a_13), (5, .int y5_4), (4, .int y4_3), (3, .int y3_2), (2, .int y2_1), (0, .ref z), (1, .ref z1)] := hl
      change fL_X7_countFailures_71 K y5_4 y4_3 y3_2 o_6 (k_ + 1) (a_13, a_14) = _ at h
      rw [fL_X7_countFailures_71] at h
      refine lv_iload hx hb dX7_countFailures_71 (lv_at hl 0 rfl) ?_
      refine lv_iload_n hx hb dX7_countFailures_73 rfl (lv_at hl 3 rfl) ?_
      refine lv_icmp_ge (tgt := 185) hx hb dX7_countFailures_74 (by decide) (fun c_15 => ?_) (fun c_15 => ?_)
      · have h := gx_t c_15 h
        have hl := lv_sub (l' := [(6, .int a_13), (5, .int y5_4), (4, .int y4_3), (3, .int y3_2), (2, .int y2_1), (0, .ref z), (1, .ref z1)]) hl [0, 1, 2, 3, 4, 5, 6] rfl
        cases h
        exact hJ185 _ _ _ ⟨hP, hD, hS, hl⟩
      · have h := gx_f c_15 h
        refine lv_aload_n hx hb dX7_countFailures_77 rfl (lv_at hl 5 rfl) ?_
        refine va_get (D := D) (ci := 6) (v := .ref z_lostByLost) (C := RX7) (T := TX7) (N := 10) hx hb hts iX7 hown hK hP 1 rfl rfl 9 (by decide) f31 (fun _ h9 => h9) rfl dX7_countFailures_78 ?_
        refine lv_iload hx hb dX7_countFailures_81 (lv_at hl 0 rfl) ?_
        obtain ⟨hi_, h⟩ := gx_ix h
        refine va_iald hx hb hK hP 2 0 rfl rfl hi_ dX7_countFailures_83 ?_
        refine lv_iload hx hb dX7_countFailures_84 (lv_at hl 2 rfl) ?_
        refine lv_iand hx hb dX7_countFailures_86 ?_
        obtain ⟨ms_16, hR_17, h⟩ := gx_b h
        refine gJoin (Pj := fun H locs ls => va_P D vwCl [(z1, .inr (3, [.int v1_n, .int v1_p, .int v1_q, .long v1_goodOnes, .long v1_frozenOnes, .ref z1_uppers])), (z, .inr (6, [.ref z_words, .ref z_rows, .ref z_failures, .int v_hasWords, .int v_hasRows, .int v_hasFailures, .ref z_stepWords, .ref z_plain, .ref z_factors, .ref z_lostByLost])), (z_lostByLost, .inl (cy 0, 256, .inl o_6)), (z_failures, .inl (cy 0, 17, .inl a_14))] H ∧ va_D A [(z1, .inr (3, [.int v1_n, .int v1_p, .int v1_q, .long v1_goodOnes, .long v1_frozenOnes, .ref z1_uppers])), (z, .inr (6, [.ref z_words, .ref z_rows, .ref z_failures, .int v_hasWords, .int v_hasRows, .int v_hasFailures, .ref z_stepWords, .ref z_plain, .ref z_factors, .ref z_lostByLost])), (z_lostByLost, .inl (cy 0, 256, .inl o_6)), (z_failures, .inl (cy 0, 17, .inl a_14))] ∧ va_S A s.heap H locs ∧ lv_has ls 12 [(6, .int a_13), (5, .int y5_4), (4, .int y4_3), (3, .int y3_2), (2, .int y2_1), (0, .ref z), (1, .ref z1)]) (pcM := 95) (st := [.int ms_16]) ?_ (fun hJ95 => ?_)
        · intro H locs ls hp_
          obtain ⟨hP, hD, hS, hl⟩ := hp_
          clear hR_17
          refine lv_istore (lv' := [(7, .int ms_16), (6, .int a_13), (5, .int y5_4), (4, .int y4_3), (3, .int y3_2), (2, .int y2_1), (0, .ref z), (1, .ref z1)]) hx hb dX7_countFailures_95 hl (by decide) rfl (fun ls hl => ?_)
          refine lv_iload hx hb dX7_countFailures_97 (lv_at hl 1 rfl) ?_
          obtain ⟨r_18, hc_19, h⟩ := gx_b h
          refine gCalli (wr := [(z1, .inr (3, [.int v1_n, .int v1_p, .int v1_q, .long v1_goodOnes, .long v1_frozenOnes, .ref z1_uppers])), (z, .inr (6, [.ref z_words, .ref z_rows, .ref z_failures, .int v_hasWords, .int v_hasRows, .int v_hasFailures, .ref z_stepWords, .ref z_plain, .ref z_factors, .ref z_lostByLost])), (z_lostByLost, .inl (cy 0, 256, .inl o_6)), (z_failures, .inl (cy 0, 17, .inl a_14))]) (va_runS (As := [.int a_13]) (rest := []) ⟨hx, hb, hml, hown, hts⟩ (c_J6_bitCount_0f7a4 l D cy t H.size K a_13 r_18 hc_19) (va_cwS 1 hts gX7_countFailures_J6_bitCount_0f7a4 rfl rfl rfl (by decide +kernel) ⟨Nat.le_of_ble_eq_true rfl, Nat.le_of_ble_eq_true rfl⟩) ⟨gBlind, fun U hU hW => ⟨rfl, gPre.call hK hG hA hP hD hS [] (by decide) rfl U hU hW⟩⟩ rfl rfl hl.1 rfl (lv_room (Nat.le_of_ble_eq_true rfl)) dX7_countFailures_99 ⟨Nat.le_of_ble_eq_true rfl, Nat.le_of_ble_eq_true rfl⟩) hA hP hD hS [] [0, 1, 2, 3] rfl rfl (by decide) (by decide) (fun H locs hP hD hS => ?_)
          have hP : va_P D vwCl [(z1, .inr (3, [.int v1_n, .int v1_p, .int v1_q, .long v1_goodOnes, .long v1_frozenOnes, .ref z1_uppers])), (z, .inr (6, [.ref z_words, .ref z_rows, .ref z_failures, .int v_hasWords, .int v_hasRows, .int v_hasFailures, .ref z_stepWords, .ref z_plain, .ref z_factors, .ref z_lostByLost])), (z_lostByLost, .inl (cy 0, 256, .inl o_6)), (z_failures, .inl (cy 0, 17, .inl a_14))] H := hP
          have hD : va_D A [(z1, .inr (3, [.int v1_n, .int v1_p, .int v1_q, .long v1_goodOnes, .long v1_frozenOnes, .ref z1_uppers])), (z, .inr (6, [.ref z_words, .ref z_rows, .ref z_failures, .int v_hasWords, .int v_hasRows, .int v_hasFailures, .ref z_stepWords, .ref z_plain, .ref z_factors, .ref z_lostByLost])), (z_lostByLost, .inl (cy 0, 256, .inl o_6)), (z_failures, .inl (cy 0, 17, .inl a_14))] := hD
          refine lv_istore (lv' := [(8, .int r_18), (7, .int ms_16), (6, .int a_13), (5, .int y5_4), (4, .int y4_3), (3, .int y3_2), (2, .int y2_1), (0, .ref z), (1, .ref z1)]) hx hb dX7_countFailures_102 hl (by decide) rfl (fun ls hl => ?_)
          refine lv_iload hx hb dX7_countFailures_104 (lv_at hl 2 rfl) ?_
          refine lv_istore (lv' := [(9, .int a_13), (8, .int r_18), (7, .int ms_16), (6, .int a_13), (5, .int y5_4), (4, .int y4_3), (3, .int y3_2), (2, .int y2_1), (0, .ref z), (1, .ref z1)]) hx hb dX7_countFailures_106 hl (by decide) rfl (fun ls hl => ?_)
          refine lv_iconst (v := 1) hx hb dX7_countFailures_108 (by decide) ?_
          refine lv_iload hx hb dX7_countFailures_109 (lv_at hl 1 rfl) ?_
          refine lv_ishl hx hb dX7_countFailures_111 ?_
          refine lv_topi (fun y10_20 e_y10_20 => ?_)
          have h := gx_let e_y10_20 h
          refine lv_istore (lv' := [(10, .int y10_20), (9, .int a_13), (8, .int r_18), (7, .int ms_16), (6, .int a_13), (5, .int y5_4), (4, .int y4_3), (3, .int y3_2), (2, .int y2_1), (0, .ref z), (1, .ref z1)]) hx hb dX7_countFailures_112 hl (by decide) rfl (fun ls hl => ?_)
          obtain ⟨⟨o_21, o_22, o_23⟩, hL_24, h⟩ := gx_b h
          refine gJoin (Pj := fun H locs ls => va_P D vwCl [(z1, .inr (3, [.int v1_n, .int v1_p, .int v1_q, .long v1_goodOnes, .long v1_frozenOnes, .ref z1_uppers])), (z, .inr (6, [.ref z_words, .ref z_rows, .ref z_failures, .int v_hasWords, .int v_hasRows, .int v_hasFailures, .ref z_stepWords, .ref z_plain, .ref z_factors, .ref z_lostByLost])), (z_lostByLost, .inl (cy 0, 256, .inl o_6)), (z_failures, .inl (cy 0, 17, .inl o_23))] H ∧ va_D A [(z1, .inr (3, [.int v1_n, .int v1_p, .int v1_q, .long v1_goodOnes, .long v1_frozenOnes, .ref z1_uppers])), (z, .inr (6, [.ref z_words, .ref z_rows, .ref z_failures, .int v_hasWords, .int v_hasRows, .int v_hasFailures, .ref z_stepWords, .ref z_plain, .ref z_factors, .ref z_lostByLost])), (z_lostByLost, .inl (cy 0, 256, .inl o_6)), (z_failures, .inl (cy 0, 17, .inl o_23))] ∧ va_S A s.heap H locs ∧ lv_has ls 12 [(10, .int o_21), (9, .int o_22), (8, .int r_18), (7, .int ms_16), (6, .int a_13), (5, .int y5_4), (4, .int y4_3), (3, .int y3_2), (2, .int y2_1), (0, .ref z), (1, .ref z1)]) (pcM := 179) (st := []) ?_ (fun hJ179 => ?_)
          · intro H locs ls hp_
            obtain ⟨hP, hD, hS, hl⟩ := hp_
            clear hL_24
            obtain ⟨y6_25, e_y6_25⟩ : ∃ y : Int32, y = (a_13 + 1) := ⟨_, rfl⟩
            have h := gx_let e_y6_25 h
            refine lv_iinc (v := y6_25) (lv' := [(6, .int y6_25), (10, .int o_21), (9, .int o_22), (8, .int r_18), (7, .int ms_16), (5, .int y5_4), (4, .int y4_3), (3, .int y3_2), (2, .int y2_1), (0, .ref z), (1, .ref z1)]) hx hb dX7_countFailures_179 hl (k := 4) rfl (by rw [e_y6_25]; rfl) (by decide) rfl (fun ls hl => ?_)
            refine lv_goto (tgt := 71) hx hb dX7_countFailures_182 (by decide) ?_
            exact ih (y6_25, o_23) _ _ _ h ⟨hP, hD, hS, lv_sub (l' := [(6, .int y6_25), (5, .int y5_4), (4, .int y4_3), (3, .int y3_2), (2, .int y2_1), (0, .ref z), (1, .ref z1)]) hl [0, 5, 6, 7, 8, 9, 10] rfl⟩
          · refine gLoop (Hy := fun k_ v_ => fL_X7_countFailures_114 K r_18 ms_16 a_13 y5_4 o_6 k_ v_ = some (o_21, o_22, o_23)) (Pl := fun (v_ : Int32 × Int32 × (Nat → Int32)) H locs ls => match v_ with | (a_26, a_27, a_28) => va_P D vwCl [(z1, .inr (3, [.int v1_n, .int v1_p, .int v1_q, .long v1_goodOnes, .long v1_frozenOnes, .ref z1_uppers])), (z, .inr (6, [.ref z_words, .ref z_rows, .ref z_failures, .int v_hasWords, .int v_hasRows, .int v_hasFailures, .ref z_stepWords, .ref z_plain, .ref z_factors, .ref z_lostByLost])), (z_lostByLost, .inl (cy 0, 256, .inl o_6)), (z_failures, .inl (cy 0, 17, .inl a_28))] H ∧ va_D A [(z1, .inr (3, [.int v1_n, .int v1_p, .int v1_q, .long v1_goodOnes, .long v1_frozenOnes, .ref z1_uppers])), (z, .inr (6, [.ref z_words, .ref z_rows, .ref z_failures, .int v_hasWords, .int v_hasRows, .int v_hasFailures, .ref z_stepWords, .ref z_plain, .ref z_factors, .ref z_lostByLost])), (z_lostByLost, .inl (cy 0, 256, .inl o_6)), (z_failures, .inl (cy 0, 17, .inl a_28))] ∧ va_S A s.heap H locs ∧ lv_has ls 12 [(10, .int a_26), (9, .int a_27), (8, .int r_18), (7, .int ms_16), (6, .int a_13), (5, .int y5_4), (4, .int y4_3), (3, .int y3_2), (2, .int y2_1), (0, .ref z), (1, .ref z1)]) (pcH := 114) (fun _ q_ => by cases q_) ?_ K (y10_20, a_13, a_14) hL_24 ⟨hP, hD, hS, hl⟩
            clear hL_24 h hP hD hS hl
            intro k_ ih ⟨a_26, a_27, a_28⟩ H locs ls h hp_
            obtain ⟨hP, hD, hS, hl⟩ := hp_
            have hP : va_P D vwCl [(z1, .inr (3, [.int v1_n, .int v1_p, .int v1_q, .long v1_goodOnes, .long v1_frozenOnes, .ref z1_uppers])), (z, .inr (6, [.ref z_words, .ref z_rows, .ref z_failures, .int v_hasWords, .int v_hasRows, .int v_hasFailures, .ref z_stepWords, .ref z_plain, .ref z_factors, .ref z_lostByLost])), (z_lostByLost, .inl (cy 0, 256, .inl o_6)), (z_failures, .inl (cy 0, 17, .inl a_28))] H := hP
            have hD : va_D A [(z1, .inr (3, [.int v1_n, .int v1_p, .int v1_q, .long v1_goodOnes, .long v1_frozenOnes, .ref z1_uppers])), (z, .inr (6, [.ref z_words, .ref z_rows, .ref z_failures, .int v_hasWords, .int v_hasRows, .int v_hasFailures, .ref z_stepWords, .ref z_plain, .ref z_factors, .ref z_lostByLost])), (z_lostByLost, .inl (cy 0, 256, .inl o_6)), (z_failures, .inl (cy 0, 17, .inl a_28))] := hD
            have hl : lv_has ls 12 [(10, .int a_26), (9, .int a_27), (8, .int r_18), (7, .int ms_16), (6, .int a_13), (5, .int y5_4), (4, .int y4_3), (3, .int y3_2), (2, .int y2_1), (0, .ref z), (1, .ref z1)] := hl
            change fL_X7_countFailures_114 K r_18 ms_16 a_13 y5_4 o_6 (k_ + 1) (a_26, a_27, a_28) = _ at h
            rw [fL_X7_countFailures_114] at h
            refine lv_iload hx hb dX7_countFailures_114 (lv_at hl 0 rfl) ?_
            refine lv_if_le (tgt := 179) hx hb dX7_countFailures_116 (by decide) (fun c_29 => ?_) (fun c_29 => ?_)
            · have h := gx_t c_29 h
              have hl := lv_sub (l' := [(10, .int a_26), (9, .int a_27), (8, .int r_18), (7, .int ms_16), (6, .int a_13), (5, .int y5_4), (4, .int y4_3), (3, .int y3_2), (2, .int y2_1), (0, .ref z), (1, .ref z1)]) hl [0, 1, 2, 3, 4, 5, 6, 7, 8, 9, 10] rfl
              cases h
              exact hJ179 _ _ _ ⟨hP, hD, hS, hl⟩
            · have h := gx_f c_29 h
              refine lv_iload hx hb dX7_countFailures_119 (lv_at hl 3 rfl) ?_
              obtain ⟨mc_30, hR_31, h⟩ := gx_b h
              refine gJoin (Pj := fun H locs ls => va_P D vwCl [(z1, .inr (3, [.int v1_n, .int v1_p, .int v1_q, .long v1_goodOnes, .long v1_frozenOnes, .ref z1_uppers])), (z, .inr (6, [.ref z_words, .ref z_rows, .ref z_failures, .int v_hasWords, .int v_hasRows, .int v_hasFailures, .ref z_stepWords, .ref z_plain, .ref z_factors, .ref z_lostByLost])), (z_lostByLost, .inl (cy 0, 256, .inl o_6)), (z_failures, .inl (cy 0, 17, .inl mc_30))] H ∧ va_D A [(z1, .inr (3, [.int v1_n, .int v1_p, .int v1_q, .long v1_goodOnes, .long v1_frozenOnes, .ref z1_uppers])), (z, .inr (6, [.ref z_words, .ref z_rows, .ref z_failures, .int v_hasWords, .int v_hasRows, .int v_hasFailures, .ref z_stepWords, .ref z_plain, .ref z_factors, .ref z_lostByLost])), (z_lostByLost, .inl (cy 0, 256, .inl o_6)), (z_failures, .inl (cy 0, 17, .inl mc_30))] ∧ va_S A s.heap H locs ∧ lv_has ls 12 [(10, .int a_26), (9, .int a_27), (8, .int r_18), (7, .int ms_16), (6, .int a_13), (5, .int y5_4), (4, .int y4_3), (3, .int y3_2), (2, .int y2_1), (0, .ref z), (1, .ref z1)]) (pcM := 164) (st := []) ?_ (fun hJ164 => ?_)
              · intro H locs ls hp_
                obtain ⟨hP, hD, hS, hl⟩ := hp_
                clear hR_31
                refine lv_iload hx hb dX7_countFailures_164 (lv_at hl 1 rfl) ?_
                refine lv_iconst (v := 1) hx hb dX7_countFailures_166 (by decide) ?_
                refine lv_isub hx hb dX7_countFailures_167 ?_
                refine lv_iload hx hb dX7_countFailures_168 (lv_at hl 4 rfl) ?_
                refine lv_iand hx hb dX7_countFailures_170 ?_
                refine lv_topi (fun y9_32 e_y9_32 => ?_)
                have h := gx_let e_y9_32 h
                refine lv_istore (lv' := [(9, .int y9_32), (10, .int a_26), (8, .int r_18), (7, .int ms_16), (6, .int a_13), (5, .int y5_4), (4, .int y4_3), (3, .int y3_2), (2, .int y2_1), (0, .ref z), (1, .ref z1)]) hx hb dX7_countFailures_171 hl (by decide) rfl (fun ls hl => ?_)
                obtain ⟨y10_33, e_y10_33⟩ : ∃ y : Int32, y = (a_26 + (-1)) := ⟨_, rfl⟩
                have h := gx_let e_y10_33 h
                refine lv_iinc (v := y10_33) (lv' := [(10, .int y10_33), (9, .int y9_32), (8, .int r_18), (7, .int ms_16), (6, .int a_13), (5, .int y5_4), (4, .int y4_3), (3, .int y3_2), (2, .int y2_1), (0, .ref z), (1, .ref z1)]) hx hb dX7_countFailures_173 hl (k := 1) rfl (by rw [e_y10_33]; rfl) (by decide) rfl (fun ls hl => ?_)
                refine lv_goto (tgt := 114) hx hb dX7_countFailures_176 (by decide) ?_
                exact ih (y10_33, y9_32, mc_30) _ _ _ h ⟨hP, hD, hS, lv_sub (l' := [(10, .int y10_33), (9, .int y9_32), (8, .int r_18), (7, .int ms_16), (6, .int a_13), (5, .int y5_4), (4, .int y4_3), (3, .int y3_2), (2, .int y2_1), (0, .ref z), (1, .ref z1)]) hl [0, 1, 2, 3, 4, 5, 6, 7, 8, 9, 10] rfl⟩
              · have h := hR_31
                refine lv_if_ne (tgt := 137) hx hb dX7_countFailures_121 (by decide) (fun c_34 => ?_) (fun c_34 => ?_)
                · have h := gx_f c_34 h
                  refine lv_iload hx hb dX7_countFailures_137 (lv_at hl 1 rfl) ?_
                  obtain ⟨r_35, hc_36, h⟩ := gx_b h
                  refine gCalli (wr := [(z1, .inr (3, [.int v1_n, .int v1_p, .int v1_q, .long v1_goodOnes, .long v1_frozenOnes, .ref z1_uppers])), (z, .inr (6, [.ref z_words, .ref z_rows, .ref z_failures, .int v_hasWords, .int v_hasRows, .int v_hasFailures, .ref z_stepWords, .ref z_plain, .ref z_factors, .ref z_lostByLost])), (z_lostByLost, .inl (cy 0, 256, .inl o_6)), (z_failures, .inl (cy 0, 17, .inl a_28))]) (va_runS (As := [.int a_27]) (rest := []) ⟨hx, hb, hml, hown, hts⟩ (c_J6_bitCount_0f7a4 l D cy t H.size K a_27 r_35 hc_36) (va_cwS 1 hts gX7_countFailures_J6_bitCount_0f7a4 rfl rfl rfl (by decide +kernel) ⟨Nat.le_of_ble_eq_true rfl, Nat.le_of_ble_eq_true rfl⟩) ⟨gBlind, fun U hU hW => ⟨rfl, gPre.call hK hG hA hP hD hS [] (by decide) rfl U hU hW⟩⟩ rfl rfl hl.1 rfl (lv_room (Nat.le_of_ble_eq_true rfl)) dX7_countFailures_139 ⟨Nat.le_of_ble_eq_true rfl, Nat.le_of_ble_eq_true rfl⟩) hA hP hD hS [] [0, 1, 2, 3] rfl rfl (by decide) (by decide) (fun H locs hP hD hS => ?_)
                  have hP : va_P D vwCl [(z1, .inr (3, [.int v1_n, .int v1_p, .int v1_q, .long v1_goodOnes, .long v1_frozenOnes, .ref z1_uppers])), (z, .inr (6, [.ref z_words, .ref z_rows, .ref z_failures, .int v_hasWords, .int v_hasRows, .int v_hasFailures, .ref z_stepWords, .ref z_plain, .ref z_factors, .ref z_lostByLost])), (z_lostByLost, .inl (cy 0, 256, .inl o_6)), (z_failures, .inl (cy 0, 17, .inl a_28))] H := hP
                  have hD : va_D A [(z1, .inr (3, [.int v1_n, .int v1_p, .int v1_q, .long v1_goodOnes, .long v1_frozenOnes, .ref z1_uppers])), (z, .inr (6, [.ref z_words, .ref z_rows, .ref z_failures, .int v_hasWords, .int v_hasRows, .int v_hasFailures, .ref z_stepWords, .ref z_plain, .ref z_factors, .ref z_lostByLost])), (z_lostByLost, .inl (cy 0, 256, .inl o_6)), (z_failures, .inl (cy 0, 17, .inl a_28))] := hD
                  refine lv_istore (lv' := [(11, .int r_35), (10, .int a_26), (9, .int a_27), (8, .int r_18), (7, .int ms_16), (6, .int a_13), (5, .int y5_4), (4, .int y4_3), (3, .int y3_2), (2, .int y2_1), (0, .ref z), (1, .ref z1)]) hx hb dX7_countFailures_142 hl (by decide) rfl (fun ls hl => ?_)
                  refine lv_aload_n hx hb dX7_countFailures_144 rfl (lv_at hl 10 rfl) ?_
                  refine va_get (D := D) (ci := 6) (v := .ref z_failures) (C := RX7) (T := TX7) (N := 10) hx hb hts iX7 hown hK hP 1 rfl rfl 2 (by decide) f18 (fun _ h9 => h9) rfl dX7_countFailures_145 ?_
                  refine lv_iload hx hb dX7_countFailures_148 (lv_at hl 3 rfl) ?_
                  refine lv_iload hx hb dX7_countFailures_150 (lv_at hl 0 rfl) ?_
                  refine lv_iadd hx hb dX7_countFailures_152 ?_
                  refine lv_dup2_11 hx hb dX7_countFailures_153 rfl rfl ?_
                  obtain ⟨hi_, h⟩ := gx_ix h
                  refine va_iald hx hb hK hP 3 0 rfl rfl hi_ dX7_countFailures_154 ?_
                  refine lv_iconst (v := 1) hx hb dX7_countFailures_155 (by decide) ?_
                  refine lv_iload hx hb dX7_countFailures_156 (lv_at hl 3 rfl) ?_
                  refine lv_iload hx hb dX7_countFailures_158 (lv_at hl 0 rfl) ?_
                  refine lv_isub hx hb dX7_countFailures_160 ?_
                  refine lv_ishl hx hb dX7_countFailures_161 ?_
                  refine lv_iadd hx hb dX7_countFailures_162 ?_
                  refine lv_topi (fun y_37 e_y_37 => ?_)
                  have h := gx_let e_y_37 h
                  obtain ⟨hi_, h⟩ := gx_ix h
                  refine va_iast hx hb hK hP hD hS 3 0 rfl rfl hi_ dX7_countFailures_163 (fun H locs hP hD hS => ?_)
                  obtain ⟨w_38, e_w_38⟩ : ∃ y : Nat → Int32, y = (upd a_28 (Int32.toNatClampNeg (r_18 + r_35)) y_37) := ⟨_, rfl⟩
                  have h := gx_let e_w_38 h
                  have hP : va_P D vwCl [(z1, .inr (3, [.int v1_n, .int v1_p, .int v1_q, .long v1_goodOnes, .long v1_frozenOnes, .ref z1_uppers])), (z, .inr (6, [.ref z_words, .ref z_rows, .ref z_failures, .int v_hasWords, .int v_hasRows, .int v_hasFailures, .ref z_stepWords, .ref z_plain, .ref z_factors, .ref z_lostByLost])), (z_lostByLost, .inl (cy 0, 256, .inl o_6)), (z_failures, .inl (cy 0, 17, .inl (upd a_28 (Int32.toNatClampNeg (r_18 + r_35)) y_37)))] H := hP
                  have hD : va_D A [(z1, .inr (3, [.int v1_n, .int v1_p, .int v1_q, .long v1_goodOnes, .long v1_frozenOnes, .ref z1_uppers])), (z, .inr (6, [.ref z_words, .ref z_rows, .ref z_failures, .int v_hasWords, .int v_hasRows, .int v_hasFailures, .ref z_stepWords, .ref z_plain, .ref z_factors, .ref z_lostByLost])), (z_lostByLost, .inl (cy 0, 256, .inl o_6)), (z_failures, .inl (cy 0, 17, .inl (upd a_28 (Int32.toNatClampNeg (r_18 + r_35)) y_37)))] := hD
                  rw [← e_w_38] at hP hD
                  have hl := lv_sub (l' := [(10, .int a_26), (9, .int a_27), (8, .int r_18), (7, .int ms_16), (6, .int a_13), (5, .int y5_4), (4, .int y4_3), (3, .int y3_2), (2, .int y2_1), (0, .ref z), (1, .ref z1)]) hl [1, 2, 3, 4, 5, 6, 7, 8, 9, 10, 11] rfl
                  cases h
                  exact hJ164 _ _ _ ⟨hP, hD, hS, hl⟩
                · have h := gx_t c_34 h
                  refine lv_aload_n hx hb dX7_countFailures_124 rfl (lv_at hl 9 rfl) ?_
                  refine va_get (D := D) (ci := 6) (v := .ref z_lostByLost) (C := RX7) (T := TX7) (N := 10) hx hb hts iX7 hown hK hP 1 rfl rfl 9 (by decide) f31 (fun _ h9 => h9) rfl dX7_countFailures_125 ?_
                  refine lv_iload hx hb dX7_countFailures_128 (lv_at hl 1 rfl) ?_
                  obtain ⟨hi_, h⟩ := gx_ix h
                  refine va_iald hx hb hK hP 2 0 rfl rfl hi_ dX7_countFailures_130 ?_
                  refine lv_iload hx hb dX7_countFailures_131 (lv_at hl 5 rfl) ?_
                  refine lv_iand hx hb dX7_countFailures_133 ?_
                  refine lv_if_eq (tgt := 164) hx hb dX7_countFailures_134 (by decide) (fun c_39 => ?_) (fun c_39 => ?_)
                  · have h := gx_t c_39 h
                    have hl := lv_sub (l' := [(10, .int a_26), (9, .int a_27), (8, .int r_18), (7, .int ms_16), (6, .int a_13), (5, .int y5_4), (4, .int y4_3), (3, .int y3_2), (2, .int y2_1), (0, .ref z), (1, .ref z1)]) hl [0, 1, 2, 3, 4, 5, 6, 7, 8, 9, 10] rfl
                    cases h
                    exact hJ164 _ _ _ ⟨hP, hD, hS, hl⟩
                  · have h := gx_f c_39 h
                    refine lv_iload hx hb dX7_countFailures_137 (lv_at hl 1 rfl) ?_
                    obtain ⟨r_40, hc_41, h⟩ := gx_b h
                    refine gCalli (wr := [(z1, .inr (3, [.int v1_n, .int v1_p, .int v1_q, .long v1_goodOnes, .long v1_frozenOnes, .ref z1_uppers])), (z, .inr (6, [.ref z_words, .ref z_rows, .ref z_failures, .int v_hasWords, .int v_hasRows, .int v_hasFailures, .ref z_stepWords, .ref z_plain, .ref z_factors, .ref z_lostByLost])), (z_lostByLost, .inl (cy 0, 256, .inl o_6)), (z_failures, .inl (cy 0, 17, .inl a_28))]) (va_runS (As := [.int a_27]) (rest := []) ⟨hx, hb, hml, hown, hts⟩ (c_J6_bitCount_0f7a4 l D cy t H.size K a_27 r_40 hc_41) (va_cwS 1 hts gX7_countFailures_J6_bitCount_0f7a4 rfl rfl rfl (by decide +kernel) ⟨Nat.le_of_ble_eq_true rfl, Nat.le_of_ble_eq_true rfl⟩) ⟨gBlind, fun U hU hW => ⟨rfl, gPre.call hK hG hA hP hD hS [] (by decide) rfl U hU hW⟩⟩ rfl rfl hl.1 rfl (lv_room (Nat.le_of_ble_eq_true rfl)) dX7_countFailures_139 ⟨Nat.le_of_ble_eq_true rfl, Nat.le_of_ble_eq_true rfl⟩) hA hP hD hS [] [0, 1, 2, 3] rfl rfl (by decide) (by decide) (fun H locs hP hD hS => ?_)
                    have hP : va_P D vwCl [(z1, .inr (3, [.int v1_n, .int v1_p, .int v1_q, .long v1_goodOnes, .long v1_frozenOnes, .ref z1_uppers])), (z, .inr (6, [.ref z_words, .ref z_rows, .ref z_failures, .int v_hasWords, .int v_hasRows, .int v_hasFailures, .ref z_stepWords, .ref z_plain, .ref z_factors, .ref z_lostByLost])), (z_lostByLost, .inl (cy 0, 256, .inl o_6)), (z_failures, .inl (cy 0, 17, .inl a_28))] H := hP
                    have hD : va_D A [(z1, .inr (3, [.int v1_n, .int v1_p, .int v1_q, .long v1_goodOnes, .long v1_frozenOnes, .ref z1_uppers])), (z, .inr (6, [.ref z_words, .ref z_rows, .ref z_failures, .int v_hasWords, .int v_hasRows, .int v_hasFailures, .ref z_stepWords, .ref z_plain, .ref z_factors, .ref z_lostByLost])), (z_lostByLost, .inl (cy 0, 256, .inl o_6)), (z_failures, .inl (cy 0, 17, .inl a_28))] := hD
                    refine lv_istore (lv' := [(11, .int r_40), (10, .int a_26), (9, .int a_27), (8, .int r_18), (7, .int ms_16), (6, .int a_13), (5, .int y5_4), (4, .int y4_3), (3, .int y3_2), (2, .int y2_1), (0, .ref z), (1, .ref z1)]) hx hb dX7_countFailures_142 hl (by decide) rfl (fun ls hl => ?_)
                    refine lv_aload_n hx hb dX7_countFailures_144 rfl (lv_at hl 10 rfl) ?_
                    refine va_get (D := D) (ci := 6) (v := .ref z_failures) (C := RX7) (T := TX7) (N := 10) hx hb hts iX7 hown hK hP 1 rfl rfl 2 (by decide) f18 (fun _ h9 => h9) rfl dX7_countFailures_145 ?_
                    refine lv_iload hx hb dX7_countFailures_148 (lv_at hl 3 rfl) ?_
                    refine lv_iload hx hb dX7_countFailures_150 (lv_at hl 0 rfl) ?_
                    refine lv_iadd hx hb dX7_countFailures_152 ?_
                    refine lv_dup2_11 hx hb dX7_countFailures_153 rfl rfl ?_
                    obtain ⟨hi_, h⟩ := gx_ix h
                    refine va_iald hx hb hK hP 3 0 rfl rfl hi_ dX7_countFailures_154 ?_
                    refine lv_iconst (v := 1) hx hb dX7_countFailures_155 (by decide) ?_
                    refine lv_iload hx hb dX7_countFailures_156 (lv_at hl 3 rfl) ?_
                    refine lv_iload hx hb dX7_countFailures_158 (lv_at hl 0 rfl) ?_
                    refine lv_isub hx hb dX7_countFailures_160 ?_
                    refine lv_ishl hx hb dX7_countFailures_161 ?_
                    refine lv_iadd hx hb dX7_countFailures_162 ?_
                    refine lv_topi (fun y_42 e_y_42 => ?_)
                    have h := gx_let e_y_42 h
                    obtain ⟨hi_, h⟩ := gx_ix h
                    refine va_iast hx hb hK hP hD hS 3 0 rfl rfl hi_ dX7_countFailures_163 (fun H locs hP hD hS => ?_)
                    obtain ⟨w_43, e_w_43⟩ : ∃ y : Nat → Int32, y = (upd a_28 (Int32.toNatClampNeg (r_18 + r_40)) y_42) := ⟨_, rfl⟩
                    have h := gx_let e_w_43 h
                    have hP : va_P D vwCl [(z1, .inr (3, [.int v1_n, .int v1_p, .int v1_q, .long v1_goodOnes, .long v1_frozenOnes, .ref z1_uppers])), (z, .inr (6, [.ref z_words, .ref z_rows, .ref z_failures, .int v_hasWords, .int v_hasRows, .int v_hasFailures, .ref z_stepWords, .ref z_plain, .ref z_factors, .ref z_lostByLost])), (z_lostByLost, .inl (cy 0, 256, .inl o_6)), (z_failures, .inl (cy 0, 17, .inl (upd a_28 (Int32.toNatClampNeg (r_18 + r_40)) y_42)))] H := hP
                    have hD : va_D A [(z1, .inr (3, [.int v1_n, .int v1_p, .int v1_q, .long v1_goodOnes, .long v1_frozenOnes, .ref z1_uppers])), (z, .inr (6, [.ref z_words, .ref z_rows, .ref z_failures, .int v_hasWords, .int v_hasRows, .int v_hasFailures, .ref z_stepWords, .ref z_plain, .ref z_factors, .ref z_lostByLost])), (z_lostByLost, .inl (cy 0, 256, .inl o_6)), (z_failures, .inl (cy 0, 17, .inl (upd a_28 (Int32.toNatClampNeg (r_18 + r_40)) y_42)))] := hD
                    rw [← e_w_43] at hP hD
                    have hl := lv_sub (l' := [(10, .int a_26), (9, .int a_27), (8, .int r_18), (7, .int ms_16), (6, .int a_13), (5, .int y5_4), (4, .int y4_3), (3, .int y3_2), (2, .int y2_1), (0, .ref z), (1, .ref z1)]) hl [1, 2, 3, 4, 5, 6, 7, 8, 9, 10, 11] rfl
                    cases h
                    exact hJ164 _ _ _ ⟨hP, hD, hS, hl⟩
        · have h := hR_17
          refine lv_if_eq (tgt := 94) hx hb dX7_countFailures_87 (by decide) (fun c_44 => ?_) (fun c_44 => ?_)
          · have h := gx_t c_44 h
            refine lv_iconst (v := 0) hx hb dX7_countFailures_94 (by decide) ?_
            have hl := lv_sub (l' := [(6, .int a_13), (5, .int y5_4), (4, .int y4_3), (3, .int y3_2), (2, .int y2_1), (0, .ref z), (1, .ref z1)]) hl [0, 1, 2, 3, 4, 5, 6] rfl
            cases h
            exact hJ95 _ _ _ ⟨hP, hD, hS, hl⟩
          · have h := gx_f c_44 h
            refine lv_iconst (v := 1) hx hb dX7_countFailures_90 (by decide) ?_
            refine lv_goto (tgt := 95) hx hb dX7_countFailures_91 (by decide) ?_
            have hl := lv_sub (l' := [(6, .int a_13), (5, .int y5_4), (4, .int y4_3), (3, .int y3_2), (2, .int y2_1), (0, .ref z), (1, .ref z1)]) hl [0, 1, 2, 3, 4, 5, 6] rfl
            cases h
            exact hJ95 _ _ _ ⟨hP, hD, hS, hl⟩
  · refine gLoop (Hy := fun k_ v_ => fL_X7_countFailures_35 K y3_2 y2_1 k_ v_ = some (o_5, o_6)) (Pl := fun (v_ : Int32 × (Nat → Int32)) H locs ls => match v_ with | (a_45, a_46) => va_P D vwCl [(z1, .inr (3, [.int v1_n, .int v1_p, .int v1_q, .long v1_goodOnes, .long v1_frozenOnes, .ref z1_uppers])), (z, .inr (6, [.ref z_words, .ref z_rows, .ref z_failures, .int v_hasWords, .int v_hasRows, .int v_hasFailures, .ref z_stepWords, .ref z_plain, .ref z_factors, .ref z_lostByLost])), (z_lostByLost, .inl (cy 0, 256, .inl a_46)), (z_failures, .inl (cy 0, 17, .inl v_failuresc))] H ∧ va_D A [(z1, .inr (3, [.int v1_n, .int v1_p, .int v1_q, .long v1_goodOnes, .long v1_frozenOnes, .ref z1_uppers])), (z, .inr (6, [.ref z_words, .ref z_rows, .ref z_failures, .int v_hasWords, .int v_hasRows, .int v_hasFailures, .ref z_stepWords, .ref z_plain, .ref z_factors, .ref z_lostByLost])), (z_lostByLost, .inl (cy 0, 256, .inl a_46)), (z_failures, .inl (cy 0, 17, .inl v_failuresc))] ∧ va_S A s.heap H locs ∧ lv_has ls 12 [(6, .int a_45), (5, .int y5_4), (4, .int y4_3), (3, .int y3_2), (2, .int y2_1), (0, .ref z), (1, .ref z1)]) (pcH := 35) (fun _ q_ => by cases q_) ?_ K (0, v_lostByLostc) hL_7 ⟨hP, hD, hS, hl⟩
    clear hL_7 h hP hD hS hl
    intro k_ ih ⟨a_45, a_46⟩ H locs ls h hp_
    obtain ⟨hP, hD, hS, hl⟩ := hp_
    have hP : va_P D vwCl [(z1, .inr (3, [.int v1_n, .int v1_p, .int v1_q, .long v1_goodOnes, .long v1_frozenOnes, .ref z1_uppers])), (z, .inr (6, [.ref z_words, .ref z_rows, .ref z_failures, .int v_hasWords, .int v_hasRows, .int v_hasFailures, .ref z_stepWords, .ref z_plain, .ref z_factors, .ref z_lostByLost])), (z_lostByLost, .inl (cy 0, 256, .inl a_46)), (z_failures, .inl (cy 0, 17, .inl v_failuresc))] H := hP
    have hD : va_D A [(z1, .inr (3, [.int v1_n, .int v1_p, .int v1_q, .long v1_goodOnes, .long v1_frozenOnes, .ref z1_uppers])), (z, .inr (6, [.ref z_words, .ref z_rows, .ref z_failures, .int v_hasWords, .int v_hasRows, .int v_hasFailures, .ref z_stepWords, .ref z_plain, .ref z_factors, .ref z_lostByLost])), (z_lostByLost, .inl (cy 0, 256, .inl a_46)), (z_failures, .inl (cy 0, 17, .inl v_failuresc))] := hD
    have hl : lv_has ls 12 [(6, .int a_45), (5, .int y5_4), (4, .int y4_3), (3, .int y3_2), (2, .int y2_1), (0, .ref z), (1, .ref z1)] := hl
    change fL_X7_countFailures_35 K y3_2 y2_1 (k_ + 1) (a_45, a_46) = _ at h
    rw [fL_X7_countFailures_35] at h
    refine lv_iload hx hb dX7_countFailures_35 (lv_at hl 0 rfl) ?_
    refine lv_iload_n hx hb dX7_countFailures_37 rfl (lv_at hl 3 rfl) ?_
    refine lv_icmp_ge (tgt := 60) hx hb dX7_countFailures_38 (by decide) (fun c_47 => ?_) (fun c_47 => ?_)
    · have h := gx_t c_47 h
      have hl := lv_sub (l' := [(6, .int a_45), (5, .int y5_4), (4, .int y4_3), (3, .int y3_2), (2, .int y2_1), (0, .ref z), (1, .ref z1)]) hl [0, 1, 2, 3, 4, 5, 6] rfl
      cases h
      exact hJ60 _ _ _ ⟨hP, hD, hS, hl⟩
    · have h := gx_f c_47 h
      refine lv_aload_n hx hb dX7_countFailures_41 rfl (lv_at hl 5 rfl) ?_
      refine va_get (D := D) (ci := 6) (v := .ref z_lostByLost) (C := RX7) (T := TX7) (N := 10) hx hb hts iX7 hown hK hP 1 rfl rfl 9 (by decide) f31 (fun _ h9 => h9) rfl dX7_countFailures_42 ?_
      refine lv_iload hx hb dX7_countFailures_45 (lv_at hl 0 rfl) ?_
      refine lv_iload hx hb dX7_countFailures_47 (lv_at hl 0 rfl) ?_
      refine lv_iload_n hx hb dX7_countFailures_49 rfl (lv_at hl 4 rfl) ?_
      obtain ⟨r_48, hc_49, h⟩ := gx_b h
      refine gCalli (wr := [(z1, .inr (3, [.int v1_n, .int v1_p, .int v1_q, .long v1_goodOnes, .long v1_frozenOnes, .ref z1_uppers])), (z, .inr (6, [.ref z_words, .ref z_rows, .ref z_failures, .int v_hasWords, .int v_hasRows, .int v_hasFailures, .ref z_stepWords, .ref z_plain, .ref z_factors, .ref z_lostByLost])), (z_lostByLost, .inl (cy 0, 256, .inl a_46)), (z_failures, .inl (cy 0, 17, .inl v_failuresc))]) (va_runS (As := [.int a_45, .int y2_1]) (rest := [.int a_45, .ref z_lostByLost]) ⟨hx, hb, hml, hown, hts⟩ (c_X7_lostPlaces l D cy t H.size K a_45 y2_1 r_48 hc_49) (va_cwS 2 hts gX7_countFailures_X7_lostPlaces rfl rfl rfl (by decide +kernel) ⟨Nat.le_of_ble_eq_true rfl, Nat.le_of_ble_eq_true rfl⟩) ⟨gBlind, fun U hU hW => ⟨rfl, gPre.call hK hG hA hP hD hS [] (by decide) rfl U hU hW⟩⟩ rfl rfl hl.1 rfl (lv_room (Nat.le_of_ble_eq_true rfl)) dX7_countFailures_50 ⟨Nat.le_of_ble_eq_true rfl, Nat.le_of_ble_eq_true rfl⟩) hA hP hD hS [] [0, 1, 2, 3] rfl rfl (by decide) (by decide) (fun H locs hP hD hS => ?_)
      have hP : va_P D vwCl [(z1, .inr (3, [.int v1_n, .int v1_p, .int v1_q, .long v1_goodOnes, .long v1_frozenOnes, .ref z1_uppers])), (z, .inr (6, [.ref z_words, .ref z_rows, .ref z_failures, .int v_hasWords, .int v_hasRows, .int v_hasFailures, .ref z_stepWords, .ref z_plain, .ref z_factors, .ref z_lostByLost])), (z_lostByLost, .inl (cy 0, 256, .inl a_46)), (z_failures, .inl (cy 0, 17, .inl v_failuresc))] H := hP
      have hD : va_D A [(z1, .inr (3, [.int v1_n, .int v1_p, .int v1_q, .long v1_goodOnes, .long v1_frozenOnes, .ref z1_uppers])), (z, .inr (6, [.ref z_words, .ref z_rows, .ref z_failures, .int v_hasWords, .int v_hasRows, .int v_hasFailures, .ref z_stepWords, .ref z_plain, .ref z_factors, .ref z_lostByLost])), (z_lostByLost, .inl (cy 0, 256, .inl a_46)), (z_failures, .inl (cy 0, 17, .inl v_failuresc))] := hD
      obtain ⟨hi_, h⟩ := gx_ix h
      refine va_iast hx hb hK hP hD hS 2 0 rfl rfl hi_ dX7_countFailures_53 (fun H locs hP hD hS => ?_)
      obtain ⟨w_50, e_w_50⟩ : ∃ y : Nat → Int32, y = (upd a_46 (Int32.toNatClampNeg a_45) r_48) := ⟨_, rfl⟩
      have h := gx_let e_w_50 h
      have hP : va_P D vwCl [(z1, .inr (3, [.int v1_n, .int v1_p, .int v1_q, .long v1_goodOnes, .long v1_frozenOnes, .ref z1_uppers])), (z, .inr (6, [.ref z_words, .ref z_rows, .ref z_failures, .int v_hasWords, .int v_hasRows, .int v_hasFailures, .ref z_stepWords, .ref z_plain, .ref z_factors, .ref z_lostByLost])), (z_lostByLost, .inl (cy 0, 256, .inl (upd a_46 (Int32.toNatClampNeg a_45) r_48))), (z_failures, .inl (cy 0, 17, .inl v_failuresc))] H := hP
      have hD : va_D A [(z1, .inr (3, [.int v1_n, .int v1_p, .int v1_q, .long v1_goodOnes, .long v1_frozenOnes, .ref z1_uppers])), (z, .inr (6, [.ref z_words, .ref z_rows, .ref z_failures, .int v_hasWords, .int v_hasRows, .int v_hasFailures, .ref z_stepWords, .ref z_plain, .ref z_factors, .ref z_lostByLost])), (z_lostByLost, .inl (cy 0, 256, .inl (upd a_46 (Int32.toNatClampNeg a_45) r_48))), (z_failures, .inl (cy 0, 17, .inl v_failuresc))] := hD
      rw [← e_w_50] at hP hD
      obtain ⟨y6_51, e_y6_51⟩ : ∃ y : Int32, y = (a_45 + 1) := ⟨_, rfl⟩
      have h := gx_let e_y6_51 h
      refine lv_iinc (v := y6_51) (lv' := [(6, .int y6_51), (5, .int y5_4), (4, .int y4_3), (3, .int y3_2), (2, .int y2_1), (0, .ref z), (1, .ref z1)]) hx hb dX7_countFailures_54 hl (k := 0) rfl (by rw [e_y6_51]; rfl) (by decide) rfl (fun ls hl => ?_)
      refine lv_goto (tgt := 35) hx hb dX7_countFailures_57 (by decide) ?_
      exact ih (y6_51, w_50) _ _ _ h ⟨hP, hD, hS, lv_sub (l' := [(6, .int y6_51), (5, .int y5_4), (4, .int y4_3), (3, .int y3_2), (2, .int y2_1), (0, .ref z), (1, .ref z1)]) hl [0, 1, 2, 3, 4, 5, 6] rfl⟩

def f_X7_failingSets (K : Nat) (x2 : Int32) (v_hasFailures : Int32) (v1_n : Int32) (v1_goodOnes : Int64) (v_lostByLostc : Nat → Int32) (v_failuresc : Nat → Int32) : Option (Int32 × Int32 × (Nat → Int32) × (Nat → Int32)) :=
  Option.bind (α := Int32 × (Nat → Int32) × (Nat → Int32)) (
    if v_hasFailures = 0 then
      Option.bind (f_X7_countFailures K v1_n v1_goodOnes v_lostByLostc v_failuresc) fun (o_5, o_6) =>
      some (1, o_5, o_6)
    else
      some (v_hasFailures, v_lostByLostc, v_failuresc)) fun (mf_1, mc_2, mc_3) =>
  gIx x2 17 <|
  some ((mc_3 (Int32.toNatClampNeg x2)), mf_1, mc_2, mc_3)
set_option maxHeartbeats 4000000 in
set_option maxRecDepth 100000 in
theorem c_X7_failingSets (l : Launch) (D : va_G) (cy : Nat → ClassId) (t sz K : Nat) (z : Nat) (z1 : Nat) (z_lostByLost : Nat) (z_failures : Nat) (z_words : Nat) (z_rows : Nat) (z_stepWords : Nat) (z_plain : Nat) (z_factors : Nat) (z1_uppers : Nat) (v_hasWords : Int32) (v_hasRows : Int32) (v_hasFailures : Int32) (v1_n : Int32) (v1_p : Int32) (v1_q : Int32) (v1_goodOnes : Int64) (v1_frozenOnes : Int64) (v_lostByLostc : Nat → Int32) (v_failuresc : Nat → Int32) (x2 : Int32) (r_ : Int32) (o_v_hasFailures : Int32) (o_v_lostByLostc : Nat → Int32) (o_v_failuresc : Nat → Int32) (h : f_X7_failingSets K x2 v_hasFailures v1_n v1_goodOnes v_lostByLostc v_failuresc = some (r_, o_v_hasFailures, o_v_lostByLostc, o_v_failuresc)) : gMi l D cy t sz yX7_failingSets wsX7_failingSets 2 57 [.ref z, .ref z1, .int x2] [(z, .inr (6, [.ref z_words, .ref z_rows, .ref z_failures, .int v_hasWords, .int v_hasRows, .int v_hasFailures, .ref z_stepWords, .ref z_plain, .ref z_factors, .ref z_lostByLost])), (z1, .inr (3, [.int v1_n, .int v1_p, .int v1_q, .long v1_goodOnes, .long v1_frozenOnes, .ref z1_uppers])), (z_lostByLost, .inl (cy 0, 256, .inl v_lostByLostc)), (z_failures, .inl (cy 0, 17, .inl v_failuresc))] r_ [(z, .inr (6, [.ref z_words, .ref z_rows, .ref z_failures, .int v_hasWords, .int v_hasRows, .int o_v_hasFailures, .ref z_stepWords, .ref z_plain, .ref z_factors, .ref z_lostByLost])), (z1, .inr (3, [.int v1_n, .int v1_p, .int v1_q, .long v1_goodOnes, .long v1_frozenOnes, .ref z1_uppers])), (z_lostByLost, .inl (cy 0, 256, .inl o_v_lostByLostc)), (z_failures, .inl (cy 0, 17, .inl o_v_failuresc))] := by
  refine gBi (cc := cX7_failingSets) (maxL := 3) (ret := (some .int)) (by decide) rfl (Nat.le_of_ble_eq_true rfl) ?_
  intro p e s m below meth c A ls hAt hl
  obtain ⟨hx, hb, hml, hr, hts, hown, hlocks, hin, hK, hG, hA, hP, hD⟩ := hAt
  have hS : va_S A s.heap s.heap [] := va_S.rf
  have hl : lv_has ls 3 [(0, .ref z), (1, .ref z1), (2, .int x2)] := hl
  have f41 := hts (.fieldLink RX7 41 "PlainLines$Tally" "hasFailures" "Z") (by decide +kernel)
  have iX7 := (by decide +kernel : ∀ w ∈ u_ws RX7 TX7 10, w ∈ wsX7_failingSets)
  have f18 := hts (.fieldLink RX7 18 "PlainLines$Tally" "failures" "[I") (by decide +kernel)
  rw [f_X7_failingSets] at h
  refine lv_aload_n hx hb dX7_failingSets_0 rfl (lv_at hl 0 rfl) ?_
  refine va_get (D := D) (ci := 6) (v := .int v_hasFailures) (C := RX7) (T := TX7) (N := 10) hx hb hts iX7 hown hK hP 0 rfl rfl 5 (by decide) f41 (fun _ h9 => h9) rfl dX7_failingSets_1 ?_
  obtain ⟨⟨mf_1, mc_2, mc_3⟩, hR_4, h⟩ := gx_b h
  refine gJoin (Pj := fun H locs ls => va_P D vwCl [(z, .inr (6, [.ref z_words, .ref z_rows, .ref z_failures, .int v_hasWords, .int v_hasRows, .int mf_1, .ref z_stepWords, .ref z_plain, .ref z_factors, .ref z_lostByLost])), (z1, .inr (3, [.int v1_n, .int v1_p, .int v1_q, .long v1_goodOnes, .long v1_frozenOnes, .ref z1_uppers])), (z_lostByLost, .inl (cy 0, 256, .inl mc_2)), (z_failures, .inl (cy 0, 17, .inl mc_3))] H ∧ va_D A [(z, .inr (6, [.ref z_words, .ref z_rows, .ref z_failures, .int v_hasWords, .int v_hasRows, .int mf_1, .ref z_stepWords, .ref z_plain, .ref z_factors, .ref z_lostByLost])), (z1, .inr (3, [.int v1_n, .int v1_p, .int v1_q, .long v1_goodOnes, .long v1_frozenOnes, .ref z1_uppers])), (z_lostByLost, .inl (cy 0, 256, .inl mc_2)), (z_failures, .inl (cy 0, 17, .inl mc_3))] ∧ va_S A s.heap H locs ∧ lv_has ls 3 [(0, .ref z), (1, .ref z1), (2, .int x2)]) (pcM := 17) (st := []) ?_ (fun hJ17 => ?_)
  · intro H locs ls hp_
    obtain ⟨hP, hD, hS, hl⟩ := hp_
    clear hR_4
    refine lv_aload_n hx hb dX7_failingSets_17 rfl (lv_at hl 0 rfl) ?_
    refine va_get (D := D) (ci := 6) (v := .ref z_failures) (C := RX7) (T := TX7) (N := 10) hx hb hts iX7 hown hK hP 0 rfl rfl 2 (by decide) f18 (fun _ h9 => h9) rfl dX7_failingSets_18 ?_
    refine lv_iload_n hx hb dX7_failingSets_21 rfl (lv_at hl 2 rfl) ?_
    obtain ⟨hi_, h⟩ := gx_ix h
    refine va_iald hx hb hK hP 3 0 rfl rfl hi_ dX7_failingSets_22 ?_
    cases h
    exact gRi hx hb hr hlocks hP hD hS dX7_failingSets_23
  · have h := hR_4
    refine lv_if_ne (tgt := 17) hx hb dX7_failingSets_4 (by decide) (fun c_5 => ?_) (fun c_5 => ?_)
    · have h := gx_f c_5 h
      have hl := lv_sub (l' := [(0, .ref z), (1, .ref z1), (2, .int x2)]) hl [0, 1, 2] rfl
      cases h
      exact hJ17 _ _ _ ⟨hP, hD, hS, hl⟩
    · have h := gx_t c_5 h
      refine lv_aload_n hx hb dX7_failingSets_7 rfl (lv_at hl 0 rfl) ?_
      refine lv_aload_n hx hb dX7_failingSets_8 rfl (lv_at hl 1 rfl) ?_
      obtain ⟨⟨o_6, o_7⟩, hc_8, h⟩ := gx_b h
      refine gCallv (wr := []) (va_runV (As := [.ref z1]) (rest := []) ⟨hx, hb, hml, hown, hts⟩ (c_X7_countFailures l D cy t s.heap.size K z1 z z_lostByLost z_failures z1_uppers z_words z_rows z_stepWords z_plain z_factors v1_n v1_p v1_q v1_goodOnes v1_frozenOnes v_hasWords v_hasRows v_hasFailures v_lostByLostc v_failuresc o_6 o_7 hc_8) (cwV 1 hts gX7_failingSets_X7_countFailures rfl rfl rfl (by decide +kernel) ⟨Nat.le_of_ble_eq_true rfl, Nat.le_of_ble_eq_true rfl⟩) ⟨gBlind, va_recv hK hP (ci := 6) (q0 := 0) rfl rfl, fun U hU hW => ⟨rfl, gPre.call hK hG hA hP hD hS [1, 0, 2, 3] (by decide) rfl U hU hW⟩⟩ rfl rfl hl.1 rfl (lv_room (Nat.le_of_ble_eq_true rfl)) dX7_failingSets_9 ⟨Nat.le_of_ble_eq_true rfl, Nat.le_of_ble_eq_true rfl⟩) hA hP hD hS [1, 0, 2, 3] [] rfl rfl (by decide) (by decide) (fun H locs hP hD hS => ?_)
      have hP := hP.sub (ws' := [(z, .inr (6, [.ref z_words, .ref z_rows, .ref z_failures, .int v_hasWords, .int v_hasRows, .int v_hasFailures, .ref z_stepWords, .ref z_plain, .ref z_factors, .ref z_lostByLost])), (z1, .inr (3, [.int v1_n, .int v1_p, .int v1_q, .long v1_goodOnes, .long v1_frozenOnes, .ref z1_uppers])), (z_lostByLost, .inl (cy 0, 256, .inl o_6)), (z_failures, .inl (cy 0, 17, .inl o_7))]) [1, 0, 2, 3] rfl
      have hD := hD.sub (ws' := [(z, .inr (6, [.ref z_words, .ref z_rows, .ref z_failures, .int v_hasWords, .int v_hasRows, .int v_hasFailures, .ref z_stepWords, .ref z_plain, .ref z_factors, .ref z_lostByLost])), (z1, .inr (3, [.int v1_n, .int v1_p, .int v1_q, .long v1_goodOnes, .long v1_frozenOnes, .ref z1_uppers])), (z_lostByLost, .inl (cy 0, 256, .inl o_6)), (z_failures, .inl (cy 0, 17, .inl o_7))]) [1, 0, 2, 3] (by decide) rfl
      refine lv_aload_n hx hb dX7_failingSets_12 rfl (lv_at hl 0 rfl) ?_
      refine lv_iconst (v := 1) hx hb dX7_failingSets_13 (by decide) ?_
      refine va_put (D := D) (ci := 6) (v := .int 1) (ty := .boolean) (C := RX7) (T := TX7) (N := 10) hx hb hts iX7 tyX7 tyX7_ok nmX7 hown hK hP hD hS 0 rfl rfl 5 (by decide) f41 (fun _ h9 => h9) rfl (by decide +kernel) rfl rfl (Nat.le_of_ble_eq_true rfl) dX7_failingSets_14 (fun H locs hP hD hS => ?_)
      have hP : va_P D vwCl [(z, .inr (6, [.ref z_words, .ref z_rows, .ref z_failures, .int v_hasWords, .int v_hasRows, .int 1, .ref z_stepWords, .ref z_plain, .ref z_factors, .ref z_lostByLost])), (z1, .inr (3, [.int v1_n, .int v1_p, .int v1_q, .long v1_goodOnes, .long v1_frozenOnes, .ref z1_uppers])), (z_lostByLost, .inl (cy 0, 256, .inl o_6)), (z_failures, .inl (cy 0, 17, .inl o_7))] H := hP
      have hD : va_D A [(z, .inr (6, [.ref z_words, .ref z_rows, .ref z_failures, .int v_hasWords, .int v_hasRows, .int 1, .ref z_stepWords, .ref z_plain, .ref z_factors, .ref z_lostByLost])), (z1, .inr (3, [.int v1_n, .int v1_p, .int v1_q, .long v1_goodOnes, .long v1_frozenOnes, .ref z1_uppers])), (z_lostByLost, .inl (cy 0, 256, .inl o_6)), (z_failures, .inl (cy 0, 17, .inl o_7))] := hD
      have hl := lv_sub (l' := [(0, .ref z), (1, .ref z1), (2, .int x2)]) hl [0, 1, 2] rfl
      cases h
      exact hJ17 _ _ _ ⟨hP, hD, hS, hl⟩

def fL_X7_nearestMessage_45 (K : Nat) (l10 : Int32) (l2 : Int64) (l4 : Int64) (u2 : Nat → Int64) : Nat → Int32 × Int32 × Int32 × Int64 → Option (Int32 × Int32 × Int32 × Int64)
  | 0, _ => none
  | k + 1, (l11, l9, l8, l6) =>
    if l10 ≤ l11 then
      some (l11, l9, l8, l6)
    else
      Option.bind (f_J6_numberOfTrailingZeros_0f7a4 K l11) fun r_7 =>
      gIx r_7 32 <|
      gLet (l6 ^^^ (u2 (Int32.toNatClampNeg r_7))) fun y6_8 =>
      Option.bind (f_J13_bitCount_95d88 K ((y6_8 ^^^ l2) &&& l4)) fun r_9 =>
      if l8 ≤ r_9 then
        gLet (l11 + 1) fun y11_11 =>
        fL_X7_nearestMessage_45 K l10 l2 l4 u2 k (y11_11, l9, l8, y6_8)
      else
        gLet (l11 + 1) fun y11_12 =>
        fL_X7_nearestMessage_45 K l10 l2 l4 u2 k (y11_12, l11, r_9, y6_8)
def f_X7_nearestMessage (K : Nat) (x2 : Int64) (x3 : Int64) (v1_n : Int32) (v1_goodOnes : Int64) (v1_frozenOnes : Int64) (v_stepWordsc : Nat → Int64) : Option (Int64 × (Nat → Int64)) :=
  Option.bind (f_X7_prepareSteps K v1_goodOnes v1_n v_stepWordsc) fun o_1 =>
  Option.bind (f_X4_wordOf K 0 v1_n v1_goodOnes v1_frozenOnes) fun r_2 =>
  Option.bind (f_J13_bitCount_95d88 K ((r_2 ^^^ x2) &&& x3)) fun r_3 =>
  Option.bind (f_X4_goodCount K v1_goodOnes) fun r_4 =>
  gLet (1 <<< (r_4 &&& 31)) fun y10_5 =>
  Option.bind (fL_X7_nearestMessage_45 K y10_5 x2 x3 o_1 K (1, 0, r_3, r_2)) fun (o_13, o_14, o_15, o_16) =>
  some ((Int32.toInt64 o_14), o_1)
set_option maxHeartbeats 4000000 in
set_option maxRecDepth 100000 in
theorem c_X7_nearestMessage (l : Launch) (D : va_G) (cy : Nat → ClassId) (t sz K : Nat) (z1 : Nat) (z : Nat) (z_stepWords : Nat) (z1_uppers : Nat) (z_words : Nat) (z_rows : Nat) (z_failures : Nat) (z_plain : Nat) (z_factors : Nat) (z_lostByLost : Nat) (v1_n : Int32) (v1_p : Int32) (v1_q : Int32) (v1_goodOnes : Int64) (v1_frozenOnes : Int64) (v_hasWords : Int32) (v_hasRows : Int32) (v_hasFailures : Int32) (v_stepWordsc : Nat → Int64) (x2 : Int64) (x3 : Int64) (r_ : Int64) (o_v_stepWordsc : Nat → Int64) (h : f_X7_nearestMessage K x2 x3 v1_n v1_goodOnes v1_frozenOnes v_stepWordsc = some (r_, o_v_stepWordsc)) : gMl l D cy t sz yX7_nearestMessage wsX7_nearestMessage 3 70 [.ref z, .ref z1, .long x2, .long x3] [(z1, .inr (3, [.int v1_n, .int v1_p, .int v1_q, .long v1_goodOnes, .long v1_frozenOnes, .ref z1_uppers])), (z, .inr (6, [.ref z_words, .ref z_rows, .ref z_failures, .int v_hasWords, .int v_hasRows, .int v_hasFailures, .ref z_stepWords, .ref z_plain, .ref z_factors, .ref z_lostByLost])), (z_stepWords, .inl (cy 1, 32, .inr (.inl v_stepWordsc)))] r_ [(z1, .inr (3, [.int v1_n, .int v1_p, .int v1_q, .long v1_goodOnes, .long v1_frozenOnes, .ref z1_uppers])), (z, .inr (6, [.ref z_words, .ref z_rows, .ref z_failures, .int v_hasWords, .int v_hasRows, .int v_hasFailures, .ref z_stepWords, .ref z_plain, .ref z_factors, .ref z_lostByLost])), (z_stepWords, .inl (cy 1, 32, .inr (.inl o_v_stepWordsc)))] := by
  refine gBl (cc := cX7_nearestMessage) (maxL := 13) (ret := (some .long)) (by decide) rfl (Nat.le_of_ble_eq_true rfl) ?_
  intro p e s m below meth c A ls hAt hl
  obtain ⟨hx, hb, hml, hr, hts, hown, hlocks, hin, hK, hG, hA, hP, hD⟩ := hAt
  have hS : va_S A s.heap s.heap [] := va_S.rf
  have hl : lv_has ls 13 [(0, .ref z), (1, .ref z1), (2, .long x2), (4, .long x3)] := hl
  have f44 := hts (.fieldLink RX7 44 "PlainLines$Places" "goodOnes" "J") (by decide +kernel)
  have iX4 := (by decide +kernel : ∀ w ∈ u_ws RX4 TX4 6, w ∈ wsX7_nearestMessage)
  have f54 := hts (.fieldLink RX7 54 "PlainLines$Places" "n" "I") (by decide +kernel)
  have f21 := hts (.fieldLink RX7 21 "PlainLines$Tally" "stepWords" "[J") (by decide +kernel)
  have iX7 := (by decide +kernel : ∀ w ∈ u_ws RX7 TX7 10, w ∈ wsX7_nearestMessage)
  rw [f_X7_nearestMessage] at h
  refine lv_aload_n hx hb dX7_nearestMessage_0 rfl (lv_at hl 0 rfl) ?_
  refine lv_aload_n hx hb dX7_nearestMessage_1 rfl (lv_at hl 1 rfl) ?_
  refine va_get (D := D) (ci := 3) (v := .long v1_goodOnes) (C := RX4) (T := TX4) (N := 6) hx hb hts iX4 hown hK hP 0 rfl rfl 3 (by decide) f44 (fun _ h9 => h9) rfl dX7_nearestMessage_2 ?_
  refine lv_aload_n hx hb dX7_nearestMessage_5 rfl (lv_at hl 1 rfl) ?_
  refine va_get (D := D) (ci := 3) (v := .int v1_n) (C := RX4) (T := TX4) (N := 6) hx hb hts iX4 hown hK hP 0 rfl rfl 0 (by decide) f54 (fun _ h9 => h9) rfl dX7_nearestMessage_6 ?_
  obtain ⟨o_1, hc_2, h⟩ := gx_b h
  refine gCallv (wr := [(z1, .inr (3, [.int v1_n, .int v1_p, .int v1_q, .long v1_goodOnes, .long v1_frozenOnes, .ref z1_uppers]))]) (va_runV (As := [.long v1_goodOnes, .int v1_n]) (rest := []) ⟨hx, hb, hml, hown, hts⟩ (c_X7_prepareSteps l D cy t s.heap.size K z z_stepWords z_words z_rows z_failures z_plain z_factors z_lostByLost v_hasWords v_hasRows v_hasFailures v_stepWordsc v1_goodOnes v1_n o_1 hc_2) (cwV 2 hts gX7_nearestMessage_X7_prepareSteps rfl rfl rfl (by decide +kernel) ⟨Nat.le_of_ble_eq_true rfl, Nat.le_of_ble_eq_true rfl⟩) ⟨gBlind, va_recv hK hP (ci := 6) (q0 := 1) rfl rfl, fun U hU hW => ⟨rfl, gPre.call hK hG hA hP hD hS [1, 2] (by decide) rfl U hU hW⟩⟩ rfl rfl hl.1 rfl (lv_room (Nat.le_of_ble_eq_true rfl)) dX7_nearestMessage_9 ⟨Nat.le_of_ble_eq_true rfl, Nat.le_of_ble_eq_true rfl⟩) hA hP hD hS [1, 2] [0] rfl rfl (by decide) (by decide) (fun H locs hP hD hS => ?_)
  have hP : va_P D vwCl [(z1, .inr (3, [.int v1_n, .int v1_p, .int v1_q, .long v1_goodOnes, .long v1_frozenOnes, .ref z1_uppers])), (z, .inr (6, [.ref z_words, .ref z_rows, .ref z_failures, .int v_hasWords, .int v_hasRows, .int v_hasFailures, .ref z_stepWords, .ref z_plain, .ref z_factors, .ref z_lostByLost])), (z_stepWords, .inl (cy 1, 32, .inr (.inl o_1)))] H := hP
  have hD : va_D A [(z1, .inr (3, [.int v1_n, .int v1_p, .int v1_q, .long v1_goodOnes, .long v1_frozenOnes, .ref z1_uppers])), (z, .inr (6, [.ref z_words, .ref z_rows, .ref z_failures, .int v_hasWords, .int v_hasRows, .int v_hasFailures, .ref z_stepWords, .ref z_plain, .ref z_factors, .ref z_lostByLost])), (z_stepWords, .inl (cy 1, 32, .inr (.inl o_1)))] := hD
  refine lv_aload_n hx hb dX7_nearestMessage_12 rfl (lv_at hl 1 rfl) ?_
  refine lv_lconst (v := 0) hx hb dX7_nearestMessage_13 (by decide) ?_
  obtain ⟨r_3, hc_4, h⟩ := gx_b h
  refine gCalll (wr := [(z, .inr (6, [.ref z_words, .ref z_rows, .ref z_failures, .int v_hasWords, .int v_hasRows, .int v_hasFailures, .ref z_stepWords, .ref z_plain, .ref z_factors, .ref z_lostByLost])), (z_stepWords, .inl (cy 1, 32, .inr (.inl o_1)))]) (va_runV (As := [.long 0]) (rest := []) ⟨hx, hb, hml, hown, hts⟩ (c_X4_wordOf l D cy t H.size K z1 z1_uppers v1_n v1_p v1_q v1_goodOnes v1_frozenOnes 0 r_3 hc_4) (cwV 1 hts gX7_nearestMessage_X4_wordOf rfl rfl rfl (by decide +kernel) ⟨Nat.le_of_ble_eq_true rfl, Nat.le_of_ble_eq_true rfl⟩) ⟨gBlind, va_recv hK hP (ci := 3) (q0 := 0) rfl rfl, fun U hU hW => ⟨rfl, gPre.call hK hG hA hP hD hS [0] (by decide) rfl U hU hW⟩⟩ rfl rfl hl.1 rfl (lv_room (Nat.le_of_ble_eq_true rfl)) dX7_nearestMessage_14 ⟨Nat.le_of_ble_eq_true rfl, Nat.le_of_ble_eq_true rfl⟩) hA hP hD hS [0] [1, 2] rfl rfl (by decide) (by decide) (fun H locs hP hD hS => ?_)
  have hP := hP.sub (ws' := [(z1, .inr (3, [.int v1_n, .int v1_p, .int v1_q, .long v1_goodOnes, .long v1_frozenOnes, .ref z1_uppers])), (z, .inr (6, [.ref z_words, .ref z_rows, .ref z_failures, .int v_hasWords, .int v_hasRows, .int v_hasFailures, .ref z_stepWords, .ref z_plain, .ref z_factors, .ref z_lostByLost])), (z_stepWords, .inl (cy 1, 32, .inr (.inl o_1)))]) [2, 0, 1] rfl
  have hD := hD.sub (ws' := [(z1, .inr (3, [.int v1_n, .int v1_p, .int v1_q, .long v1_goodOnes, .long v1_frozenOnes, .ref z1_uppers])), (z, .inr (6, [.ref z_words, .ref z_rows, .ref z_failures, .int v_hasWords, .int v_hasRows, .int v_hasFailures, .ref z_stepWords, .ref z_plain, .ref z_factors, .ref z_lostByLost])), (z_stepWords, .inl (cy 1, 32, .inr (.inl o_1)))]) [2, 0, 1] (by decide) rfl
  refine lv_lstore (lv' := [(6, .long r_3), (0, .ref z), (1, .ref z1), (2, .long x2), (4, .long x3)]) hx hb dX7_nearestMessage_17 hl (by decide) rfl (fun ls hl => ?_)
  refine lv_lload hx hb dX7_nearestMessage_19 (lv_at hl 0 rfl) ?_
  refine lv_lload_n hx hb dX7_nearestMessage_21 rfl (lv_at hl 3 rfl) ?_
  refine lv_lxor hx hb dX7_nearestMessage_22 ?_
  refine lv_lload hx hb dX7_nearestMessage_23 (lv_at hl 4 rfl) ?_
  refine lv_land hx hb dX7_nearestMessage_25 ?_
  obtain ⟨r_5, hc_6, h⟩ := gx_b h
  refine gCalli (wr := [(z1, .inr (3, [.int v1_n, .int v1_p, .int v1_q, .long v1_goodOnes, .long v1_frozenOnes, .ref z1_uppers])), (z, .inr (6, [.ref z_words, .ref z_rows, .ref z_failures, .int v_hasWords, .int v_hasRows, .int v_hasFailures, .ref z_stepWords, .ref z_plain, .ref z_factors, .ref z_lostByLost])), (z_stepWords, .inl (cy 1, 32, .inr (.inl o_1)))]) (va_runS (As := [.long ((r_3 ^^^ x2) &&& x3)]) (rest := []) ⟨hx, hb, hml, hown, hts⟩ (c_J13_bitCount_95d88 l D cy t H.size K ((r_3 ^^^ x2) &&& x3) r_5 hc_6) (va_cwS 1 hts gX7_nearestMessage_J13_bitCount_95d88 rfl rfl rfl (by decide +kernel) ⟨Nat.le_of_ble_eq_true rfl, Nat.le_of_ble_eq_true rfl⟩) ⟨gBlind, fun U hU hW => ⟨rfl, gPre.call hK hG hA hP hD hS [] (by decide) rfl U hU hW⟩⟩ rfl rfl hl.1 rfl (lv_room (Nat.le_of_ble_eq_true rfl)) dX7_nearestMessage_26 ⟨Nat.le_of_ble_eq_true rfl, Nat.le_of_ble_eq_true rfl⟩) hA hP hD hS [] [0, 1, 2] rfl rfl (by decide) (by decide) (fun H locs hP hD hS => ?_)
  have hP : va_P D vwCl [(z1, .inr (3, [.int v1_n, .int v1_p, .int v1_q, .long v1_goodOnes, .long v1_frozenOnes, .ref z1_uppers])), (z, .inr (6, [.ref z_words, .ref z_rows, .ref z_failures, .int v_hasWords, .int v_hasRows, .int v_hasFailures, .ref z_stepWords, .ref z_plain, .ref z_factors, .ref z_lostByLost])), (z_stepWords, .inl (cy 1, 32, .inr (.inl o_1)))] H := hP
  have hD : va_D A [(z1, .inr (3, [.int v1_n, .int v1_p, .int v1_q, .long v1_goodOnes, .long v1_frozenOnes, .ref z1_uppers])), (z, .inr (6, [.ref z_words, .ref z_rows, .ref z_failures, .int v_hasWords, .int v_hasRows, .int v_hasFailures, .ref z_stepWords, .ref z_plain, .ref z_factors, .ref z_lostByLost])), (z_stepWords, .inl (cy 1, 32, .inr (.inl o_1)))] := hD
  refine lv_istore (lv' := [(8, .int r_5), (6, .long r_3), (0, .ref z), (1, .ref z1), (2, .long x2), (4, .long x3)]) hx hb dX7_nearestMessage_29 hl (by decide) rfl (fun ls hl => ?_)
  refine lv_iconst (v := 0) hx hb dX7_nearestMessage_31 (by decide) ?_
  refine lv_istore (lv' := [(9, .int 0), (8, .int r_5), (6, .long r_3), (0, .ref z), (1, .ref z1), (2, .long x2), (4, .long x3)]) hx hb dX7_nearestMessage_32 hl (by decide) rfl (fun ls hl => ?_)
  refine lv_iconst (v := 1) hx hb dX7_nearestMessage_34 (by decide) ?_
  refine lv_aload_n hx hb dX7_nearestMessage_35 rfl (lv_at hl 4 rfl) ?_
  obtain ⟨r_7, hc_8, h⟩ := gx_b h
  refine gCalli (wr := [(z, .inr (6, [.ref z_words, .ref z_rows, .ref z_failures, .int v_hasWords, .int v_hasRows, .int v_hasFailures, .ref z_stepWords, .ref z_plain, .ref z_factors, .ref z_lostByLost])), (z_stepWords, .inl (cy 1, 32, .inr (.inl o_1)))]) (va_runV (As := []) (rest := [.int 1]) ⟨hx, hb, hml, hown, hts⟩ (c_X4_goodCount l D cy t H.size K z1 z1_uppers v1_n v1_p v1_q v1_goodOnes v1_frozenOnes r_7 hc_8) (cwV 0 hts gX7_nearestMessage_X4_goodCount rfl rfl rfl (by decide +kernel) ⟨Nat.le_of_ble_eq_true rfl, Nat.le_of_ble_eq_true rfl⟩) ⟨gBlind, va_recv hK hP (ci := 3) (q0 := 0) rfl rfl, fun U hU hW => ⟨rfl, gPre.call hK hG hA hP hD hS [0] (by decide) rfl U hU hW⟩⟩ rfl rfl hl.1 rfl (lv_room (Nat.le_of_ble_eq_true rfl)) dX7_nearestMessage_36 ⟨Nat.le_of_ble_eq_true rfl, Nat.le_of_ble_eq_true rfl⟩) hA hP hD hS [0] [1, 2] rfl rfl (by decide) (by decide) (fun H locs hP hD hS => ?_)
  have hP := hP.sub (ws' := [(z1, .inr (3, [.int v1_n, .int v1_p, .int v1_q, .long v1_goodOnes, .long v1_frozenOnes, .ref z1_uppers])), (z, .inr (6, [.ref z_words, .ref z_rows, .ref z_failures, .int v_hasWords, .int v_hasRows, .int v_hasFailures, .ref z_stepWords, .ref z_plain, .ref z_factors, .ref z_lostByLost])), (z_stepWords, .inl (cy 1, 32, .inr (.inl o_1)))]) [2, 0, 1] rfl
  have hD := hD.sub (ws' := [(z1, .inr (3, [.int v1_n, .int v1_p, .int v1_q, .long v1_goodOnes, .long v1_frozenOnes, .ref z1_uppers])), (z, .inr (6, [.ref z_words, .ref z_rows, .ref z_failures, .int v_hasWords, .int v_hasRows, .int v_hasFailures, .ref z_stepWords, .ref z_plain, .ref z_factors, .ref z_lostByLost])), (z_stepWords, .inl (cy 1, 32, .inr (.inl o_1)))]) [2, 0, 1] (by decide) rfl
  refine lv_ishl hx hb dX7_nearestMessage_39 ?_
  refine lv_topi (fun y10_9 e_y10_9 => ?_)
  have h := gx_let e_y10_9 h
  refine lv_istore (lv' := [(10, .int y10_9), (9, .int 0), (8, .int r_5), (6, .long r_3), (0, .ref z), (1, .ref z1), (2, .long x2), (4, .long x3)]) hx hb dX7_nearestMessage_40 hl (by decide) rfl (fun ls hl => ?_)
  refine lv_iconst (v := 1) hx hb dX7_nearestMessage_42 (by decide) ?_
  refine lv_istore (lv' := [(11, .int 1), (10, .int y10_9), (9, .int 0), (8, .int r_5), (6, .long r_3), (0, .ref z), (1, .ref z1), (2, .long x2), (4, .long x3)]) hx hb dX7_nearestMessage_43 hl (by decide) rfl (fun ls hl => ?_)
  obtain ⟨⟨o_10, o_11, o_12, o_13⟩, hL_14, h⟩ := gx_b h
  refine gJoin (Pj := fun H locs ls => va_P D vwCl [(z1, .inr (3, [.int v1_n, .int v1_p, .int v1_q, .long v1_goodOnes, .long v1_frozenOnes, .ref z1_uppers])), (z, .inr (6, [.ref z_words, .ref z_rows, .ref z_failures, .int v_hasWords, .int v_hasRows, .int v_hasFailures, .ref z_stepWords, .ref z_plain, .ref z_factors, .ref z_lostByLost])), (z_stepWords, .inl (cy 1, 32, .inr (.inl o_1)))] H ∧ va_D A [(z1, .inr (3, [.int v1_n, .int v1_p, .int v1_q, .long v1_goodOnes, .long v1_frozenOnes, .ref z1_uppers])), (z, .inr (6, [.ref z_words, .ref z_rows, .ref z_failures, .int v_hasWords, .int v_hasRows, .int v_hasFailures, .ref z_stepWords, .ref z_plain, .ref z_factors, .ref z_lostByLost])), (z_stepWords, .inl (cy 1, 32, .inr (.inl o_1)))] ∧ va_S A s.heap H locs ∧ lv_has ls 13 [(11, .int o_10), (10, .int y10_9), (9, .int o_11), (8, .int o_12), (6, .long o_13), (0, .ref z), (1, .ref z1), (2, .long x2), (4, .long x3)]) (pcM := 100) (st := []) ?_ (fun hJ100 => ?_)
  · intro H locs ls hp_
    obtain ⟨hP, hD, hS, hl⟩ := hp_
    clear hL_14
    refine lv_iload hx hb dX7_nearestMessage_100 (lv_at hl 2 rfl) ?_
    refine lv_i2l (v := (Int32.toInt64 o_11)) hx hb dX7_nearestMessage_102 rfl ?_
    cases h
    exact gRl hx hb hr hlocks hP hD hS dX7_nearestMessage_103
  · refine gLoop (Hy := fun k_ v_ => fL_X7_nearestMessage_45 K y10_9 x2 x3 o_1 k_ v_ = some (o_10, o_11, o_12, o_13)) (Pl := fun (v_ : Int32 × Int32 × Int32 × Int64) H locs ls => match v_ with | (a_15, a_16, a_17, a_18) => va_P D vwCl [(z1, .inr (3, [.int v1_n, .int v1_p, .int v1_q, .long v1_goodOnes, .long v1_frozenOnes, .ref z1_uppers])), (z, .inr (6, [.ref z_words, .ref z_rows, .ref z_failures, .int v_hasWords, .int v_hasRows, .int v_hasFailures, .ref z_stepWords, .ref z_plain, .ref z_factors, .ref z_lostByLost])), (z_stepWords, .inl (cy 1, 32, .inr (.inl o_1)))] H ∧ va_D A [(z1, .inr (3, [.int v1_n, .int v1_p, .int v1_q, .long v1_goodOnes, .long v1_frozenOnes, .ref z1_uppers])), (z, .inr (6, [.ref z_words, .ref z_rows, .ref z_failures, .int v_hasWords, .int v_hasRows, .int v_hasFailures, .ref z_stepWords, .ref z_plain, .ref z_factors, .ref z_lostByLost])), (z_stepWords, .inl (cy 1, 32, .inr (.inl o_1)))] ∧ va_S A s.heap H locs ∧ lv_has ls 13 [(11, .int a_15), (10, .int y10_9), (9, .int a_16), (8, .int a_17), (6, .long a_18), (0, .ref z), (1, .ref z1), (2, .long x2), (4, .long x3)]) (pcH := 45) (fun _ q_ => by cases q_) ?_ K (1, 0, r_5, r_3) hL_14 ⟨hP, hD, hS, hl⟩
    clear hL_14 h hP hD hS hl
    intro k_ ih ⟨a_15, a_16, a_17, a_18⟩ H locs ls h hp_
    obtain ⟨hP, hD, hS, hl⟩ := hp_
    have hP : va_P D vwCl [(z1, .inr (3, [.int v1_n, .int v1_p, .int v1_q, .long v1_goodOnes, .long v1_frozenOnes, .ref z1_uppers])), (z, .inr (6, [.ref z_words, .ref z_rows, .ref z_failures, .int v_hasWords, .int v_hasRows, .int v_hasFailures, .ref z_stepWords, .ref z_plain, .ref z_factors, .ref z_lostByLost])), (z_stepWords, .inl (cy 1, 32, .inr (.inl o_1)))] H := hP
    have hD : va_D A [(z1, .inr (3, [.int v1_n, .int v1_p, .int v1_q, .long v1_goodOnes, .long v1_frozenOnes, .ref z1_uppers])), (z, .inr (6, [.ref z_words, .ref z_rows, .ref z_failures, .int v_hasWords, .int v_hasRows, .int v_hasFailures, .ref z_stepWords, .ref z_plain, .ref z_factors, .ref z_lostByLost])), (z_stepWords, .inl (cy 1, 32, .inr (.inl o_1)))] := hD
    have hl : lv_has ls 13 [(11, .int a_15), (10, .int y10_9), (9, .int a_16), (8, .int a_17), (6, .long a_18), (0, .ref z), (1, .ref z1), (2, .long x2), (4, .long x3)] := hl
    change fL_X7_nearestMessage_45 K y10_9 x2 x3 o_1 (k_ + 1) (a_15, a_16, a_17, a_18) = _ at h
    rw [fL_X7_nearestMessage_45] at h
    refine lv_iload hx hb dX7_nearestMessage_45 (lv_at hl 0 rfl) ?_
    refine lv_iload hx hb dX7_nearestMessage_47 (lv_at hl 1 rfl) ?_
    refine lv_icmp_ge (tgt := 100) hx hb dX7_nearestMessage_49 (by decide) (fun c_19 => ?_) (fun c_19 => ?_)
    · have h := gx_t c_19 h
      have hl := lv_sub (l' := [(11, .int a_15), (10, .int y10_9), (9, .int a_16), (8, .int a_17), (6, .long a_18), (0, .ref z), (1, .ref z1), (2, .long x2), (4, .long x3)]) hl [0, 1, 2, 3, 4, 5, 6, 7, 8] rfl
      cases h
      exact hJ100 _ _ _ ⟨hP, hD, hS, hl⟩
    · have h := gx_f c_19 h
      refine lv_lload hx hb dX7_nearestMessage_52 (lv_at hl 4 rfl) ?_
      refine lv_aload_n hx hb dX7_nearestMessage_54 rfl (lv_at hl 5 rfl) ?_
      refine va_get (D := D) (ci := 6) (v := .ref z_stepWords) (C := RX7) (T := TX7) (N := 10) hx hb hts iX7 hown hK hP 1 rfl rfl 6 (by decide) f21 (fun _ h9 => h9) rfl dX7_nearestMessage_55 ?_
      refine lv_iload hx hb dX7_nearestMessage_58 (lv_at hl 0 rfl) ?_
      obtain ⟨r_20, hc_21, h⟩ := gx_b h
      refine gCalli (wr := [(z1, .inr (3, [.int v1_n, .int v1_p, .int v1_q, .long v1_goodOnes, .long v1_frozenOnes, .ref z1_uppers])), (z, .inr (6, [.ref z_words, .ref z_rows, .ref z_failures, .int v_hasWords, .int v_hasRows, .int v_hasFailures, .ref z_stepWords, .ref z_plain, .ref z_factors, .ref z_lostByLost])), (z_stepWords, .inl (cy 1, 32, .inr (.inl o_1)))]) (va_runS (As := [.int a_15]) (rest := [.ref z_stepWords, .long a_18]) ⟨hx, hb, hml, hown, hts⟩ (c_J6_numberOfTrailingZeros_0f7a4 l D cy t H.size K a_15 r_20 hc_21) (va_cwS 1 hts gX7_nearestMessage_J6_numberOfTrailingZeros_0f7a4 rfl rfl rfl (by decide +kernel) ⟨Nat.le_of_ble_eq_true rfl, Nat.le_of_ble_eq_true rfl⟩) ⟨gBlind, fun U hU hW => ⟨rfl, gPre.call hK hG hA hP hD hS [] (by decide) rfl U hU hW⟩⟩ rfl rfl hl.1 rfl (lv_room (Nat.le_of_ble_eq_true rfl)) dX7_nearestMessage_60 ⟨Nat.le_of_ble_eq_true rfl, Nat.le_of_ble_eq_true rfl⟩) hA hP hD hS [] [0, 1, 2] rfl rfl (by decide) (by decide) (fun H locs hP hD hS => ?_)
      have hP : va_P D vwCl [(z1, .inr (3, [.int v1_n, .int v1_p, .int v1_q, .long v1_goodOnes, .long v1_frozenOnes, .ref z1_uppers])), (z, .inr (6, [.ref z_words, .ref z_rows, .ref z_failures, .int v_hasWords, .int v_hasRows, .int v_hasFailures, .ref z_stepWords, .ref z_plain, .ref z_factors, .ref z_lostByLost])), (z_stepWords, .inl (cy 1, 32, .inr (.inl o_1)))] H := hP
      have hD : va_D A [(z1, .inr (3, [.int v1_n, .int v1_p, .int v1_q, .long v1_goodOnes, .long v1_frozenOnes, .ref z1_uppers])), (z, .inr (6, [.ref z_words, .ref z_rows, .ref z_failures, .int v_hasWords, .int v_hasRows, .int v_hasFailures, .ref z_stepWords, .ref z_plain, .ref z_factors, .ref z_lostByLost])), (z_stepWords, .inl (cy 1, 32, .inr (.inl o_1)))] := hD
      obtain ⟨hi_, h⟩ := gx_ix h
      refine va_lald hx hb hK hP 2 1 rfl rfl hi_ dX7_nearestMessage_63 ?_
      refine lv_lxor hx hb dX7_nearestMessage_64 ?_
      refine lv_topl (fun y6_22 e_y6_22 => ?_)
      have h := gx_let e_y6_22 h
      refine lv_lstore (lv' := [(6, .long y6_22), (11, .int a_15), (10, .int y10_9), (9, .int a_16), (8, .int a_17), (0, .ref z), (1, .ref z1), (2, .long x2), (4, .long x3)]) hx hb dX7_nearestMessage_65 hl (by decide) rfl (fun ls hl => ?_)
      refine lv_lload hx hb dX7_nearestMessage_67 (lv_at hl 0 rfl) ?_
      refine lv_lload_n hx hb dX7_nearestMessage_69 rfl (lv_at hl 7 rfl) ?_
      refine lv_lxor hx hb dX7_nearestMessage_70 ?_
      refine lv_lload hx hb dX7_nearestMessage_71 (lv_at hl 8 rfl) ?_
      refine lv_land hx hb dX7_nearestMessage_73 ?_
      obtain ⟨r_23, hc_24, h⟩ := gx_b h
      refine gCalli (wr := [(z1, .inr (3, [.int v1_n, .int v1_p, .int v1_q, .long v1_goodOnes, .long v1_frozenOnes, .ref z1_uppers])), (z, .inr (6, [.ref z_words, .ref z_rows, .ref z_failures, .int v_hasWords, .int v_hasRows, .int v_hasFailures, .ref z_stepWords, .ref z_plain, .ref z_factors, .ref z_lostByLost])), (z_stepWords, .inl (cy 1, 32, .inr (.inl o_1)))]) (va_runS (As := [.long ((y6_22 ^^^ x2) &&& x3)]) (rest := []) ⟨hx, hb, hml, hown, hts⟩ (c_J13_bitCount_95d88 l D cy t H.size K ((y6_22 ^^^ x2) &&& x3) r_23 hc_24) (va_cwS 1 hts gX7_nearestMessage_J13_bitCount_95d88 rfl rfl rfl (by decide +kernel) ⟨Nat.le_of_ble_eq_true rfl, Nat.le_of_ble_eq_true rfl⟩) ⟨gBlind, fun U hU hW => ⟨rfl, gPre.call hK hG hA hP hD hS [] (by decide) rfl U hU hW⟩⟩ rfl rfl hl.1 rfl (lv_room (Nat.le_of_ble_eq_true rfl)) dX7_nearestMessage_74 ⟨Nat.le_of_ble_eq_true rfl, Nat.le_of_ble_eq_true rfl⟩) hA hP hD hS [] [0, 1, 2] rfl rfl (by decide) (by decide) (fun H locs hP hD hS => ?_)
      have hP : va_P D vwCl [(z1, .inr (3, [.int v1_n, .int v1_p, .int v1_q, .long v1_goodOnes, .long v1_frozenOnes, .ref z1_uppers])), (z, .inr (6, [.ref z_words, .ref z_rows, .ref z_failures, .int v_hasWords, .int v_hasRows, .int v_hasFailures, .ref z_stepWords, .ref z_plain, .ref z_factors, .ref z_lostByLost])), (z_stepWords, .inl (cy 1, 32, .inr (.inl o_1)))] H := hP
      have hD : va_D A [(z1, .inr (3, [.int v1_n, .int v1_p, .int v1_q, .long v1_goodOnes, .long v1_frozenOnes, .ref z1_uppers])), (z, .inr (6, [.ref z_words, .ref z_rows, .ref z_failures, .int v_hasWords, .int v_hasRows, .int v_hasFailures, .ref z_stepWords, .ref z_plain, .ref z_factors, .ref z_lostByLost])), (z_stepWords, .inl (cy 1, 32, .inr (.inl o_1)))] := hD
      refine lv_istore (lv' := [(12, .int r_23), (6, .long y6_22), (11, .int a_15), (10, .int y10_9), (9, .int a_16), (8, .int a_17), (0, .ref z), (1, .ref z1), (2, .long x2), (4, .long x3)]) hx hb dX7_nearestMessage_77 hl (by decide) rfl (fun ls hl => ?_)
      refine lv_iload hx hb dX7_nearestMessage_79 (lv_at hl 0 rfl) ?_
      refine lv_iload hx hb dX7_nearestMessage_81 (lv_at hl 5 rfl) ?_
      refine lv_icmp_ge (tgt := 94) hx hb dX7_nearestMessage_83 (by decide) (fun c_25 => ?_) (fun c_25 => ?_)
      · have h := gx_t c_25 h
        obtain ⟨y11_26, e_y11_26⟩ : ∃ y : Int32, y = (a_15 + 1) := ⟨_, rfl⟩
        have h := gx_let e_y11_26 h
        refine lv_iinc (v := y11_26) (lv' := [(11, .int y11_26), (12, .int r_23), (6, .long y6_22), (10, .int y10_9), (9, .int a_16), (8, .int a_17), (0, .ref z), (1, .ref z1), (2, .long x2), (4, .long x3)]) hx hb dX7_nearestMessage_94 hl (k := 2) rfl (by rw [e_y11_26]; rfl) (by decide) rfl (fun ls hl => ?_)
        refine lv_goto (tgt := 45) hx hb dX7_nearestMessage_97 (by decide) ?_
        exact ih (y11_26, a_16, a_17, y6_22) _ _ _ h ⟨hP, hD, hS, lv_sub (l' := [(11, .int y11_26), (10, .int y10_9), (9, .int a_16), (8, .int a_17), (6, .long y6_22), (0, .ref z), (1, .ref z1), (2, .long x2), (4, .long x3)]) hl [0, 3, 4, 5, 2, 6, 7, 8, 9] rfl⟩
      · have h := gx_f c_25 h
        refine lv_iload hx hb dX7_nearestMessage_86 (lv_at hl 0 rfl) ?_
        refine lv_istore (lv' := [(8, .int r_23), (12, .int r_23), (6, .long y6_22), (11, .int a_15), (10, .int y10_9), (9, .int a_16), (0, .ref z), (1, .ref z1), (2, .long x2), (4, .long x3)]) hx hb dX7_nearestMessage_88 hl (by decide) rfl (fun ls hl => ?_)
        refine lv_iload hx hb dX7_nearestMessage_90 (lv_at hl 3 rfl) ?_
        refine lv_istore (lv' := [(9, .int a_15), (8, .int r_23), (12, .int r_23), (6, .long y6_22), (11, .int a_15), (10, .int y10_9), (0, .ref z), (1, .ref z1), (2, .long x2), (4, .long x3)]) hx hb dX7_nearestMessage_92 hl (by decide) rfl (fun ls hl => ?_)
        obtain ⟨y11_27, e_y11_27⟩ : ∃ y : Int32, y = (a_15 + 1) := ⟨_, rfl⟩
        have h := gx_let e_y11_27 h
        refine lv_iinc (v := y11_27) (lv' := [(11, .int y11_27), (9, .int a_15), (8, .int r_23), (12, .int r_23), (6, .long y6_22), (10, .int y10_9), (0, .ref z), (1, .ref z1), (2, .long x2), (4, .long x3)]) hx hb dX7_nearestMessage_94 hl (k := 4) rfl (by rw [e_y11_27]; rfl) (by decide) rfl (fun ls hl => ?_)
        refine lv_goto (tgt := 45) hx hb dX7_nearestMessage_97 (by decide) ?_
        exact ih (y11_27, a_15, r_23, y6_22) _ _ _ h ⟨hP, hD, hS, lv_sub (l' := [(11, .int y11_27), (10, .int y10_9), (9, .int a_15), (8, .int r_23), (6, .long y6_22), (0, .ref z), (1, .ref z1), (2, .long x2), (4, .long x3)]) hl [0, 5, 1, 2, 4, 6, 7, 8, 9] rfl⟩
