set_option maxHeartbeats 4000000 in
set_option maxRecDepth 100000 in
theorem law_loop {p : Program} {l : Launch} {e : Env} {s : State} {m : MethodId} {below : List Frame} {meth : Method} {c : Code} {D : va_G} {cy : Nat → ClassId} {t b L K : Nat} {xs : Nat → Int32} {za ze zS : Nat → Nat} (hKb : 200000 ≤ K) (hL : L ≤ 4096) (hr : meth.sig.returnType = ret) (hlocks : meth.locks = false) (C : gLaw p s m meth c D cy t b L xs) :
    ∀ (n i : Nat), i ≤ L + 8 → L < i + 8 * n → ∀ (zA zB : Nat) (upn : Int32) (upp : Int32) (upq : Int32) (upg : Int64) (upf : Int64) (upu : Nat → Int64) (urw : Int32) (urm : Int64) (urh : Int32) (url : Int32) (uro : Int64) (urt : Int64) (ura : Nat → Int64) (urb : Nat → Int64) (uth : Int32) (utr : Int32) (utf : Int32) (utw : Nat → Int32) (uto : Nat → Int32) (utg : Nat → Int32) (uts : Nat → Int64) (utp : Nat → Int32) (utq : Nat → Int32) (utl : Nat → Int32) (ush : Nat → Int32) (usl : Nat → Int32) (usn : Nat → Int32) (usc : Nat → Nat → Int64) (uxt : Int32) (uxf : Int32) (mf : Int32) (mn : Int32) (mp : Int32) (mq : Int32) (mg : Nat → Int32) (mz : Nat → Int32) (ms : Nat → Int32) (ml : Nat → Int32) (mc : Nat → Int64) (mh : Nat → Int64) (mw : Int32) (mm : Int64) (ma : Int32) (me : Nat → Int32) (mk : Nat → Int32) (mo : Nat → Int64) (mx : Nat → Int64) (mu : Int32) (mi : Int32) (mC : Nat → Int32) (mA : Nat → Int32) (mF : Nat → Int32) (mb : Int32) (mv : Nat → Int64) (mt : Int32), Rel upn upp upq upg upf upu urw urm urh url uro urt ura urb uth utr utf utw uto utg uts utp utq utl ush usl usn usc uxt uxf mf mn mp mq mg mz ms ml mc mh mw mm ma me mk mo mx mu mi mC mA mF mb mv mt → ∀ (H : Heap) (locs : List Loc) (ls : Array Slot), va_P D vwCl (gW cy za ze zS zA zB upn upp upq upg upf upu urw urm urh url uro urt ura urb uth utr utf utw uto utg uts utp utq utl ush usl usn usc uxt uxf mf mn mp mq mg mz ms ml mc mh mw mm ma me mk mo mx mu mi mC mA mF mb mv mt) H → va_D (gAL s) (gW cy za ze zS zA zB upn upp upq upg upf upu urw urm urh url uro urt ura urb uth utr utf utw uto utg uts utp utq utl ush usl usn usc uxt uxf mf mn mp mq mg mz ms ml mc mh mw mm ma me mk mo mx mu mi mC mA mF mb mv mt) → va_S (gAL s) s.heap H locs → lv_has ls 4 [(0, .ref b), (1, .ref (za 0)), (2, .ref (za 17)), (3, .int (nI i))] → W p l e room_1 s m #[Value.ref b] below meth c H locs 42 1449 (lw_Z below #[Value.ref b] s) (F0 m 18 ls []) := by
  have C1 := C
  obtain ⟨hx, hb, hml, hown, hts, hX, hbl, hbA, hK, hG, hA⟩ := C1
  intro n
  induction n with
  | zero =>
    intro i h1 h2 zA zB upn upp upq upg upf upu urw urm urh url uro urt ura urb uth utr utf utw uto utg uts utp utq utl ush usl usn usc uxt uxf mf mn mp mq mg mz ms ml mc mh mw mm ma me mk mo mx mu mi mC mA mF mb mv mt hR H locs ls hP hD hS hl
    refine lv_iload_n hx hb dL_law_18 rfl (lv_at hl 3 rfl) ?_
    refine lv_aload_n hx hb dL_law_19 rfl (lv_at hl 0 rfl) ?_
    refine va_slen hx hb hX hbl hbA hS dL_law_20 ?_
    refine lv_bipush (v := 8) hx hb dL_law_21 (by decide) ?_
    refine lv_isub hx hb dL_law_23 ?_
    refine lv_icmp_gt (tgt := 1273) hx hb dL_law_24 (by decide) (fun _ => ?_) (fun c_1 => absurd ((gGt hL h1).mpr (by omega)) c_1)
    refine lv_iconst (v := 1) hx hb dL_law_1273 (by decide) ?_
    refine va_forget (fun q hq => hS.2.2 q hq) ?_
    refine W.widen (k := 600000) (n := 7302250) (by omega) (by omega) ?_
    exact lw_ret hx hb hr hlocks dL_law_1274
  | succ n ih =>
    intro i h1 h2 zA zB upn upp upq upg upf upu urw urm urh url uro urt ura urb uth utr utf utw uto utg uts utp utq utl ush usl usn usc uxt uxf mf mn mp mq mg mz ms ml mc mh mw mm ma me mk mo mx mu mi mC mA mF mb mv mt hR H locs ls hP hD hS hl
    refine lv_iload_n hx hb dL_law_18 rfl (lv_at hl 3 rfl) ?_
    refine lv_aload_n hx hb dL_law_19 rfl (lv_at hl 0 rfl) ?_
    refine va_slen hx hb hX hbl hbA hS dL_law_20 ?_
    refine lv_bipush (v := 8) hx hb dL_law_21 (by decide) ?_
    refine lv_isub hx hb dL_law_23 ?_
    refine lv_icmp_gt (tgt := 1273) hx hb dL_law_24 (by decide) (fun _ => ?_) (fun c_1 => ?_)
    · refine lv_iconst (v := 1) hx hb dL_law_1273 (by decide) ?_
      refine va_forget (fun q hq => hS.2.2 q hq) ?_
      refine W.widen (k := 600000) (n := 7302250) (by omega) (by omega) ?_
      exact lw_ret hx hb hr hlocks dL_law_1274
    · have hi : i + 8 ≤ L := by
        rcases Nat.lt_or_ge L (i + 8) with q | q
        · exact absurd ((gGt hL h1).mpr q) c_1
        · exact q
      have kk : ∀ (zA zB : Nat) (upn : Int32) (upp : Int32) (upq : Int32) (upg : Int64) (upf : Int64) (upu : Nat → Int64) (urw : Int32) (urm : Int64) (urh : Int32) (url : Int32) (uro : Int64) (urt : Int64) (ura : Nat → Int64) (urb : Nat → Int64) (uth : Int32) (utr : Int32) (utf : Int32) (utw : Nat → Int32) (uto : Nat → Int32) (utg : Nat → Int32) (uts : Nat → Int64) (utp : Nat → Int32) (utq : Nat → Int32) (utl : Nat → Int32) (ush : Nat → Int32) (usl : Nat → Int32) (usn : Nat → Int32) (usc : Nat → Nat → Int64) (uxt : Int32) (uxf : Int32) (mf : Int32) (mn : Int32) (mp : Int32) (mq : Int32) (mg : Nat → Int32) (mz : Nat → Int32) (ms : Nat → Int32) (ml : Nat → Int32) (mc : Nat → Int64) (mh : Nat → Int64) (mw : Int32) (mm : Int64) (ma : Int32) (me : Nat → Int32) (mk : Nat → Int32) (mo : Nat → Int64) (mx : Nat → Int64) (mu : Int32) (mi : Int32) (mC : Nat → Int32) (mA : Nat → Int32) (mF : Nat → Int32) (mb : Int32) (mv : Nat → Int64) (mt : Int32), Rel upn upp upq upg upf upu urw urm urh url uro urt ura urb uth utr utf utw uto utg uts utp utq utl ush usl usn usc uxt uxf mf mn mp mq mg mz ms ml mc mh mw mm ma me mk mo mx mu mi mC mA mF mb mv mt → ∀ (H : Heap) (locs : List Loc) (ls : Array Slot), va_P D vwCl (gW cy za ze zS zA zB upn upp upq upg upf upu urw urm urh url uro urt ura urb uth utr utf utw uto utg uts utp utq utl ush usl usn usc uxt uxf mf mn mp mq mg mz ms ml mc mh mw mm ma me mk mo mx mu mi mC mA mF mb mv mt) H → va_D (gAL s) (gW cy za ze zS zA zB upn upp upq upg upf upu urw urm urh url uro urt ura urb uth utr utf utw uto utg uts utp utq utl ush usl usn usc uxt uxf mf mn mp mq mg mz ms ml mc mh mw mm ma me mk mo mx mu mi mC mA mF mb mv mt) → va_S (gAL s) s.heap H locs → lv_has ls 4 [(0, .ref b), (1, .ref (za 0)), (2, .ref (za 17)), (3, .int (nI i))] → W p l e room_1 s m #[Value.ref b] below meth c H locs 42 1449 (lw_Z below #[Value.ref b] s) (F0 m 1267 ls []) := by
        intro zA zB upn upp upq upg upf upu urw urm urh url uro urt ura urb uth utr utf utw uto utg uts utp utq utl ush usl usn usc uxt uxf mf mn mp mq mg mz ms ml mc mh mw mm ma me mk mo mx mu mi mC mA mF mb mv mt hR H locs ls hP hD hS hl
        refine lv_iinc (v := nI (i + 8)) (lv' := [(3, .int (nI (i + 8))), (0, .ref b), (1, .ref (za 0)), (2, .ref (za 17))]) hx hb dL_law_1267 hl (k := 3) rfl (nI_add i 8) (by decide) rfl (fun ls hl => ?_)
        refine lv_goto (tgt := 18) hx hb dL_law_1270 (by decide) ?_
        exact ih (i + 8) (by omega) (by omega) zA zB upn upp upq upg upf upu urw urm urh url uro urt ura urb uth utr utf utw uto utg uts utp utq utl ush usl usn usc uxt uxf mf mn mp mq mg mz ms ml mc mh mw mm ma me mk mo mx mu mi mC mA mF mb mv mt hR H locs ls hP hD hS (lv_sub hl [1, 2, 3, 0] rfl)
      refine lv_aload_n hx hb dL_law_27 rfl (lv_at hl 0 rfl) ?_
      refine lv_iload_n hx hb dL_law_28 rfl (lv_at hl 3 rfl) ?_
      refine va_sld hx hb hX hbl hbA hS (vp_in_nI (by omega) (by omega)) dL_law_29 ?_
      refine lv_bipush (v := 31) hx hb dL_law_30 (by decide) ?_
      refine lv_iand hx hb dL_law_32 ?_
      obtain ⟨j, hj, ej⟩ := pk_andE (xs (Int32.toNatClampNeg (nI i))) (m := 31) 5 (by decide)
      rw [ej]
      rcases g32 hj with rfl | rfl | rfl | rfl | rfl | rfl | rfl | rfl | rfl | rfl | rfl | rfl | rfl | rfl | rfl | rfl | rfl | rfl | rfl | rfl | rfl | rfl | rfl | rfl | rfl | rfl | rfl | rfl | rfl | rfl | rfl | rfl
      · refine lv_tableIn (off := 139) (tgt := 172) hx hb dL_law_33 (by decide) (by decide) rfl (by decide) ?_
        exact lc_0 hKb hL C i hi _ zA zB upn upp upq upg upf upu urw urm urh url uro urt ura urb uth utr utf utw uto utg uts utp utq utl ush usl usn usc uxt uxf mf mn mp mq mg mz ms ml mc mh mw mm ma me mk mo mx mu mi mC mA mF mb mv mt hR kk H locs ls hP hD hS hl
      · refine lv_tableIn (off := 162) (tgt := 195) hx hb dL_law_33 (by decide) (by decide) rfl (by decide) ?_
        exact lc_1 hKb hL C i hi _ zA zB upn upp upq upg upf upu urw urm urh url uro urt ura urb uth utr utf utw uto utg uts utp utq utl ush usl usn usc uxt uxf mf mn mp mq mg mz ms ml mc mh mw mm ma me mk mo mx mu mi mC mA mF mb mv mt hR kk H locs ls hP hD hS hl
      · refine lv_tableIn (off := 195) (tgt := 228) hx hb dL_law_33 (by decide) (by decide) rfl (by decide) ?_
        exact lc_2 hKb hL C i hi _ zA zB upn upp upq upg upf upu urw urm urh url uro urt ura urb uth utr utf utw uto utg uts utp utq utl ush usl usn usc uxt uxf mf mn mp mq mg mz ms ml mc mh mw mm ma me mk mo mx mu mi mC mA mF mb mv mt hR kk H locs ls hP hD hS hl
      · refine lv_tableIn (off := 219) (tgt := 252) hx hb dL_law_33 (by decide) (by decide) rfl (by decide) ?_
        exact lc_3 hKb hL C i hi _ zA zB upn upp upq upg upf upu urw urm urh url uro urt ura urb uth utr utf utw uto utg uts utp utq utl ush usl usn usc uxt uxf mf mn mp mq mg mz ms ml mc mh mw mm ma me mk mo mx mu mi mC mA mF mb mv mt hR kk H locs ls hP hD hS hl
      · refine lv_tableIn (off := 233) (tgt := 266) hx hb dL_law_33 (by decide) (by decide) rfl (by decide) ?_
        exact lc_4 hKb hL C i hi _ zA zB upn upp upq upg upf upu urw urm urh url uro urt ura urb uth utr utf utw uto utg uts utp utq utl ush usl usn usc uxt uxf mf mn mp mq mg mz ms ml mc mh mw mm ma me mk mo mx mu mi mC mA mF mb mv mt hR kk H locs ls hP hD hS hl
      · refine lv_tableIn (off := 256) (tgt := 289) hx hb dL_law_33 (by decide) (by decide) rfl (by decide) ?_
        exact lc_5 hKb hL C i hi _ zA zB upn upp upq upg upf upu urw urm urh url uro urt ura urb uth utr utf utw uto utg uts utp utq utl ush usl usn usc uxt uxf mf mn mp mq mg mz ms ml mc mh mw mm ma me mk mo mx mu mi mC mA mF mb mv mt hR kk H locs ls hP hD hS hl
      · refine lv_tableIn (off := 289) (tgt := 322) hx hb dL_law_33 (by decide) (by decide) rfl (by decide) ?_
        exact lc_6 hKb hL C i hi _ zA zB upn upp upq upg upf upu urw urm urh url uro urt ura urb uth utr utf utw uto utg uts utp utq utl ush usl usn usc uxt uxf mf mn mp mq mg mz ms ml mc mh mw mm ma me mk mo mx mu mi mC mA mF mb mv mt hR kk H locs ls hP hD hS hl
      · refine lv_tableIn (off := 313) (tgt := 346) hx hb dL_law_33 (by decide) (by decide) rfl (by decide) ?_
        exact lc_7 hKb hL C i hi _ zA zB upn upp upq upg upf upu urw urm urh url uro urt ura urb uth utr utf utw uto utg uts utp utq utl ush usl usn usc uxt uxf mf mn mp mq mg mz ms ml mc mh mw mm ma me mk mo mx mu mi mC mA mF mb mv mt hR kk H locs ls hP hD hS hl
      · refine lv_tableIn (off := 346) (tgt := 379) hx hb dL_law_33 (by decide) (by decide) rfl (by decide) ?_
        exact lc_8 hKb hL C i hi _ zA zB upn upp upq upg upf upu urw urm urh url uro urt ura urb uth utr utf utw uto utg uts utp utq utl ush usl usn usc uxt uxf mf mn mp mq mg mz ms ml mc mh mw mm ma me mk mo mx mu mi mC mA mF mb mv mt hR kk H locs ls hP hD hS hl
      · refine lv_tableIn (off := 400) (tgt := 433) hx hb dL_law_33 (by decide) (by decide) rfl (by decide) ?_
        exact lc_9 hKb hL C i hi _ zA zB upn upp upq upg upf upu urw urm urh url uro urt ura urb uth utr utf utw uto utg uts utp utq utl ush usl usn usc uxt uxf mf mn mp mq mg mz ms ml mc mh mw mm ma me mk mo mx mu mi mC mA mF mb mv mt hR kk H locs ls hP hD hS hl
      · refine lv_tableIn (off := 454) (tgt := 487) hx hb dL_law_33 (by decide) (by decide) rfl (by decide) ?_
        exact lc_10 hKb hL C i hi _ zA zB upn upp upq upg upf upu urw urm urh url uro urt ura urb uth utr utf utw uto utg uts utp utq utl ush usl usn usc uxt uxf mf mn mp mq mg mz ms ml mc mh mw mm ma me mk mo mx mu mi mC mA mF mb mv mt hR kk H locs ls hP hD hS hl
      · refine lv_tableIn (off := 477) (tgt := 510) hx hb dL_law_33 (by decide) (by decide) rfl (by decide) ?_
        exact lc_11 hKb hL C i hi _ zA zB upn upp upq upg upf upu urw urm urh url uro urt ura urb uth utr utf utw uto utg uts utp utq utl ush usl usn usc uxt uxf mf mn mp mq mg mz ms ml mc mh mw mm ma me mk mo mx mu mi mC mA mF mb mv mt hR kk H locs ls hP hD hS hl
      · refine lv_tableIn (off := 530) (tgt := 563) hx hb dL_law_33 (by decide) (by decide) rfl (by decide) ?_
        exact lc_12 hKb hL C i hi _ zA zB upn upp upq upg upf upu urw urm urh url uro urt ura urb uth utr utf utw uto utg uts utp utq utl ush usl usn usc uxt uxf mf mn mp mq mg mz ms ml mc mh mw mm ma me mk mo mx mu mi mC mA mF mb mv mt hR kk H locs ls hP hD hS hl
      · refine lv_tableIn (off := 563) (tgt := 596) hx hb dL_law_33 (by decide) (by decide) rfl (by decide) ?_
        exact lc_13 hKb hL C i hi _ zA zB upn upp upq upg upf upu urw urm urh url uro urt ura urb uth utr utf utw uto utg uts utp utq utl ush usl usn usc uxt uxf mf mn mp mq mg mz ms ml mc mh mw mm ma me mk mo mx mu mi mC mA mF mb mv mt hR kk H locs ls hP hD hS hl
      · refine lv_tableIn (off := 587) (tgt := 620) hx hb dL_law_33 (by decide) (by decide) rfl (by decide) ?_
        exact lc_14 hKb hL C i hi _ zA zB upn upp upq upg upf upu urw urm urh url uro urt ura urb uth utr utf utw uto utg uts utp utq utl ush usl usn usc uxt uxf mf mn mp mq mg mz ms ml mc mh mw mm ma me mk mo mx mu mi mC mA mF mb mv mt hR kk H locs ls hP hD hS hl
      · refine lv_tableIn (off := 600) (tgt := 633) hx hb dL_law_33 (by decide) (by decide) rfl (by decide) ?_
        exact lc_15 hKb hL C i hi _ zA zB upn upp upq upg upf upu urw urm urh url uro urt ura urb uth utr utf utw uto utg uts utp utq utl ush usl usn usc uxt uxf mf mn mp mq mg mz ms ml mc mh mw mm ma me mk mo mx mu mi mC mA mF mb mv mt hR kk H locs ls hP hD hS hl
      · refine lv_tableIn (off := 644) (tgt := 677) hx hb dL_law_33 (by decide) (by decide) rfl (by decide) ?_
        exact lc_16 hKb hL C i hi _ zA zB upn upp upq upg upf upu urw urm urh url uro urt ura urb uth utr utf utw uto utg uts utp utq utl ush usl usn usc uxt uxf mf mn mp mq mg mz ms ml mc mh mw mm ma me mk mo mx mu mi mC mA mF mb mv mt hR kk H locs ls hP hD hS hl
      · refine lv_tableIn (off := 791) (tgt := 824) hx hb dL_law_33 (by decide) (by decide) rfl (by decide) ?_
        exact lc_17 hKb hL C i hi _ zA zB upn upp upq upg upf upu urw urm urh url uro urt ura urb uth utr utf utw uto utg uts utp utq utl ush usl usn usc uxt uxf mf mn mp mq mg mz ms ml mc mh mw mm ma me mk mo mx mu mi mC mA mF mb mv mt hR kk H locs ls hP hD hS hl
      · refine lv_tableIn (off := 814) (tgt := 847) hx hb dL_law_33 (by decide) (by decide) rfl (by decide) ?_
        exact lc_18 hKb hL C i hi _ zA zB upn upp upq upg upf upu urw urm urh url uro urt ura urb uth utr utf utw uto utg uts utp utq utl ush usl usn usc uxt uxf mf mn mp mq mg mz ms ml mc mh mw mm ma me mk mo mx mu mi mC mA mF mb mv mt hR kk H locs ls hP hD hS hl
      · refine lv_tableIn (off := 837) (tgt := 870) hx hb dL_law_33 (by decide) (by decide) rfl (by decide) ?_
        exact lc_19 hKb hL C i hi _ zA zB upn upp upq upg upf upu urw urm urh url uro urt ura urb uth utr utf utw uto utg uts utp utq utl ush usl usn usc uxt uxf mf mn mp mq mg mz ms ml mc mh mw mm ma me mk mo mx mu mi mC mA mF mb mv mt hR kk H locs ls hP hD hS hl
      · refine lv_tableIn (off := 860) (tgt := 893) hx hb dL_law_33 (by decide) (by decide) rfl (by decide) ?_
        exact lc_20 hKb hL C i hi _ zA zB upn upp upq upg upf upu urw urm urh url uro urt ura urb uth utr utf utw uto utg uts utp utq utl ush usl usn usc uxt uxf mf mn mp mq mg mz ms ml mc mh mw mm ma me mk mo mx mu mi mC mA mF mb mv mt hR kk H locs ls hP hD hS hl
      · refine lv_tableIn (off := 903) (tgt := 936) hx hb dL_law_33 (by decide) (by decide) rfl (by decide) ?_
        exact lc_21 hKb hL C i hi _ zA zB upn upp upq upg upf upu urw urm urh url uro urt ura urb uth utr utf utw uto utg uts utp utq utl ush usl usn usc uxt uxf mf mn mp mq mg mz ms ml mc mh mw mm ma me mk mo mx mu mi mC mA mF mb mv mt hR kk H locs ls hP hD hS hl
      · refine lv_tableIn (off := 926) (tgt := 959) hx hb dL_law_33 (by decide) (by decide) rfl (by decide) ?_
        exact lc_22 hKb hL C i hi _ zA zB upn upp upq upg upf upu urw urm urh url uro urt ura urb uth utr utf utw uto utg uts utp utq utl ush usl usn usc uxt uxf mf mn mp mq mg mz ms ml mc mh mw mm ma me mk mo mx mu mi mC mA mF mb mv mt hR kk H locs ls hP hD hS hl
      · refine lv_tableIn (off := 999) (tgt := 1032) hx hb dL_law_33 (by decide) (by decide) rfl (by decide) ?_
        exact lc_23 hKb hL C i hi _ zA zB upn upp upq upg upf upu urw urm urh url uro urt ura urb uth utr utf utw uto utg uts utp utq utl ush usl usn usc uxt uxf mf mn mp mq mg mz ms ml mc mh mw mm ma me mk mo mx mu mi mC mA mF mb mv mt hR kk H locs ls hP hD hS hl
      · refine lv_tableIn (off := 1043) (tgt := 1076) hx hb dL_law_33 (by decide) (by decide) rfl (by decide) ?_
        exact lc_24 hKb hL C i hi _ zA zB upn upp upq upg upf upu urw urm urh url uro urt ura urb uth utr utf utw uto utg uts utp utq utl ush usl usn usc uxt uxf mf mn mp mq mg mz ms ml mc mh mw mm ma me mk mo mx mu mi mC mA mF mb mv mt hR kk H locs ls hP hD hS hl
      · refine lv_tableIn (off := 1106) (tgt := 1139) hx hb dL_law_33 (by decide) (by decide) rfl (by decide) ?_
        exact lc_25 hKb hL C i hi _ zA zB upn upp upq upg upf upu urw urm urh url uro urt ura urb uth utr utf utw uto utg uts utp utq utl ush usl usn usc uxt uxf mf mn mp mq mg mz ms ml mc mh mw mm ma me mk mo mx mu mi mC mA mF mb mv mt hR kk H locs ls hP hD hS hl
      · refine lv_tableIn (off := 1129) (tgt := 1162) hx hb dL_law_33 (by decide) (by decide) rfl (by decide) ?_
        exact lc_26 hKb hL C i hi _ zA zB upn upp upq upg upf upu urw urm urh url uro urt ura urb uth utr utf utw uto utg uts utp utq utl ush usl usn usc uxt uxf mf mn mp mq mg mz ms ml mc mh mw mm ma me mk mo mx mu mi mC mA mF mb mv mt hR kk H locs ls hP hD hS hl
      · refine lv_tableIn (off := 1152) (tgt := 1185) hx hb dL_law_33 (by decide) (by decide) rfl (by decide) ?_
        exact lc_27 hKb hL C i hi _ zA zB upn upp upq upg upf upu urw urm urh url uro urt ura urb uth utr utf utw uto utg uts utp utq utl ush usl usn usc uxt uxf mf mn mp mq mg mz ms ml mc mh mw mm ma me mk mo mx mu mi mC mA mF mb mv mt hR kk H locs ls hP hD hS hl
      · refine lv_tableIn (off := 1185) (tgt := 1218) hx hb dL_law_33 (by decide) (by decide) rfl (by decide) ?_
        exact lc_28 hKb hL C i hi _ zA zB upn upp upq upg upf upu urw urm urh url uro urt ura urb uth utr utf utw uto utg uts utp utq utl ush usl usn usc uxt uxf mf mn mp mq mg mz ms ml mc mh mw mm ma me mk mo mx mu mi mC mA mF mb mv mt hR kk H locs ls hP hD hS hl
      · refine lv_tableIn (off := 1198) (tgt := 1231) hx hb dL_law_33 (by decide) (by decide) rfl (by decide) ?_
        exact lc_29 hKb hL C i hi _ zA zB upn upp upq upg upf upu urw urm urh url uro urt ura urb uth utr utf utw uto utg uts utp utq utl ush usl usn usc uxt uxf mf mn mp mq mg mz ms ml mc mh mw mm ma me mk mo mx mu mi mC mA mF mb mv mt hR kk H locs ls hP hD hS hl
      · refine lv_tableIn (off := 1211) (tgt := 1244) hx hb dL_law_33 (by decide) (by decide) rfl (by decide) ?_
        exact lc_30 hKb hL C i hi _ zA zB upn upp upq upg upf upu urw urm urh url uro urt ura urb uth utr utf utw uto utg uts utp utq utl ush usl usn usc uxt uxf mf mn mp mq mg mz ms ml mc mh mw mm ma me mk mo mx mu mi mC mA mF mb mv mt hR kk H locs ls hP hD hS hl
      · refine lv_tableOut (tgt := 1267) hx hb dL_law_33 (Or.inr (by decide)) (by decide) ?_
        exact kk zA zB upn upp upq upg upf upu urw urm urh url uro urt ura urb uth utr utf utw uto utg uts utp utq utl ush usl usn usc uxt uxf mf mn mp mq mg mz ms ml mc mh mw mm ma me mk mo mx mu mi mC mA mF mb mv mt hR H locs ls hP hD hS hl
