set_option maxHeartbeats 1000000 in
theorem q_count (K : Nat) (hK : 200000 ≤ K) (x1 : Int32) (upn : Int32) (upp : Int32) (upq : Int32) (upg : Int64) (upf : Int64) (upu : Nat → Int64) (urw : Int32) (urm : Int64) (urh : Int32) (url : Int32) (uro : Int64) (urt : Int64) (ura : Nat → Int64) (urb : Nat → Int64) (uth : Int32) (utr : Int32) (utf : Int32) (utw : Nat → Int32) (uto : Nat → Int32) (utg : Nat → Int32) (uts : Nat → Int64) (utp : Nat → Int32) (utq : Nat → Int32) (utl : Nat → Int32) (ush : Nat → Int32) (usl : Nat → Int32) (usn : Nat → Int32) (usc : Nat → Nat → Int64) (uxt : Int32) (uxf : Int32) (mf : Int32) (mn : Int32) (mp : Int32) (mq : Int32) (mg : Nat → Int32) (mz : Nat → Int32) (ms : Nat → Int32) (ml : Nat → Int32) (mc : Nat → Int64) (mh : Nat → Int64) (mw : Int32) (mm : Int64) (ma : Int32) (me : Nat → Int32) (mk : Nat → Int32) (mo : Nat → Int64) (mx : Nat → Int64) (mu : Int32) (mi : Int32) (mC : Nat → Int32) (mA : Nat → Int32) (mF : Nat → Int32) (mb : Int32) (mv : Nat → Int64) (mt : Int32) (hR : Rel upn upp upq upg upf upu urw urm urh url uro urt ura urb uth utr utf utw uto utg uts utp utq utl ush usl usn usc uxt uxf mf mn mp mq mg mz ms ml mc mh mw mm ma me mk mo mx mu mi mC mA mF mb mv mt) : ∃ (r_ : Int32) (o_uth : Int32) (o_uts : Nat → Int64) (o_utw : Nat → Int32) (o_mi : Int32) (o_mb : Int32) (o_mC : Nat → Int32) (o_mA : Nat → Int32) (o_mF : Nat → Int32) (o_mv : Nat → Int64), f_X9_count K x1 upn upg upf uth uts utw = some (r_, o_uth, o_uts, o_utw) ∧ f_X10_count K x1 mn mi mb mg mC mA mF mz mv = some (r_, o_mi, o_mb, o_mC, o_mA, o_mF, o_mv) ∧ Rel upn upp upq upg upf upu urw urm urh url uro urt ura urb o_uth utr utf o_utw uto utg o_uts utp utq utl ush usl usn usc uxt uxf mf mn mp mq mg mz ms ml mc mh mw mm ma me mk mo mx mu o_mi o_mC o_mA o_mF o_mb o_mv mt := by
  obtain ⟨N, G, F, ⟨a1, a2, a3, a4, a5, a6, a7, a8, a9, a10, a11⟩, hRR, ⟨t1, t2, t3, t4⟩, hRS, ht, hf⟩ := hR
  have hN32 : N ≤ 32 := by rcases a1 with rfl | rfl | rfl | rfl | rfl <;> omega
  have hp32 : 2 ^ N ≤ 2 ^ 32 := Nat.pow_le_pow_right (by decide) hN32
  have hN1 : Nok1 N := Or.inr a1
  subst a2; subst a3; subst a4; subst a5
  have hRP : RP N G F (nI N) upp upq (lN G) (lN F) (nI N) mp mq mg mz := ⟨a1, rfl, rfl, rfl, rfl, a6, a7, a8, a9, a10, a11⟩
  have hpG := pc_le N G
  have hgc : f_X4_goodCount K (lN G) = some (nI (pcN N G)) := by rw [e_goodCount K (by omega), pc_lt hN32 a6]
  have hgd := e_goods K N G hK mg hN32 a10
  have hNt : (nI N).toInt = (N : Int) := nI_toInt (by omega)
  have hin : f_X10_in K (Int32.toInt64 x1) 0 (Int32.toInt64 (nI N)) = some (if 0 ≤ x1.toInt ∧ x1.toInt ≤ (N : Int) then 1 else 0) := by
    rw [e_in, Int32.toInt_toInt64, Int32.toInt_toInt64, j_0, hNt]
  by_cases c : pcN N G ≤ 12
  · have c' : nI (pcN N G) ≤ (12 : Int32) := nI_le (b := 12) c (by decide)
    by_cases d : 0 ≤ x1.toInt ∧ x1.toInt ≤ (N : Int)
    · obtain ⟨w, hw, rfl, e1⟩ := toN (x := x1) d.1
      have hwN : w ≤ N := by omega
      obtain ⟨b', C', A', F', v', k1, k2, k3⟩ := e_countAll K hK a1 a7 a8 a10 a11 t4 mb mv
      have hX : ∃ (ts' : Nat → Int64) (tw' : Nat → Int32), f_X7_wordsWithOnes K (nI w) uth (nI N) (lN G) (lN F) uts utw = some (nI (CW N G F w), 1, ts', tw') ∧ ∀ w, w ≤ N → tw' w = nI (CW N G F w) := by
        rcases t1 with rfl | ⟨rfl, h2⟩
        · obtain ⟨ts', tw', p1, p2⟩ := e_cbo K hK (B := FO N F) (n4 := 33) hN1 a6 (FO_lt hN1 a7) c (by omega) (by decide) uts utw
          have hw0 : f_X4_wordOf K 0 (nI N) (lN G) (lN F) = some (lN (FO N F)) := by
            have h := (e_wordOf K hK (M := 0) hN1 (show G < 2 ^ 64 by omega) a7 (by decide)).1
            rw [wd_wB hN1 a8, wB_0 hN1] at h
            exact h
          have hh : ∀ w, w ≤ N → tw' w = nI (CW N G F w) := fun w hw => by rw [p2 w (by omega), CW_cB hN1 a8]
          refine ⟨ts', tw', ?_, hh⟩
          rw [f_X7_wordsWithOnes, if_pos rfl, hw0, Option.bind_some, p1, Option.bind_some]
          dsimp only
          rw [Option.bind_some]
          dsimp only
          rw [gIx_nI _ (show w < 33 by omega) (by decide), tnN hw, hh w hwN]
        · refine ⟨uts, utw, ?_, h2⟩
          rw [f_X7_wordsWithOnes, if_neg (by decide), Option.bind_some]
          dsimp only
          rw [gIx_nI _ (show w < 33 by omega) (by decide), tnN hw, h2 w hwN]
      obtain ⟨ts', tw', y1, y2⟩ := hX
      refine ⟨nI (CW N G F w), 1, ts', tw', 1, b', C', A', F', v', ?_, ?_, N, G, F, hRP, hRR, ⟨Or.inr ⟨rfl, y2⟩, t2, t3, Or.inr ⟨rfl, k2, k3⟩⟩, hRS, ht, hf⟩
      · rw [f_X9_count, hgc, Option.bind_some, if_pos c', if_neg (show ¬ nI w < (0 : Int32) by rw [ltI, i_0]; omega), if_pos (nI_le hwN (by omega)), y1, Option.bind_some]
      · rw [f_X10_count, hgd, Option.bind_some, if_pos c', hin, if_pos d, Option.bind_some, if_neg (by decide), k1, Option.bind_some]
        dsimp only
        rw [gIx_nI _ (show w < 33 by omega) (by decide), tnN hw, k2 c w hwN]
    · refine ⟨-2, uth, uts, utw, mi, mb, mC, mA, mF, mv, ?_, ?_, N, G, F, hRP, hRR, ⟨t1, t2, t3, t4⟩, hRS, ht, hf⟩
      · rw [f_X9_count, hgc, Option.bind_some, if_pos c']
        by_cases q : x1 < 0
        · rw [if_pos q]
        · rw [if_neg q, if_neg (show ¬ x1 ≤ nI N by rw [leI, hNt]; rw [ltI, i_0] at q; omega)]
      · rw [f_X10_count, hgd, Option.bind_some, if_pos c', hin, if_neg d, Option.bind_some, if_pos rfl]
  · have c' : ¬ nI (pcN N G) ≤ (12 : Int32) := nI_ge (a := 12) (by omega) (by omega)
    refine ⟨-3, uth, uts, utw, mi, mb, mC, mA, mF, mv, ?_, ?_, N, G, F, hRP, hRR, ⟨t1, t2, t3, t4⟩, hRS, ht, hf⟩
    · rw [f_X9_count, hgc, Option.bind_some, if_neg c']
    · rw [f_X10_count, hgd, Option.bind_some, if_neg c']
set_option maxHeartbeats 1000000 in
theorem q_across (K : Nat) (hK : 200000 ≤ K) (x1 : Int32) (upn : Int32) (upp : Int32) (upq : Int32) (upg : Int64) (upf : Int64) (upu : Nat → Int64) (urw : Int32) (urm : Int64) (urh : Int32) (url : Int32) (uro : Int64) (urt : Int64) (ura : Nat → Int64) (urb : Nat → Int64) (uth : Int32) (utr : Int32) (utf : Int32) (utw : Nat → Int32) (uto : Nat → Int32) (utg : Nat → Int32) (uts : Nat → Int64) (utp : Nat → Int32) (utq : Nat → Int32) (utl : Nat → Int32) (ush : Nat → Int32) (usl : Nat → Int32) (usn : Nat → Int32) (usc : Nat → Nat → Int64) (uxt : Int32) (uxf : Int32) (mf : Int32) (mn : Int32) (mp : Int32) (mq : Int32) (mg : Nat → Int32) (mz : Nat → Int32) (ms : Nat → Int32) (ml : Nat → Int32) (mc : Nat → Int64) (mh : Nat → Int64) (mw : Int32) (mm : Int64) (ma : Int32) (me : Nat → Int32) (mk : Nat → Int32) (mo : Nat → Int64) (mx : Nat → Int64) (mu : Int32) (mi : Int32) (mC : Nat → Int32) (mA : Nat → Int32) (mF : Nat → Int32) (mb : Int32) (mv : Nat → Int64) (mt : Int32) (hR : Rel upn upp upq upg upf upu urw urm urh url uro urt ura urb uth utr utf utw uto utg uts utp utq utl ush usl usn usc uxt uxf mf mn mp mq mg mz ms ml mc mh mw mm ma me mk mo mx mu mi mC mA mF mb mv mt) : ∃ (r_ : Int32) (o_utr : Int32) (o_uts : Nat → Int64) (o_utp : Nat → Int32) (o_uto : Nat → Int32) (o_utq : Nat → Int32) (o_mi : Int32) (o_mb : Int32) (o_mC : Nat → Int32) (o_mA : Nat → Int32) (o_mF : Nat → Int32) (o_mv : Nat → Int64), f_X9_across K x1 upn upg utr uts utp uto utq = some (r_, o_utr, o_uts, o_utp, o_uto, o_utq) ∧ f_X10_across K x1 mn mi mb mC mA mF mg mz mv = some (r_, o_mi, o_mb, o_mC, o_mA, o_mF, o_mv) ∧ Rel upn upp upq upg upf upu urw urm urh url uro urt ura urb uth o_utr utf utw o_uto utg o_uts o_utp o_utq utl ush usl usn usc uxt uxf mf mn mp mq mg mz ms ml mc mh mw mm ma me mk mo mx mu o_mi o_mC o_mA o_mF o_mb o_mv mt := by
  obtain ⟨N, G, F, ⟨a1, a2, a3, a4, a5, a6, a7, a8, a9, a10, a11⟩, hRR, ⟨t1, t2, t3, t4⟩, hRS, ht, hf⟩ := hR
  have hN32 : N ≤ 32 := by rcases a1 with rfl | rfl | rfl | rfl | rfl <;> omega
  subst a2; subst a3; subst a4; subst a5
  have hRP : RP N G F (nI N) upp upq (lN G) (lN F) (nI N) mp mq mg mz := ⟨a1, rfl, rfl, rfl, rfl, a6, a7, a8, a9, a10, a11⟩
  have hNt : (nI N).toInt = (N : Int) := nI_toInt (by omega)
  have hin : f_X10_in K (Int32.toInt64 x1) 0 (Int32.toInt64 (nI N)) = some (if 0 ≤ x1.toInt ∧ x1.toInt ≤ (N : Int) then 1 else 0) := by
    rw [e_in, Int32.toInt_toInt64, Int32.toInt_toInt64, j_0, hNt]
  by_cases c : N ≤ 16
  · have c' : nI N ≤ (16 : Int32) := nI_le (b := 16) c (by decide)
    have c2' : ¬ nI N = (32 : Int32) := by rw [eqI, hNt, i_32]; omega
    have hN4 := Nok4_of a1 c
    by_cases d : 0 ≤ x1.toInt ∧ x1.toInt ≤ (N : Int)
    · obtain ⟨w, hw, rfl, e1⟩ := toN (x := x1) d.1
      have hwN : w ≤ N := by omega
      obtain ⟨b', C', A', F', v', k1, k2, k3⟩ := e_countAll K hK a1 a7 a8 a10 a11 t4 mb mv
      have hX : ∃ (ts' : Nat → Int64) (tp' to' tq' : Nat → Int32), f_X7_rowsAcross K (nI w) utr (nI N) (lN G) uts utp uto utq = some (nI (CA N G w), 1, ts', tp', to', tq') ∧ ∀ w, w ≤ N → to' w = nI (CA N G w) := by
        rcases t2 with rfl | ⟨rfl, h2⟩
        · obtain ⟨ts', tp', to', tq', p1, p2⟩ := e_countAcross K hK hN4 a6 uts utp uto utq
          refine ⟨ts', tp', to', tq', ?_, p2⟩
          rw [f_X7_rowsAcross, if_pos rfl, p1, Option.bind_some]
          dsimp only
          rw [Option.bind_some]
          dsimp only
          rw [gIx_nI _ (show w < 17 by omega) (by decide), tnN hw, p2 w hwN]
        · refine ⟨uts, utp, uto, utq, ?_, h2⟩
          rw [f_X7_rowsAcross, if_neg (by decide), Option.bind_some]
          dsimp only
          rw [gIx_nI _ (show w < 17 by omega) (by decide), tnN hw, h2 w hwN]
      obtain ⟨ts', tp', to', tq', y1, y2⟩ := hX
      refine ⟨nI (CA N G w), 1, ts', tp', to', tq', 1, b', C', A', F', v', ?_, ?_, N, G, F, hRP, hRR, ⟨t1, Or.inr ⟨rfl, y2⟩, t3, Or.inr ⟨rfl, k2, k3⟩⟩, hRS, ht, hf⟩
      · rw [f_X9_across, if_pos c', if_neg (show ¬ nI w < (0 : Int32) by rw [ltI, i_0]; omega), if_pos (nI_le hwN (by omega)), y1, Option.bind_some]
      · rw [f_X10_across, if_neg c2', hin, if_pos d, Option.bind_some, if_neg (by decide), k1, Option.bind_some]
        dsimp only
        rw [gIx_nI _ (show w < 33 by omega) (by decide), tnN hw, (k3 c w hwN).1]
    · refine ⟨-2, utr, uts, utp, uto, utq, mi, mb, mC, mA, mF, mv, ?_, ?_, N, G, F, hRP, hRR, ⟨t1, t2, t3, t4⟩, hRS, ht, hf⟩
      · rw [f_X9_across, if_pos c']
        by_cases q : x1 < 0
        · rw [if_pos q]
        · rw [if_neg q, if_neg (show ¬ x1 ≤ nI N by rw [leI, hNt]; rw [ltI, i_0] at q; omega)]
      · rw [f_X10_across, if_neg c2', hin, if_neg d, Option.bind_some, if_pos rfl]
  · have c' : ¬ nI N ≤ (16 : Int32) := nI_ge (a := 16) (by omega) (by omega)
    have c2' : nI N = (32 : Int32) := by rw [eqI, hNt, i_32]; rcases a1 with rfl | rfl | rfl | rfl | rfl <;> omega
    refine ⟨-3, utr, uts, utp, uto, utq, mi, mb, mC, mA, mF, mv, ?_, ?_, N, G, F, hRP, hRR, ⟨t1, t2, t3, t4⟩, hRS, ht, hf⟩
    · rw [f_X9_across, if_neg c']
    · rw [f_X10_across, if_pos c2']
set_option maxHeartbeats 1000000 in
theorem q_fails (K : Nat) (hK : 200000 ≤ K) (x1 : Int32) (upn : Int32) (upp : Int32) (upq : Int32) (upg : Int64) (upf : Int64) (upu : Nat → Int64) (urw : Int32) (urm : Int64) (urh : Int32) (url : Int32) (uro : Int64) (urt : Int64) (ura : Nat → Int64) (urb : Nat → Int64) (uth : Int32) (utr : Int32) (utf : Int32) (utw : Nat → Int32) (uto : Nat → Int32) (utg : Nat → Int32) (uts : Nat → Int64) (utp : Nat → Int32) (utq : Nat → Int32) (utl : Nat → Int32) (ush : Nat → Int32) (usl : Nat → Int32) (usn : Nat → Int32) (usc : Nat → Nat → Int64) (uxt : Int32) (uxf : Int32) (mf : Int32) (mn : Int32) (mp : Int32) (mq : Int32) (mg : Nat → Int32) (mz : Nat → Int32) (ms : Nat → Int32) (ml : Nat → Int32) (mc : Nat → Int64) (mh : Nat → Int64) (mw : Int32) (mm : Int64) (ma : Int32) (me : Nat → Int32) (mk : Nat → Int32) (mo : Nat → Int64) (mx : Nat → Int64) (mu : Int32) (mi : Int32) (mC : Nat → Int32) (mA : Nat → Int32) (mF : Nat → Int32) (mb : Int32) (mv : Nat → Int64) (mt : Int32) (hR : Rel upn upp upq upg upf upu urw urm urh url uro urt ura urb uth utr utf utw uto utg uts utp utq utl ush usl usn usc uxt uxf mf mn mp mq mg mz ms ml mc mh mw mm ma me mk mo mx mu mi mC mA mF mb mv mt) : ∃ (r_ : Int32) (o_utf : Int32) (o_utl : Nat → Int32) (o_utg : Nat → Int32) (o_mi : Int32) (o_mb : Int32) (o_mC : Nat → Int32) (o_mA : Nat → Int32) (o_mF : Nat → Int32) (o_mv : Nat → Int64), f_X9_fails K x1 upn upg utf utl utg = some (r_, o_utf, o_utl, o_utg) ∧ f_X10_fails K x1 mn mi mb mC mA mF mg mz mv = some (r_, o_mi, o_mb, o_mC, o_mA, o_mF, o_mv) ∧ Rel upn upp upq upg upf upu urw urm urh url uro urt ura urb uth utr o_utf utw uto o_utg uts utp utq o_utl ush usl usn usc uxt uxf mf mn mp mq mg mz ms ml mc mh mw mm ma me mk mo mx mu o_mi o_mC o_mA o_mF o_mb o_mv mt := by
  obtain ⟨N, G, F, ⟨a1, a2, a3, a4, a5, a6, a7, a8, a9, a10, a11⟩, hRR, ⟨t1, t2, t3, t4⟩, hRS, ht, hf⟩ := hR
  have hN32 : N ≤ 32 := by rcases a1 with rfl | rfl | rfl | rfl | rfl <;> omega
  subst a2; subst a3; subst a4; subst a5
  have hRP : RP N G F (nI N) upp upq (lN G) (lN F) (nI N) mp mq mg mz := ⟨a1, rfl, rfl, rfl, rfl, a6, a7, a8, a9, a10, a11⟩
  have hNt : (nI N).toInt = (N : Int) := nI_toInt (by omega)
  have hin : f_X10_in K (Int32.toInt64 x1) 0 (Int32.toInt64 (nI N)) = some (if 0 ≤ x1.toInt ∧ x1.toInt ≤ (N : Int) then 1 else 0) := by
    rw [e_in, Int32.toInt_toInt64, Int32.toInt_toInt64, j_0, hNt]
  by_cases c : N ≤ 16
  · have c' : nI N ≤ (16 : Int32) := nI_le (b := 16) c (by decide)
    have c2' : ¬ nI N = (32 : Int32) := by rw [eqI, hNt, i_32]; omega
    have hN4 := Nok4_of a1 c
    by_cases d : 0 ≤ x1.toInt ∧ x1.toInt ≤ (N : Int)
    · obtain ⟨w, hw, rfl, e1⟩ := toN (x := x1) d.1
      have hwN : w ≤ N := by omega
      obtain ⟨b', C', A', F', v', k1, k2, k3⟩ := e_countAll K hK a1 a7 a8 a10 a11 t4 mb mv
      have hX : ∃ (tl' tg' : Nat → Int32), f_X7_failingSets K (nI w) utf (nI N) (lN G) utl utg = some (nI (CF N G w), 1, tl', tg') ∧ ∀ w, w ≤ N → tg' w = nI (CF N G w) := by
        rcases t3 with rfl | ⟨rfl, h2⟩
        · obtain ⟨tl', tg', p1, p2⟩ := e_countFailures K hK hN4 a6 utl utg
          refine ⟨tl', tg', ?_, p2⟩
          rw [f_X7_failingSets, if_pos rfl, p1, Option.bind_some]
          dsimp only
          rw [Option.bind_some]
          dsimp only
          rw [gIx_nI _ (show w < 17 by omega) (by decide), tnN hw, p2 w hwN]
        · refine ⟨utl, utg, ?_, h2⟩
          rw [f_X7_failingSets, if_neg (by decide), Option.bind_some]
          dsimp only
          rw [gIx_nI _ (show w < 17 by omega) (by decide), tnN hw, h2 w hwN]
      obtain ⟨tl', tg', y1, y2⟩ := hX
      refine ⟨nI (CF N G w), 1, tl', tg', 1, b', C', A', F', v', ?_, ?_, N, G, F, hRP, hRR, ⟨t1, t2, Or.inr ⟨rfl, y2⟩, Or.inr ⟨rfl, k2, k3⟩⟩, hRS, ht, hf⟩
      · rw [f_X9_fails, if_pos c', if_neg (show ¬ nI w < (0 : Int32) by rw [ltI, i_0]; omega), if_pos (nI_le hwN (by omega)), y1, Option.bind_some]
      · rw [f_X10_fails, if_neg c2', hin, if_pos d, Option.bind_some, if_neg (by decide), k1, Option.bind_some]
        dsimp only
        rw [gIx_nI _ (show w < 33 by omega) (by decide), tnN hw, (k3 c w hwN).2]
    · refine ⟨-2, utf, utl, utg, mi, mb, mC, mA, mF, mv, ?_, ?_, N, G, F, hRP, hRR, ⟨t1, t2, t3, t4⟩, hRS, ht, hf⟩
      · rw [f_X9_fails, if_pos c']
        by_cases q : x1 < 0
        · rw [if_pos q]
        · rw [if_neg q, if_neg (show ¬ x1 ≤ nI N by rw [leI, hNt]; rw [ltI, i_0] at q; omega)]
      · rw [f_X10_fails, if_neg c2', hin, if_neg d, Option.bind_some, if_pos rfl]
  · have c' : ¬ nI N ≤ (16 : Int32) := nI_ge (a := 16) (by omega) (by omega)
    have c2' : nI N = (32 : Int32) := by rw [eqI, hNt, i_32]; rcases a1 with rfl | rfl | rfl | rfl | rfl <;> omega
    refine ⟨-3, utf, utl, utg, mi, mb, mC, mA, mF, mv, ?_, ?_, N, G, F, hRP, hRR, ⟨t1, t2, t3, t4⟩, hRS, ht, hf⟩
    · rw [f_X9_fails, if_neg c']
    · rw [f_X10_fails, if_pos c2']
