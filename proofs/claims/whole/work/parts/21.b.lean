set_option maxHeartbeats 1000000 in
theorem q_size (K : Nat) (hK : 200000 ≤ K) (x1 : Int32) (upn : Int32) (upp : Int32) (upq : Int32) (upg : Int64) (upf : Int64) (upu : Nat → Int64) (urw : Int32) (urm : Int64) (urh : Int32) (url : Int32) (uro : Int64) (urt : Int64) (ura : Nat → Int64) (urb : Nat → Int64) (uth : Int32) (utr : Int32) (utf : Int32) (utw : Nat → Int32) (uto : Nat → Int32) (utg : Nat → Int32) (uts : Nat → Int64) (utp : Nat → Int32) (utq : Nat → Int32) (utl : Nat → Int32) (ush : Nat → Int32) (usl : Nat → Int32) (usn : Nat → Int32) (usc : Nat → Nat → Int64) (uxt : Int32) (uxf : Int32) (mf : Int32) (mn : Int32) (mp : Int32) (mq : Int32) (mg : Nat → Int32) (mz : Nat → Int32) (ms : Nat → Int32) (ml : Nat → Int32) (mc : Nat → Int64) (mh : Nat → Int64) (mw : Int32) (mm : Int64) (ma : Int32) (me : Nat → Int32) (mk : Nat → Int32) (mo : Nat → Int64) (mx : Nat → Int64) (mu : Int32) (mi : Int32) (mC : Nat → Int32) (mA : Nat → Int32) (mF : Nat → Int32) (mb : Int32) (mv : Nat → Int64) (mt : Int32) (hR : Rel upn upp upq upg upf upu urw urm urh url uro urt ura urb uth utr utf utw uto utg uts utp utq utl ush usl usn usc uxt uxf mf mn mp mq mg mz ms ml mc mh mw mm ma me mk mo mx mu mi mC mA mF mb mv mt) : ∃ (r_ : Int32) (o_upn : Int32) (o_upg : Int64) (o_upf : Int64) (o_urh : Int32) (o_uth : Int32) (o_utr : Int32) (o_utf : Int32) (o_mn : Int32) (o_ma : Int32) (o_mi : Int32) (o_mg : Nat → Int32) (o_mz : Nat → Int32), f_X9_size K x1 upn upg upf urh uth utr utf = some (r_, o_upn, o_upg, o_upf, o_urh, o_uth, o_utr, o_utf) ∧ f_X10_size K x1 mn ma mi mg mz = some (r_, o_mn, o_ma, o_mi, o_mg, o_mz) ∧ Rel o_upn upp upq o_upg o_upf upu urw urm o_urh url uro urt ura urb o_uth o_utr o_utf utw uto utg uts utp utq utl ush usl usn usc uxt uxf mf o_mn mp mq o_mg o_mz ms ml mc mh mw mm o_ma me mk mo mx mu o_mi mC mA mF mb mv mt := by
  obtain ⟨N, G, F, ⟨a1, a2, a3, a4, a5, a6, a7, a8, a9, a10, a11⟩, ⟨b1, b2, b3⟩, hRT, hRS, ht, hf⟩ := hR
  rcases Nok_of (x := x1) with ⟨N2, hN2, rfl⟩ | ⟨c1, c2, c3, c4, c5⟩
  · refine ⟨upn, nI N2, 0, 0, 0, 0, 0, 0, nI N2, -9, 0, _, _, e9_size1 K hN2 _ _ _ _ _ _ _, by rw [e10_size1 K hK hN2, a2, a3], N2, 0, 0, ⟨hN2, rfl, rfl, rfl, rfl, Nat.two_pow_pos N2, Nat.two_pow_pos N2, rfl, a9, ?_, ?_⟩, ⟨b1, b2, Or.inl ⟨rfl, rfl⟩⟩, ⟨Or.inl rfl, Or.inl rfl, Or.inl rfl, Or.inl rfl⟩, hRS, ht, hf⟩
    · intro j hj
      rw [Nat.zero_testBit]
      exact if_pos hj
    · intro j hj
      rw [Nat.zero_testBit]
      exact if_pos hj
  · exact ⟨-2, upn, upg, upf, urh, uth, utr, utf, mn, ma, mi, mg, mz, by rw [f_X9_size, if_neg c1, if_neg c2, if_neg c3, if_neg c4, if_neg c5], by rw [f_X10_size, if_neg c1, if_neg c2, if_neg c3, if_neg c4, if_neg c5], N, G, F, ⟨a1, a2, a3, a4, a5, a6, a7, a8, a9, a10, a11⟩, ⟨b1, b2, b3⟩, hRT, hRS, ht, hf⟩
set_option maxHeartbeats 1000000 in
theorem q_line (K : Nat) (hK : 200000 ≤ K) (x1 : Int32) (x2 : Int32) (upn : Int32) (upp : Int32) (upq : Int32) (upg : Int64) (upf : Int64) (upu : Nat → Int64) (urw : Int32) (urm : Int64) (urh : Int32) (url : Int32) (uro : Int64) (urt : Int64) (ura : Nat → Int64) (urb : Nat → Int64) (uth : Int32) (utr : Int32) (utf : Int32) (utw : Nat → Int32) (uto : Nat → Int32) (utg : Nat → Int32) (uts : Nat → Int64) (utp : Nat → Int32) (utq : Nat → Int32) (utl : Nat → Int32) (ush : Nat → Int32) (usl : Nat → Int32) (usn : Nat → Int32) (usc : Nat → Nat → Int64) (uxt : Int32) (uxf : Int32) (mf : Int32) (mn : Int32) (mp : Int32) (mq : Int32) (mg : Nat → Int32) (mz : Nat → Int32) (ms : Nat → Int32) (ml : Nat → Int32) (mc : Nat → Int64) (mh : Nat → Int64) (mw : Int32) (mm : Int64) (ma : Int32) (me : Nat → Int32) (mk : Nat → Int32) (mo : Nat → Int64) (mx : Nat → Int64) (mu : Int32) (mi : Int32) (mC : Nat → Int32) (mA : Nat → Int32) (mF : Nat → Int32) (mb : Int32) (mv : Nat → Int64) (mt : Int32) (hR : Rel upn upp upq upg upf upu urw urm urh url uro urt ura urb uth utr utf utw uto utg uts utp utq utl ush usl usn usc uxt uxf mf mn mp mq mg mz ms ml mc mh mw mm ma me mk mo mx mu mi mC mA mF mb mv mt) : ∃ (r_ : Int32) (o_upp : Int32) (o_upq : Int32) (o_mp : Int32) (o_mq : Int32), f_X9_line K x1 x2 upp upq = some (r_, o_upp, o_upq) ∧ f_X10_line K x1 x2 mp mq = some (r_, o_mp, o_mq) ∧ Rel upn o_upp o_upq upg upf upu urw urm urh url uro urt ura urb uth utr utf utw uto utg uts utp utq utl ush usl usn usc uxt uxf mf mn o_mp o_mq mg mz ms ml mc mh mw mm ma me mk mo mx mu mi mC mA mF mb mv mt := by
  obtain ⟨N, G, F, ⟨a1, a2, a3, a4, a5, a6, a7, a8, a9, a10, a11⟩, hRR, hRT, hRS, ht, hf⟩ := hR
  by_cases c : 1 ≤ x2.toInt ∧ x2.toInt ≤ 8 ∧ 0 ≤ x1.toInt ∧ x1.toInt ≤ x2.toInt
  · refine ⟨1, x1, x2, x1, x2, by rw [e9_line, if_pos c], by rw [e10_line, if_pos c], N, G, F, ⟨a1, a2, a3, a4, a5, a6, a7, a8, ?_, a10, a11⟩, hRR, hRT, hRS, ht, hf⟩
    obtain ⟨P, _, e1, e2⟩ := toN (x := x1) (by omega)
    obtain ⟨Q, _, e3, e4⟩ := toN (x := x2) (by omega)
    exact ⟨P, Q, e1, e3, e1, e3, by omega, by omega, by omega⟩
  · exact ⟨-2, upp, upq, mp, mq, by rw [e9_line, if_neg c], by rw [e10_line, if_neg c], N, G, F, ⟨a1, a2, a3, a4, a5, a6, a7, a8, a9, a10, a11⟩, hRR, hRT, hRS, ht, hf⟩
set_option maxHeartbeats 1000000 in
theorem q_share (K : Nat) (hK : 200000 ≤ K) (x1 : Int32) (upn : Int32) (upp : Int32) (upq : Int32) (upg : Int64) (upf : Int64) (upu : Nat → Int64) (urw : Int32) (urm : Int64) (urh : Int32) (url : Int32) (uro : Int64) (urt : Int64) (ura : Nat → Int64) (urb : Nat → Int64) (uth : Int32) (utr : Int32) (utf : Int32) (utw : Nat → Int32) (uto : Nat → Int32) (utg : Nat → Int32) (uts : Nat → Int64) (utp : Nat → Int32) (utq : Nat → Int32) (utl : Nat → Int32) (ush : Nat → Int32) (usl : Nat → Int32) (usn : Nat → Int32) (usc : Nat → Nat → Int64) (uxt : Int32) (uxf : Int32) (mf : Int32) (mn : Int32) (mp : Int32) (mq : Int32) (mg : Nat → Int32) (mz : Nat → Int32) (ms : Nat → Int32) (ml : Nat → Int32) (mc : Nat → Int64) (mh : Nat → Int64) (mw : Int32) (mm : Int64) (ma : Int32) (me : Nat → Int32) (mk : Nat → Int32) (mo : Nat → Int64) (mx : Nat → Int64) (mu : Int32) (mi : Int32) (mC : Nat → Int32) (mA : Nat → Int32) (mF : Nat → Int32) (mb : Int32) (mv : Nat → Int64) (mt : Int32) (hR : Rel upn upp upq upg upf upu urw urm urh url uro urt ura urb uth utr utf utw uto utg uts utp utq utl ush usl usn usc uxt uxf mf mn mp mq mg mz ms ml mc mh mw mm ma me mk mo mx mu mi mC mA mF mb mv mt) : ∃ (r_ : Int64), f_X9_share K x1 upn upp upq = some (r_) ∧ f_X10_share K x1 mn mp mq = some (r_) ∧ Rel upn upp upq upg upf upu urw urm urh url uro urt ura urb uth utr utf utw uto utg uts utp utq utl ush usl usn usc uxt uxf mf mn mp mq mg mz ms ml mc mh mw mm ma me mk mo mx mu mi mC mA mF mb mv mt := by
  have hR0 := hR
  obtain ⟨N, G, F, ⟨a1, a2, a3, a4, a5, a6, a7, a8, ⟨P, Q, q1, q2, q3, q4, q5, q6, q7⟩, a10, a11⟩, hRR, hRT, hRS, ht, hf⟩ := hR
  have hN32 : N ≤ 32 := by rcases a1 with rfl | rfl | rfl | rfl | rfl <;> omega
  have hni : (nI N).toInt = (N : Int) := nI_toInt (by omega)
  subst a2; subst a3; subst q1; subst q2; subst q3; subst q4
  by_cases c : 0 ≤ x1.toInt ∧ x1.toInt < N
  · obtain ⟨r, r4, e1, e2, e3⟩ := e_share K N Q hK hN32 q5 q6 x1 (nI P)
    refine ⟨r, ?_, ?_, hR0⟩
    · rw [f_X9_share, e9_has, hni, if_pos c, Option.bind_some, if_neg (show ¬ (1 : Int32) = 0 by decide), e1]; rfl
    · rw [f_X10_share, e10_noPlace K N (by omega), if_pos c, Option.bind_some, if_pos rfl, e2, Option.bind_some]
      rcases e3 with ⟨h1, h2⟩ | ⟨h1, rfl⟩
      · rw [if_pos (by rw [lgc_ge, j_0]; omega), h2]; rfl
      · rw [if_neg (by rw [lgc_ge, j_0]; omega)]; rfl
  · refine ⟨-9223372036854775808, ?_, ?_, hR0⟩
    · rw [f_X9_share, e9_has, hni, if_neg c, Option.bind_some, if_pos rfl]
    · rw [f_X10_share, e10_noPlace K N (by omega), if_neg c, Option.bind_some, if_neg (show ¬ (1 : Int32) = 0 by decide)]; rfl
set_option maxHeartbeats 1000000 in
theorem q_lower (K : Nat) (hK : 200000 ≤ K) (upn : Int32) (upp : Int32) (upq : Int32) (upg : Int64) (upf : Int64) (upu : Nat → Int64) (urw : Int32) (urm : Int64) (urh : Int32) (url : Int32) (uro : Int64) (urt : Int64) (ura : Nat → Int64) (urb : Nat → Int64) (uth : Int32) (utr : Int32) (utf : Int32) (utw : Nat → Int32) (uto : Nat → Int32) (utg : Nat → Int32) (uts : Nat → Int64) (utp : Nat → Int32) (utq : Nat → Int32) (utl : Nat → Int32) (ush : Nat → Int32) (usl : Nat → Int32) (usn : Nat → Int32) (usc : Nat → Nat → Int64) (uxt : Int32) (uxf : Int32) (mf : Int32) (mn : Int32) (mp : Int32) (mq : Int32) (mg : Nat → Int32) (mz : Nat → Int32) (ms : Nat → Int32) (ml : Nat → Int32) (mc : Nat → Int64) (mh : Nat → Int64) (mw : Int32) (mm : Int64) (ma : Int32) (me : Nat → Int32) (mk : Nat → Int32) (mo : Nat → Int64) (mx : Nat → Int64) (mu : Int32) (mi : Int32) (mC : Nat → Int32) (mA : Nat → Int32) (mF : Nat → Int32) (mb : Int32) (mv : Nat → Int64) (mt : Int32) (hR : Rel upn upp upq upg upf upu urw urm urh url uro urt ura urb uth utr utf utw uto utg uts utp utq utl ush usl usn usc uxt uxf mf mn mp mq mg mz ms ml mc mh mw mm ma me mk mo mx mu mi mC mA mF mb mv mt) : ∃ (r_ : Int64), f_X9_lower K upn upq = some (r_) ∧ f_X10_lower K mn mq = some (r_) ∧ Rel upn upp upq upg upf upu urw urm urh url uro urt ura urb uth utr utf utw uto utg uts utp utq utl ush usl usn usc uxt uxf mf mn mp mq mg mz ms ml mc mh mw mm ma me mk mo mx mu mi mC mA mF mb mv mt := by
  have hR0 := hR
  obtain ⟨N, G, F, ⟨a1, a2, a3, a4, a5, a6, a7, a8, ⟨P, Q, q1, q2, q3, q4, q5, q6, q7⟩, a10, a11⟩, hRR, hRT, hRS, ht, hf⟩ := hR
  have hN32 : N ≤ 32 := by rcases a1 with rfl | rfl | rfl | rfl | rfl <;> omega
  subst a2; subst a3; subst q2; subst q4
  obtain ⟨r9, r10, e1, e2, e3⟩ := e_low K N Q hK hN32 q5 q6
  refine ⟨r9, by rw [f_X9_lower, e1]; rfl, ?_, hR0⟩
  rw [f_X10_lower, e2, Option.bind_some]
  rcases e3 with ⟨rfl, h1, h2⟩ | ⟨rfl, rfl⟩
  · rw [if_pos (by rw [lgc_ge, j_0]; omega)]
  · rw [if_neg (by rw [lgc_ge, j_0, j_m1]; omega)]; rfl
set_option maxHeartbeats 1000000 in
theorem q_good (K : Nat) (hK : 200000 ≤ K) (x1 : Int32) (upn : Int32) (upp : Int32) (upq : Int32) (upg : Int64) (upf : Int64) (upu : Nat → Int64) (urw : Int32) (urm : Int64) (urh : Int32) (url : Int32) (uro : Int64) (urt : Int64) (ura : Nat → Int64) (urb : Nat → Int64) (uth : Int32) (utr : Int32) (utf : Int32) (utw : Nat → Int32) (uto : Nat → Int32) (utg : Nat → Int32) (uts : Nat → Int64) (utp : Nat → Int32) (utq : Nat → Int32) (utl : Nat → Int32) (ush : Nat → Int32) (usl : Nat → Int32) (usn : Nat → Int32) (usc : Nat → Nat → Int64) (uxt : Int32) (uxf : Int32) (mf : Int32) (mn : Int32) (mp : Int32) (mq : Int32) (mg : Nat → Int32) (mz : Nat → Int32) (ms : Nat → Int32) (ml : Nat → Int32) (mc : Nat → Int64) (mh : Nat → Int64) (mw : Int32) (mm : Int64) (ma : Int32) (me : Nat → Int32) (mk : Nat → Int32) (mo : Nat → Int64) (mx : Nat → Int64) (mu : Int32) (mi : Int32) (mC : Nat → Int32) (mA : Nat → Int32) (mF : Nat → Int32) (mb : Int32) (mv : Nat → Int64) (mt : Int32) (hR : Rel upn upp upq upg upf upu urw urm urh url uro urt ura urb uth utr utf utw uto utg uts utp utq utl ush usl usn usc uxt uxf mf mn mp mq mg mz ms ml mc mh mw mm ma me mk mo mx mu mi mC mA mF mb mv mt) : ∃ (r_ : Int32) (o_upg : Int64) (o_upf : Int64) (o_urh : Int32) (o_uth : Int32) (o_utr : Int32) (o_utf : Int32) (o_ma : Int32) (o_mi : Int32) (o_mg : Nat → Int32) (o_mz : Nat → Int32), f_X9_good K x1 upn upg upf urh uth utr utf = some (r_, o_upg, o_upf, o_urh, o_uth, o_utr, o_utf) ∧ f_X10_good K x1 mn ma mi mg mz = some (r_, o_ma, o_mi, o_mg, o_mz) ∧ Rel upn upp upq o_upg o_upf upu urw urm o_urh url uro urt ura urb o_uth o_utr o_utf utw uto utg uts utp utq utl ush usl usn usc uxt uxf mf mn mp mq o_mg o_mz ms ml mc mh mw mm o_ma me mk mo mx mu o_mi mC mA mF mb mv mt := by
  obtain ⟨N, G, F, ⟨a1, a2, a3, a4, a5, a6, a7, a8, a9, a10, a11⟩, ⟨b1, b2, b3⟩, hRT, hRS, ht, hf⟩ := hR
  have hN32 : N ≤ 32 := by rcases a1 with rfl | rfl | rfl | rfl | rfl <;> omega
  have hp32 : 2 ^ N ≤ 2 ^ 32 := Nat.pow_le_pow_right (by decide) hN32
  have hni : (nI N).toInt = (N : Int) := nI_toInt (by omega)
  subst a2; subst a3; subst a4; subst a5
  by_cases c : 0 ≤ x1.toInt ∧ x1.toInt < N
  · obtain ⟨j, hj, rfl, e2⟩ := toN (x := x1) c.1
    have hjN : j < N := by omega
    have h1 : f_X9_good K (nI j) (nI N) (lN G) (lN F) urh uth utr utf = some (bI (!G.testBit j), lN (bset G j), lN (bclr F j), 0, 0, 0, 0) := by
      rw [f_X9_good, e9_has, hni, if_pos c, Option.bind_some, if_neg (show ¬ (1 : Int32) = 0 by decide), e9_isGood K (by omega) (by omega), Option.bind_some, e_setGood K (by omega)]
      cases G.testBit j <;> rfl
    have h2 : f_X10_good K (nI j) (nI N) ma mi mg mz = some (bI (!G.testBit j), -9, 0, upd mg j 1, upd mz j 0) := by
      rw [f_X10_good, e10_noPlace K N (by omega), if_pos c, Option.bind_some, if_pos rfl, gIx_nI _ (show j < 32 by omega) (by decide), tnN hj, a10 j (by omega)]
      unfold f_X10_become
      rw [gIx_nI _ (show j < 32 by omega) (by decide), gLet, gIx_nI _ (show j < 32 by omega) (by decide), gLet, tnN hj, vpn1]
      cases G.testBit j <;> rfl
    refine ⟨_, _, _, _, _, _, _, _, _, _, _, h1, h2, N, bset G j, bclr F j, ⟨a1, rfl, rfl, rfl, rfl, bset_lt a6 hjN, Nat.lt_of_le_of_lt (bclr_le F j) a7, ?_, a9, ?_, ?_⟩, ⟨b1, b2, Or.inl ⟨rfl, rfl⟩⟩, ⟨Or.inl rfl, Or.inl rfl, Or.inl rfl, Or.inl rfl⟩, hRS, ht, hf⟩
    · apply apart_of
      intro i
      rw [bset_b, bclr_b (by omega)]
      have := apart_b a8 i
      by_cases q : i = j
      · subst q; simp
      · simp [q]; simpa using this
    · intro i hi
      rw [bset_b]
      by_cases q : i = j
      · subst q; simp [upd, bI]
      · simp [upd, q, a10 i hi]
    · intro i hi
      rw [bclr_b (by omega)]
      by_cases q : i = j
      · subst q; simp [upd, bI]
      · simp [upd, q, a11 i hi]
  · refine ⟨-1, lN G, lN F, urh, uth, utr, utf, ma, mi, mg, mz, ?_, ?_, N, G, F, ⟨a1, rfl, rfl, rfl, rfl, a6, a7, a8, a9, a10, a11⟩, ⟨b1, b2, b3⟩, hRT, hRS, ht, hf⟩
    · rw [f_X9_good, e9_has, hni, if_neg c, Option.bind_some, if_pos rfl]
    · rw [f_X10_good, e10_noPlace K N (by omega), if_neg c, Option.bind_some, if_neg (show ¬ (1 : Int32) = 0 by decide)]
set_option maxHeartbeats 1000000 in
theorem q_freeze (K : Nat) (hK : 200000 ≤ K) (x1 : Int32) (x2 : Int32) (upn : Int32) (upp : Int32) (upq : Int32) (upg : Int64) (upf : Int64) (upu : Nat → Int64) (urw : Int32) (urm : Int64) (urh : Int32) (url : Int32) (uro : Int64) (urt : Int64) (ura : Nat → Int64) (urb : Nat → Int64) (uth : Int32) (utr : Int32) (utf : Int32) (utw : Nat → Int32) (uto : Nat → Int32) (utg : Nat → Int32) (uts : Nat → Int64) (utp : Nat → Int32) (utq : Nat → Int32) (utl : Nat → Int32) (ush : Nat → Int32) (usl : Nat → Int32) (usn : Nat → Int32) (usc : Nat → Nat → Int64) (uxt : Int32) (uxf : Int32) (mf : Int32) (mn : Int32) (mp : Int32) (mq : Int32) (mg : Nat → Int32) (mz : Nat → Int32) (ms : Nat → Int32) (ml : Nat → Int32) (mc : Nat → Int64) (mh : Nat → Int64) (mw : Int32) (mm : Int64) (ma : Int32) (me : Nat → Int32) (mk : Nat → Int32) (mo : Nat → Int64) (mx : Nat → Int64) (mu : Int32) (mi : Int32) (mC : Nat → Int32) (mA : Nat → Int32) (mF : Nat → Int32) (mb : Int32) (mv : Nat → Int64) (mt : Int32) (hR : Rel upn upp upq upg upf upu urw urm urh url uro urt ura urb uth utr utf utw uto utg uts utp utq utl ush usl usn usc uxt uxf mf mn mp mq mg mz ms ml mc mh mw mm ma me mk mo mx mu mi mC mA mF mb mv mt) : ∃ (r_ : Int32) (o_upg : Int64) (o_upf : Int64) (o_urh : Int32) (o_uth : Int32) (o_utr : Int32) (o_utf : Int32) (o_ma : Int32) (o_mi : Int32) (o_mg : Nat → Int32) (o_mz : Nat → Int32), f_X9_freeze K x1 x2 upn upg upf urh uth utr utf = some (r_, o_upg, o_upf, o_urh, o_uth, o_utr, o_utf) ∧ f_X10_freeze K x1 x2 mn ma mi mg mz = some (r_, o_ma, o_mi, o_mg, o_mz) ∧ Rel upn upp upq o_upg o_upf upu urw urm o_urh url uro urt ura urb o_uth o_utr o_utf utw uto utg uts utp utq utl ush usl usn usc uxt uxf mf mn mp mq o_mg o_mz ms ml mc mh mw mm o_ma me mk mo mx mu o_mi mC mA mF mb mv mt := by
  obtain ⟨N, G, F, ⟨a1, a2, a3, a4, a5, a6, a7, a8, a9, a10, a11⟩, ⟨b1, b2, b3⟩, hRT, hRS, ht, hf⟩ := hR
  have hN32 : N ≤ 32 := by rcases a1 with rfl | rfl | rfl | rfl | rfl <;> omega
  have hp32 : 2 ^ N ≤ 2 ^ 32 := Nat.pow_le_pow_right (by decide) hN32
  have hni : (nI N).toInt = (N : Int) := nI_toInt (by omega)
  subst a2; subst a3; subst a4; subst a5
  by_cases c : 0 ≤ x1.toInt ∧ x1.toInt < N
  · by_cases c2 : 0 ≤ x2.toInt ∧ x2.toInt ≤ 1
    · obtain ⟨j, hj, rfl, e2⟩ := toN (x := x1) c.1
      obtain ⟨b, hb, rfl, e3⟩ := toN (x := x2) c2.1
      have hjN : j < N := by omega
      have hb2 : b < 2 := by omega
      have h1 : f_X9_freeze K (nI j) (nI b) (nI N) (lN G) (lN F) urh uth utr utf = some (if G.testBit j then 1 else if bI (F.testBit j) = nI b then 0 else 1, lN (bclr G j), lN (bput F j b), 0, 0, 0, 0) := by
        rw [f_X9_freeze, e9_has, hni, if_pos c, Option.bind_some, if_neg (show ¬ (1 : Int32) = 0 by decide), e9_isBit, if_pos c2, Option.bind_some, if_neg (show ¬ (1 : Int32) = 0 by decide), e9_isGood K (by omega) (by omega), Option.bind_some, e_frozenBit K (by omega) (by omega), Option.bind_some, e_setFrozen K (by omega) G F b hb2]
        cases G.testBit j
        · by_cases q : bI (F.testBit j) = nI b
          · simp only [q]; rfl
          · simp only [q]; rfl
        · rfl
      have h2 : f_X10_freeze K (nI j) (nI b) (nI N) ma mi mg mz = some (if G.testBit j then 1 else if bI (F.testBit j) = nI b then 0 else 1, -9, 0, upd mg j 0, upd mz j (nI b)) := by
        rw [f_X10_freeze, e10_noPlace K N (by omega), if_pos c, Option.bind_some, if_pos rfl, e_in, Int32.toInt_toInt64, j_0, j_1, if_pos c2, Option.bind_some, if_neg (show ¬ (1 : Int32) = 0 by decide), gIx_nI _ (show j < 32 by omega) (by decide), tnN hj, a10 j (by omega), gIx_nI _ (show j < 32 by omega) (by decide), a11 j (by omega)]
        unfold f_X10_become
        rw [gIx_nI _ (show j < 32 by omega) (by decide), gLet, gIx_nI _ (show j < 32 by omega) (by decide), gLet, tnN hj, vpn0]
        cases G.testBit j
        · by_cases q : bI (F.testBit j) = nI b
          · simp only [q]; rfl
          · simp only [q]; rfl
        · rfl
      refine ⟨_, _, _, _, _, _, _, _, _, _, _, h1, h2, N, bclr G j, bput F j b, ⟨a1, rfl, rfl, rfl, rfl, Nat.lt_of_le_of_lt (bclr_le G j) a6, bput_lt a7 hjN hb2, ?_, a9, ?_, ?_⟩, ⟨b1, b2, Or.inl ⟨rfl, rfl⟩⟩, ⟨Or.inl rfl, Or.inl rfl, Or.inl rfl, Or.inl rfl⟩, hRS, ht, hf⟩
      · apply apart_of
        intro i
        rw [bput_b (by omega) hb2, bclr_b (by omega)]
        have := apart_b a8 i
        by_cases q : i = j
        · simp [q]
        · simp [q]; simpa using this
      · intro i hi
        rw [bclr_b (by omega)]
        by_cases q : i = j
        · subst q; simp [upd, bI]
        · simp [upd, q, a10 i hi]
      · intro i hi
        rw [bput_b (by omega) hb2]
        by_cases q : i = j
        · subst q
          rcases (show b = 0 ∨ b = 1 by omega) with rfl | rfl <;> simp [upd, bI] <;> rfl
        · simp [upd, q, a11 i hi]
    · refine ⟨-2, lN G, lN F, urh, uth, utr, utf, ma, mi, mg, mz, ?_, ?_, N, G, F, ⟨a1, rfl, rfl, rfl, rfl, a6, a7, a8, a9, a10, a11⟩, ⟨b1, b2, b3⟩, hRT, hRS, ht, hf⟩
      · rw [f_X9_freeze, e9_has, hni, if_pos c, Option.bind_some, if_neg (show ¬ (1 : Int32) = 0 by decide), e9_isBit, if_neg c2, Option.bind_some, if_pos rfl]
      · rw [f_X10_freeze, e10_noPlace K N (by omega), if_pos c, Option.bind_some, if_pos rfl, e_in, Int32.toInt_toInt64, j_0, j_1, if_neg c2, Option.bind_some, if_pos rfl]
  · refine ⟨-1, lN G, lN F, urh, uth, utr, utf, ma, mi, mg, mz, ?_, ?_, N, G, F, ⟨a1, rfl, rfl, rfl, rfl, a6, a7, a8, a9, a10, a11⟩, ⟨b1, b2, b3⟩, hRT, hRS, ht, hf⟩
    · rw [f_X9_freeze, e9_has, hni, if_neg c, Option.bind_some, if_pos rfl]
    · rw [f_X10_freeze, e10_noPlace K N (by omega), if_neg c, Option.bind_some, if_neg (show ¬ (1 : Int32) = 0 by decide)]
set_option maxHeartbeats 1000000 in
theorem q_choose (K : Nat) (hK : 200000 ≤ K) (x1 : Int32) (upn : Int32) (upp : Int32) (upq : Int32) (upg : Int64) (upf : Int64) (upu : Nat → Int64) (urw : Int32) (urm : Int64) (urh : Int32) (url : Int32) (uro : Int64) (urt : Int64) (ura : Nat → Int64) (urb : Nat → Int64) (uth : Int32) (utr : Int32) (utf : Int32) (utw : Nat → Int32) (uto : Nat → Int32) (utg : Nat → Int32) (uts : Nat → Int64) (utp : Nat → Int32) (utq : Nat → Int32) (utl : Nat → Int32) (ush : Nat → Int32) (usl : Nat → Int32) (usn : Nat → Int32) (usc : Nat → Nat → Int64) (uxt : Int32) (uxf : Int32) (mf : Int32) (mn : Int32) (mp : Int32) (mq : Int32) (mg : Nat → Int32) (mz : Nat → Int32) (ms : Nat → Int32) (ml : Nat → Int32) (mc : Nat → Int64) (mh : Nat → Int64) (mw : Int32) (mm : Int64) (ma : Int32) (me : Nat → Int32) (mk : Nat → Int32) (mo : Nat → Int64) (mx : Nat → Int64) (mu : Int32) (mi : Int32) (mC : Nat → Int32) (mA : Nat → Int32) (mF : Nat → Int32) (mb : Int32) (mv : Nat → Int64) (mt : Int32) (hR : Rel upn upp upq upg upf upu urw urm urh url uro urt ura urb uth utr utf utw uto utg uts utp utq utl ush usl usn usc uxt uxf mf mn mp mq mg mz ms ml mc mh mw mm ma me mk mo mx mu mi mC mA mF mb mv mt) : ∃ (r_ : Int64) (o_upg : Int64) (o_upf : Int64) (o_upu : Nat → Int64) (o_urh : Int32) (o_uth : Int32) (o_utr : Int32) (o_utf : Int32) (o_ma : Int32) (o_mi : Int32) (o_mg : Nat → Int32) (o_mz : Nat → Int32), f_X9_choose K x1 upn upp upq upg upf upu urh uth utr utf = some (r_, o_upg, o_upf, o_upu, o_urh, o_uth, o_utr, o_utf) ∧ f_X10_choose K x1 mn mp mq ma mi mg mz = some (r_, o_ma, o_mi, o_mg, o_mz) ∧ Rel upn upp upq o_upg o_upf o_upu urw urm o_urh url uro urt ura urb o_uth o_utr o_utf utw uto utg uts utp utq utl ush usl usn usc uxt uxf mf mn mp mq o_mg o_mz ms ml mc mh mw mm o_ma me mk mo mx mu o_mi mC mA mF mb mv mt := by
  have hR0 := hR
  obtain ⟨N, G, F, ⟨a1, a2, a3, a4, a5, a6, a7, a8, ⟨P, Q, p1, p2, p3, p4, p5, p6, p7⟩, a10, a11⟩, ⟨b1, b2, b3⟩, hRT, hRS, ht, hf⟩ := hR
  have hN32 : N ≤ 32 := by rcases a1 with rfl | rfl | rfl | rfl | rfl <;> omega
  have hN2 : 2 ≤ N := by rcases a1 with rfl | rfl | rfl | rfl | rfl <;> omega
  have hni : (nI N).toInt = (N : Int) := nI_toInt (by omega)
  have hlost : f_X10_lost K = some (-9223372036854775808) := rfl
  subst a2; subst a3; subst a4; subst a5; subst p1; subst p2; subst p3; subst p4
  by_cases c : 0 ≤ x1.toInt ∧ x1.toInt ≤ N
  · obtain ⟨k, hk, rfl, e1⟩ := toN (x := x1) c.1
    have hkN : k ≤ N := by omega
    have n1 : ¬ nI k < (0 : Int32) := by rw [ltI, i_0]; omega
    have n2 : ¬ nI N < nI k := by rw [ltI, hni]; omega
    have hin : f_X10_in K (Int32.toInt64 (nI k)) 0 (Int32.toInt64 (nI N)) = some 1 := by
      rw [e_in, Int32.toInt_toInt64, Int32.toInt_toInt64, j_0, hni, if_pos c]
    obtain ⟨r9, r10, l1, l2, l3⟩ := e_low K N Q hK hN32 p5 p6
    rcases l3 with ⟨rfl, h1, h2⟩ | ⟨rfl, rfl⟩
    · have hS : ∃ S : Nat → Int64, ∀ j, f_X10_shareOf K (nI j) (nI N) (nI P) (nI Q) = some (S j) := by
        refine ⟨fun j => (f_X10_shareOf K (nI j) (nI N) (nI P) (nI Q)).getD 0, fun j => ?_⟩
        obtain ⟨r, hr⟩ := e_upS K N hK hN32 (nI j) (nI P) (nI Q)
        show _ = some ((f_X10_shareOf K (nI j) (nI N) (nI P) (nI Q)).getD 0)
        rw [hr]; rfl
      obtain ⟨S, hS⟩ := hS
      have u1 := l_uppers K N hN32 S (nI P) (nI Q) hS N 0 K upu (by omega) (by omega)
      have u2 := l_ch29 K N hN32 N 0 K ma mi mg mz (by omega) (by omega)
      obtain ⟨s', T', mg', q1, q2, q3, q4⟩ := l_take K hK N k hN32 hkN S (fun j => if 0 ≤ j ∧ j < N then S j else upu j) (nI P) (nI Q) hS (fun j hj => if_pos ⟨by omega, hj⟩) k 0 K 0 0 (fun j => if 0 ≤ j ∧ j < N then 0 else mg j) (by omega) (by omega) (Nat.two_pow_pos N) (fb_ct_zero.mpr (fun i _ => Nat.zero_testBit i)) (fun j hj => by
        rw [Nat.zero_testBit]
        show (if 0 ≤ j ∧ j < N then 0 else mg j) = bI false
        by_cases q : j < N
        · rw [if_pos ⟨by omega, q⟩]; rfl
        · rw [if_neg (by omega), a10 j hj]
          have : G.testBit j = false := Nat.testBit_lt_two_pow (Nat.lt_of_lt_of_le a6 (Nat.pow_le_pow_right (by decide) (by omega)))
          rw [this])
      rw [if_neg (show ¬ N = 0 by omega), if_neg (show ¬ N = 0 by omega)] at u2
      have u1' : fL_X4_takeLeastShares_2 K (nI N) (nI P) (nI Q) K (0, upu) = some (nI N, fun j => if 0 ≤ j ∧ j < N then S j else upu j) := u1
      have u2' : fL_X10_choose_29 K (nI N) K (0, ma, mi, mg, mz) = some (nI N, -9, 0, (fun j => if 0 ≤ j ∧ j < N then 0 else mg j), (fun j => if 0 ≤ j ∧ j < N then 0 else mz j)) := u2
      have q1' : fL_X4_takeLeastShares_35 K (nI k) (nI N) (fun j => if 0 ≤ j ∧ j < N then S j else upu j) K (0, 0, 0) = some (nI k, s', lN T') := q1
      have q2' : fL_X10_choose_55 K (nI k) (nI N) (nI P) (nI Q) K (0, 0, fun j => if 0 ≤ j ∧ j < N then 0 else mg j) = some (nI k, s', mg') := q2
      have e9 : f_X9_choose K (nI k) (nI N) (nI P) (nI Q) (lN G) (lN F) upu urh uth utr utf = some (s', lN T', 0, (fun j => if 0 ≤ j ∧ j < N then S j else upu j), 0, 0, 0, 0) := by
        rw [f_X9_choose, if_neg n1, if_neg n2, l1, Option.bind_some, if_neg (show ¬ lg_cmp r9 (-9223372036854775808) = 0 by rw [lgc_eq, j_LOST]; omega), f_X4_takeLeastShares, u1', Option.bind_some]
        dsimp only
        rw [q1']
        rfl
      have e10 : f_X10_choose K (nI k) (nI N) (nI P) (nI Q) ma mi mg mz = some (s', -9, 0, mg', fun j => if 0 ≤ j ∧ j < N then 0 else mz j) := by
        rw [f_X10_choose, hin, Option.bind_some, if_neg (show ¬ (1 : Int32) = 0 by decide), l2, Option.bind_some, if_pos (show 0 ≤ lg_cmp r9 0 by rw [lgc_ge, j_0]; omega), u2', Option.bind_some]
        dsimp only
        rw [q2']
        rfl
      refine ⟨_, _, _, _, _, _, _, _, _, _, _, _, e9, e10, N, T', 0, ⟨a1, rfl, rfl, rfl, rfl, q3, Nat.two_pow_pos N, Nat.and_zero _, ⟨P, Q, rfl, rfl, rfl, rfl, p5, p6, p7⟩, q4, fun j hj => ?_⟩, ⟨b1, b2, Or.inl ⟨rfl, rfl⟩⟩, ⟨Or.inl rfl, Or.inl rfl, Or.inl rfl, Or.inl rfl⟩, hRS, ht, hf⟩
      rw [Nat.zero_testBit]
      show (if 0 ≤ j ∧ j < N then 0 else mz j) = bI false
      by_cases q : j < N
      · rw [if_pos ⟨by omega, q⟩]; rfl
      · rw [if_neg (by omega), a11 j hj]
        have : F.testBit j = false := Nat.testBit_lt_two_pow (Nat.lt_of_lt_of_le a7 (Nat.pow_le_pow_right (by decide) (by omega)))
        rw [this]
    · refine ⟨-9223372036854775808, lN G, lN F, upu, urh, uth, utr, utf, ma, mi, mg, mz, ?_, ?_, hR0⟩
      · rw [f_X9_choose, if_neg n1, if_neg n2, l1, Option.bind_some, if_pos (by rw [lgc_eq])]
      · rw [f_X10_choose, hin, Option.bind_some, if_neg (show ¬ (1 : Int32) = 0 by decide), l2, Option.bind_some, if_neg (show ¬ 0 ≤ lg_cmp (-1) 0 by decide), hlost]; rfl
  · have hin : f_X10_in K (Int32.toInt64 x1) 0 (Int32.toInt64 (nI N)) = some 0 := by
      rw [e_in, Int32.toInt_toInt64, Int32.toInt_toInt64, j_0, hni, if_neg c]
    refine ⟨-9223372036854775808, lN G, lN F, upu, urh, uth, utr, utf, ma, mi, mg, mz, ?_, ?_, hR0⟩
    · rw [f_X9_choose]
      by_cases q : x1 < (0 : Int32)
      · rw [if_pos q]
      · rw [if_neg q, if_pos (by rw [ltI, hni]; rw [ltI, i_0] at q; omega)]
    · rw [f_X10_choose, hin, Option.bind_some, if_pos rfl, hlost]; rfl
set_option maxHeartbeats 1000000 in
theorem q_about (K : Nat) (hK : 200000 ≤ K) (x1 : Int32) (x2 : Int32) (upn : Int32) (upp : Int32) (upq : Int32) (upg : Int64) (upf : Int64) (upu : Nat → Int64) (urw : Int32) (urm : Int64) (urh : Int32) (url : Int32) (uro : Int64) (urt : Int64) (ura : Nat → Int64) (urb : Nat → Int64) (uth : Int32) (utr : Int32) (utf : Int32) (utw : Nat → Int32) (uto : Nat → Int32) (utg : Nat → Int32) (uts : Nat → Int64) (utp : Nat → Int32) (utq : Nat → Int32) (utl : Nat → Int32) (ush : Nat → Int32) (usl : Nat → Int32) (usn : Nat → Int32) (usc : Nat → Nat → Int64) (uxt : Int32) (uxf : Int32) (mf : Int32) (mn : Int32) (mp : Int32) (mq : Int32) (mg : Nat → Int32) (mz : Nat → Int32) (ms : Nat → Int32) (ml : Nat → Int32) (mc : Nat → Int64) (mh : Nat → Int64) (mw : Int32) (mm : Int64) (ma : Int32) (me : Nat → Int32) (mk : Nat → Int32) (mo : Nat → Int64) (mx : Nat → Int64) (mu : Int32) (mi : Int32) (mC : Nat → Int32) (mA : Nat → Int32) (mF : Nat → Int32) (mb : Int32) (mv : Nat → Int64) (mt : Int32) (hR : Rel upn upp upq upg upf upu urw urm urh url uro urt ura urb uth utr utf utw uto utg uts utp utq utl ush usl usn usc uxt uxf mf mn mp mq mg mz ms ml mc mh mw mm ma me mk mo mx mu mi mC mA mF mb mv mt) : ∃ (r_ : Int32), f_X9_about K x1 x2 upn upg upf = some (r_) ∧ f_X10_about K x1 x2 mn mg mz = some (r_) ∧ Rel upn upp upq upg upf upu urw urm urh url uro urt ura urb uth utr utf utw uto utg uts utp utq utl ush usl usn usc uxt uxf mf mn mp mq mg mz ms ml mc mh mw mm ma me mk mo mx mu mi mC mA mF mb mv mt := by
  have hR0 := hR
  obtain ⟨N, G, F, ⟨a1, a2, a3, a4, a5, a6, a7, a8, a9, a10, a11⟩, hRR, hRT, hRS, ht, hf⟩ := hR
  have hN32 : N ≤ 32 := by rcases a1 with rfl | rfl | rfl | rfl | rfl <;> omega
  have hp32 : 2 ^ N ≤ 2 ^ 32 := Nat.pow_le_pow_right (by decide) hN32
  have hni : (nI N).toInt = (N : Int) := nI_toInt (by omega)
  subst a2; subst a3; subst a4; subst a5
  by_cases c : 0 ≤ x1.toInt ∧ x1.toInt < N
  · obtain ⟨j, hj, rfl, e2⟩ := toN (x := x1) c.1
    have hjN : j < N := by omega
    have h9 : f_X9_about K (nI j) x2 (nI N) (lN G) (lN F) = if x2 = 0 then some (bI (G.testBit j)) else if x2 = 1 then some (if G.testBit j then -9 else bI (F.testBit j)) else if x2 = 2 then some (if G.testBit j then nI (pcN j G) else -9) else some (-2) := by
      rw [f_X9_about, e9_has, hni, if_pos c, Option.bind_some, if_neg (show ¬ (1 : Int32) = 0 by decide), e9_isGood K (by omega) (by omega), Option.bind_some, e_frozenBit K (by omega) (by omega), e_messageBitOf K (by omega)]
      cases G.testBit j <;> rfl
    have hl : fL_X10_about_68 K (nI j) mg K (0, 0) = some (nI j, nI (pcN j G)) := l_about K j G mg (by omega) a10 j 0 K (by omega) (by omega)
    have h10 : f_X10_about K (nI j) x2 (nI N) mg mz = if x2 = 0 then some (bI (G.testBit j)) else if x2 = 1 then some (if G.testBit j then -9 else bI (F.testBit j)) else if x2 = 2 then some (if G.testBit j then nI (pcN j G) else -9) else some (-2) := by
      rw [f_X10_about, e10_noPlace K N (by omega), if_pos c, Option.bind_some, if_pos rfl, hl]
      simp only [gIx_nI _ (show j < 32 by omega) (by decide : (32 : Nat) < 2 ^ 31), tnN hj, a10 j (by omega), a11 j (by omega), Option.bind_some]
      cases G.testBit j <;> rfl
    have ex : ∃ r, f_X10_about K (nI j) x2 (nI N) mg mz = some r := by
      rw [h10]
      repeat' split
      all_goals exact ⟨_, rfl⟩
    obtain ⟨r, hr⟩ := ex
    exact ⟨r, by rw [h9, ← h10, hr], hr, hR0⟩
  · refine ⟨-1, ?_, ?_, hR0⟩
    · rw [f_X9_about, e9_has, hni, if_neg c, Option.bind_some, if_pos rfl]
    · rw [f_X10_about, e10_noPlace K N (by omega), if_neg c, Option.bind_some, if_neg (show ¬ (1 : Int32) = 0 by decide)]
set_option maxHeartbeats 1000000 in
theorem q_word (K : Nat) (hK : 200000 ≤ K) (x1 : Int64) (upn : Int32) (upp : Int32) (upq : Int32) (upg : Int64) (upf : Int64) (upu : Nat → Int64) (urw : Int32) (urm : Int64) (urh : Int32) (url : Int32) (uro : Int64) (urt : Int64) (ura : Nat → Int64) (urb : Nat → Int64) (uth : Int32) (utr : Int32) (utf : Int32) (utw : Nat → Int32) (uto : Nat → Int32) (utg : Nat → Int32) (uts : Nat → Int64) (utp : Nat → Int32) (utq : Nat → Int32) (utl : Nat → Int32) (ush : Nat → Int32) (usl : Nat → Int32) (usn : Nat → Int32) (usc : Nat → Nat → Int64) (uxt : Int32) (uxf : Int32) (mf : Int32) (mn : Int32) (mp : Int32) (mq : Int32) (mg : Nat → Int32) (mz : Nat → Int32) (ms : Nat → Int32) (ml : Nat → Int32) (mc : Nat → Int64) (mh : Nat → Int64) (mw : Int32) (mm : Int64) (ma : Int32) (me : Nat → Int32) (mk : Nat → Int32) (mo : Nat → Int64) (mx : Nat → Int64) (mu : Int32) (mi : Int32) (mC : Nat → Int32) (mA : Nat → Int32) (mF : Nat → Int32) (mb : Int32) (mv : Nat → Int64) (mt : Int32) (hR : Rel upn upp upq upg upf upu urw urm urh url uro urt ura urb uth utr utf utw uto utg uts utp utq utl ush usl usn usc uxt uxf mf mn mp mq mg mz ms ml mc mh mw mm ma me mk mo mx mu mi mC mA mF mb mv mt) : ∃ (r_ : Int64), f_X9_word K x1 upn upg upf = some (r_) ∧ f_X10_word K x1 mn mg mz = some (r_) ∧ Rel upn upp upq upg upf upu urw urm urh url uro urt ura urb uth utr utf utw uto utg uts utp utq utl ush usl usn usc uxt uxf mf mn mp mq mg mz ms ml mc mh mw mm ma me mk mo mx mu mi mC mA mF mb mv mt := by
  have hR0 := hR
  obtain ⟨N, G, F, ⟨a1, a2, a3, a4, a5, a6, a7, a8, a9, a10, a11⟩, hRR, hRT, hRS, ht, hf⟩ := hR
  have hN32 : N ≤ 32 := by rcases a1 with rfl | rfl | rfl | rfl | rfl <;> omega
  have hp32 : 2 ^ N ≤ 2 ^ 32 := Nat.pow_le_pow_right (by decide) hN32
  have hN1 : Nok1 N := Or.inr a1
  subst a2; subst a3; subst a4; subst a5
  by_cases c : 0 ≤ x1.toInt ∧ x1.toInt < ((2 ^ pcN N G : Nat) : Int)
  · obtain ⟨M, rfl, hM⟩ := isMsg_N c
    have hc := pc_le N G
    have hp2 : 2 ^ pcN N G ≤ 2 ^ 32 := Nat.pow_le_pow_right (by decide) (by omega)
    have hw := e_word10 K hK (M := M) hN1 a7 a8 (by omega) a10 a11
    refine ⟨lN (wdN N G F M), ?_, ?_, hR0⟩
    · rw [f_X9_word, e9_isMessage K hN32 a6, if_pos c, Option.bind_some, if_neg (show ¬ (1 : Int32) = 0 by decide), (e_wordOf K hK hN1 (by omega) a7 (by omega)).1]; rfl
    · rw [f_X10_word, e10_isMessage K hK hN32 a10, if_pos c, Option.bind_some, if_neg (show ¬ (1 : Int32) = 0 by decide), hw.1, Option.bind_some, hw.2]; rfl
  · refine ⟨-9223372036854775808, ?_, ?_, hR0⟩
    · rw [f_X9_word, e9_isMessage K hN32 a6, if_neg c, Option.bind_some, if_pos rfl]
    · rw [f_X10_word, e10_isMessage K hK hN32 a10, if_neg c, Option.bind_some, if_pos rfl]; rfl
set_option maxHeartbeats 1000000 in
theorem q_fold (K : Nat) (hK : 200000 ≤ K) (x1 : Int64) (upn : Int32) (upp : Int32) (upq : Int32) (upg : Int64) (upf : Int64) (upu : Nat → Int64) (urw : Int32) (urm : Int64) (urh : Int32) (url : Int32) (uro : Int64) (urt : Int64) (ura : Nat → Int64) (urb : Nat → Int64) (uth : Int32) (utr : Int32) (utf : Int32) (utw : Nat → Int32) (uto : Nat → Int32) (utg : Nat → Int32) (uts : Nat → Int64) (utp : Nat → Int32) (utq : Nat → Int32) (utl : Nat → Int32) (ush : Nat → Int32) (usl : Nat → Int32) (usn : Nat → Int32) (usc : Nat → Nat → Int64) (uxt : Int32) (uxf : Int32) (mf : Int32) (mn : Int32) (mp : Int32) (mq : Int32) (mg : Nat → Int32) (mz : Nat → Int32) (ms : Nat → Int32) (ml : Nat → Int32) (mc : Nat → Int64) (mh : Nat → Int64) (mw : Int32) (mm : Int64) (ma : Int32) (me : Nat → Int32) (mk : Nat → Int32) (mo : Nat → Int64) (mx : Nat → Int64) (mu : Int32) (mi : Int32) (mC : Nat → Int32) (mA : Nat → Int32) (mF : Nat → Int32) (mb : Int32) (mv : Nat → Int64) (mt : Int32) (hR : Rel upn upp upq upg upf upu urw urm urh url uro urt ura urb uth utr utf utw uto utg uts utp utq utl ush usl usn usc uxt uxf mf mn mp mq mg mz ms ml mc mh mw mm ma me mk mo mx mu mi mC mA mF mb mv mt) : ∃ (r_ : Int64), f_X9_fold K x1 upn = some (r_) ∧ f_X10_fold K x1 mn = some (r_) ∧ Rel upn upp upq upg upf upu urw urm urh url uro urt ura urb uth utr utf utw uto utg uts utp utq utl ush usl usn usc uxt uxf mf mn mp mq mg mz ms ml mc mh mw mm ma me mk mo mx mu mi mC mA mF mb mv mt := by
  have hR0 := hR
  obtain ⟨N, G, F, ⟨a1, a2, a3, a4, a5, a6, a7, a8, a9, a10, a11⟩, hRR, hRT, hRS, ht, hf⟩ := hR
  have hN32 : N ≤ 32 := by rcases a1 with rfl | rfl | rfl | rfl | rfl <;> omega
  have hN1 : Nok1 N := Or.inr a1
  subst a2; subst a3
  by_cases c : 0 ≤ x1.toInt ∧ x1.toInt ≤ (lN (2 ^ N - 1)).toInt
  · obtain ⟨X, rfl, hX⟩ := isRow_N hN32 c
    refine ⟨lN (FO N X), ?_, ?_, hR0⟩
    · rw [f_X9_fold, e_isRow K hN32, if_pos c, Option.bind_some, if_neg (show ¬ (1 : Int32) = 0 by decide), (e_fold9 K hK hN1 hX).1]; rfl
    · rw [f_X10_fold, e_all10 K hN32, Option.bind_some, e_in, j_0, if_pos c, Option.bind_some, if_neg (show ¬ (1 : Int32) = 0 by decide), e_fold10 K hK hN1 hX]; rfl
  · refine ⟨-9223372036854775808, ?_, ?_, hR0⟩
    · rw [f_X9_fold, e_isRow K hN32, if_neg c, Option.bind_some, if_pos rfl]
    · rw [f_X10_fold, e_all10 K hN32, Option.bind_some, e_in, j_0, if_neg c, Option.bind_some, if_pos rfl]; rfl
set_option maxHeartbeats 1000000 in
theorem q_wide (K : Nat) (hK : 200000 ≤ K) (x1 : Int32) (upn : Int32) (upp : Int32) (upq : Int32) (upg : Int64) (upf : Int64) (upu : Nat → Int64) (urw : Int32) (urm : Int64) (urh : Int32) (url : Int32) (uro : Int64) (urt : Int64) (ura : Nat → Int64) (urb : Nat → Int64) (uth : Int32) (utr : Int32) (utf : Int32) (utw : Nat → Int32) (uto : Nat → Int32) (utg : Nat → Int32) (uts : Nat → Int64) (utp : Nat → Int32) (utq : Nat → Int32) (utl : Nat → Int32) (ush : Nat → Int32) (usl : Nat → Int32) (usn : Nat → Int32) (usc : Nat → Nat → Int64) (uxt : Int32) (uxf : Int32) (mf : Int32) (mn : Int32) (mp : Int32) (mq : Int32) (mg : Nat → Int32) (mz : Nat → Int32) (ms : Nat → Int32) (ml : Nat → Int32) (mc : Nat → Int64) (mh : Nat → Int64) (mw : Int32) (mm : Int64) (ma : Int32) (me : Nat → Int32) (mk : Nat → Int32) (mo : Nat → Int64) (mx : Nat → Int64) (mu : Int32) (mi : Int32) (mC : Nat → Int32) (mA : Nat → Int32) (mF : Nat → Int32) (mb : Int32) (mv : Nat → Int64) (mt : Int32) (hR : Rel upn upp upq upg upf upu urw urm urh url uro urt ura urb uth utr utf utw uto utg uts utp utq utl ush usl usn usc uxt uxf mf mn mp mq mg mz ms ml mc mh mw mm ma me mk mo mx mu mi mC mA mF mb mv mt) : ∃ (r_ : Int32) (o_urw : Int32) (o_mw : Int32), f_X9_wide K x1 urw = some (r_, o_urw) ∧ f_X10_wide K x1 mw = some (r_, o_mw) ∧ Rel upn upp upq upg upf upu o_urw urm urh url uro urt ura urb uth utr utf utw uto utg uts utp utq utl ush usl usn usc uxt uxf mf mn mp mq mg mz ms ml mc mh o_mw mm ma me mk mo mx mu mi mC mA mF mb mv mt := by
  obtain ⟨N, G, F, hRP, ⟨⟨Wd, b1, b2, b3, b4⟩, b5, b6⟩, hRT, hRS, ht, hf⟩ := hR
  by_cases c : 1 ≤ x1.toInt ∧ x1.toInt ≤ 64
  · refine ⟨urw, x1, x1, by rw [e9_wide, if_pos c], by rw [e10_wide, if_pos c, b1, b2], N, G, F, hRP, ⟨?_, b5, b6⟩, hRT, hRS, ht, hf⟩
    obtain ⟨P, _, e1, e2⟩ := toN (x := x1) (by omega)
    exact ⟨P, e1, e1, by omega, by omega⟩
  · exact ⟨-2, urw, mw, by rw [e9_wide, if_neg c], by rw [e10_wide, if_neg c], N, G, F, hRP, ⟨⟨Wd, b1, b2, b3, b4⟩, b5, b6⟩, hRT, hRS, ht, hf⟩
set_option maxHeartbeats 1000000 in
theorem q_check (K : Nat) (hK : 200000 ≤ K) (x1 : Int64) (upn : Int32) (upp : Int32) (upq : Int32) (upg : Int64) (upf : Int64) (upu : Nat → Int64) (urw : Int32) (urm : Int64) (urh : Int32) (url : Int32) (uro : Int64) (urt : Int64) (ura : Nat → Int64) (urb : Nat → Int64) (uth : Int32) (utr : Int32) (utf : Int32) (utw : Nat → Int32) (uto : Nat → Int32) (utg : Nat → Int32) (uts : Nat → Int64) (utp : Nat → Int32) (utq : Nat → Int32) (utl : Nat → Int32) (ush : Nat → Int32) (usl : Nat → Int32) (usn : Nat → Int32) (usc : Nat → Nat → Int64) (uxt : Int32) (uxf : Int32) (mf : Int32) (mn : Int32) (mp : Int32) (mq : Int32) (mg : Nat → Int32) (mz : Nat → Int32) (ms : Nat → Int32) (ml : Nat → Int32) (mc : Nat → Int64) (mh : Nat → Int64) (mw : Int32) (mm : Int64) (ma : Int32) (me : Nat → Int32) (mk : Nat → Int32) (mo : Nat → Int64) (mx : Nat → Int64) (mu : Int32) (mi : Int32) (mC : Nat → Int32) (mA : Nat → Int32) (mF : Nat → Int32) (mb : Int32) (mv : Nat → Int64) (mt : Int32) (hR : Rel upn upp upq upg upf upu urw urm urh url uro urt ura urb uth utr utf utw uto utg uts utp utq utl ush usl usn usc uxt uxf mf mn mp mq mg mz ms ml mc mh mw mm ma me mk mo mx mu mi mC mA mF mb mv mt) : ∃ (r_ : Int32) (o_urm : Int64) (o_mm : Int64), f_X9_check K x1 urm = some (r_, o_urm) ∧ f_X10_check K x1 mm = some (r_, o_mm) ∧ Rel upn upp upq upg upf upu urw o_urm urh url uro urt ura urb uth utr utf utw uto utg uts utp utq utl ush usl usn usc uxt uxf mf mn mp mq mg mz ms ml mc mh mw o_mm ma me mk mo mx mu mi mC mA mF mb mv mt := by
  obtain ⟨N, G, F, hRP, ⟨b1, b5, b6⟩, hRT, hRS, ht, hf⟩ := hR
  by_cases c : 0 ≤ x1.toInt ∧ x1.toInt ≤ 4294967295
  · refine ⟨1, x1, x1, by rw [e9_check, if_pos c], by rw [e10_check, if_pos c], N, G, F, hRP, ⟨b1, ?_, b6⟩, hRT, hRS, ht, hf⟩
    obtain ⟨P, _, e1, e2⟩ := toL (x := x1) (by omega)
    exact ⟨P, e1, e1, by omega⟩
  · exact ⟨-2, urm, mm, by rw [e9_check, if_neg c], by rw [e10_check, if_neg c], N, G, F, hRP, ⟨b1, b5, b6⟩, hRT, hRS, ht, hf⟩
set_option maxHeartbeats 1000000 in
theorem q_read (K : Nat) (hK : 200000 ≤ K) (x1 : Int32) (x2 : Int32) (zA zB : Nat) (upn : Int32) (upp : Int32) (upq : Int32) (upg : Int64) (upf : Int64) (upu : Nat → Int64) (urw : Int32) (urm : Int64) (urh : Int32) (url : Int32) (uro : Int64) (urt : Int64) (ura : Nat → Int64) (urb : Nat → Int64) (uth : Int32) (utr : Int32) (utf : Int32) (utw : Nat → Int32) (uto : Nat → Int32) (utg : Nat → Int32) (uts : Nat → Int64) (utp : Nat → Int32) (utq : Nat → Int32) (utl : Nat → Int32) (ush : Nat → Int32) (usl : Nat → Int32) (usn : Nat → Int32) (usc : Nat → Nat → Int64) (uxt : Int32) (uxf : Int32) (mf : Int32) (mn : Int32) (mp : Int32) (mq : Int32) (mg : Nat → Int32) (mz : Nat → Int32) (ms : Nat → Int32) (ml : Nat → Int32) (mc : Nat → Int64) (mh : Nat → Int64) (mw : Int32) (mm : Int64) (ma : Int32) (me : Nat → Int32) (mk : Nat → Int32) (mo : Nat → Int64) (mx : Nat → Int64) (mu : Int32) (mi : Int32) (mC : Nat → Int32) (mA : Nat → Int32) (mF : Nat → Int32) (mb : Int32) (mv : Nat → Int64) (mt : Int32) (hR : Rel upn upp upq upg upf upu urw urm urh url uro urt ura urb uth utr utf utw uto utg uts utp utq utl ush usl usn usc uxt uxf mf mn mp mq mg mz ms ml mc mh mw mm ma me mk mo mx mu mi mC mA mF mb mv mt) : ∃ (r_ : Int32) (o_uxf : Int32) (o_urh : Int32) (o_url : Int32) (o_zA : Nat) (o_zB : Nat) (o_uro : Int64) (o_urt : Int64) (o_ura : Nat → Int64) (o_urb : Nat → Int64) (o_mf : Int32) (o_ma : Int32) (o_mu : Int32) (o_me : Nat → Int32) (o_mo : Nat → Int64) (o_mk : Nat → Int32) (o_mx : Nat → Int64), f_X9_read K x1 x2 upn upg upf urw urh url zA zB uro urt ura urb ush usl usn usc = some (r_, o_uxf, o_urh, o_url, o_zA, o_zB, o_uro, o_urt, o_ura, o_urb) ∧ f_X10_read K x1 x2 mn mw ma mu ms ml mc me mo mk mg mz mx = some (r_, o_mf, o_ma, o_mu, o_me, o_mo, o_mk, o_mx) ∧ Rel upn upp upq upg upf upu urw urm o_urh o_url o_uro o_urt o_ura o_urb uth utr utf utw uto utg uts utp utq utl ush usl usn usc uxt o_uxf o_mf mn mp mq mg mz ms ml mc mh mw mm o_ma o_me o_mk o_mo o_mx o_mu mi mC mA mF mb mv mt := by
  have hR0 := hR
  obtain ⟨N, G, F, ⟨a1, a2, a3, a4, a5, a6, a7, a8, a9, a10, a11⟩, ⟨⟨Wd, w1, w2, w3, w4⟩, b2, b3⟩, hRT, hRS, ht, hf⟩ := hR
  have hN32 : N ≤ 32 := by rcases a1 with rfl | rfl | rfl | rfl | rfl <;> omega
  have hN2 : 2 ≤ N := by rcases a1 with rfl | rfl | rfl | rfl | rfl <;> omega
  subst a2; subst a3; subst a4; subst a5; subst w1; subst w2
  have hRP : RP N G F (nI N) upp upq (lN G) (lN F) (nI N) mp mq mg mz := ⟨a1, rfl, rfl, rfl, rfl, a6, a7, a8, a9, a10, a11⟩
  have z1 : ¬ (1 : Int32) = 0 := by decide
  by_cases c : 0 ≤ x1.toInt ∧ x1.toInt ≤ 3
  · obtain ⟨k, hk, rfl, e1⟩ := toN (x := x1) c.1
    have hk4 : k < 4 := by omega
    by_cases c2' : 0 ≤ x2.toInt ∧ x2.toInt ≤ 2
    · have hin : f_X10_in K (Int32.toInt64 x2) 0 2 = some 1 := by rw [e_in, Int32.toInt_toInt64, j_0, j_2, if_pos c2']
      obtain ⟨r, r1, r2, r3⟩ := e_flaw K hN32 hN2 hk4 x2 hRS
      rcases r3 with ⟨rfl, hcell⟩ | r3
      · have hO := rb_lt (c1 (usc k)) N
        have hL := rb_lt (c2 (usc k)) N
        have hlay := e_lay K hK hN32 hk4 mc (usc k) hcell me
        have hseen : ∀ j, j < N → (fun j => if 0 ≤ j ∧ j < N then tv (c1 (usc k) j) (c2 (usc k) j) else me j) j = tv ((rowOfB (c1 (usc k)) N).testBit j) ((rowOfB (c2 (usc k)) N).testBit j) := fun j hj => by
          show (if 0 ≤ j ∧ j < N then tv (c1 (usc k) j) (c2 (usc k) j) else me j) = _
          rw [if_pos ⟨by omega, hj⟩, rb_b, rb_b, decide_eq_true hj, Bool.true_and, Bool.true_and]
        have hA0 : AG (vp_updL ura 0 0) (vp_updL mo 0 0) 1 := by
          intro j hj
          have : j = 0 := by omega
          subst this
          exact ⟨0, by decide, rfl, rfl⟩
        obtain ⟨c', zA', zB', pa', nx', mo', nx10', w', come', q1, q2, q3, q4⟩ := l_read K hK a1 a6 a7 hO hL (c12 (usc k) N) _ hseen w4 mg mz a10 a11 N 0 K 1 zA zB (vp_updL ura 0 0) urb (vp_updL mo 0 0) mx mk mu (by omega) (by omega) (by decide) hA0
        have h9 : f_X9_read K (nI k) x2 (nI N) (lN G) (lN F) (nI Wd) urh url zA zB uro urt ura urb ush usl usn usc = some (nI c', 0, 1, nI c', zA', zB', lN (rowOfB (c1 (usc k)) N), lN (rowOfB (c2 (usc k)) N), pa', nx') := by
          have q1' : fL_X5_readRow_26 K (nI Wd) (lN (rowOfB (c1 (usc k)) N)) (lN (rowOfB (c2 (usc k)) N)) (nI N) (lN G) (lN F) K (0, 1, zA, zB, vp_updL ura 0 0, urb) = some (nI N, nI c', zA', zB', pa', nx') := q1
          have q0 : f_X5_readRow K (lN (rowOfB (c1 (usc k)) N)) (lN (rowOfB (c2 (usc k)) N)) (nI Wd) zA zB ura (nI N) (lN G) (lN F) urb = some (1, nI c', zA', zB', lN (rowOfB (c1 (usc k)) N), lN (rowOfB (c2 (usc k)) N), pa', nx') := by
            rw [f_X5_readRow, show gIx (α := Int32 × Int32 × Nat × Nat × Int64 × Int64 × (Nat → Int64) × (Nat → Int64)) 0 64 = fun x => x from funext fun x => gIx_nI (i := 0) x (by decide) (by decide), gLet, show Int32.toNatClampNeg 0 = 0 from rfl, q1']
            rfl
          rw [f_X9_read, e9_isSheet, if_pos c, Option.bind_some, if_neg z1, e9_isLane, if_pos c2', Option.bind_some, if_neg z1, gIx_nI _ hk4 (by decide), gLet, tnN hk, r1, Option.bind_some, if_pos rfl, e_onesR K hK hN32, Option.bind_some, e_lostR K hK hN32, Option.bind_some, q0]
          rfl
        have h10 : f_X10_read K (nI k) x2 (nI N) (nI Wd) ma mu ms ml mc me mo mk mg mz mx = some (nI c', 0, nI c', come', (fun j => if 0 ≤ j ∧ j < N then tv (c1 (usc k) j) (c2 (usc k) j) else me j), mo', w', nx10') := by
          have q2' : fL_X10_read_69 K (nI N) (nI Wd) (fun j => if 0 ≤ j ∧ j < N then tv (c1 (usc k) j) (c2 (usc k) j) else me j) mg mz K (0, 1, mu, vp_updL mo 0 0, mk, mx) = some (nI N, nI c', come', mo', w', nx10') := q2
          rw [f_X10_read, e10_noSheet, if_pos c, Option.bind_some, if_pos rfl, hin, Option.bind_some, if_neg z1, r2, Option.bind_some, if_pos (show (0 : Int32) ≤ 0 by decide), hlay, Option.bind_some, show gIx (α := Int32 × Int32 × Int32 × Int32 × (Nat → Int32) × (Nat → Int64) × (Nat → Int32) × (Nat → Int64)) 0 64 = fun x => x from funext fun x => gIx_nI (i := 0) x (by decide) (by decide), gLet, show Int32.toNatClampNeg 0 = 0 from rfl, q2']
          rfl
        exact ⟨_, _, _, _, _, _, _, _, _, _, _, _, _, _, _, _, _, h9, h10, N, G, F, hRP, ⟨⟨Wd, rfl, rfl, w3, w4⟩, b2, Or.inr ⟨rfl, c', q3, rfl, rfl, q4⟩⟩, hRT, hRS, ht, rfl⟩
      · have hr0 : ¬ r = 0 ∧ ¬ r ≤ 0 := by rcases r3 with rfl | rfl | rfl <;> decide
        refine ⟨-10 - r, r, urh, url, zA, zB, uro, urt, ura, urb, r, ma, mu, me, mo, mk, mx, ?_, ?_, N, G, F, hRP, ⟨⟨Wd, rfl, rfl, w3, w4⟩, b2, b3⟩, hRT, hRS, ht, rfl⟩
        · rw [f_X9_read, e9_isSheet, if_pos c, Option.bind_some, if_neg z1, e9_isLane, if_pos c2', Option.bind_some, if_neg z1, gIx_nI _ hk4 (by decide), gLet, tnN hk, r1, Option.bind_some, if_neg hr0.1]; rfl
        · rw [f_X10_read, e10_noSheet, if_pos c, Option.bind_some, if_pos rfl, hin, Option.bind_some, if_neg z1, r2, Option.bind_some, if_neg hr0.2]; rfl
    · have hin : f_X10_in K (Int32.toInt64 x2) 0 2 = some 0 := by rw [e_in, Int32.toInt_toInt64, j_0, j_2, if_neg c2']
      refine ⟨-2, 0, urh, url, zA, zB, uro, urt, ura, urb, 0, ma, mu, me, mo, mk, mx, ?_, ?_, N, G, F, hRP, ⟨⟨Wd, rfl, rfl, w3, w4⟩, b2, b3⟩, hRT, hRS, ht, rfl⟩
      · rw [f_X9_read, e9_isSheet, if_pos c, Option.bind_some, if_neg z1, e9_isLane, if_neg c2', Option.bind_some, if_pos rfl]; rfl
      · rw [f_X10_read, e10_noSheet, if_pos c, Option.bind_some, if_pos rfl, hin, Option.bind_some, if_pos rfl]; rfl
  · refine ⟨-1, 0, urh, url, zA, zB, uro, urt, ura, urb, 0, ma, mu, me, mo, mk, mx, ?_, ?_, N, G, F, hRP, ⟨⟨Wd, rfl, rfl, w3, w4⟩, b2, b3⟩, hRT, hRS, ht, rfl⟩
    · rw [f_X9_read, e9_isSheet, if_neg c, Option.bind_some, if_pos rfl]; rfl
    · rw [f_X10_read, e10_noSheet, if_neg c, Option.bind_some, if_neg z1]; rfl
set_option maxHeartbeats 1000000 in
theorem q_path (K : Nat) (hK : 200000 ≤ K) (x1 : Int32) (upn : Int32) (upp : Int32) (upq : Int32) (upg : Int64) (upf : Int64) (upu : Nat → Int64) (urw : Int32) (urm : Int64) (urh : Int32) (url : Int32) (uro : Int64) (urt : Int64) (ura : Nat → Int64) (urb : Nat → Int64) (uth : Int32) (utr : Int32) (utf : Int32) (utw : Nat → Int32) (uto : Nat → Int32) (utg : Nat → Int32) (uts : Nat → Int64) (utp : Nat → Int32) (utq : Nat → Int32) (utl : Nat → Int32) (ush : Nat → Int32) (usl : Nat → Int32) (usn : Nat → Int32) (usc : Nat → Nat → Int64) (uxt : Int32) (uxf : Int32) (mf : Int32) (mn : Int32) (mp : Int32) (mq : Int32) (mg : Nat → Int32) (mz : Nat → Int32) (ms : Nat → Int32) (ml : Nat → Int32) (mc : Nat → Int64) (mh : Nat → Int64) (mw : Int32) (mm : Int64) (ma : Int32) (me : Nat → Int32) (mk : Nat → Int32) (mo : Nat → Int64) (mx : Nat → Int64) (mu : Int32) (mi : Int32) (mC : Nat → Int32) (mA : Nat → Int32) (mF : Nat → Int32) (mb : Int32) (mv : Nat → Int64) (mt : Int32) (hR : Rel upn upp upq upg upf upu urw urm urh url uro urt ura urb uth utr utf utw uto utg uts utp utq utl ush usl usn usc uxt uxf mf mn mp mq mg mz ms ml mc mh mw mm ma me mk mo mx mu mi mC mA mF mb mv mt) : ∃ (r_ : Int64), f_X9_path K x1 urh url ura upn upg = some (r_) ∧ f_X10_path K x1 mn ma mo mg = some (r_) ∧ Rel upn upp upq upg upf upu urw urm urh url uro urt ura urb uth utr utf utw uto utg uts utp utq utl ush usl usn usc uxt uxf mf mn mp mq mg mz ms ml mc mh mw mm ma me mk mo mx mu mi mC mA mF mb mv mt := by
  have hR0 := hR
  obtain ⟨N, G, F, ⟨a1, a2, a3, a4, a5, a6, a7, a8, a9, a10, a11⟩, ⟨b1, b2, b3⟩, hRT, hRS, ht, hf⟩ := hR
  have hN32 : N ≤ 32 := by rcases a1 with rfl | rfl | rfl | rfl | rfl <;> omega
  have hp32 : 2 ^ N ≤ 2 ^ 32 := Nat.pow_le_pow_right (by decide) hN32
  subst a2; subst a3; subst a4; subst a5
  rcases b3 with ⟨rfl, rfl⟩ | ⟨rfl, c, hc, rfl, rfl, hj⟩
  · refine ⟨-9223372036854775808, ?_, ?_, hR0⟩
    · rw [f_X9_path, f_X5_hasPath, if_pos rfl, Option.bind_some, if_pos rfl]
    · rw [f_X10_path, if_pos (show (-9 : Int32) < 0 by decide)]; rfl
  · have hci : (nI c).toInt = (c : Int) := nI_toInt (by omega)
    have e9 : f_X5_hasPath K x1 1 (nI c) = some (if 0 ≤ x1.toInt ∧ x1.toInt < c then 1 else 0) := by
      unfold f_X5_hasPath
      simp only [ltI, leI, i_0, hci]
      rw [if_neg (show ¬ (1 : Int32) = 0 by decide)]
      repeat' split
      all_goals first | rfl | (exfalso; omega)
    have e10 : f_X10_in K (Int32.toInt64 x1) 0 (Int32.toInt64 (nI c) - 1) = some (if 0 ≤ x1.toInt ∧ x1.toInt < c then 1 else 0) := by
      have e : (Int32.toInt64 (nI c) - 1).toInt = (c : Int) - 1 := by
        rw [nI_l (by omega)]
        have h1 : (lN c).toInt = (c : Int) := lN_toInt (by omega)
        have h2 := fb_subL (x := lN c) (y := 1) (by rw [h1, j_1]; omega) (by rw [h1, j_1]; omega)
        rw [h2, h1, j_1]
      rw [e_in, Int32.toInt_toInt64, j_0, e]
      repeat' split
      all_goals first | rfl | (exfalso; omega)
    have hneg : ¬ nI c < (0 : Int32) := by rw [ltI, hci, i_0]; omega
    by_cases q : 0 ≤ x1.toInt ∧ x1.toInt < c
    · obtain ⟨i, hi, rfl, e2⟩ := toN (x := x1) q.1
      have hic : i < c := by omega
      obtain ⟨R, r1, r2, r3⟩ := hj i hic
      refine ⟨lN (mgN G R N), ?_, ?_, hR0⟩
      · rw [f_X9_path, e9, if_pos q, Option.bind_some, if_neg (show ¬ (1 : Int32) = 0 by decide), f_X5_rowOf, gIx_nI _ (show i < 64 by omega) (by decide), tnN hi, r2, Option.bind_some, e_mgIn K hK hN32 (by omega) (by omega)]; rfl
      · rw [f_X10_path, if_neg hneg, e10, if_pos q, Option.bind_some, if_neg (show ¬ (1 : Int32) = 0 by decide), gIx_nI _ (show i < 64 by omega) (by decide), tnN hi, r3, e_mgOf K hK hN32 (by omega) a10]; rfl
    · refine ⟨-9223372036854775808, ?_, ?_, hR0⟩
      · rw [f_X9_path, e9, if_neg q, Option.bind_some, if_pos rfl]
      · rw [f_X10_path, if_neg hneg, e10, if_neg q, Option.bind_some, if_pos rfl]; rfl
set_option maxHeartbeats 1000000 in
theorem q_passed (K : Nat) (hK : 200000 ≤ K) (upn : Int32) (upp : Int32) (upq : Int32) (upg : Int64) (upf : Int64) (upu : Nat → Int64) (urw : Int32) (urm : Int64) (urh : Int32) (url : Int32) (uro : Int64) (urt : Int64) (ura : Nat → Int64) (urb : Nat → Int64) (uth : Int32) (utr : Int32) (utf : Int32) (utw : Nat → Int32) (uto : Nat → Int32) (utg : Nat → Int32) (uts : Nat → Int64) (utp : Nat → Int32) (utq : Nat → Int32) (utl : Nat → Int32) (ush : Nat → Int32) (usl : Nat → Int32) (usn : Nat → Int32) (usc : Nat → Nat → Int64) (uxt : Int32) (uxf : Int32) (mf : Int32) (mn : Int32) (mp : Int32) (mq : Int32) (mg : Nat → Int32) (mz : Nat → Int32) (ms : Nat → Int32) (ml : Nat → Int32) (mc : Nat → Int64) (mh : Nat → Int64) (mw : Int32) (mm : Int64) (ma : Int32) (me : Nat → Int32) (mk : Nat → Int32) (mo : Nat → Int64) (mx : Nat → Int64) (mu : Int32) (mi : Int32) (mC : Nat → Int32) (mA : Nat → Int32) (mF : Nat → Int32) (mb : Int32) (mv : Nat → Int64) (mt : Int32) (hR : Rel upn upp upq upg upf upu urw urm urh url uro urt ura urb uth utr utf utw uto utg uts utp utq utl ush usl usn usc uxt uxf mf mn mp mq mg mz ms ml mc mh mw mm ma me mk mo mx mu mi mC mA mF mb mv mt) : ∃ (r_ : Int32), f_X9_passed K urm urh url upn upg ura = some (r_) ∧ f_X10_passed K mn mm ma mo mg = some (r_) ∧ Rel upn upp upq upg upf upu urw urm urh url uro urt ura urb uth utr utf utw uto utg uts utp utq utl ush usl usn usc uxt uxf mf mn mp mq mg mz ms ml mc mh mw mm ma me mk mo mx mu mi mC mA mF mb mv mt := by
  have hR0 := hR
  obtain ⟨N, G, F, ⟨a1, a2, a3, a4, a5, a6, a7, a8, a9, a10, a11⟩, ⟨b1, ⟨M, m1, m2, m3⟩, b3⟩, hRT, hRS, ht, hf⟩ := hR
  have hN32 : N ≤ 32 := by rcases a1 with rfl | rfl | rfl | rfl | rfl <;> omega
  have hp32 : 2 ^ N ≤ 2 ^ 32 := Nat.pow_le_pow_right (by decide) hN32
  subst a2; subst a3; subst a4; subst a5; subst m1; subst m2
  rcases b3 with ⟨rfl, rfl⟩ | ⟨rfl, c, hc, rfl, rfl, hj⟩
  · refine ⟨-3, ?_, ?_, hR0⟩
    · rw [f_X9_passed, if_pos rfl]
    · rw [f_X10_passed, if_neg (show ¬ (0 : Int32) ≤ -9 by decide)]
  · have hci : (nI c).toInt = (c : Int) := nI_toInt (by omega)
    obtain ⟨r, h1, h2⟩ := l_passed K hK N G M c hN32 hc m3 a10 ura mo hj c 0 K (by omega) (by omega)
    have h1' : fL_X5_firstThatMeetsCheck_12 K (lN (spN G M N)) (nI c) ura K 0 = some r := h1
    have h2' : fL_X10_passed_12 K (nI N) (lN M) (nI c) mo mg K 0 = some r := h2
    refine ⟨r, ?_, ?_, hR0⟩
    · rw [f_X9_passed, if_neg (show ¬ (1 : Int32) = 0 by decide), f_X5_firstThatMeetsCheck, e_spread K hK hN32 (by omega) (by omega), Option.bind_some, h1']; rfl
    · rw [f_X10_passed, if_pos (show (0 : Int32) ≤ nI c by rw [leI, i_0, hci]; omega), h2']
set_option maxHeartbeats 1000000 in
theorem q_nearest (K : Nat) (hK : 200000 ≤ K) (x1 : Int32) (x2 : Int32) (x3 : Int32) (upn : Int32) (upp : Int32) (upq : Int32) (upg : Int64) (upf : Int64) (upu : Nat → Int64) (urw : Int32) (urm : Int64) (urh : Int32) (url : Int32) (uro : Int64) (urt : Int64) (ura : Nat → Int64) (urb : Nat → Int64) (uth : Int32) (utr : Int32) (utf : Int32) (utw : Nat → Int32) (uto : Nat → Int32) (utg : Nat → Int32) (uts : Nat → Int64) (utp : Nat → Int32) (utq : Nat → Int32) (utl : Nat → Int32) (ush : Nat → Int32) (usl : Nat → Int32) (usn : Nat → Int32) (usc : Nat → Nat → Int64) (uxt : Int32) (uxf : Int32) (mf : Int32) (mn : Int32) (mp : Int32) (mq : Int32) (mg : Nat → Int32) (mz : Nat → Int32) (ms : Nat → Int32) (ml : Nat → Int32) (mc : Nat → Int64) (mh : Nat → Int64) (mw : Int32) (mm : Int64) (ma : Int32) (me : Nat → Int32) (mk : Nat → Int32) (mo : Nat → Int64) (mx : Nat → Int64) (mu : Int32) (mi : Int32) (mC : Nat → Int32) (mA : Nat → Int32) (mF : Nat → Int32) (mb : Int32) (mv : Nat → Int64) (mt : Int32) (hR : Rel upn upp upq upg upf upu urw urm urh url uro urt ura urb uth utr utf utw uto utg uts utp utq utl ush usl usn usc uxt uxf mf mn mp mq mg mz ms ml mc mh mw mm ma me mk mo mx mu mi mC mA mF mb mv mt) : ∃ (r_ : Int64) (o_uxf : Int32) (o_uts : Nat → Int64) (o_mf : Int32) (o_me : Nat → Int32), f_X9_nearest K x1 x2 x3 upn upg upf uts ush usl usn usc = some (r_, o_uxf, o_uts) ∧ f_X10_nearest K x1 x2 x3 mn mg ms ml mc me mz = some (r_, o_mf, o_me) ∧ Rel upn upp upq upg upf upu urw urm urh url uro urt ura urb uth utr utf utw uto utg o_uts utp utq utl ush usl usn usc uxt o_uxf o_mf mn mp mq mg mz ms ml mc mh mw mm ma o_me mk mo mx mu mi mC mA mF mb mv mt := by
  obtain ⟨N, G, F, ⟨a1, a2, a3, a4, a5, a6, a7, a8, a9, a10, a11⟩, hRR, hRT, hRS, ht, hf⟩ := hR
  have hN32 : N ≤ 32 := by rcases a1 with rfl | rfl | rfl | rfl | rfl <;> omega
  have hN2 : 2 ≤ N := by rcases a1 with rfl | rfl | rfl | rfl | rfl <;> omega
  have hp32 : 2 ^ N ≤ 2 ^ 32 := Nat.pow_le_pow_right (by decide) hN32
  have hN1 : Nok1 N := Or.inr a1
  subst a2; subst a3; subst a4; subst a5
  have hRP : RP N G F (nI N) upp upq (lN G) (lN F) (nI N) mp mq mg mz := ⟨a1, rfl, rfl, rfl, rfl, a6, a7, a8, a9, a10, a11⟩
  have z1 : ¬ (1 : Int32) = 0 := by decide
  have hlost : f_X10_lost K = some (-9223372036854775808) := rfl
  by_cases c : 0 ≤ x1.toInt ∧ x1.toInt ≤ 3
  · obtain ⟨k, hk, rfl, e1⟩ := toN (x := x1) c.1
    have hk4 : k < 4 := by omega
    by_cases c2' : 0 ≤ x2.toInt ∧ x2.toInt ≤ 2
    · have hin : f_X10_in K (Int32.toInt64 x2) 0 2 = some 1 := by rw [e_in, Int32.toInt_toInt64, j_0, j_2, if_pos c2']
      by_cases c3' : 0 ≤ x3.toInt ∧ x3.toInt ≤ 1
      · have hin3 : f_X10_in K (Int32.toInt64 x3) 0 1 = some 1 := by rw [e_in, Int32.toInt_toInt64, j_0, j_1, if_pos c3']
        have hpG := pc_le N G
        by_cases c4 : pcN N G ≤ 12
        · have c4' : nI (pcN N G) ≤ (12 : Int32) := nI_le (b := 12) c4 (by decide)
          obtain ⟨r, r1, r2, r3⟩ := e_flaw K hN32 hN2 hk4 x2 hRS
          rcases r3 with ⟨rfl, hcell⟩ | r3
          · have hO := rb_lt (c1 (usc k)) N
            have hlay := e_lay K hK hN32 hk4 mc (usc k) hcell me
            have hseen : ∀ j, j < N → (fun j => if 0 ≤ j ∧ j < N then tv (c1 (usc k) j) (c2 (usc k) j) else me j) j = tv ((rowOfB (c1 (usc k)) N).testBit j) ((rowOfB (c2 (usc k)) N).testBit j) := fun j hj => by
              show (if 0 ≤ j ∧ j < N then tv (c1 (usc k) j) (c2 (usc k) j) else me j) = _
              rw [if_pos ⟨by omega, hj⟩, rb_b, rb_b, decide_eq_true hj, Bool.true_and, Bool.true_and]
            generalize hOd : rowOfB (c1 (usc k)) N = O at *
            generalize hLd : rowOfB (c2 (usc k)) N = L at *
            obtain ⟨ts', p1, p2⟩ := e_prep K hK hN1 (show G < 2 ^ 64 by omega) uts
            have hcp : 2 ^ pcN N G ≤ 2 ^ 12 := Nat.pow_le_pow_right (by decide) c4
            have hp0 := Nat.two_pow_pos (pcN N G)
            obtain ⟨K', hK'⟩ : ∃ K', K = K' + 1 := ⟨K - 1, by omega⟩
            obtain ⟨b, w', hb, q1, q2⟩ := l_near K hK hN1 a7 hO a8 rfl c4 a10 a11 hseen ts' p2 (2 ^ pcN N G - 1) 1 K K' 0 (by omega) (by omega) (by omega) (by omega) (by omega)
            have hul0 := ul_le N O L (wB (FO N F) G N 0)
            have hulb := ul_le N O L (wB (FO N F) G N b)
            have hw0 : wdN N G F 0 = wB (FO N F) G N 0 := wd_wB hN1 a8 0
            have hwb : wdN N G F b = wB (FO N F) G N b := wd_wB hN1 a8 b
            have l0 := wB_lt (B := FO N F) (G := G) (m := 0) hN1 (FO_lt hN1 a7)
            have lb := wB_lt (B := FO N F) (G := G) (m := b) hN1 (FO_lt hN1 a7)
            have v0 : (wB (FO N F) G N 0 ^^^ O) &&& tlN N L < 2 ^ N := Nat.lt_of_le_of_lt Nat.and_le_left (Nat.xor_lt_two_pow l0 hO)
            have vb : (wB (FO N F) G N b ^^^ O) &&& tlN N L < 2 ^ N := Nat.lt_of_le_of_lt Nat.and_le_left (Nat.xor_lt_two_pow lb hO)
            have q2' : fL_X10_nearest_82 K (nI N) mg (fun j => if 0 ≤ j ∧ j < N then tv (c1 (usc k) j) (c2 (usc k) j) else me j) mz K (0, 99, 0) = some (lN (2 ^ pcN N G), nI (ulN N O L (wB (FO N F) G N b)), lN b) := by
              have s0 := l_nearM K hK hN1 a7 a8 rfl c4 a10 a11 hseen K' 0 99 0 hp0
              rw [if_neg (show ¬ (99 : Int32) ≤ nI (ulN N O L (wB (FO N F) G N 0)) from nI_ge (b := 99) (by omega) (by decide)), q2] at s0
              rw [← hK'] at s0
              exact s0
            have q1' : fL_X7_nearestMessage_45 K (nI (2 ^ pcN N G)) (lN O) (lN (tlN N L)) ts' K (1, 0, nI (ulN N O L (wB (FO N F) G N 0)), lN (wB (FO N F) G N 0)) = some (nI (2 ^ pcN N G), nI b, nI (ulN N O L (wB (FO N F) G N b)), w') := q1
            have q0 : f_X7_nearestMessage K (lN O) (lN (tlN N L)) (nI N) (lN G) (lN F) uts = some (lN b, ts') := by
              have hw00 : f_X4_wordOf K 0 (nI N) (lN G) (lN F) = some (lN (wB (FO N F) G N 0)) := by
                have := (e_wordOf K hK (M := 0) hN1 (show G < 2 ^ 64 by omega) a7 (by decide)).1
                rw [hw0] at this
                exact this
              rw [f_X7_nearestMessage, p1, Option.bind_some, hw00, Option.bind_some, fb_xorL, fb_andL, e_bcN K hN32 v0, Option.bind_some, e_goodCount K (by omega), pc_lt hN32 a6, Option.bind_some, gLet, shl_N31 _ (by omega)]
              have q1'' : fL_X7_nearestMessage_45 K (nI (2 ^ pcN N G)) (lN O) (lN (tlN N L)) ts' K (1, 0, nI (pcN N ((wB (FO N F) G N 0 ^^^ O) &&& tlN N L)), lN (wB (FO N F) G N 0)) = some (nI (2 ^ pcN N G), nI b, nI (ulN N O L (wB (FO N F) G N b)), w') := q1'
              rw [q1'', Option.bind_some]
              dsimp only
              rw [nI_l (by omega)]
            have e9 : f_X9_nearest K (nI k) x2 x3 (nI N) (lN G) (lN F) uts ush usl usn usc = if x3 = 0 then some (lN b, 0, ts') else some (lN (ulN N O L (wB (FO N F) G N b)), 0, ts') := by
              have ho : f_X6_ones K (nI N) (usc k) = some (lN O) := by rw [e_onesR K hK hN32, hOd]
              have hl : f_X6_lostSigns K (nI N) (usc k) = some (lN L) := by rw [e_lostR K hK hN32, hLd]
              have hwbb : f_X4_wordOf K (lN b) (nI N) (lN G) (lN F) = some (lN (wB (FO N F) G N b)) := by
                have := (e_wordOf K hK (M := b) hN1 (show G < 2 ^ 64 by omega) a7 (by omega)).1
                rw [hwb] at this
                exact this
              have htl : lN (2 ^ N - 1) &&& (lN L ^^^ -1) = lN (tlN N L) := by rw [e_m1, fb_xorL, fb_andL]; rfl
              rw [f_X9_nearest, e9_isSheet, if_pos c, Option.bind_some, if_neg z1, e9_isLane, if_pos c2', Option.bind_some, if_neg z1, e9_isBit, if_pos c3', Option.bind_some, if_neg z1, e_goodCount K (by omega), pc_lt hN32 a6, Option.bind_some, if_pos c4', gIx_nI _ hk4 (by decide), gLet, tnN hk, r1, Option.bind_some, if_pos rfl, ho, Option.bind_some, e_all9 K hN32, Option.bind_some, hl, Option.bind_some, gLet, htl, q0, Option.bind_some]
              dsimp only
              rw [hwbb, Option.bind_some, fb_xorL, fb_andL, e_bcN K hN32 vb, Option.bind_some, nI_l (show pcN N ((wB (FO N F) G N b ^^^ O) &&& tlN N L) < 2 ^ 31 by have : pcN N ((wB (FO N F) G N b ^^^ O) &&& tlN N L) ≤ N := hulb; omega)]
              rfl
            have e10 : f_X10_nearest K (nI k) x2 x3 (nI N) mg ms ml mc me mz = if x3 = 0 then some (lN b, 0, fun j => if 0 ≤ j ∧ j < N then tv (c1 (usc k) j) (c2 (usc k) j) else me j) else some (lN (ulN N O L (wB (FO N F) G N b)), 0, fun j => if 0 ≤ j ∧ j < N then tv (c1 (usc k) j) (c2 (usc k) j) else me j) := by
              rw [f_X10_nearest, e10_noSheet, if_pos c, Option.bind_some, if_pos rfl, hin, Option.bind_some, if_neg z1, hin3, Option.bind_some, if_neg z1, e_goods K N G hK mg hN32 a10, Option.bind_some, if_pos c4', r2, Option.bind_some, if_pos (show (0 : Int32) ≤ 0 by decide), hlay, Option.bind_some, q2', Option.bind_some]
              dsimp only
              rw [nI_l (by omega)]
            by_cases x3z : x3 = 0
            · rw [if_pos x3z] at e9 e10
              exact ⟨_, _, _, _, _, e9, e10, N, G, F, hRP, hRR, hRT, hRS, ht, rfl⟩
            · rw [if_neg x3z] at e9 e10
              exact ⟨_, _, _, _, _, e9, e10, N, G, F, hRP, hRR, hRT, hRS, ht, rfl⟩
          · have hr0 : ¬ r = 0 ∧ ¬ r ≤ 0 := by rcases r3 with rfl | rfl | rfl <;> decide
            refine ⟨-9223372036854775808, r, uts, r, me, ?_, ?_, N, G, F, hRP, hRR, hRT, hRS, ht, rfl⟩
            · rw [f_X9_nearest, e9_isSheet, if_pos c, Option.bind_some, if_neg z1, e9_isLane, if_pos c2', Option.bind_some, if_neg z1, e9_isBit, if_pos c3', Option.bind_some, if_neg z1, e_goodCount K (by omega), pc_lt hN32 a6, Option.bind_some, if_pos c4', gIx_nI _ hk4 (by decide), gLet, tnN hk, r1, Option.bind_some, if_neg hr0.1]
            · rw [f_X10_nearest, e10_noSheet, if_pos c, Option.bind_some, if_pos rfl, hin, Option.bind_some, if_neg z1, hin3, Option.bind_some, if_neg z1, e_goods K N G hK mg hN32 a10, Option.bind_some, if_pos c4', r2, Option.bind_some, if_neg hr0.2]; rfl
        · have c4' : ¬ nI (pcN N G) ≤ (12 : Int32) := nI_ge (a := 12) (by omega) (by omega)
          refine ⟨-9223372036854775808, 0, uts, 0, me, ?_, ?_, N, G, F, hRP, hRR, hRT, hRS, ht, rfl⟩
          · rw [f_X9_nearest, e9_isSheet, if_pos c, Option.bind_some, if_neg z1, e9_isLane, if_pos c2', Option.bind_some, if_neg z1, e9_isBit, if_pos c3', Option.bind_some, if_neg z1, e_goodCount K (by omega), pc_lt hN32 a6, Option.bind_some, if_neg c4']
          · rw [f_X10_nearest, e10_noSheet, if_pos c, Option.bind_some, if_pos rfl, hin, Option.bind_some, if_neg z1, hin3, Option.bind_some, if_neg z1, e_goods K N G hK mg hN32 a10, Option.bind_some, if_neg c4', hlost]; rfl
      · have hin3 : f_X10_in K (Int32.toInt64 x3) 0 1 = some 0 := by rw [e_in, Int32.toInt_toInt64, j_0, j_1, if_neg c3']
        refine ⟨-9223372036854775808, 0, uts, 0, me, ?_, ?_, N, G, F, hRP, hRR, hRT, hRS, ht, rfl⟩
        · rw [f_X9_nearest, e9_isSheet, if_pos c, Option.bind_some, if_neg z1, e9_isLane, if_pos c2', Option.bind_some, if_neg z1, e9_isBit, if_neg c3', Option.bind_some, if_pos rfl]
        · rw [f_X10_nearest, e10_noSheet, if_pos c, Option.bind_some, if_pos rfl, hin, Option.bind_some, if_neg z1, hin3, Option.bind_some, if_pos rfl, hlost]; rfl
    · have hin : f_X10_in K (Int32.toInt64 x2) 0 2 = some 0 := by rw [e_in, Int32.toInt_toInt64, j_0, j_2, if_neg c2']
      refine ⟨-9223372036854775808, 0, uts, 0, me, ?_, ?_, N, G, F, hRP, hRR, hRT, hRS, ht, rfl⟩
      · rw [f_X9_nearest, e9_isSheet, if_pos c, Option.bind_some, if_neg z1, e9_isLane, if_neg c2', Option.bind_some, if_pos rfl]
      · rw [f_X10_nearest, e10_noSheet, if_pos c, Option.bind_some, if_pos rfl, hin, Option.bind_some, if_pos rfl, hlost]; rfl
  · refine ⟨-9223372036854775808, 0, uts, 0, me, ?_, ?_, N, G, F, hRP, hRR, hRT, hRS, ht, rfl⟩
    · rw [f_X9_nearest, e9_isSheet, if_neg c, Option.bind_some, if_pos rfl]
    · rw [f_X10_nearest, e10_noSheet, if_neg c, Option.bind_some, if_neg z1, hlost]; rfl
set_option maxHeartbeats 1000000 in
theorem q_send (K : Nat) (hK : 200000 ≤ K) (x1 : Int32) (x2 : Int64) (x3 : Int64) (x4 : Int64) (upn : Int32) (upp : Int32) (upq : Int32) (upg : Int64) (upf : Int64) (upu : Nat → Int64) (urw : Int32) (urm : Int64) (urh : Int32) (url : Int32) (uro : Int64) (urt : Int64) (ura : Nat → Int64) (urb : Nat → Int64) (uth : Int32) (utr : Int32) (utf : Int32) (utw : Nat → Int32) (uto : Nat → Int32) (utg : Nat → Int32) (uts : Nat → Int64) (utp : Nat → Int32) (utq : Nat → Int32) (utl : Nat → Int32) (ush : Nat → Int32) (usl : Nat → Int32) (usn : Nat → Int32) (usc : Nat → Nat → Int64) (uxt : Int32) (uxf : Int32) (mf : Int32) (mn : Int32) (mp : Int32) (mq : Int32) (mg : Nat → Int32) (mz : Nat → Int32) (ms : Nat → Int32) (ml : Nat → Int32) (mc : Nat → Int64) (mh : Nat → Int64) (mw : Int32) (mm : Int64) (ma : Int32) (me : Nat → Int32) (mk : Nat → Int32) (mo : Nat → Int64) (mx : Nat → Int64) (mu : Int32) (mi : Int32) (mC : Nat → Int32) (mA : Nat → Int32) (mF : Nat → Int32) (mb : Int32) (mv : Nat → Int64) (mt : Int32) (hR : Rel upn upp upq upg upf upu urw urm urh url uro urt ura urb uth utr utf utw uto utg uts utp utq utl ush usl usn usc uxt uxf mf mn mp mq mg mz ms ml mc mh mw mm ma me mk mo mx mu mi mC mA mF mb mv mt) : ∃ (r_ : Int32) (o_uxf : Int32) (o_usc : Nat → Nat → Int64) (o_mf : Int32) (o_mc : Nat → Int64), f_X9_send K x1 x2 x3 x4 upn upg upf ush usn usc = some (r_, o_uxf, o_usc) ∧ f_X10_send K x1 x2 x3 x4 mn mg ms mz mc = some (r_, o_mf, o_mc) ∧ Rel upn upp upq upg upf upu urw urm urh url uro urt ura urb uth utr utf utw uto utg uts utp utq utl ush usl usn o_usc uxt o_uxf o_mf mn mp mq mg mz ms ml o_mc mh mw mm ma me mk mo mx mu mi mC mA mF mb mv mt := by
  obtain ⟨N, G, F, ⟨a1, a2, a3, a4, a5, a6, a7, a8, a9, a10, a11⟩, hRR, hRT, hRS, ht, hf⟩ := hR
  have hN32 : N ≤ 32 := by rcases a1 with rfl | rfl | rfl | rfl | rfl <;> omega
  have hp32 : 2 ^ N ≤ 2 ^ 32 := Nat.pow_le_pow_right (by decide) hN32
  have hN1 : Nok1 N := Or.inr a1
  subst a2; subst a3; subst a4; subst a5
  have hRP : RP N G F (nI N) upp upq (lN G) (lN F) (nI N) mp mq mg mz := ⟨a1, rfl, rfl, rfl, rfl, a6, a7, a8, a9, a10, a11⟩
  have z1 : ¬ (1 : Int32) = 0 := by decide
  by_cases c : 0 ≤ x1.toInt ∧ x1.toInt ≤ 3
  · obtain ⟨k, hk, rfl, e1⟩ := toN (x := x1) c.1
    have hk4 : k < 4 := by omega
    by_cases c2 : 0 ≤ x2.toInt ∧ x2.toInt < ((2 ^ pcN N G : Nat) : Int)
    · by_cases c3 : 0 ≤ x3.toInt ∧ x3.toInt ≤ (lN (2 ^ N - 1)).toInt
      · by_cases c4 : 0 ≤ x4.toInt ∧ x4.toInt ≤ (lN (2 ^ N - 1)).toInt
        · obtain ⟨M, rfl, hM⟩ := isMsg_N c2
          obtain ⟨L, rfl, hL⟩ := isRow_N hN32 c3
          obtain ⟨T, rfl, hT⟩ := isRow_N hN32 c4
          have hc := pc_le N G
          have hp2 : 2 ^ pcN N G ≤ 2 ^ 32 := Nat.pow_le_pow_right (by decide) (by omega)
          have hw9 := e_wordOf K hK (M := M) hN1 (show G < 2 ^ 64 by omega) a7 (by omega)
          have hw := e_word10 K hK (M := M) hN1 a7 a8 (by omega) a10 a11
          have hLT : L ||| T < 2 ^ N := Nat.or_lt_two_pow hL hT
          have hWT : wdN N G F M ^^^ T < 2 ^ N := Nat.xor_lt_two_pow hw9.2 hT
          have h9 : f_X9_send K (nI k) (lN M) (lN L) (lN T) (nI N) (lN G) (lN F) ush usn usc = (if ush k = 0 then some (-10 - 1, 1, usc) else if nI N ≤ usn k then some (nI (pcN N (L ||| T)), 0, va_up usc k (fun j => if j < N then rcv (wdN N G F M ^^^ T) L j else usc k j)) else some (-10 - 3, 3, usc)) := by
            have hr := l_recv K N (wdN N G F M ^^^ T) L hN32 (by omega) (by omega) N 0 K (usc k) (by omega) (by omega)
            simp only [Nat.zero_le, true_and] at hr
            have hr2 : f_X6_receive K (lN (wdN N G F M ^^^ T)) (lN L) (nI N) (usc k) = some (fun j => if j < N then rcv (wdN N G F M ^^^ T) L j else usc k j) := by
              have hr3 : fL_X6_receive_3 K (lN (wdN N G F M ^^^ T)) (lN L) (nI N) K (0, usc k) = some (nI N, fun j => if j < N then rcv (wdN N G F M ^^^ T) L j else usc k j) := hr
              rw [f_X6_receive, hr3]; rfl
            rw [f_X9_send, e9_isSheet, if_pos c, Option.bind_some, if_neg z1, e9_isMessage K hN32 a6, if_pos c2, Option.bind_some, if_neg z1, e_isRow K hN32, if_pos c3, Option.bind_some, if_neg z1, e_isRow K hN32, if_pos c4, Option.bind_some, if_neg z1, gIx_nI _ hk4 (by decide), gLet, tnN hk, hw9.1, Option.bind_some, fb_xorL, hr2, Option.bind_some, fb_orL, e_bcN K hN32 hLT]
            rfl
          have h10 : f_X10_send K (nI k) (lN M) (lN L) (lN T) (nI N) mg ms mz mc = (if (0 : Int32) ≤ ms k then (if nI N ≤ ms k then some (nI (pcN N (L ||| T)), 0, (fun j => if 40 * k ≤ j ∧ j < 40 * k + N then rcv (wdN N G F M ^^^ T) L (j - 40 * k) else mc j)) else some (-10 - 3, 3, mc)) else some (-10 - 1, 1, mc)) := by
            have hr := l_send K N (wdN N G F M ^^^ T) L k hk4 hN32 (by omega) (by omega) N 0 K mc (by omega) (by omega)
            have hr3 : fL_X10_send_108 K (lN (wdN N G F M ^^^ T)) (nI k) (lN L) (nI N) K (0, mc) = some (nI N, fun j => if 40 * k ≤ j ∧ j < 40 * k + N then rcv (wdN N G F M ^^^ T) L (j - 40 * k) else mc j) := hr
            rw [f_X10_send, e10_noSheet, if_pos c, Option.bind_some, if_pos rfl, e10_isMessage K hK hN32 a10, if_pos c2, Option.bind_some, if_neg z1, e_all10 K hN32, Option.bind_some, e_in, j_0, if_pos c3, Option.bind_some, if_neg z1, Option.bind_some, e_in, j_0, if_pos c4, Option.bind_some, if_neg z1, gIx_nI _ hk4 (by decide), gIx_nI _ hk4 (by decide), tnN hk, hw.1, Option.bind_some, hw.2, Option.bind_some, fb_xorL, gLet, hr3, Option.bind_some]
            dsimp only
            rw [fb_orL, e_ones K hK (show N ≤ 33 by omega) hLT]
            rfl
          rcases hRS k hk4 with ⟨g1, g2⟩ | ⟨g1, la, le, g2, g3, g4, g5, g6, g7, g8⟩
          · refine ⟨-10 - 1, 1, usc, 1, mc, ?_, ?_, N, G, F, hRP, hRR, hRT, hRS, ht, rfl⟩
            · rw [h9, if_pos g1]
            · rw [h10, if_neg (by rw [g2]; decide)]
          · have hb : ¬ ush k = 0 := by rw [g1]; decide
            have hle : (nI le).toInt = (le : Int) := nI_toInt (by omega)
            have h0 : (0 : Int32) ≤ ms k := by rw [g7, leI, i_0, hle]; omega
            by_cases c5 : N ≤ le
            · have c5' : nI N ≤ nI le := nI_le c5 (by omega)
              refine ⟨_, _, _, _, _, (by rw [h9, if_neg hb, g6, if_pos c5']), (by rw [h10, if_pos h0, g7, if_pos c5']), N, G, F, hRP, hRR, hRT, ?_, ht, rfl⟩
              intro j hj
              by_cases q : j = k
              · subst q
                refine Or.inr ⟨g1, la, le, g2, g3, g4, g5, g6, g7, fun i2 hi2 => ?_⟩
                simp only [va_up, if_true]
                by_cases q2 : i2 < N
                · rw [if_pos q2, if_pos (by omega)]
                  congr 1
                  omega
                · rw [if_neg q2, if_neg (by omega)]
                  exact g8 i2 hi2
              · have := hRS j hj
                simp only [va_up, if_neg q]
                rcases this with gg | ⟨y1, la2, le2, y2, y3, y4, y5, y6, y7, y8⟩
                · exact Or.inl gg
                · refine Or.inr ⟨y1, la2, le2, y2, y3, y4, y5, y6, y7, fun i2 hi2 => ?_⟩
                  rw [if_neg (by omega)]
                  exact y8 i2 hi2
            · have c5' : ¬ nI N ≤ nI le := nI_ge (by omega) (by omega)
              exact ⟨_, _, _, _, _, (by rw [h9, if_neg hb, g6, if_neg c5']), (by rw [h10, if_pos h0, g7, if_neg c5']), N, G, F, hRP, hRR, hRT, hRS, ht, rfl⟩
        · refine ⟨-2, 0, usc, 0, mc, ?_, ?_, N, G, F, hRP, hRR, hRT, hRS, ht, rfl⟩
          · rw [f_X9_send, e9_isSheet, if_pos c, Option.bind_some, if_neg z1, e9_isMessage K hN32 a6, if_pos c2, Option.bind_some, if_neg z1, e_isRow K hN32, if_pos c3, Option.bind_some, if_neg z1, e_isRow K hN32, if_neg c4, Option.bind_some, if_pos rfl]; rfl
          · rw [f_X10_send, e10_noSheet, if_pos c, Option.bind_some, if_pos rfl, e10_isMessage K hK hN32 a10, if_pos c2, Option.bind_some, if_neg z1, e_all10 K hN32, Option.bind_some, e_in, j_0, if_pos c3, Option.bind_some, if_neg z1, Option.bind_some, e_in, j_0, if_neg c4, Option.bind_some, if_pos rfl]; rfl
      · refine ⟨-2, 0, usc, 0, mc, ?_, ?_, N, G, F, hRP, hRR, hRT, hRS, ht, rfl⟩
        · rw [f_X9_send, e9_isSheet, if_pos c, Option.bind_some, if_neg z1, e9_isMessage K hN32 a6, if_pos c2, Option.bind_some, if_neg z1, e_isRow K hN32, if_neg c3, Option.bind_some, if_pos rfl]; rfl
        · rw [f_X10_send, e10_noSheet, if_pos c, Option.bind_some, if_pos rfl, e10_isMessage K hK hN32 a10, if_pos c2, Option.bind_some, if_neg z1, e_all10 K hN32, Option.bind_some, e_in, j_0, if_neg c3, Option.bind_some, if_pos rfl]; rfl
    · refine ⟨-2, 0, usc, 0, mc, ?_, ?_, N, G, F, hRP, hRR, hRT, hRS, ht, rfl⟩
      · rw [f_X9_send, e9_isSheet, if_pos c, Option.bind_some, if_neg z1, e9_isMessage K hN32 a6, if_neg c2, Option.bind_some, if_pos rfl]; rfl
      · rw [f_X10_send, e10_noSheet, if_pos c, Option.bind_some, if_pos rfl, e10_isMessage K hK hN32 a10, if_neg c2, Option.bind_some, if_pos rfl]; rfl
  · refine ⟨-1, 0, usc, 0, mc, ?_, ?_, N, G, F, hRP, hRR, hRT, hRS, ht, rfl⟩
    · rw [f_X9_send, e9_isSheet, if_neg c, Option.bind_some, if_pos rfl]; rfl
    · rw [f_X10_send, e10_noSheet, if_neg c, Option.bind_some, if_neg z1]; rfl
set_option maxHeartbeats 1000000 in
theorem q_sheet (K : Nat) (hK : 200000 ≤ K) (x1 : Int32) (x2 : Int32) (x3 : Int32) (upn : Int32) (upp : Int32) (upq : Int32) (upg : Int64) (upf : Int64) (upu : Nat → Int64) (urw : Int32) (urm : Int64) (urh : Int32) (url : Int32) (uro : Int64) (urt : Int64) (ura : Nat → Int64) (urb : Nat → Int64) (uth : Int32) (utr : Int32) (utf : Int32) (utw : Nat → Int32) (uto : Nat → Int32) (utg : Nat → Int32) (uts : Nat → Int64) (utp : Nat → Int32) (utq : Nat → Int32) (utl : Nat → Int32) (ush : Nat → Int32) (usl : Nat → Int32) (usn : Nat → Int32) (usc : Nat → Nat → Int64) (uxt : Int32) (uxf : Int32) (mf : Int32) (mn : Int32) (mp : Int32) (mq : Int32) (mg : Nat → Int32) (mz : Nat → Int32) (ms : Nat → Int32) (ml : Nat → Int32) (mc : Nat → Int64) (mh : Nat → Int64) (mw : Int32) (mm : Int64) (ma : Int32) (me : Nat → Int32) (mk : Nat → Int32) (mo : Nat → Int64) (mx : Nat → Int64) (mu : Int32) (mi : Int32) (mC : Nat → Int32) (mA : Nat → Int32) (mF : Nat → Int32) (mb : Int32) (mv : Nat → Int64) (mt : Int32) (hR : Rel upn upp upq upg upf upu urw urm urh url uro urt ura urb uth utr utf utw uto utg uts utp utq utl ush usl usn usc uxt uxf mf mn mp mq mg mz ms ml mc mh mw mm ma me mk mo mx mu mi mC mA mF mb mv mt) : ∃ (r_ : Int32) (o_uxf : Int32) (o_ush : Nat → Int32) (o_usl : Nat → Int32) (o_usn : Nat → Int32) (o_usc : Nat → Nat → Int64) (o_mf : Int32) (o_ms : Nat → Int32) (o_ml : Nat → Int32) (o_mc : Nat → Int64), f_X9_sheet K x1 x2 x3 ush usl usn usc = some (r_, o_uxf, o_ush, o_usl, o_usn, o_usc) ∧ f_X10_sheet K x1 x2 x3 ms ml mc = some (r_, o_mf, o_ms, o_ml, o_mc) ∧ Rel upn upp upq upg upf upu urw urm urh url uro urt ura urb uth utr utf utw uto utg uts utp utq utl o_ush o_usl o_usn o_usc uxt o_uxf o_mf mn mp mq mg mz o_ms o_ml o_mc mh mw mm ma me mk mo mx mu mi mC mA mF mb mv mt := by
  obtain ⟨N, G, F, hRP, hRR, hRT, hRS, ht, hf⟩ := hR
  by_cases c : 0 ≤ x1.toInt ∧ x1.toInt ≤ 3
  · by_cases c2 : 0 ≤ x2.toInt ∧ x2.toInt ≤ 2
    · by_cases c3 : x3.toInt ≤ 40
      · by_cases c4 : 0 ≤ x3.toInt
        · obtain ⟨k, hk, rfl, e1⟩ := toN (x := x1) c.1
          obtain ⟨la, hla, rfl, e2⟩ := toN (x := x2) c2.1
          obtain ⟨n, hn, rfl, e3⟩ := toN (x := x3) c4
          have hk4 : k < 4 := by omega
          have h1 : f_X9_sheet K (nI k) (nI la) (nI n) ush usl usn usc = some (1, 0, va_up ush k 1, va_up usl k (nI la), va_up usn k (nI n), va_up usc k (fun j => if j < 40 then 0 else usc k j)) := by
            rw [f_X9_sheet, e9_isSheet, if_pos c, Option.bind_some, if_neg (show ¬ (1 : Int32) = 0 by decide), e9_isLane, if_pos c2, Option.bind_some, if_neg (show ¬ (1 : Int32) = 0 by decide), if_pos (by rw [leI, i_40]; exact c3), if_pos (by rw [leI, i_0]; exact c4), gIx_nI _ hk4 (by decide), gLet, tnN hk, e_begin K hK]
            rfl
          have h2 : f_X10_sheet K (nI k) (nI la) (nI n) ms ml mc = some (1, 0, upd ms k (nI n), upd ml k (nI la), fun j => if 40 * k ≤ j ∧ j < 40 * k + n then 0 else mc j) := by
            rw [f_X10_sheet, e10_noSheet, if_pos c, Option.bind_some, if_pos rfl, e_in, Int32.toInt_toInt64, j_0, j_2, if_pos c2, Option.bind_some, if_neg (show ¬ (1 : Int32) = 0 by decide), if_pos (by rw [leI, i_40]; exact c3), if_pos (by rw [leI, i_0]; exact c4), gIx_nI _ hk4 (by decide), gLet, gIx_nI _ hk4 (by decide), gLet, tnN hk, e_sheetL K hK hk4 (by omega)]
            rfl
          refine ⟨_, _, _, _, _, _, _, _, _, _, h1, h2, N, G, F, hRP, hRR, hRT, ?_, ht, rfl⟩
          intro j hj
          by_cases q : j = k
          · subst q
            refine Or.inr ⟨by simp [va_up], la, n, by omega, by omega, by simp [va_up], by simp [upd], by simp [va_up], by simp [upd], ?_⟩
            intro i hi
            simp only [va_up, if_true]
            rw [if_pos (by omega), if_pos (by omega)]
          · have := hRS j hj
            simp only [va_up, upd, if_neg q]
            rcases this with g | ⟨g1, la2, le2, g2, g3, g4, g5, g6, g7, g8⟩
            · exact Or.inl g
            · refine Or.inr ⟨g1, la2, le2, g2, g3, g4, g5, g6, g7, fun i hi => ?_⟩
              rw [if_neg (by omega)]
              exact g8 i hi
        · refine ⟨-10 - 4, 4, ush, usl, usn, usc, 4, ms, ml, mc, ?_, ?_, N, G, F, hRP, hRR, hRT, hRS, ht, rfl⟩
          · rw [f_X9_sheet, e9_isSheet, if_pos c, Option.bind_some, if_neg (show ¬ (1 : Int32) = 0 by decide), e9_isLane, if_pos c2, Option.bind_some, if_neg (show ¬ (1 : Int32) = 0 by decide), if_pos (by rw [leI, i_40]; exact c3), if_neg (by rw [leI, i_0]; exact c4)]; rfl
          · rw [f_X10_sheet, e10_noSheet, if_pos c, Option.bind_some, if_pos rfl, e_in, Int32.toInt_toInt64, j_0, j_2, if_pos c2, Option.bind_some, if_neg (show ¬ (1 : Int32) = 0 by decide), if_pos (by rw [leI, i_40]; exact c3), if_neg (by rw [leI, i_0]; exact c4)]; rfl
      · refine ⟨-2, 0, ush, usl, usn, usc, 0, ms, ml, mc, ?_, ?_, N, G, F, hRP, hRR, hRT, hRS, ht, rfl⟩
        · rw [f_X9_sheet, e9_isSheet, if_pos c, Option.bind_some, if_neg (show ¬ (1 : Int32) = 0 by decide), e9_isLane, if_pos c2, Option.bind_some, if_neg (show ¬ (1 : Int32) = 0 by decide), if_neg (by rw [leI, i_40]; exact c3)]; rfl
        · rw [f_X10_sheet, e10_noSheet, if_pos c, Option.bind_some, if_pos rfl, e_in, Int32.toInt_toInt64, j_0, j_2, if_pos c2, Option.bind_some, if_neg (show ¬ (1 : Int32) = 0 by decide), if_neg (by rw [leI, i_40]; exact c3)]; rfl
    · refine ⟨-2, 0, ush, usl, usn, usc, 0, ms, ml, mc, ?_, ?_, N, G, F, hRP, hRR, hRT, hRS, ht, rfl⟩
      · rw [f_X9_sheet, e9_isSheet, if_pos c, Option.bind_some, if_neg (show ¬ (1 : Int32) = 0 by decide), e9_isLane, if_neg c2, Option.bind_some, if_pos rfl]; rfl
      · rw [f_X10_sheet, e10_noSheet, if_pos c, Option.bind_some, if_pos rfl, e_in, Int32.toInt_toInt64, j_0, j_2, if_neg c2, Option.bind_some, if_pos rfl]; rfl
  · refine ⟨-1, 0, ush, usl, usn, usc, 0, ms, ml, mc, ?_, ?_, N, G, F, hRP, hRR, hRT, hRS, ht, rfl⟩
    · rw [f_X9_sheet, e9_isSheet, if_neg c, Option.bind_some, if_pos rfl]; rfl
    · rw [f_X10_sheet, e10_noSheet, if_neg c, Option.bind_some, if_neg (show ¬ (1 : Int32) = 0 by decide)]; rfl
set_option maxHeartbeats 1000000 in
theorem q_lose (K : Nat) (hK : 200000 ≤ K) (x1 : Int32) (upn : Int32) (upp : Int32) (upq : Int32) (upg : Int64) (upf : Int64) (upu : Nat → Int64) (urw : Int32) (urm : Int64) (urh : Int32) (url : Int32) (uro : Int64) (urt : Int64) (ura : Nat → Int64) (urb : Nat → Int64) (uth : Int32) (utr : Int32) (utf : Int32) (utw : Nat → Int32) (uto : Nat → Int32) (utg : Nat → Int32) (uts : Nat → Int64) (utp : Nat → Int32) (utq : Nat → Int32) (utl : Nat → Int32) (ush : Nat → Int32) (usl : Nat → Int32) (usn : Nat → Int32) (usc : Nat → Nat → Int64) (uxt : Int32) (uxf : Int32) (mf : Int32) (mn : Int32) (mp : Int32) (mq : Int32) (mg : Nat → Int32) (mz : Nat → Int32) (ms : Nat → Int32) (ml : Nat → Int32) (mc : Nat → Int64) (mh : Nat → Int64) (mw : Int32) (mm : Int64) (ma : Int32) (me : Nat → Int32) (mk : Nat → Int32) (mo : Nat → Int64) (mx : Nat → Int64) (mu : Int32) (mi : Int32) (mC : Nat → Int32) (mA : Nat → Int32) (mF : Nat → Int32) (mb : Int32) (mv : Nat → Int64) (mt : Int32) (hR : Rel upn upp upq upg upf upu urw urm urh url uro urt ura urb uth utr utf utw uto utg uts utp utq utl ush usl usn usc uxt uxf mf mn mp mq mg mz ms ml mc mh mw mm ma me mk mo mx mu mi mC mA mF mb mv mt) : ∃ (r_ : Int32) (o_ush : Nat → Int32) (o_ms : Nat → Int32), f_X9_lose K x1 ush = some (r_, o_ush) ∧ f_X10_lose K x1 ms = some (r_, o_ms) ∧ Rel upn upp upq upg upf upu urw urm urh url uro urt ura urb uth utr utf utw uto utg uts utp utq utl o_ush usl usn usc uxt uxf mf mn mp mq mg mz o_ms ml mc mh mw mm ma me mk mo mx mu mi mC mA mF mb mv mt := by
  obtain ⟨N, G, F, hRP, hRR, hRT, hRS, ht, hf⟩ := hR
  by_cases c : 0 ≤ x1.toInt ∧ x1.toInt ≤ 3
  · obtain ⟨k, hk, rfl, e2⟩ := toN (x := x1) (by omega)
    have hk4 : k < 4 := by omega
    have h1 : f_X9_lose K (nI k) ush = some (if ush k = 0 then 0 else 1, va_up ush k 0) := by
      unfold f_X9_lose
      simp only [e9_isSheet, Option.bind_some, ite10, c, not_true_eq_false, if_false, gIx_nI _ hk4 (by decide : (4 : Nat) < 2 ^ 31), gLet, tnN hk]
      by_cases q : ush k = 0
      · simp [q]
      · simp [q]
    have h2 : f_X10_lose K (nI k) ms = some (if 0 ≤ ms k then 1 else 0, upd ms k (-1)) := by
      unfold f_X10_lose
      simp only [e10_noSheet, Option.bind_some, ite01, c, if_true, gIx_nI _ hk4 (by decide : (4 : Nat) < 2 ^ 31), gLet, tnN hk]
      by_cases q : 0 ≤ ms k
      · simp [q]
      · simp [q]
    have hr : (if ush k = 0 then (0 : Int32) else 1) = if 0 ≤ ms k then 1 else 0 := by
      rcases hRS k hk4 with ⟨g1, g2⟩ | ⟨g1, la, le, g2, g3, g4, g5, g6, g7, g8⟩
      · rw [g1, g2]; decide
      · rw [g1, g7, if_neg (by decide), if_pos (nI_pos' (by omega))]
    refine ⟨_, _, _, h1, by rw [h2, ← hr], N, G, F, hRP, hRR, hRT, ?_, ht, hf⟩
    intro j hj
    by_cases q : j = k
    · subst q
      exact Or.inl ⟨by simp [va_up], by simp [upd]⟩
    · have := hRS j hj
      simp only [va_up, upd, if_neg q]
      exact this
  · refine ⟨-1, ush, ms, ?_, ?_, N, G, F, hRP, hRR, hRT, hRS, ht, hf⟩
    · unfold f_X9_lose
      simp only [e9_isSheet, Option.bind_some, ite10, c, not_false_eq_true, if_true]
    · rw [f_X10_lose, e10_noSheet, if_neg c, Option.bind_some, if_neg (show ¬ (1 : Int32) = 0 by decide)]
set_option maxHeartbeats 1000000 in
theorem q_put (K : Nat) (hK : 200000 ≤ K) (x1 : Int32) (x2 : Int32) (x3 : Int64) (upn : Int32) (upp : Int32) (upq : Int32) (upg : Int64) (upf : Int64) (upu : Nat → Int64) (urw : Int32) (urm : Int64) (urh : Int32) (url : Int32) (uro : Int64) (urt : Int64) (ura : Nat → Int64) (urb : Nat → Int64) (uth : Int32) (utr : Int32) (utf : Int32) (utw : Nat → Int32) (uto : Nat → Int32) (utg : Nat → Int32) (uts : Nat → Int64) (utp : Nat → Int32) (utq : Nat → Int32) (utl : Nat → Int32) (ush : Nat → Int32) (usl : Nat → Int32) (usn : Nat → Int32) (usc : Nat → Nat → Int64) (uxt : Int32) (uxf : Int32) (mf : Int32) (mn : Int32) (mp : Int32) (mq : Int32) (mg : Nat → Int32) (mz : Nat → Int32) (ms : Nat → Int32) (ml : Nat → Int32) (mc : Nat → Int64) (mh : Nat → Int64) (mw : Int32) (mm : Int64) (ma : Int32) (me : Nat → Int32) (mk : Nat → Int32) (mo : Nat → Int64) (mx : Nat → Int64) (mu : Int32) (mi : Int32) (mC : Nat → Int32) (mA : Nat → Int32) (mF : Nat → Int32) (mb : Int32) (mv : Nat → Int64) (mt : Int32) (hR : Rel upn upp upq upg upf upu urw urm urh url uro urt ura urb uth utr utf utw uto utg uts utp utq utl ush usl usn usc uxt uxf mf mn mp mq mg mz ms ml mc mh mw mm ma me mk mo mx mu mi mC mA mF mb mv mt) : ∃ (r_ : Int32) (o_uxf : Int32) (o_usc : Nat → Nat → Int64) (o_mf : Int32) (o_mc : Nat → Int64), f_X9_put K x1 x2 x3 ush usl usn usc = some (r_, o_uxf, o_usc) ∧ f_X10_put K x1 x2 x3 ms ml mc = some (r_, o_mf, o_mc) ∧ Rel upn upp upq upg upf upu urw urm urh url uro urt ura urb uth utr utf utw uto utg uts utp utq utl ush usl usn o_usc uxt o_uxf o_mf mn mp mq mg mz ms ml o_mc mh mw mm ma me mk mo mx mu mi mC mA mF mb mv mt := by
  obtain ⟨N, G, F, hRP, hRR, hRT, hRS, ht, hf⟩ := hR
  by_cases c : 0 ≤ x1.toInt ∧ x1.toInt ≤ 3
  · obtain ⟨k, hk, rfl, e1⟩ := toN (x := x1) c.1
    have hk4 : k < 4 := by omega
    have h9 : f_X9_put K (nI k) x2 x3 ush usl usn usc = (if ush k = 0 then some (-10 - 1, 1, usc) else Option.bind (f_X6_hasCell K x2 (usn k)) fun r_5 => if r_5 = 0 then some (-10 - 3, 3, usc) else Option.bind (f_X6_setCell K x2 x3 (usl k) (usc k)) fun o_7 => some (1, 0, va_up usc k o_7)) := by
      rw [f_X9_put, e9_isSheet, if_pos c, Option.bind_some, if_neg (show ¬ (1 : Int32) = 0 by decide), gIx_nI _ hk4 (by decide), gLet, tnN hk]
      rfl
    rcases hRS k hk4 with ⟨g1, g2⟩ | ⟨g1, la, le, g2, g3, g4, g5, g6, g7, g8⟩
    · refine ⟨-10 - 1, 1, usc, 1, mc, ?_, ?_, N, G, F, hRP, hRR, hRT, hRS, ht, rfl⟩
      · rw [h9, if_pos g1]
      · rw [f_X10_put, e10_noSheet, if_pos c, Option.bind_some, if_pos rfl, e_noCell0 K hk4 x2 ms g2, Option.bind_some, if_neg (show ¬ (1 : Int32) ≤ 0 by decide)]; rfl
    · have hb : ¬ ush k = 0 := by rw [g1]; decide
      by_cases c2 : 0 ≤ x2.toInt ∧ x2.toInt < le
      · obtain ⟨i, hi, rfl, e2⟩ := toN (x := x2) c2.1
        have hil : i < le := by omega
        refine ⟨1, 0, va_up usc k (vp_updL (usc k) i (cutL la x3)), 0, vp_updL mc (40 * k + i) (cutL la x3), ?_, ?_, N, G, F, hRP, hRR, hRT, ?_, ht, rfl⟩
        · rw [h9, if_neg hb, e_hasCell, g6, nI_toInt (show le < 2 ^ 31 by omega), if_pos c2, Option.bind_some, if_neg (show ¬ (1 : Int32) = 0 by decide), g4, e_setCell K (by omega) g2]; rfl
        · rw [f_X10_put, e10_noSheet, if_pos c, Option.bind_some, if_pos rfl, e_noCell1 K hk4 g3 _ ms g7, if_pos c2, Option.bind_some, if_pos (show (0 : Int32) ≤ 0 by decide), gIx_nI _ hk4 (by decide), tnN hk, g5, gIx_nI _ hk4 (by decide), e_40]
          have e5 : (if nI la = 0 then some (Int32.toInt64 (Int8.toInt32 (Int32.toInt8 (Int64.toInt32 x3)))) else if nI la = 1 then some (Int32.toInt64 (Int64.toInt32 x3)) else some x3) = some (cutL la x3) := by
            unfold cutL
            simp only [nI_lit0 g2, nI_lit1 g2]
            repeat' split
            all_goals rfl
          rw [e5, Option.bind_some, gIx_nI _ (show 40 * k + i < 160 by omega) (by decide), gLet, tnN (by omega)]
          rfl
        · intro j hj
          by_cases q : j = k
          · subst q
            refine Or.inr ⟨g1, la, le, g2, g3, g4, g5, g6, g7, fun i2 hi2 => ?_⟩
            simp only [va_up, if_true, vp_updL]
            by_cases q2 : i2 = i
            · subst q2; rw [if_pos rfl, if_pos rfl]
            · rw [if_neg q2, if_neg (by omega)]
              exact g8 i2 hi2
          · have := hRS j hj
            simp only [va_up, if_neg q]
            rcases this with gg | ⟨y1, la2, le2, y2, y3, y4, y5, y6, y7, y8⟩
            · exact Or.inl gg
            · refine Or.inr ⟨y1, la2, le2, y2, y3, y4, y5, y6, y7, fun i2 hi2 => ?_⟩
              simp only [vp_updL]
              rw [if_neg (by omega)]
              exact y8 i2 hi2
      · refine ⟨-10 - 3, 3, usc, 3, mc, ?_, ?_, N, G, F, hRP, hRR, hRT, hRS, ht, rfl⟩
        · rw [h9, if_neg hb, e_hasCell, g6, nI_toInt (show le < 2 ^ 31 by omega), if_neg c2, Option.bind_some, if_pos rfl]
        · rw [f_X10_put, e10_noSheet, if_pos c, Option.bind_some, if_pos rfl, e_noCell1 K hk4 g3 _ ms g7, if_neg c2, Option.bind_some, if_neg (show ¬ (3 : Int32) ≤ 0 by decide)]; rfl
  · refine ⟨-1, 0, usc, 0, mc, ?_, ?_, N, G, F, hRP, hRR, hRT, hRS, ht, rfl⟩
    · rw [f_X9_put, e9_isSheet, if_neg c, Option.bind_some, if_pos rfl]; rfl
    · rw [f_X10_put, e10_noSheet, if_neg c, Option.bind_some, if_neg (show ¬ (1 : Int32) = 0 by decide)]; rfl
set_option maxHeartbeats 1000000 in
theorem q_cell (K : Nat) (hK : 200000 ≤ K) (x1 : Int32) (x2 : Int32) (x3 : Int32) (upn : Int32) (upp : Int32) (upq : Int32) (upg : Int64) (upf : Int64) (upu : Nat → Int64) (urw : Int32) (urm : Int64) (urh : Int32) (url : Int32) (uro : Int64) (urt : Int64) (ura : Nat → Int64) (urb : Nat → Int64) (uth : Int32) (utr : Int32) (utf : Int32) (utw : Nat → Int32) (uto : Nat → Int32) (utg : Nat → Int32) (uts : Nat → Int64) (utp : Nat → Int32) (utq : Nat → Int32) (utl : Nat → Int32) (ush : Nat → Int32) (usl : Nat → Int32) (usn : Nat → Int32) (usc : Nat → Nat → Int64) (uxt : Int32) (uxf : Int32) (mf : Int32) (mn : Int32) (mp : Int32) (mq : Int32) (mg : Nat → Int32) (mz : Nat → Int32) (ms : Nat → Int32) (ml : Nat → Int32) (mc : Nat → Int64) (mh : Nat → Int64) (mw : Int32) (mm : Int64) (ma : Int32) (me : Nat → Int32) (mk : Nat → Int32) (mo : Nat → Int64) (mx : Nat → Int64) (mu : Int32) (mi : Int32) (mC : Nat → Int32) (mA : Nat → Int32) (mF : Nat → Int32) (mb : Int32) (mv : Nat → Int64) (mt : Int32) (hR : Rel upn upp upq upg upf upu urw urm urh url uro urt ura urb uth utr utf utw uto utg uts utp utq utl ush usl usn usc uxt uxf mf mn mp mq mg mz ms ml mc mh mw mm ma me mk mo mx mu mi mC mA mF mb mv mt) : ∃ (r_ : Int64) (o_uxf : Int32) (o_mf : Int32), f_X9_cell K x1 x2 x3 ush usl usn usc = some (r_, o_uxf) ∧ f_X10_cell K x1 x2 x3 ms mc ml = some (r_, o_mf) ∧ Rel upn upp upq upg upf upu urw urm urh url uro urt ura urb uth utr utf utw uto utg uts utp utq utl ush usl usn usc uxt o_uxf o_mf mn mp mq mg mz ms ml mc mh mw mm ma me mk mo mx mu mi mC mA mF mb mv mt := by
  obtain ⟨N, G, F, hRP, hRR, hRT, hRS, ht, hf⟩ := hR
  by_cases c : 0 ≤ x1.toInt ∧ x1.toInt ≤ 3
  · by_cases c2 : 0 ≤ x3.toInt ∧ x3.toInt ≤ 2
    · obtain ⟨k, hk, rfl, e1⟩ := toN (x := x1) c.1
      have hk4 : k < 4 := by omega
      have h9 : f_X9_cell K (nI k) x2 x3 ush usl usn usc = Option.bind (f_X9_cellFlaw K x2 x3 (ush k) (usl k) (usn k)) fun r_6 => if r_6 = 0 then Option.bind (f_X6_cellAt K x2 (usc k)) fun r_8 => some (r_8, r_6) else some (-9223372036854775808, r_6) := by
        rw [f_X9_cell, e9_isSheet, if_pos c, Option.bind_some, if_neg (show ¬ (1 : Int32) = 0 by decide), e9_isLane, if_pos c2, Option.bind_some, if_neg (show ¬ (1 : Int32) = 0 by decide), gIx_nI _ hk4 (by decide), gLet, tnN hk]
      rcases hRS k hk4 with ⟨g1, g2⟩ | ⟨g1, la, le, g2, g3, g4, g5, g6, g7, g8⟩
      · refine ⟨-9223372036854775808, 1, 1, ?_, ?_, N, G, F, hRP, hRR, hRT, hRS, ht, rfl⟩
        · rw [h9, g1, e_cellFlaw0, Option.bind_some, if_neg (show ¬ (1 : Int32) = 0 by decide)]
        · rw [f_X10_cell, e10_noSheet, if_pos c, Option.bind_some, if_pos rfl, e_in, Int32.toInt_toInt64, j_0, j_2, if_pos c2, Option.bind_some, if_neg (show ¬ (1 : Int32) = 0 by decide), gIx_nI _ hk4 (by decide), tnN hk, g2, if_pos (by decide), e_noCell0 K hk4 x2 ms g2, Option.bind_some, if_neg (show ¬ (1 : Int32) ≤ 0 by decide)]; rfl
      · have h10 : f_X10_cell K (nI k) x2 x3 ms mc ml = (if nI la = x3 then (Option.bind (f_X10_noCell K (nI k) x2 ms) fun r_13 => if r_13 ≤ 0 then (gIx ((40 * nI k) + x2) 160 <| some (mc (Int32.toNatClampNeg ((40 * nI k) + x2)), 0)) else (Option.bind (f_X10_noCell K (nI k) x2 ms) fun r_15 => Option.bind (f_X10_failedLong K r_15) fun (r_16, o_17) => some (r_16, o_17))) else some (-9223372036854775808, 2)) := by
          rw [f_X10_cell, e10_noSheet, if_pos c, Option.bind_some, if_pos rfl, e_in, Int32.toInt_toInt64, j_0, j_2, if_pos c2, Option.bind_some, if_neg (show ¬ (1 : Int32) = 0 by decide), gIx_nI _ hk4 (by decide), tnN hk, g7, if_neg (nI_pos (by omega)), gIx_nI _ hk4 (by decide), g5]
          rfl
        by_cases c3 : nI la = x3
        · by_cases c4 : 0 ≤ x2.toInt ∧ x2.toInt < le
          · obtain ⟨i, hi, rfl, e2⟩ := toN (x := x2) c4.1
            refine ⟨usc k i, 0, 0, ?_, ?_, N, G, F, hRP, hRR, hRT, hRS, ht, rfl⟩
            · rw [h9, g1, g4, g6, e_cellFlaw1 K g3, if_pos c3, if_pos c4, Option.bind_some, if_pos rfl, e_cellAt K (by omega)]; rfl
            · rw [h10, if_pos c3, e_noCell1 K hk4 g3 _ ms g7, if_pos c4, Option.bind_some, if_pos (show (0 : Int32) ≤ 0 by decide), e_40, gIx_nI _ (show 40 * k + i < 160 by omega) (by decide), tnN (by omega), g8 i (by omega)]
          · refine ⟨-9223372036854775808, 3, 3, ?_, ?_, N, G, F, hRP, hRR, hRT, hRS, ht, rfl⟩
            · rw [h9, g1, g4, g6, e_cellFlaw1 K g3, if_pos c3, if_neg c4, Option.bind_some, if_neg (show ¬ (3 : Int32) = 0 by decide)]
            · rw [h10, if_pos c3, e_noCell1 K hk4 g3 _ ms g7, if_neg c4, Option.bind_some, if_neg (show ¬ (3 : Int32) ≤ 0 by decide)]; rfl
        · refine ⟨-9223372036854775808, 2, 2, ?_, ?_, N, G, F, hRP, hRR, hRT, hRS, ht, rfl⟩
          · rw [h9, g1, g4, g6, e_cellFlaw1 K g3, if_neg c3, Option.bind_some, if_neg (show ¬ (2 : Int32) = 0 by decide)]
          · rw [h10, if_neg c3]
    · refine ⟨-9223372036854775808, 0, 0, ?_, ?_, N, G, F, hRP, hRR, hRT, hRS, ht, rfl⟩
      · rw [f_X9_cell, e9_isSheet, if_pos c, Option.bind_some, if_neg (show ¬ (1 : Int32) = 0 by decide), e9_isLane, if_neg c2, Option.bind_some, if_pos rfl]
      · rw [f_X10_cell, e10_noSheet, if_pos c, Option.bind_some, if_pos rfl, e_in, Int32.toInt_toInt64, j_0, j_2, if_neg c2, Option.bind_some, if_pos rfl]; rfl
  · refine ⟨-9223372036854775808, 0, 0, ?_, ?_, N, G, F, hRP, hRR, hRT, hRS, ht, rfl⟩
    · rw [f_X9_cell, e9_isSheet, if_neg c, Option.bind_some, if_pos rfl]
    · rw [f_X10_cell, e10_noSheet, if_neg c, Option.bind_some, if_neg (show ¬ (1 : Int32) = 0 by decide)]; rfl
set_option maxHeartbeats 1000000 in
theorem q_copy (K : Nat) (hK : 200000 ≤ K) (x1 : Int32) (x2 : Int32) (x3 : Int32) (x4 : Int32) (x5 : Int32) (upn : Int32) (upp : Int32) (upq : Int32) (upg : Int64) (upf : Int64) (upu : Nat → Int64) (urw : Int32) (urm : Int64) (urh : Int32) (url : Int32) (uro : Int64) (urt : Int64) (ura : Nat → Int64) (urb : Nat → Int64) (uth : Int32) (utr : Int32) (utf : Int32) (utw : Nat → Int32) (uto : Nat → Int32) (utg : Nat → Int32) (uts : Nat → Int64) (utp : Nat → Int32) (utq : Nat → Int32) (utl : Nat → Int32) (ush : Nat → Int32) (usl : Nat → Int32) (usn : Nat → Int32) (usc : Nat → Nat → Int64) (uxt : Int32) (uxf : Int32) (mf : Int32) (mn : Int32) (mp : Int32) (mq : Int32) (mg : Nat → Int32) (mz : Nat → Int32) (ms : Nat → Int32) (ml : Nat → Int32) (mc : Nat → Int64) (mh : Nat → Int64) (mw : Int32) (mm : Int64) (ma : Int32) (me : Nat → Int32) (mk : Nat → Int32) (mo : Nat → Int64) (mx : Nat → Int64) (mu : Int32) (mi : Int32) (mC : Nat → Int32) (mA : Nat → Int32) (mF : Nat → Int32) (mb : Int32) (mv : Nat → Int64) (mt : Int32) (hR : Rel upn upp upq upg upf upu urw urm urh url uro urt ura urb uth utr utf utw uto utg uts utp utq utl ush usl usn usc uxt uxf mf mn mp mq mg mz ms ml mc mh mw mm ma me mk mo mx mu mi mC mA mF mb mv mt) : ∃ (r_ : Int32) (o_uxf : Int32) (o_usc : Nat → Nat → Int64) (o_mf : Int32) (o_mc : Nat → Int64) (o_mh : Nat → Int64), f_X9_copy K x1 x2 x3 x4 x5 ush usl usn usc = some (r_, o_uxf, o_usc) ∧ f_X10_copy K x1 x2 x3 x4 x5 ms ml mc mh = some (r_, o_mf, o_mc, o_mh) ∧ Rel upn upp upq upg upf upu urw urm urh url uro urt ura urb uth utr utf utw uto utg uts utp utq utl ush usl usn o_usc uxt o_uxf o_mf mn mp mq mg mz ms ml o_mc o_mh mw mm ma me mk mo mx mu mi mC mA mF mb mv mt := by
  obtain ⟨N, G, F, hRP, hRR, hRT, hRS, ht, hf⟩ := hR
  have hk0 : ∀ (o_f : Int32) (o_c : Nat → Nat → Int64) (o_m o_h : Nat → Int64), RS ush usl usn o_c ms ml o_m → Rel upn upp upq upg upf upu urw urm urh url uro urt ura urb uth utr utf utw uto utg uts utp utq utl ush usl usn o_c uxt o_f o_f mn mp mq mg mz ms ml o_m o_h mw mm ma me mk mo mx mu mi mC mA mF mb mv mt := fun o_f o_c o_m o_h h => ⟨N, G, F, hRP, hRR, hRT, h, ht, rfl⟩
  by_cases c1 : 0 ≤ x1.toInt ∧ x1.toInt ≤ 3
  · by_cases c2 : 0 ≤ x3.toInt ∧ x3.toInt ≤ 3
    · obtain ⟨k, hk, rfl, e1⟩ := toN (x := x1) c1.1
      obtain ⟨o, ho, rfl, e2⟩ := toN (x := x3) c2.1
      have hk4 : k < 4 := by omega
      have ho4 : o < 4 := by omega
      have h9 : f_X9_copy K (nI k) x2 (nI o) x4 x5 ush usl usn usc = (if ush k = 0 then some (-10 - 1, 1, usc) else if ush o = 0 then some (-10 - 1, 1, usc) else if usl k = usl o then (Option.bind (f_X6_hasCells K x2 x5 (usn k)) fun r_14 => if r_14 = 0 then some (-10 - 3, 3, usc) else Option.bind (f_X6_hasCells K x4 x5 (usn o)) fun r_18 => if r_18 = 0 then some (-10 - 3, 3, usc) else gCp x2 x4 x5 (some (x5, 0, va_up usc o (va_cpy (usc k) (usc o) (Int32.toNatClampNeg x2) (Int32.toNatClampNeg x4) (Int32.toNatClampNeg x5))))) else some (-10 - 2, 2, usc)) := by
        rw [f_X9_copy, e9_isSheet, if_pos c1, Option.bind_some, if_neg (show ¬ (1 : Int32) = 0 by decide), e9_isSheet, if_pos c2, Option.bind_some, if_neg (show ¬ (1 : Int32) = 0 by decide), gIx_nI _ hk4 (by decide), gLet, gIx_nI _ ho4 (by decide), gLet, tnN hk, tnN ho]
        rfl
      rcases hRS k hk4 with ⟨g1, g2⟩ | ⟨g1, la, le, g2, g3, g4, g5, g6, g7, g8⟩
      · refine ⟨-10 - 1, 1, usc, 1, mc, mh, by rw [h9, if_pos g1], ?_, hk0 _ _ _ _ hRS⟩
        rw [f_X10_copy, e10_noSheet, if_pos c1, Option.bind_some, if_pos rfl, e10_noSheet, if_pos c2, Option.bind_some, if_pos rfl, gIx_nI _ hk4 (by decide), tnN hk, g2, if_pos (by decide)]; rfl
      · have hb : ¬ ush k = 0 := by rw [g1]; decide
        rcases hRS o ho4 with ⟨y1, y2⟩ | ⟨y1, la2, le2, y2, y3, y4, y5, y6, y7, y8⟩
        · refine ⟨-10 - 1, 1, usc, 1, mc, mh, by rw [h9, if_neg hb, if_pos y1], ?_, hk0 _ _ _ _ hRS⟩
          rw [f_X10_copy, e10_noSheet, if_pos c1, Option.bind_some, if_pos rfl, e10_noSheet, if_pos c2, Option.bind_some, if_pos rfl, gIx_nI _ hk4 (by decide), tnN hk, g7, if_neg (nI_pos (by omega)), gIx_nI _ ho4 (by decide), tnN ho, y2, if_neg (by decide)]; rfl
        · have hb2 : ¬ ush o = 0 := by rw [y1]; decide
          have h10 : f_X10_copy K (nI k) x2 (nI o) x4 x5 ms ml mc mh = (if nI la = nI la2 then (Option.bind (f_X10_isBeyond K x2 x5 (nI le)) fun r_12 => if r_12 = 0 then (Option.bind (f_X10_isBeyond K x4 x5 (nI le2)) fun r_16 => if r_16 = 0 then (Option.bind (fL_X10_copy_105 K (nI k) x2 x5 mc K (0, mh)) fun (o_26, o_27) => Option.bind (fL_X10_copy_142 K (nI o) x4 x5 o_27 K (0, mc)) fun (o_36, o_37) => some ((x5 : Int32), (0 : Int32), o_37, o_27)) else some ((-10 - 3 : Int32), (3 : Int32), mc, mh)) else some ((-10 - 3 : Int32), (3 : Int32), mc, mh)) else some ((-10 - 2 : Int32), (2 : Int32), mc, mh)) := by
            rw [f_X10_copy, e10_noSheet, if_pos c1, Option.bind_some, if_pos rfl, e10_noSheet, if_pos c2, Option.bind_some, if_pos rfl, gIx_nI _ hk4 (by decide), tnN hk, g7, if_neg (nI_pos (by omega)), gIx_nI _ ho4 (by decide), tnN ho, y7, if_pos (nI_pos' (by omega)), gIx_nI _ hk4 (by decide), gIx_nI _ ho4 (by decide), g5, y5, gIx_nI _ hk4 (by decide), gIx_nI _ ho4 (by decide)]
            rfl
          have hle : (nI le).toInt = (le : Int) := nI_toInt (by omega)
          have hle2 : (nI le2).toInt = (le2 : Int) := nI_toInt (by omega)
          rw [g4, g6, y4, y6] at h9
          by_cases cl : nI la = nI la2
          · by_cases d1 : 0 ≤ x2.toInt ∧ 0 ≤ x5.toInt ∧ x2.toInt + x5.toInt ≤ (nI le).toInt
            · by_cases d2 : 0 ≤ x4.toInt ∧ 0 ≤ x5.toInt ∧ x4.toInt + x5.toInt ≤ (nI le2).toInt
              · obtain ⟨a, ha, rfl, e3⟩ := toN (x := x2) d1.1
                obtain ⟨d, hd, rfl, e4⟩ := toN (x := x4) d2.1
                obtain ⟨n, hn, rfl, e5⟩ := toN (x := x5) d1.2.1
                have i1 : a + n ≤ le := by omega
                have i2 : d + n ≤ le2 := by omega
                have r1 : fL_X10_copy_105 K (nI k) (nI a) (nI n) mc K (0, mh) = some (nI n, fun j => if 0 ≤ j ∧ j < n then mc (40 * k + a + j) else mh j) := l_copy1 K k a n hk4 (by omega) mc n 0 K mh (by omega) (by omega)
                have r2 : ∀ u4 : Nat → Int64, fL_X10_copy_142 K (nI o) (nI d) (nI n) u4 K (0, mc) = some (nI n, fun j => if 40 * o + d + 0 ≤ j ∧ j < 40 * o + d + n then u4 (j - (40 * o + d)) else mc j) := fun u4 => l_copy2 K o d n ho4 (by omega) u4 n 0 K mc (by omega) (by omega)
                refine ⟨nI n, 0, va_up usc o (va_cpy (usc k) (usc o) a d n), 0, _, _, ?_, by rw [h10, if_pos cl, e_isBeyond, if_pos d1, Option.bind_some, if_pos rfl, e_isBeyond, if_pos d2, Option.bind_some, if_pos rfl, r1, Option.bind_some]; dsimp only; rw [r2, Option.bind_some], hk0 _ _ _ _ ?_⟩
                · rw [h9, if_neg hb, if_neg hb2, if_pos cl, e_hasCells K _ _ _ (by omega), if_pos d1, Option.bind_some, if_neg (show ¬ (1 : Int32) = 0 by decide), e_hasCells K _ _ _ (by omega), if_pos d2, Option.bind_some, if_neg (show ¬ (1 : Int32) = 0 by decide), gCp, if_pos (by rw [tnN ha, tnN hd, tnN hn]; exact ⟨nI_pos ha, nI_pos hd, nI_pos hn, by omega, by omega⟩), tnN ha, tnN hd, tnN hn]
                · intro q hq
                  by_cases qo : q = o
                  · subst qo
                    refine Or.inr ⟨y1, la2, le2, y2, y3, y4, y5, y6, y7, fun i hi => ?_⟩
                    simp only [va_up, if_true, va_cpy]
                    by_cases z : d ≤ i ∧ i < d + n
                    · rw [if_pos z, if_pos (by omega), if_pos (by omega), g8 _ (by omega)]
                      congr 1
                      omega
                    · rw [if_neg z, if_neg (by omega)]
                      exact y8 i hi
                  · have := hRS q hq
                    simp only [va_up, if_neg qo]
                    rcases this with gg | ⟨v1, la3, le3, v2, v3, v4, v5, v6, v7, v8⟩
                    · exact Or.inl gg
                    · refine Or.inr ⟨v1, la3, le3, v2, v3, v4, v5, v6, v7, fun i hi => ?_⟩
                      rw [if_neg (by omega)]
                      exact v8 i hi
              · refine ⟨-10 - 3, 3, usc, 3, mc, mh, ?_, ?_, hk0 _ _ _ _ hRS⟩
                · rw [h9, if_neg hb, if_neg hb2, if_pos cl, e_hasCells K _ _ _ (by omega), if_pos d1, Option.bind_some, if_neg (show ¬ (1 : Int32) = 0 by decide), e_hasCells K _ _ _ (by omega), if_neg d2, Option.bind_some, if_pos rfl]
                · rw [h10, if_pos cl, e_isBeyond, if_pos d1, Option.bind_some, if_pos rfl, e_isBeyond, if_neg d2, Option.bind_some, if_neg (show ¬ (1 : Int32) = 0 by decide)]
            · refine ⟨-10 - 3, 3, usc, 3, mc, mh, ?_, ?_, hk0 _ _ _ _ hRS⟩
              · rw [h9, if_neg hb, if_neg hb2, if_pos cl, e_hasCells K _ _ _ (by omega), if_neg d1, Option.bind_some, if_pos rfl]
              · rw [h10, if_pos cl, e_isBeyond, if_neg d1, Option.bind_some, if_neg (show ¬ (1 : Int32) = 0 by decide)]
          · exact ⟨-10 - 2, 2, usc, 2, mc, mh, by rw [h9, if_neg hb, if_neg hb2, if_neg cl], by rw [h10, if_neg cl], hk0 _ _ _ _ hRS⟩
    · refine ⟨-1, 0, usc, 0, mc, mh, ?_, ?_, hk0 _ _ _ _ hRS⟩
      · rw [f_X9_copy, e9_isSheet, if_pos c1, Option.bind_some, if_neg (show ¬ (1 : Int32) = 0 by decide), e9_isSheet, if_neg c2, Option.bind_some, if_pos rfl]; rfl
      · rw [f_X10_copy, e10_noSheet, if_pos c1, Option.bind_some, if_pos rfl, e10_noSheet, if_neg c2, Option.bind_some, if_neg (show ¬ (1 : Int32) = 0 by decide)]; rfl
  · refine ⟨-1, 0, usc, 0, mc, mh, ?_, ?_, hk0 _ _ _ _ hRS⟩
    · rw [f_X9_copy, e9_isSheet, if_neg c1, Option.bind_some, if_pos rfl]; rfl
    · rw [f_X10_copy, e10_noSheet, if_neg c1, Option.bind_some, if_neg (show ¬ (1 : Int32) = 0 by decide)]; rfl
set_option maxHeartbeats 1000000 in
theorem q_tell (K : Nat) (hK : 200000 ≤ K) (x1 : Int32) (upn : Int32) (upp : Int32) (upq : Int32) (upg : Int64) (upf : Int64) (upu : Nat → Int64) (urw : Int32) (urm : Int64) (urh : Int32) (url : Int32) (uro : Int64) (urt : Int64) (ura : Nat → Int64) (urb : Nat → Int64) (uth : Int32) (utr : Int32) (utf : Int32) (utw : Nat → Int32) (uto : Nat → Int32) (utg : Nat → Int32) (uts : Nat → Int64) (utp : Nat → Int32) (utq : Nat → Int32) (utl : Nat → Int32) (ush : Nat → Int32) (usl : Nat → Int32) (usn : Nat → Int32) (usc : Nat → Nat → Int64) (uxt : Int32) (uxf : Int32) (mf : Int32) (mn : Int32) (mp : Int32) (mq : Int32) (mg : Nat → Int32) (mz : Nat → Int32) (ms : Nat → Int32) (ml : Nat → Int32) (mc : Nat → Int64) (mh : Nat → Int64) (mw : Int32) (mm : Int64) (ma : Int32) (me : Nat → Int32) (mk : Nat → Int32) (mo : Nat → Int64) (mx : Nat → Int64) (mu : Int32) (mi : Int32) (mC : Nat → Int32) (mA : Nat → Int32) (mF : Nat → Int32) (mb : Int32) (mv : Nat → Int64) (mt : Int32) (hR : Rel upn upp upq upg upf upu urw urm urh url uro urt ura urb uth utr utf utw uto utg uts utp utq utl ush usl usn usc uxt uxf mf mn mp mq mg mz ms ml mc mh mw mm ma me mk mo mx mu mi mC mA mF mb mv mt) : ∃ (r_ : Int32) (o_uxt : Int32) (o_mt : Int32), f_X9_tell K x1 upn upp upq upg upf uxt = some (r_, o_uxt) ∧ f_X10_tell K x1 mn mp mq mt mg mz = some (r_, o_mt) ∧ Rel upn upp upq upg upf upu urw urm urh url uro urt ura urb uth utr utf utw uto utg uts utp utq utl ush usl usn usc o_uxt uxf mf mn mp mq mg mz ms ml mc mh mw mm ma me mk mo mx mu mi mC mA mF mb mv o_mt := by
  obtain ⟨N, G, F, ⟨a1, a2, a3, a4, a5, a6, a7, a8, ⟨P, Q, q1, q2, q3, q4, q5, q6, q7⟩, a10, a11⟩, hRR, hRT, hRS, ht, hf⟩ := hR
  have hN32 : N ≤ 32 := by rcases a1 with rfl | rfl | rfl | rfl | rfl <;> omega
  have hp32 : 2 ^ N ≤ 2 ^ 32 := Nat.pow_le_pow_right (by decide) hN32
  have hni : (nI N).toInt = (N : Int) := nI_toInt (by omega)
  subst a2; subst a3; subst a4; subst a5; subst q1; subst q2; subst q3; subst q4; subst ht
  have hk0 : ∀ o_t : Int32, Rel (nI N) (nI P) (nI Q) (lN G) (lN F) upu urw urm urh url uro urt ura urb uth utr utf utw uto utg uts utp utq utl ush usl usn usc o_t uxf mf (nI N) (nI P) (nI Q) mg mz ms ml mc mh mw mm ma me mk mo mx mu mi mC mA mF mb mv o_t := fun o_t => ⟨N, G, F, ⟨a1, rfl, rfl, rfl, rfl, a6, a7, a8, ⟨P, Q, rfl, rfl, rfl, rfl, q5, q6, q7⟩, a10, a11⟩, hRR, hRT, hRS, rfl, hf⟩
  by_cases c : 0 ≤ x1.toInt ∧ x1.toInt < N
  · obtain ⟨j, hj, rfl, e2⟩ := toN (x := x1) c.1
    obtain ⟨tg, best, e3, e4, e5⟩ := e_part K N Q G hK hN32 q5 q6 (by omega) mg (j := j) (by omega) (a10 j (by omega)) (nI P)
    have h9 : f_X9_tell K (nI j) (nI N) (nI P) (nI Q) (lN G) (lN F) uxt = if tg = 0 then some (bI (F.testBit j), 31 * uxt + 1) else if tg = 1 then some (nI j + 10, 31 * uxt + 2) else some (2 * (nI j + 10), 31 * (31 * uxt + 3) + 2) := by
      rw [f_X9_tell, e9_has, hni, if_pos c, Option.bind_some, if_neg (show ¬ (1 : Int32) = 0 by decide), e3, Option.bind_some]
      unfold f_X1_telling
      rw [e_frozenBit K (by omega) (by omega)]
      rfl
    have h10 : f_X10_tell K (nI j) (nI N) (nI P) (nI Q) uxt mg mz = if G.testBit j = false then some (bI (F.testBit j), 31 * uxt + 1) else if best = 0 then some (nI j + 10, 31 * uxt + 2) else some (2 * (nI j + 10), 31 * (31 * uxt + 3) + 2) := by
      rw [f_X10_tell, e10_noPlace K N (by omega), if_pos c, Option.bind_some, if_pos rfl, gIx_nI _ (show j < 32 by omega) (by decide), tnN hj, a10 j (by omega), e4]
      simp only [gIx_nI _ (show j < 32 by omega) (by decide : (32 : Nat) < 2 ^ 31), a11 j (show j < 32 by omega)]
      cases G.testBit j
      · rfl
      · by_cases r : best = 0
        · simp only [Option.bind_some, r]; rfl
        · simp only [Option.bind_some, r]; rfl
    rcases e5 with ⟨g1, g2, g3⟩ | ⟨g1, g2, g3⟩ | ⟨g1, g2, g3⟩
    · exact ⟨_, _, _, by rw [h9, if_pos g2], by rw [h10, if_pos g1], hk0 _⟩
    · exact ⟨_, _, _, by rw [h9, if_neg (by omega), if_pos g2], by rw [h10, if_neg (by rw [g1]; decide), if_pos g3], hk0 _⟩
    · exact ⟨_, _, _, by rw [h9, if_neg (by omega), if_neg (by omega)], by rw [h10, if_neg (by rw [g1]; decide), if_neg (by rw [g3]; decide)], hk0 _⟩
  · refine ⟨-1, uxt, uxt, ?_, ?_, hk0 _⟩
    · rw [f_X9_tell, e9_has, hni, if_neg c, Option.bind_some, if_pos rfl]
    · rw [f_X10_tell, e10_noPlace K N (by omega), if_neg c, Option.bind_some, if_neg (show ¬ (1 : Int32) = 0 by decide)]
set_option maxHeartbeats 1000000 in
theorem q_weigh (K : Nat) (hK : 200000 ≤ K) (x1 : Int32) (upn : Int32) (upp : Int32) (upq : Int32) (upg : Int64) (upf : Int64) (upu : Nat → Int64) (urw : Int32) (urm : Int64) (urh : Int32) (url : Int32) (uro : Int64) (urt : Int64) (ura : Nat → Int64) (urb : Nat → Int64) (uth : Int32) (utr : Int32) (utf : Int32) (utw : Nat → Int32) (uto : Nat → Int32) (utg : Nat → Int32) (uts : Nat → Int64) (utp : Nat → Int32) (utq : Nat → Int32) (utl : Nat → Int32) (ush : Nat → Int32) (usl : Nat → Int32) (usn : Nat → Int32) (usc : Nat → Nat → Int64) (uxt : Int32) (uxf : Int32) (mf : Int32) (mn : Int32) (mp : Int32) (mq : Int32) (mg : Nat → Int32) (mz : Nat → Int32) (ms : Nat → Int32) (ml : Nat → Int32) (mc : Nat → Int64) (mh : Nat → Int64) (mw : Int32) (mm : Int64) (ma : Int32) (me : Nat → Int32) (mk : Nat → Int32) (mo : Nat → Int64) (mx : Nat → Int64) (mu : Int32) (mi : Int32) (mC : Nat → Int32) (mA : Nat → Int32) (mF : Nat → Int32) (mb : Int32) (mv : Nat → Int64) (mt : Int32) (hR : Rel upn upp upq upg upf upu urw urm urh url uro urt ura urb uth utr utf utw uto utg uts utp utq utl ush usl usn usc uxt uxf mf mn mp mq mg mz ms ml mc mh mw mm ma me mk mo mx mu mi mC mA mF mb mv mt) : ∃ (r_ : Int32) (o_uxt : Int32) (o_mt : Int32), f_X9_weigh K x1 upn upp upq upg uxt = some (r_, o_uxt) ∧ f_X10_weigh K x1 mn mt mg = some (r_, o_mt) ∧ Rel upn upp upq upg upf upu urw urm urh url uro urt ura urb uth utr utf utw uto utg uts utp utq utl ush usl usn usc o_uxt uxf mf mn mp mq mg mz ms ml mc mh mw mm ma me mk mo mx mu mi mC mA mF mb mv o_mt := by
  obtain ⟨N, G, F, ⟨a1, a2, a3, a4, a5, a6, a7, a8, ⟨P, Q, q1, q2, q3, q4, q5, q6, q7⟩, a10, a11⟩, hRR, hRT, hRS, ht, hf⟩ := hR
  have hN32 : N ≤ 32 := by rcases a1 with rfl | rfl | rfl | rfl | rfl <;> omega
  have hp32 : 2 ^ N ≤ 2 ^ 32 := Nat.pow_le_pow_right (by decide) hN32
  have hni : (nI N).toInt = (N : Int) := nI_toInt (by omega)
  subst a2; subst a3; subst a4; subst q1; subst q2; subst q3; subst q4; subst ht
  have hk0 : ∀ o_t : Int32, Rel (nI N) (nI P) (nI Q) (lN G) upf upu urw urm urh url uro urt ura urb uth utr utf utw uto utg uts utp utq utl ush usl usn usc o_t uxf mf (nI N) (nI P) (nI Q) mg mz ms ml mc mh mw mm ma me mk mo mx mu mi mC mA mF mb mv o_t := fun o_t => ⟨N, G, F, ⟨a1, rfl, rfl, rfl, a5, a6, a7, a8, ⟨P, Q, rfl, rfl, rfl, rfl, q5, q6, q7⟩, a10, a11⟩, hRR, hRT, hRS, rfl, hf⟩
  by_cases c : 0 ≤ x1.toInt ∧ x1.toInt < N
  · obtain ⟨j, hj, rfl, e2⟩ := toN (x := x1) c.1
    obtain ⟨tg, best, e3, e4, e5⟩ := e_part K N Q G hK hN32 q5 q6 (by omega) mg (j := j) (by omega) (a10 j (by omega)) (nI P)
    have h9 : f_X9_weigh K (nI j) (nI N) (nI P) (nI Q) (lN G) uxt = if tg = 0 then some (nI j, 31 * uxt + 4) else some (nI N - nI j, 31 * uxt + 5) := by
      rw [f_X9_weigh, e9_has, hni, if_pos c, Option.bind_some, if_neg (show ¬ (1 : Int32) = 0 by decide), e3, Option.bind_some]
      by_cases q : tg = 0
      · rw [if_pos q, if_pos q]; rfl
      · rw [if_neg q, if_neg q]
        by_cases r : tg = 1
        · rw [if_pos r]; rfl
        · rw [if_neg r]; rfl
    have h10 : f_X10_weigh K (nI j) (nI N) uxt mg = if G.testBit j = false then some (nI j, 31 * uxt + 4) else some (nI N - nI j, 31 * uxt + 5) := by
      rw [f_X10_weigh, e10_noPlace K N (by omega), if_pos c, Option.bind_some, if_pos rfl, gIx_nI _ (show j < 32 by omega) (by decide), tnN hj, a10 j (by omega)]
      simp only [gIx_nI _ (show j < 32 by omega) (by decide : (32 : Nat) < 2 ^ 31)]
      cases G.testBit j <;> rfl
    rcases e5 with ⟨g1, g2, g3⟩ | ⟨g1, g2, g3⟩ | ⟨g1, g2, g3⟩
    · exact ⟨_, _, _, by rw [h9, if_pos g2], by rw [h10, if_pos g1], hk0 _⟩
    · exact ⟨_, _, _, by rw [h9, if_neg (by omega)], by rw [h10, if_neg (by rw [g1]; decide)], hk0 _⟩
    · exact ⟨_, _, _, by rw [h9, if_neg (by omega)], by rw [h10, if_neg (by rw [g1]; decide)], hk0 _⟩
  · refine ⟨-1, uxt, uxt, ?_, ?_, hk0 _⟩
    · rw [f_X9_weigh, e9_has, hni, if_neg c, Option.bind_some, if_pos rfl]
    · rw [f_X10_weigh, e10_noPlace K N (by omega), if_neg c, Option.bind_some, if_neg (show ¬ (1 : Int32) = 0 by decide)]
set_option maxHeartbeats 1000000 in
theorem q_as (K : Nat) (hK : 200000 ≤ K) (x1 : Int32) (x2 : Int32) (upn : Int32) (upp : Int32) (upq : Int32) (upg : Int64) (upf : Int64) (upu : Nat → Int64) (urw : Int32) (urm : Int64) (urh : Int32) (url : Int32) (uro : Int64) (urt : Int64) (ura : Nat → Int64) (urb : Nat → Int64) (uth : Int32) (utr : Int32) (utf : Int32) (utw : Nat → Int32) (uto : Nat → Int32) (utg : Nat → Int32) (uts : Nat → Int64) (utp : Nat → Int32) (utq : Nat → Int32) (utl : Nat → Int32) (ush : Nat → Int32) (usl : Nat → Int32) (usn : Nat → Int32) (usc : Nat → Nat → Int64) (uxt : Int32) (uxf : Int32) (mf : Int32) (mn : Int32) (mp : Int32) (mq : Int32) (mg : Nat → Int32) (mz : Nat → Int32) (ms : Nat → Int32) (ml : Nat → Int32) (mc : Nat → Int64) (mh : Nat → Int64) (mw : Int32) (mm : Int64) (ma : Int32) (me : Nat → Int32) (mk : Nat → Int32) (mo : Nat → Int64) (mx : Nat → Int64) (mu : Int32) (mi : Int32) (mC : Nat → Int32) (mA : Nat → Int32) (mF : Nat → Int32) (mb : Int32) (mv : Nat → Int64) (mt : Int32) (hR : Rel upn upp upq upg upf upu urw urm urh url uro urt ura urb uth utr utf utw uto utg uts utp utq utl ush usl usn usc uxt uxf mf mn mp mq mg mz ms ml mc mh mw mm ma me mk mo mx mu mi mC mA mF mb mv mt) : ∃ (r_ : Int32) (o_uxf : Int32) (o_mf : Int32), f_X9_as K x1 x2 upn upp upq upg = some (r_, o_uxf) ∧ f_X10_as K x1 x2 mn mp mq mg = some (r_, o_mf) ∧ Rel upn upp upq upg upf upu urw urm urh url uro urt ura urb uth utr utf utw uto utg uts utp utq utl ush usl usn usc uxt o_uxf o_mf mn mp mq mg mz ms ml mc mh mw mm ma me mk mo mx mu mi mC mA mF mb mv mt := by
  obtain ⟨N, G, F, ⟨a1, a2, a3, a4, a5, a6, a7, a8, ⟨P, Q, q1, q2, q3, q4, q5, q6, q7⟩, a10, a11⟩, hRR, hRT, hRS, ht, hf⟩ := hR
  have hN32 : N ≤ 32 := by rcases a1 with rfl | rfl | rfl | rfl | rfl <;> omega
  have hp32 : 2 ^ N ≤ 2 ^ 32 := Nat.pow_le_pow_right (by decide) hN32
  have hni : (nI N).toInt = (N : Int) := nI_toInt (by omega)
  subst a2; subst a3; subst a4; subst q1; subst q2; subst q3; subst q4
  have hk0 : ∀ o_t : Int32, Rel (nI N) (nI P) (nI Q) (lN G) upf upu urw urm urh url uro urt ura urb uth utr utf utw uto utg uts utp utq utl ush usl usn usc uxt o_t o_t (nI N) (nI P) (nI Q) mg mz ms ml mc mh mw mm ma me mk mo mx mu mi mC mA mF mb mv mt := fun o_t => ⟨N, G, F, ⟨a1, rfl, rfl, rfl, a5, a6, a7, a8, ⟨P, Q, rfl, rfl, rfl, rfl, q5, q6, q7⟩, a10, a11⟩, hRR, hRT, hRS, ht, rfl⟩
  by_cases c : 0 ≤ x1.toInt ∧ x1.toInt < N
  · by_cases c2 : 0 ≤ x2.toInt ∧ x2.toInt ≤ 2
    · obtain ⟨j, hj, rfl, e2⟩ := toN (x := x1) c.1
      obtain ⟨kd, hkd, rfl, e6⟩ := toN (x := x2) c2.1
      obtain ⟨tg, best, e3, e4, e5⟩ := e_part K N Q G hK hN32 q5 q6 (by omega) mg (j := j) (by omega) (a10 j (by omega)) (nI P)
      have h9 : f_X9_as K (nI j) (nI kd) (nI N) (nI P) (nI Q) (lN G) = if (kd = 0 ∧ tg = 0) ∨ (kd = 1 ∧ tg ≠ 0) ∨ (kd = 2 ∧ tg = 2) then some (1, 0) else some (-10 - 2, 2) := by
        rw [f_X9_as, e9_has, hni, if_pos c, Option.bind_some, if_neg (show ¬ (1 : Int32) = 0 by decide), if_neg (nI_pos (by omega)), if_pos (show nI kd ≤ 2 by rw [leI, i_2]; omega), e3, Option.bind_some]
        rcases (show kd = 0 ∨ kd = 1 ∨ kd = 2 by omega) with rfl | rfl | rfl <;> rcases e5 with ⟨g1, rfl, g3⟩ | ⟨g1, rfl, g3⟩ | ⟨g1, rfl, g3⟩ <;> rfl
      have h10 : f_X10_as K (nI j) (nI kd) (nI N) (nI P) (nI Q) mg = if (kd = 0 ∧ G.testBit j = false) ∨ (kd = 1 ∧ G.testBit j = true) ∨ (kd = 2 ∧ ¬ best = 0) then some (1, 0) else some (-10 - 2, 2) := by
        rw [f_X10_as, e10_noPlace K N (by omega), if_pos c, Option.bind_some, if_pos rfl, e_in, Int32.toInt_toInt64, j_0, j_2, if_pos c2, Option.bind_some, if_neg (show ¬ (1 : Int32) = 0 by decide), e4]
        simp only [gIx_nI _ (show j < 32 by omega) (by decide : (32 : Nat) < 2 ^ 31), tnN hj, a10 j (show j < 32 by omega)]
        rcases (show kd = 0 ∨ kd = 1 ∨ kd = 2 by omega) with rfl | rfl | rfl <;> rcases e5 with ⟨g1, g2, rfl⟩ | ⟨g1, g2, rfl⟩ | ⟨g1, g2, rfl⟩ <;> rw [g1] <;> rfl
      have hiff : ((kd = 0 ∧ tg = 0) ∨ (kd = 1 ∧ tg ≠ 0) ∨ (kd = 2 ∧ tg = 2)) ↔ ((kd = 0 ∧ G.testBit j = false) ∨ (kd = 1 ∧ G.testBit j = true) ∨ (kd = 2 ∧ ¬ best = 0)) := by
        rcases e5 with ⟨g1, g2, g3⟩ | ⟨g1, g2, g3⟩ | ⟨g1, g2, g3⟩ <;> rw [g1, g2, g3] <;> simp
      by_cases cc : (kd = 0 ∧ tg = 0) ∨ (kd = 1 ∧ tg ≠ 0) ∨ (kd = 2 ∧ tg = 2)
      · exact ⟨1, 0, 0, by rw [h9, if_pos cc], by rw [h10, if_pos (hiff.mp cc)], hk0 _⟩
      · exact ⟨-10 - 2, 2, 2, by rw [h9, if_neg cc], by rw [h10, if_neg (fun z => cc (hiff.mpr z))], hk0 _⟩
    · refine ⟨-2, 0, 0, ?_, ?_, hk0 _⟩
      · rw [f_X9_as, e9_has, hni, if_pos c, Option.bind_some, if_neg (show ¬ (1 : Int32) = 0 by decide)]
        by_cases c3 : x2 < 0
        · rw [if_pos c3]; rfl
        · rw [if_neg c3, if_neg (by rw [leI, i_2]; rw [ltI, i_0] at c3; omega)]; rfl
      · rw [f_X10_as, e10_noPlace K N (by omega), if_pos c, Option.bind_some, if_pos rfl, e_in, Int32.toInt_toInt64, j_0, j_2, if_neg c2, Option.bind_some, if_pos rfl]; rfl
  · refine ⟨-1, 0, 0, ?_, ?_, hk0 _⟩
    · rw [f_X9_as, e9_has, hni, if_neg c, Option.bind_some, if_pos rfl]; rfl
    · rw [f_X10_as, e10_noPlace K N (by omega), if_neg c, Option.bind_some, if_neg (show ¬ (1 : Int32) = 0 by decide)]; rfl
set_option maxHeartbeats 1000000 in
theorem q_trace (K : Nat) (hK : 200000 ≤ K) (upn : Int32) (upp : Int32) (upq : Int32) (upg : Int64) (upf : Int64) (upu : Nat → Int64) (urw : Int32) (urm : Int64) (urh : Int32) (url : Int32) (uro : Int64) (urt : Int64) (ura : Nat → Int64) (urb : Nat → Int64) (uth : Int32) (utr : Int32) (utf : Int32) (utw : Nat → Int32) (uto : Nat → Int32) (utg : Nat → Int32) (uts : Nat → Int64) (utp : Nat → Int32) (utq : Nat → Int32) (utl : Nat → Int32) (ush : Nat → Int32) (usl : Nat → Int32) (usn : Nat → Int32) (usc : Nat → Nat → Int64) (uxt : Int32) (uxf : Int32) (mf : Int32) (mn : Int32) (mp : Int32) (mq : Int32) (mg : Nat → Int32) (mz : Nat → Int32) (ms : Nat → Int32) (ml : Nat → Int32) (mc : Nat → Int64) (mh : Nat → Int64) (mw : Int32) (mm : Int64) (ma : Int32) (me : Nat → Int32) (mk : Nat → Int32) (mo : Nat → Int64) (mx : Nat → Int64) (mu : Int32) (mi : Int32) (mC : Nat → Int32) (mA : Nat → Int32) (mF : Nat → Int32) (mb : Int32) (mv : Nat → Int64) (mt : Int32) (hR : Rel upn upp upq upg upf upu urw urm urh url uro urt ura urb uth utr utf utw uto utg uts utp utq utl ush usl usn usc uxt uxf mf mn mp mq mg mz ms ml mc mh mw mm ma me mk mo mx mu mi mC mA mF mb mv mt) : ∃ (r_ : Int32), f_X9_trace K uxt = some (r_) ∧ f_X10_trace K mt = some (r_) ∧ Rel upn upp upq upg upf upu urw urm urh url uro urt ura urb uth utr utf utw uto utg uts utp utq utl ush usl usn usc uxt uxf mf mn mp mq mg mz ms ml mc mh mw mm ma me mk mo mx mu mi mC mA mF mb mv mt := by
  obtain ⟨N, G, F, hRP, hRR, hRT, hRS, ht, hf⟩ := hR
  exact ⟨uxt, rfl, by rw [ht]; rfl, N, G, F, hRP, hRR, hRT, hRS, ht, hf⟩
set_option maxHeartbeats 1000000 in
theorem q_fault (K : Nat) (hK : 200000 ≤ K) (upn : Int32) (upp : Int32) (upq : Int32) (upg : Int64) (upf : Int64) (upu : Nat → Int64) (urw : Int32) (urm : Int64) (urh : Int32) (url : Int32) (uro : Int64) (urt : Int64) (ura : Nat → Int64) (urb : Nat → Int64) (uth : Int32) (utr : Int32) (utf : Int32) (utw : Nat → Int32) (uto : Nat → Int32) (utg : Nat → Int32) (uts : Nat → Int64) (utp : Nat → Int32) (utq : Nat → Int32) (utl : Nat → Int32) (ush : Nat → Int32) (usl : Nat → Int32) (usn : Nat → Int32) (usc : Nat → Nat → Int64) (uxt : Int32) (uxf : Int32) (mf : Int32) (mn : Int32) (mp : Int32) (mq : Int32) (mg : Nat → Int32) (mz : Nat → Int32) (ms : Nat → Int32) (ml : Nat → Int32) (mc : Nat → Int64) (mh : Nat → Int64) (mw : Int32) (mm : Int64) (ma : Int32) (me : Nat → Int32) (mk : Nat → Int32) (mo : Nat → Int64) (mx : Nat → Int64) (mu : Int32) (mi : Int32) (mC : Nat → Int32) (mA : Nat → Int32) (mF : Nat → Int32) (mb : Int32) (mv : Nat → Int64) (mt : Int32) (hR : Rel upn upp upq upg upf upu urw urm urh url uro urt ura urb uth utr utf utw uto utg uts utp utq utl ush usl usn usc uxt uxf mf mn mp mq mg mz ms ml mc mh mw mm ma me mk mo mx mu mi mC mA mF mb mv mt) : ∃ (r_ : Int32), f_X9_fault K uxf = some (r_) ∧ f_X10_fault K mf = some (r_) ∧ Rel upn upp upq upg upf upu urw urm urh url uro urt ura urb uth utr utf utw uto utg uts utp utq utl ush usl usn usc uxt uxf mf mn mp mq mg mz ms ml mc mh mw mm ma me mk mo mx mu mi mC mA mF mb mv mt := by
  obtain ⟨N, G, F, hRP, hRR, hRT, hRS, ht, hf⟩ := hR
  exact ⟨uxf, rfl, by rw [hf]; rfl, N, G, F, hRP, hRR, hRT, hRS, ht, hf⟩
set_option maxHeartbeats 1000000 in
theorem q_told (K : Nat) (hK : 200000 ≤ K) (x1 : Int32) (upn : Int32) (upp : Int32) (upq : Int32) (upg : Int64) (upf : Int64) (upu : Nat → Int64) (urw : Int32) (urm : Int64) (urh : Int32) (url : Int32) (uro : Int64) (urt : Int64) (ura : Nat → Int64) (urb : Nat → Int64) (uth : Int32) (utr : Int32) (utf : Int32) (utw : Nat → Int32) (uto : Nat → Int32) (utg : Nat → Int32) (uts : Nat → Int64) (utp : Nat → Int32) (utq : Nat → Int32) (utl : Nat → Int32) (ush : Nat → Int32) (usl : Nat → Int32) (usn : Nat → Int32) (usc : Nat → Nat → Int64) (uxt : Int32) (uxf : Int32) (mf : Int32) (mn : Int32) (mp : Int32) (mq : Int32) (mg : Nat → Int32) (mz : Nat → Int32) (ms : Nat → Int32) (ml : Nat → Int32) (mc : Nat → Int64) (mh : Nat → Int64) (mw : Int32) (mm : Int64) (ma : Int32) (me : Nat → Int32) (mk : Nat → Int32) (mo : Nat → Int64) (mx : Nat → Int64) (mu : Int32) (mi : Int32) (mC : Nat → Int32) (mA : Nat → Int32) (mF : Nat → Int32) (mb : Int32) (mv : Nat → Int64) (mt : Int32) (hR : Rel upn upp upq upg upf upu urw urm urh url uro urt ura urb uth utr utf utw uto utg uts utp utq utl ush usl usn usc uxt uxf mf mn mp mq mg mz ms ml mc mh mw mm ma me mk mo mx mu mi mC mA mF mb mv mt) : ∃ (r_ : Int32), f_X9_told K x1 upn upp upq upg urw urh url = some (r_) ∧ f_X10_told K x1 mn mp mq mw ma mg = some (r_) ∧ Rel upn upp upq upg upf upu urw urm urh url uro urt ura urb uth utr utf utw uto utg uts utp utq utl ush usl usn usc uxt uxf mf mn mp mq mg mz ms ml mc mh mw mm ma me mk mo mx mu mi mC mA mF mb mv mt := by
  have hR0 := hR
  obtain ⟨N, G, F, ⟨a1, a2, a3, a4, a5, a6, a7, a8, ⟨P, Q, q1, q2, q3, q4, q5, q6, q7⟩, a10, a11⟩, ⟨⟨Wd, w1, w2, w3, w4⟩, b2, b3⟩, hRT, hRS, ht, hf⟩ := hR
  have hN32 : N ≤ 32 := by rcases a1 with rfl | rfl | rfl | rfl | rfl <;> omega
  have hp32 : 2 ^ N ≤ 2 ^ 32 := Nat.pow_le_pow_right (by decide) hN32
  have hG : G < 2 ^ 32 := by omega
  have h1 : f_X4_goodCount K upg = f_X10_goods K mn mg := by
    rw [a4, e_goodCount K hG, a3, e_goods K N G hK mg hN32 a10, pc_lt hN32 a6]
  have h2 : f_X10_goods K mn mg = some (nI (pcN N G)) := by rw [a3, e_goods K N G hK mg hN32 a10]
  have h5 : (if urh = 0 then some (-9 : Int32) else some url) = some ma := by
    rcases b3 with ⟨g1, g2⟩ | ⟨g1, c, g2, g3, g4, g5⟩
    · rw [g1, g2]; rfl
    · rw [g1, g3, g4, if_neg (by decide)]
  have key : f_X9_told K x1 upn upp upq upg urw urh url = f_X10_told K x1 mn mp mq mw ma mg := by
    unfold f_X9_told f_X10_told
    rw [h1, h5, a2, a3, q1, q2, q3, q4, w1, w2]
  have ex : ∃ r, f_X10_told K x1 mn mp mq mw ma mg = some r := by
    unfold f_X10_told
    rw [h2]
    repeat' split
    all_goals exact ⟨_, rfl⟩
  obtain ⟨r, hr⟩ := ex
  exact ⟨r, by rw [key, hr], hr, hR0⟩
