/-! pure side, the reader 14: operators and short cuts -/
section RDO
variable {D r : Nat}
theorem rd_J108 {k1 : ST → SL → Int32 → ST → SL → ST → SL → Option (Int32 × ST × SL × ST × ST × SL)} {k2 : ST → SL → Int32 → ST → SL → ST → SL → Option (Int32 × ST × SL × ST × ST × SL)} {p2w : ST} {p2l : SL} {n ha hb : Nat} {rw : ST} {rl : SL} {pw tw tw1 : ST} {tl : SL} {rest : List Tok} (ht : tk_s tw tl rest) (hs : rd_st r rest) (hh : max ha hb < 10) (hr : r ≤ 4) :
    fX7_readTest_J108 (fX7_readTest_L17 (pu_I r) p2w p2l k1 k2 (n + 1)) (pu_I r) (pu_I ha) (pu_I 0) tw1 (pu_I hb) rw rl pw tw tl = some (pu_I (max ha hb + 1), rw, rl, pw, tw, tl) := by
  have := Nat.le_max_left ha hb
  have := Nat.le_max_right ha hb
  unfold fX7_readTest_J108
  rw [rd_max (by omega) (by omega), rd_raise hh]
  show (if pu_I r = 2 then some (pu_I (max ha hb + 1), rw, rl, pw, tw, tl) else fX7_readTest_L17 (pu_I r) p2w p2l k1 k2 (n + 1) (pu_I (max ha hb + 1)) (pu_I 0 + 1) rw rl pw tw tl) = _
  by_cases e : pu_I r = 2
  · rw [if_pos e]
  · rw [if_neg e, pu_su, rd_L17 ht hs (by decide)]
theorem re_Q_bn {s K : Int32} {a b : RE} (ha : re_Q a) (hb : re_Q b) (oa : re_ok a) (ob : re_ok b) (hr : 2 ≤ r ∧ r ≤ 4) (hK : fX7_kindOfSign s = some K ∧ fX7_rowOf s = some (pu_I r) ∧ s ≠ 40 ∧ K ≠ 35) (hl : r < re_lv a ∧ r < re_lv b) : re_Q (re_bn s K r a b) := by
  have hdp : re_dp (re_bn s K r a b) = max (re_dp a) (re_dp b) + 12 := rfl
  have hd1 := Nat.le_max_left (re_dp a) (re_dp b)
  have hd2 := Nat.le_max_right (re_dp a) (re_dp b)
  refine re_Qr (d0 := max (re_dp a) (re_dp b) + 2) (r0 := r) (re_ok_bn oa ob hr.2) rfl hr.2 (by rw [hdp]; omega) fun D hD => ?_
  obtain ⟨D, rfl⟩ : ∃ q, D = q + 2 := ⟨D - 2, by omega⟩
  have hRa := re_Qo ha hr.2 hl.1 (D := D) (by omega)
  have hRb := re_Qo hb hr.2 hl.2 (D := D) (by omega)
  refine rd_R_of fun rw rl pw pl tw tl f op sv cs lp n L V T rest h1 h2 h3 h4 h5 => ?_
  obtain ⟨⟨b1, b2, b3, b4, b5, b6, b7, b8⟩, b9, b10⟩ := h5
  have hlen : (re_tks (re_bn s K r a b)).length = (re_tks a).length + 1 + (re_tks b).length := by
    show (re_tks a ++ ((s, 0, 0) :: re_tks b)).length = _
    rw [List.length_append, List.length_cons]; omega
  rw [hlen] at b7 ⊢
  replace b1 : op + max (re_br a) (re_br b) ≤ 8 := b1
  replace b2 : max (re_ht a) (re_ht b) + 1 ≤ 9 := b2
  replace b3 : n + (re_ln a + re_ln b + 1) ≤ 3190 := b3
  replace b4 : L + (re_ss a + re_ss b) ≤ 640 := b4
  replace b5 : V + (re_ss a + re_ss b) ≤ 320 := b5
  replace b8 : cs.length + (re_cn a + re_cn b) ≤ 600 := b8
  have m1 := Nat.le_max_left (re_br a) (re_br b)
  have m2 := Nat.le_max_right (re_br a) (re_br b)
  have m3 := Nat.le_max_left (re_ht a) (re_ht b)
  have m4 := Nat.le_max_right (re_ht a) (re_ht b)
  have hpa := oa.2.2.1
  have hpb := ob.2.2.1
  replace h3 : tk_s tw tl ((re_tks a ++ ((s, 0, 0) :: re_tks b)) ++ rest) := h3
  rw [List.append_assoc] at h3
  obtain ⟨rw1, rl1, pw1, tw1, tl1, e1, e2, e3, e4⟩ := rd_R_a (pl := pl) hRa oa h1 h2 h3 ⟨hK.2.2.1, pu_I r, hK.2.1, (pu_lt (by omega) (by omega)).mpr (by omega)⟩ ⟨⟨by omega, by omega, by omega, by omega, by omega, b6, by omega, by omega⟩, b9⟩
  obtain ⟨tw2, tl2, f1, f2, _⟩ := tk_adv e4
  obtain ⟨pw3, g1, g2, _⟩ := rd_a_tick e3 (x := n) (by omega) (by omega) (by omega)
  obtain ⟨rw4, rl4, pw4, tw4, tl4, i1, i2, i3, i4⟩ := rd_R_a (pl := pl) hRb ob e2 g2.1 f2 (rd_st_mono h4 (by omega) (by omega)) ⟨⟨by omega, by omega, by omega, by omega, by omega, by omega, by omega, by rw [List.length_append, oa.2.1]; omega⟩, b10⟩
  obtain ⟨pw5, j1, j2⟩ := rd_a_emit (rd_a_tr g2 i3 (by omega) (by omega)) (by omega) (by omega) (k := K) (a := 0) (t := 0) hK.2.2.2 (Nat.zero_le _) false (fun q => by cases q)
  refine ⟨rw4, rl4, pw5, tw4, tl4, ?_, ?_, ?_, i4⟩
  · show fX7_readTest ((rR (D + 1)).2.2.2.2.2.1) ((rR (D + 1)).2.2.2.2.2.2.1) rw rl (pu_I r) pw pl tw tl = _
    unfold fX7_readTest
    rw [show (rR (D + 1)).2.2.2.2.2.1 rw rl (pu_I r) pw pl tw tl = _ from e1]
    show ((fX7_readTest_L17 (pu_I r) pw pl ((rR (D + 1)).2.2.2.2.2.1) ((rR (D + 1)).2.2.2.2.2.2.1) (4194303 + 1) (pu_I (re_ht a)) (pu_I 0) rw1 rl1 pw1 tw1 tl1).bind fun o17 => some (o17.1, o17.2.1, o17.2.2.1, o17.2.2.2.1, o17.2.2.2.2.1, o17.2.2.2.2.2)) = _
    rw [rd_eta]
    unfold fX7_readTest_L17
    rw [if_neg (by decide), e4.1.1, hK.2.1]
    show (if pu_I r = pu_I r then _ else _) = _
    rw [if_pos rfl, f1]
    show ((fX6_tick pw1 (pw 0 7)).bind _) = _
    rw [h2.1.1, g1]
    show (if 2 ≤ pu_I r then _ else _) = _
    rw [if_pos (by rw [show (2 : Int32) = pu_I 2 from rfl, pu_le (by decide) (by omega)]; exact hr.1)]
    show ((rd_opnd (D + 1) r rw1 rl1 pw3 pl tw2 tl2).bind _) = _
    rw [i1]
    show ((fX7_kindOfSign s).bind _) = _
    rw [hK.1]
    show ((fX6_emit pw4 K 0 0).bind _) = _
    rw [show fX6_emit pw4 K 0 0 = some pw5 from j1]
    exact rd_J108 (n := 4194302) i4 h4 (by omega) hr.2
  · show rd_w rw4 rl4 f op sv (cs ++ (re_cl a n ++ re_cl b (n + re_ln a))) lp
    rw [← List.append_assoc]
    exact i2
  · show rd_a f L pw n pw5 (n + (re_ln a + re_ln b + 1)) (L + (re_ss a + re_ss b)) (V + (re_ss a + re_ss b)) (T + ((re_tks a).length + 1 + (re_tks b).length)) (re_cd a sv L V ++ (re_cd b sv (L + re_ss a) (V + re_ss a) ++ [(K, 0, false)]))
    rw [← List.append_assoc, show n + (re_ln a + re_ln b + 1) = n + re_ln a + re_ln b + 1 by omega, ← Nat.add_assoc L, ← Nat.add_assoc V]
    exact rd_a_T j2 (by omega)
theorem re_Q_sc {c : Bool} {a b : RE} (ha : re_Q a) (hb : re_Q b) (oa : re_ok a) (ob : re_ok b) (hl : (if c = true then 1 else 0) < re_lv a ∧ (if c = true then 1 else 0) < re_lv b) : re_Q (re_sc c a b) := by
  obtain ⟨r, hr⟩ : ∃ r, r = if c = true then 1 else 0 := ⟨_, rfl⟩
  obtain ⟨s, hs⟩ : ∃ s : Int32, s = if c = true then 294 else 380 := ⟨_, rfl⟩
  obtain ⟨K, hK⟩ : ∃ K : Int32, K = if c = true then 33 else 34 := ⟨_, rfl⟩
  have hr1 : r ≤ 1 := by rw [hr]; cases c <;> decide
  have hrow : fX7_rowOf s = some (pu_I r) ∧ s ≠ 40 ∧ K ≠ 35 := by
    rw [hr, hs, hK]; cases c <;> decide
  rw [← hr] at hl
  have hdp : re_dp (re_sc c a b) = max (re_dp a) (re_dp b) + 12 := rfl
  have hd1 := Nat.le_max_left (re_dp a) (re_dp b)
  have hd2 := Nat.le_max_right (re_dp a) (re_dp b)
  refine re_Qr (d0 := max (re_dp a) (re_dp b) + 3) (r0 := r) (re_ok_sc oa ob) hr.symm (by omega) (by rw [hdp]; omega) fun D hD => ?_
  obtain ⟨D, rfl⟩ : ∃ q, D = q + 3 := ⟨D - 3, by omega⟩
  have hRa := re_Qo ha (by omega) hl.1 (D := D + 1) (by omega)
  have hRb := re_Qo hb (by omega) hl.2 (D := D) (by omega)
  refine rd_R_of fun rw rl pw pl tw tl f op sv cs lp n L V T rest h1 h2 h3 h4 h5 => ?_
  obtain ⟨⟨b1, b2, b3, b4, b5, b6, b7, b8⟩, b9, b10⟩ := h5
  have hlen : (re_tks (re_sc c a b)).length = (re_tks a).length + 1 + (re_tks b).length := by
    show (re_tks a ++ ((_, 0, 0) :: re_tks b)).length = _
    rw [List.length_append, List.length_cons]; omega
  rw [hlen] at b7 ⊢
  replace b1 : op + max (re_br a) (re_br b) ≤ 8 := b1
  replace b2 : max (re_ht a) (re_ht b) + 1 ≤ 9 := b2
  replace b3 : n + (re_ln a + re_ln b + 9) ≤ 3190 := b3
  replace b4 : L + (re_ss a + re_ss b + 1) ≤ 640 := b4
  replace b5 : V + (re_ss a + re_ss b + 1) ≤ 320 := b5
  replace b8 : cs.length + (re_cn a + re_cn b) ≤ 600 := b8
  have m1 := Nat.le_max_left (re_br a) (re_br b)
  have m2 := Nat.le_max_right (re_br a) (re_br b)
  have m3 := Nat.le_max_left (re_ht a) (re_ht b)
  have m4 := Nat.le_max_right (re_ht a) (re_ht b)
  have hpa := oa.2.2.1
  have hpb := ob.2.2.1
  replace h3 : tk_s tw tl ((re_tks a ++ ((if c = true then 294 else 380, 0, 0) :: re_tks b)) ++ rest) := h3
  rw [List.append_assoc, ← hs] at h3
  obtain ⟨rw1, rl1, pw1, tw1, tl1, e1, e2, e3, e4⟩ := rd_R_a (pl := pl) hRa oa h1 h2 h3 ⟨hrow.2.1, pu_I r, hrow.1, (pu_lt (by omega) (by omega)).mpr (by omega)⟩ ⟨⟨by omega, by omega, by omega, by omega, by omega, b6, by omega, by omega⟩, b9⟩
  obtain ⟨tw2, tl2, f1, f2, _⟩ := tk_adv e4
  obtain ⟨pw3, g1, g2, _⟩ := rd_a_tick e3 (x := n) (by omega) (by omega) (by omega)
  obtain ⟨pw4, i1, i2, _⟩ := rd_a_var g2 h1.2.1.1 (by omega) (by omega)
  obtain ⟨pw5, j1, j2, hu⟩ := rd_a_lab i2 (by omega) (by omega)
  obtain ⟨pw6, k1, k2⟩ := rd_truth (rd_a_0 j2.1 (by omega)) (by omega) (by omega)
  obtain ⟨pw7, l1, l2⟩ := rd_a_emit k2 (by omega) (by omega) (k := 32) (a := pu_I (V + re_ss a)) (t := 0) (by decide) (Nat.zero_le _) false (fun q => by cases q)
  obtain ⟨pw8, q1, q2⟩ := rd_a_emit l2 (by omega) (by omega) (k := K) (a := pu_I (L + re_ss a)) (t := 0) hrow.2.2 (Nat.zero_le _) false (fun q => by cases q)
  obtain ⟨rw9, rl9, pw9, tw9, tl9, o1, o2, o3, o4⟩ := rd_R_a (pl := pl) hRb ob e2 q2.1 f2 (rd_st_mono h4 (by omega) (by omega)) ⟨⟨by omega, by omega, by omega, by omega, by omega, by omega, by omega, by rw [List.length_append, oa.2.1]; omega⟩, b10⟩
  obtain ⟨pw10, p1, p2⟩ := rd_truth (rd_a_tr q2 o3 (Nat.le_refl _) (by omega)) (by omega) (by omega)
  obtain ⟨pw11, r1, r2⟩ := rd_a_emit p2 (by omega) (by omega) (k := 31) (a := pu_I (V + re_ss a)) (t := 0) (by decide) (Nat.zero_le _) false (fun q => by cases q)
  have hu2 := rd_u_y hu r2.2.1 (by omega) (by omega)
  have r3 := rd_a_tr j2 r2 (by omega) (by omega)
  obtain ⟨pw12, s1, s2⟩ := rd_a_put r3 (by omega) (by omega) (m := L + re_ss a) (by omega) (by omega) (by omega) hu2
  obtain ⟨pw13, t1, t2⟩ := rd_a_emit s2 (by omega) (by omega) (k := 30) (a := pu_I (V + re_ss a)) (t := 0) (by decide) (Nat.zero_le _) false (fun q => by cases q)
  have h0 : (0 : Int32) = pu_I 0 := rfl
  have h50 : ∀ y, fX7_readShortCut_J50 rw1 rl1 y pl tw2 tl2 (pu_I (V + re_ss a), pw4) (pu_I (L + re_ss a), pw5) pw7 ((rR (D + 1)).2.2.2.2.2.1) K = if y = pu_I r then some (pu_I (re_ht b), rw9, rl9, pw13, tw9, tl9) else fX7_readShortCut_J50 rw1 rl1 y pl tw2 tl2 (pu_I (V + re_ss a), pw4) (pu_I (L + re_ss a), pw5) pw7 ((rR (D + 1)).2.2.2.2.2.1) K := fun y => by
    by_cases e : y = pu_I r
    · subst e
      rw [if_pos rfl]
      unfold fX7_readShortCut_J50
      show ((fX6_emit pw7 K (pu_I (L + re_ss a)) 0).bind _) = _
      rw [show fX6_emit pw7 K (pu_I (L + re_ss a)) 0 = some pw8 from q1]
      show ((rd_opnd (D + 1) r rw1 rl1 pw8 pl tw2 tl2).bind _) = _
      rw [o1]
      show ((fX7_emitTruth pw9).bind _) = _
      rw [p1]
      show ((fX6_emit pw10 31 (pu_I (V + re_ss a)) 0).bind _) = _
      rw [show fX6_emit pw10 31 (pu_I (V + re_ss a)) 0 = some pw11 from r1]
      show ((fX6_putLabel pw11 (pu_I (L + re_ss a))).bind _) = _
      rw [s1]
      show ((fX6_emit pw12 30 (pu_I (V + re_ss a)) 0).bind _) = _
      rw [show fX6_emit pw12 30 (pu_I (V + re_ss a)) 0 = some pw13 from t1]
      rfl
    · rw [if_neg e]
  have hsc : rd_shrt (D + 2) r rw1 rl1 pw3 pl tw2 tl2 = some (pu_I (re_ht b), rw9, rl9, pw13, tw9, tl9) := by
    show fX7_readShortCut ((rR (D + 1)).2.2.2.2.2.1) rw1 rl1 (pu_I r) pw3 pl tw2 tl2 = _
    unfold fX7_readShortCut
    rw [e2.1.1, i1]
    show ((fX6_newLabel pw4).bind _) = _
    rw [j1]
    show ((fX7_emitTruth pw5).bind _) = _
    rw [k1]
    show ((fX6_emit pw6 32 (pu_I (V + re_ss a)) 0).bind _) = _
    rw [show fX6_emit pw6 32 (pu_I (V + re_ss a)) 0 = some pw7 from l1]
    show (if pu_I r = 0 then fX7_readShortCut_J50 rw1 rl1 (pu_I r) pl tw2 tl2 (pu_I (V + re_ss a), pw4) (pu_I (L + re_ss a), pw5) pw7 ((rR (D + 1)).2.2.2.2.2.1) 34 else fX7_readShortCut_J50 rw1 rl1 (pu_I r) pl tw2 tl2 (pu_I (V + re_ss a), pw4) (pu_I (L + re_ss a), pw5) pw7 ((rR (D + 1)).2.2.2.2.2.1) 33) = _
    cases c
    · rw [show r = 0 from hr, if_pos (show pu_I 0 = (0 : Int32) from rfl), ← show K = 34 from hK, h50, if_pos (by rw [show r = 0 from hr])]
    · rw [show r = 1 from hr, if_neg (show ¬ pu_I 1 = (0 : Int32) by decide), ← show K = 33 from hK, h50, if_pos (by rw [show r = 1 from hr])]
  refine ⟨rw9, rl9, pw13, tw9, tl9, ?_, ?_, ?_, o4⟩
  · show fX7_readTest ((rR (D + 2)).2.2.2.2.2.1) ((rR (D + 2)).2.2.2.2.2.2.1) rw rl (pu_I r) pw pl tw tl = _
    unfold fX7_readTest
    rw [show (rR (D + 2)).2.2.2.2.2.1 rw rl (pu_I r) pw pl tw tl = _ from e1]
    show ((fX7_readTest_L17 (pu_I r) pw pl ((rR (D + 2)).2.2.2.2.2.1) ((rR (D + 2)).2.2.2.2.2.2.1) (4194303 + 1) (pu_I (re_ht a)) (pu_I 0) rw1 rl1 pw1 tw1 tl1).bind fun o17 => some (o17.1, o17.2.1, o17.2.2.1, o17.2.2.2.1, o17.2.2.2.2.1, o17.2.2.2.2.2)) = _
    rw [rd_eta]
    unfold fX7_readTest_L17
    rw [if_neg (by decide), e4.1.1, hrow.1]
    show (if pu_I r = pu_I r then _ else _) = _
    rw [if_pos rfl, f1]
    show ((fX6_tick pw1 (pw 0 7)).bind _) = _
    rw [h2.1.1, g1]
    show (if 2 ≤ pu_I r then _ else _) = _
    rw [if_neg (by rw [show (2 : Int32) = pu_I 2 from rfl, pu_le (by decide) (by omega)]; omega)]
    show ((rd_shrt (D + 2) r rw1 rl1 pw3 pl tw2 tl2).bind _) = _
    rw [hsc]
    exact rd_J108 (n := 4194302) o4 h4 (by omega) (by omega)
  · show rd_w rw9 rl9 f op sv (cs ++ (re_cl a n ++ re_cl b (n + re_ln a + 4))) lp
    rw [← List.append_assoc]
    exact o2
  · show rd_a f L pw n pw13 (n + (re_ln a + re_ln b + 9)) (L + (re_ss a + re_ss b + 1)) (V + (re_ss a + re_ss b + 1)) (T + ((re_tks a).length + 1 + (re_tks b).length)) (re_cd a sv L V ++ ([(0, 0, false), (16, 0, false), (32, pu_I (V + re_ss a), false), (if c = true then 33 else 34, pu_I (L + re_ss a), false)] ++
      (re_cd b sv (L + re_ss a + 1) (V + re_ss a + 1) ++ [(0, 0, false), (16, 0, false), (31, pu_I (V + re_ss a), false), (35, pu_I (L + re_ss a), false), (30, pu_I (V + re_ss a), false)])))
    rw [← hK]
    have := rd_a_T t2 (T' := T + ((re_tks a).length + 1 + (re_tks b).length)) (by omega)
    simp only [List.append_assoc, List.nil_append, List.cons_append] at this ⊢
    rw [show n + (re_ln a + re_ln b + 9) = n + re_ln a + 2 + 1 + 1 + re_ln b + 2 + 1 + 1 + 1 by omega, show L + (re_ss a + re_ss b + 1) = L + re_ss a + 1 + re_ss b by omega, show V + (re_ss a + re_ss b + 1) = V + re_ss a + 1 + re_ss b by omega]
    exact this
end RDO
