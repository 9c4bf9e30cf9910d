/-! pure side, the reader 13: single and signed tests -/
section RDS
theorem rd_st_93 {rest : List Tok} : rd_st 0 ((93, 0, 0) :: rest) := ⟨show (93 : Int32) ≠ 40 by decide, -1, show fX7_rowOf 93 = some (-1) by decide, by decide⟩
theorem rd_st_41 {rest : List Tok} : rd_st 0 ((41, 0, 0) :: rest) := ⟨show (41 : Int32) ≠ 40 by decide, -1, show fX7_rowOf 41 = some (-1) by decide, by decide⟩
theorem rd_st_44 {rest : List Tok} : rd_st 0 ((44, 0, 0) :: rest) := ⟨show (44 : Int32) ≠ 40 by decide, -1, show fX7_rowOf 44 = some (-1) by decide, by decide⟩
theorem rd_st_59 {rest : List Tok} : rd_st 0 ((59, 0, 0) :: rest) := ⟨show (59 : Int32) ≠ 40 by decide, -1, show fX7_rowOf 59 = some (-1) by decide, by decide⟩
theorem rd_st_123 {rest : List Tok} : rd_st 0 ((123, 0, 0) :: rest) := ⟨show (123 : Int32) ≠ 40 by decide, -1, show fX7_rowOf 123 = some (-1) by decide, by decide⟩
theorem re_Q_nm {v : Int32} : re_Q (re_nm v) := by
  refine re_Q6 (d0 := 1) re_ok_nm rfl (show (2 : Int32) ≠ 45 by decide) (show (2 : Int32) ≠ 33 by decide) (Nat.le_refl 12) fun D hD => ?_
  obtain ⟨D, rfl⟩ : ∃ q, D = q + 1 := ⟨D - 1, by omega⟩
  refine rd_R_of fun rw rl pw pl tw tl f op sv cs lp n L V T rest h1 h2 h3 h4 h5 => ?_
  obtain ⟨⟨b1, b2, b3, b4, b5, b6, b7, b8⟩, b9⟩ := h5
  replace b3 : n + 1 ≤ 3190 := b3
  replace b7 : T + 1 ≤ 1000 := b7
  replace h3 : tk_s tw tl ((2, v, 0) :: rest) := h3
  obtain ⟨pw1, e1, e2⟩ := rd_a_emit (rd_a_0 h2 (by omega)) (by omega) (by omega) (k := 0) (a := v) (t := 1) (by decide) b6 true (fun _ => Nat.le_refl 1)
  obtain ⟨tw1, tl1, e3, e4, _⟩ := tk_adv h3
  refine ⟨rw, rl, pw1, tw1, tl1, ?_, by rw [show re_cl (re_nm v) n = [] from rfl, List.append_nil]; exact h1, rd_a_T e2 (Nat.le_add_right T 1), e4⟩
  show fX7_readSingle _ _ rw rl pw pl tw tl = _
  unfold fX7_readSingle fX7_readSingle_J199
  rw [if_pos h3.1.1, h3.1.2.1 rfl]
  dsimp only
  rw [show (1 : Int32) = pu_I 1 from rfl, e1]
  show ((fX10_advance tw tl).bind fun o => some (pu_I 1, rw, rl, pw1, o.1, o.2)) = _
  rw [e3]
  rfl
theorem re_Q_vr {x : Int64} : re_Q (re_vr x) := by
  refine re_Q6 (d0 := 1) re_ok_vr rfl (show (3 : Int32) ≠ 45 by decide) (show (3 : Int32) ≠ 33 by decide) (Nat.le_refl 12) fun D hD => ?_
  obtain ⟨D, rfl⟩ : ∃ q, D = q + 1 := ⟨D - 1, by omega⟩
  refine rd_R_of fun rw rl pw pl tw tl f op sv cs lp n L V T rest h1 h2 h3 h4 h5 => ?_
  obtain ⟨⟨b1, b2, b3, b4, b5, b6, b7, b8⟩, v, v1, v2⟩ := h5
  replace b3 : n + 1 ≤ 3190 := b3
  replace b7 : T + 1 ≤ 1000 := b7
  replace h3 : tk_s tw tl ((3, 0, x) :: rest) := h3
  obtain ⟨pw1, e1, e2⟩ := rd_a_emit (rd_a_0 h2 (by omega)) (by omega) (by omega) (k := 30) (a := pu_I v) (t := 1) (by decide) b6 true (fun _ => Nat.le_refl 1)
  obtain ⟨tw1, tl1, e3, e4, _⟩ := tk_adv h3
  refine ⟨rw, rl, pw1, tw1, tl1, ?_, by rw [show re_cl (re_vr x) n = [] from rfl, List.append_nil]; exact h1, ?_, e4⟩
  · show fX7_readSingle _ _ rw rl pw pl tw tl = _
    unfold fX7_readSingle fX7_readSingle_J199 fX7_readSingle_J111 fX7_readSingle_J199
    rw [h3.1.1]
    dsimp only
    rw [if_neg (by decide), if_pos rfl, e3]
    show (if tw1 0 2 = 40 then _ else _) = _
    rw [tk_h_s e4, if_neg h4.1, h3.1.2.2 rfl, rd_seen h1 v2 v1]
    show ((fX6_emit pw 30 (pu_I v) 1).bind fun o => some ((1 : Int32), rw, rl, o, tw1, tl1)) = _
    rw [show (1 : Int32) = pu_I 1 from rfl, e1]
    rfl
  · have : re_cd (re_vr x) sv L V = [(30, pu_I v, true)] := by
      show [(30, pu_I ((rd_lk sv x).getD 0), true)] = _
      rw [v2]
      rfl
    rw [this]
    exact rd_a_T e2 (Nat.le_add_right T 1)
theorem re_Q_ld {e : RE} (hQ : re_Q e) (hok : re_ok e) : re_Q (re_ld e) := by
  refine re_Q6 (d0 := re_dp e + 1) (re_ok_ld hok) rfl (show (91 : Int32) ≠ 45 by decide) (show (91 : Int32) ≠ 33 by decide) (Nat.le_refl (re_dp e + 12)) fun D hD => ?_
  obtain ⟨D, rfl⟩ : ∃ q, D = q + 1 := ⟨D - 1, by omega⟩
  have hR := (hQ D (by omega)).2.2 0 (by decide) (Nat.zero_le _)
  refine rd_R_of fun rw rl pw pl tw tl f op sv cs lp n L V T rest h1 h2 h3 h4 h5 => ?_
  obtain ⟨⟨b1, b2, b3, b4, b5, b6, b7, b8⟩, b9⟩ := h5
  have hlen : (re_tks (re_ld e)).length = (re_tks e).length + 2 := by
    show ((91, 0, 0) :: (re_tks e ++ [(93, 0, 0)])).length = _
    rw [List.length_cons, List.length_append]; rfl
  rw [hlen] at b7 ⊢
  replace b1 : op + (re_br e + 1) ≤ 8 := b1
  replace b2 : re_ht e + 1 ≤ 9 := b2
  replace b3 : n + (re_ln e + 1) ≤ 3190 := b3
  replace b4 : L + re_ss e ≤ 640 := b4
  replace b5 : V + re_ss e ≤ 320 := b5
  replace b8 : cs.length + re_cn e ≤ 600 := b8
  have hpos := hok.2.2.1
  replace h3 : tk_s tw tl ((91, 0, 0) :: ((re_tks e ++ [(93, 0, 0)]) ++ rest)) := h3
  rw [List.append_assoc] at h3
  obtain ⟨rw1, tw1, tl1, e1, e2, e3, _⟩ := rd_exo h1 h3 (K := 91) rfl (Or.inr (Or.inl rfl)) (by omega)
  obtain ⟨rw2, rl2, pw2, tw2, tl2, f1, f2, f3, f4⟩ := rd_R_a (pl := pl) hR hok e2 h2 e3 rd_st_93 ⟨⟨by omega, by omega, by omega, by omega, by omega, b6, by omega, b8⟩, b9⟩
  obtain ⟨pw3, g1, g2, _⟩ := rd_a_tick f3 (x := n) (by omega) (by omega) (by omega)
  obtain ⟨rw3, tw3, tl3, i1, i2, i3⟩ := rd_exc f2 f4 (K := 93) rfl (Or.inr (Or.inl rfl))
  obtain ⟨pw4, j1, j2⟩ := rd_a_emit g2 (by omega) (by omega) (k := 17) (a := 0) (t := 0) (by decide) (Nat.zero_le _) false (fun q => by cases q)
  refine ⟨rw3, rl2, pw4, tw3, tl3, ?_, i2, rd_a_T j2 (by omega), i3⟩
  show fX7_readSingle _ _ rw rl pw pl tw tl = _
  unfold fX7_readSingle fX7_readSingle_J199
  rw [h3.1.1]
  dsimp only
  rw [if_neg (by decide), if_neg (by decide), if_pos rfl, e1]
  show ((rd_test D 0 rw1 rl pw pl tw1 tl1).bind _) = _
  rw [f1]
  show ((fX6_tick pw2 (pw 0 7)).bind _) = _
  rw [h2.1.1, g1]
  show ((fX7_expect rw2 93 tw2 tl2).bind _) = _
  rw [i1]
  show ((fX6_emit pw3 17 0 0).bind _) = _
  rw [show fX6_emit pw3 17 0 0 = some pw4 from j1]
  show ((fX7_raise rw3 (pu_I (re_ht e)) (tw 0 3)).bind _) = _
  rw [rd_raise (by omega)]
  rfl
theorem re_Q_pr {e : RE} (hQ : re_Q e) (hok : re_ok e) : re_Q (re_pr e) := by
  refine re_Q6 (d0 := re_dp e + 1) (re_ok_pr hok) rfl (show (40 : Int32) ≠ 45 by decide) (show (40 : Int32) ≠ 33 by decide) (Nat.le_refl (re_dp e + 12)) fun D hD => ?_
  obtain ⟨D, rfl⟩ : ∃ q, D = q + 1 := ⟨D - 1, by omega⟩
  have hR := (hQ D (by omega)).2.2 0 (by decide) (Nat.zero_le _)
  refine rd_R_of fun rw rl pw pl tw tl f op sv cs lp n L V T rest h1 h2 h3 h4 h5 => ?_
  obtain ⟨⟨b1, b2, b3, b4, b5, b6, b7, b8⟩, b9⟩ := h5
  have hlen : (re_tks (re_pr e)).length = (re_tks e).length + 2 := by
    show ((40, 0, 0) :: (re_tks e ++ [(41, 0, 0)])).length = _
    rw [List.length_cons, List.length_append]; rfl
  rw [hlen] at b7 ⊢
  replace b1 : op + (re_br e + 1) ≤ 8 := b1
  replace b2 : re_ht e ≤ 9 := b2
  replace b3 : n + re_ln e ≤ 3190 := b3
  replace b4 : L + re_ss e ≤ 640 := b4
  replace b5 : V + re_ss e ≤ 320 := b5
  replace b8 : cs.length + re_cn e ≤ 600 := b8
  replace h3 : tk_s tw tl ((40, 0, 0) :: ((re_tks e ++ [(41, 0, 0)]) ++ rest)) := h3
  rw [List.append_assoc] at h3
  obtain ⟨rw1, tw1, tl1, e1, e2, e3, _⟩ := rd_exo h1 h3 (K := 40) rfl (Or.inl rfl) (by omega)
  obtain ⟨rw2, rl2, pw2, tw2, tl2, f1, f2, f3, f4⟩ := rd_R_a (pl := pl) hR hok e2 h2 e3 rd_st_41 ⟨⟨by omega, by omega, by omega, by omega, by omega, b6, by omega, b8⟩, b9⟩
  obtain ⟨rw3, tw3, tl3, i1, i2, i3⟩ := rd_exc f2 f4 (K := 41) rfl (Or.inl rfl)
  refine ⟨rw3, rl2, pw2, tw3, tl3, ?_, i2, rd_a_T f3 (by omega), i3⟩
  show fX7_readSingle _ _ rw rl pw pl tw tl = _
  unfold fX7_readSingle fX7_readSingle_J199
  rw [h3.1.1]
  dsimp only
  rw [if_neg (by decide), if_neg (by decide), if_neg (by decide), e1]
  show ((rd_test D 0 rw1 rl pw pl tw1 tl1).bind _) = _
  rw [f1]
  show ((fX7_expect rw2 41 tw2 tl2).bind _) = _
  rw [i1]
  rfl
theorem re_Q_ng {e : RE} (hQ : re_Q e) (hok : re_ok e) (hlv : re_lv e = 6) : re_Q (re_ng e) := by
  refine re_Q5 (d0 := re_dp e + 1) (re_ok_ng hok) rfl (by show re_dp e + 1 + 10 ≤ re_dp e + 12; omega) fun D hD => ?_
  obtain ⟨D, rfl⟩ : ∃ q, D = q + 1 := ⟨D - 1, by omega⟩
  have hR := (hQ D (by omega)).1 hlv
  refine rd_R_of fun rw rl pw pl tw tl f op sv cs lp n L V T rest h1 h2 h3 h4 h5 => ?_
  obtain ⟨⟨b1, b2, b3, b4, b5, b6, b7, b8⟩, b9⟩ := h5
  have hlen : (re_tks (re_ng e)).length = (re_tks e).length + 1 := rfl
  rw [hlen] at b7 ⊢
  replace b1 : op + re_br e ≤ 8 := b1
  replace b2 : re_ht e + 1 ≤ 9 := b2
  replace b3 : n + (re_ln e + 2) ≤ 3190 := b3
  replace b4 : L + re_ss e ≤ 640 := b4
  replace b5 : V + re_ss e ≤ 320 := b5
  replace b8 : cs.length + re_cn e ≤ 600 := b8
  replace h3 : tk_s tw tl ((45, 0, 0) :: (re_tks e ++ rest)) := h3
  obtain ⟨tw1, tl1, e1, e2, _⟩ := tk_adv h3
  obtain ⟨pw2, f1, f2⟩ := rd_a_emit (rd_a_0 h2 (by omega)) (by omega) (by omega) (k := 0) (a := 0) (t := 1) (by decide) b6 true (fun _ => Nat.le_refl 1)
  obtain ⟨rw3, rl3, pw3, tw3, tl3, g1, g2, g3, g4⟩ := rd_R_a (pl := pl) hR hok h1 f2.1 e2 h4 ⟨⟨by omega, by omega, by omega, by omega, by omega, b6, by omega, b8⟩, b9⟩
  obtain ⟨pw4, j1, j2⟩ := rd_a_emit (rd_a_tr f2 g3 (Nat.le_refl _) (by omega)) (by omega) (by omega) (k := 2) (a := 0) (t := 0) (by decide) (Nat.zero_le _) false (fun q => by cases q)
  refine ⟨rw3, rl3, pw4, tw3, tl3, ?_, g2, ?_, g4⟩
  · show fX7_readSigned (rd_sngl D) rw rl pw pl tw tl = _
    unfold fX7_readSigned
    rw [h3.1.1, if_pos rfl, e1]
    show ((fX6_emit pw 0 0 1).bind _) = _
    rw [show fX6_emit pw 0 0 1 = some pw2 from f1]
    show ((rd_sngl D rw rl pw2 pl tw1 tl1).bind _) = _
    rw [g1]
    show ((fX6_emit pw3 2 0 0).bind _) = _
    rw [show fX6_emit pw3 2 0 0 = some pw4 from j1]
    show ((fX7_raise rw3 (pu_I (re_ht e)) (tw 0 3)).bind _) = _
    rw [rd_raise (by omega)]
    rfl
  · have := rd_a_T j2 (T' := T + ((re_tks e).length + 1)) (by omega)
    rw [show n + 1 + re_ln e + 1 = n + (re_ln e + 2) by omega, show [] ++ [(0, 0, true)] ++ re_cd e sv L V ++ [(2, 0, false)] = re_cd (re_ng e) sv L V from rfl] at this
    exact this
theorem re_Q_nt {e : RE} (hQ : re_Q e) (hok : re_ok e) (hlv : re_lv e = 6) : re_Q (re_nt e) := by
  refine re_Q5 (d0 := re_dp e + 1) (re_ok_nt hok) rfl (by show re_dp e + 1 + 10 ≤ re_dp e + 12; omega) fun D hD => ?_
  obtain ⟨D, rfl⟩ : ∃ q, D = q + 1 := ⟨D - 1, by omega⟩
  have hR := (hQ D (by omega)).1 hlv
  refine rd_R_of fun rw rl pw pl tw tl f op sv cs lp n L V T rest h1 h2 h3 h4 h5 => ?_
  obtain ⟨⟨b1, b2, b3, b4, b5, b6, b7, b8⟩, b9⟩ := h5
  have hlen : (re_tks (re_nt e)).length = (re_tks e).length + 1 := rfl
  rw [hlen] at b7 ⊢
  replace b1 : op + re_br e ≤ 8 := b1
  replace b2 : re_ht e + 1 ≤ 9 := b2
  replace b3 : n + (re_ln e + 2) ≤ 3190 := b3
  replace b4 : L + re_ss e ≤ 640 := b4
  replace b5 : V + re_ss e ≤ 320 := b5
  replace b8 : cs.length + re_cn e ≤ 600 := b8
  have hpos := hok.2.2.1
  replace h3 : tk_s tw tl ((33, 0, 0) :: (re_tks e ++ rest)) := h3
  obtain ⟨tw1, tl1, e1, e2, _⟩ := tk_adv h3
  obtain ⟨rw3, rl3, pw3, tw3, tl3, g1, g2, g3, g4⟩ := rd_R_a (pl := pl) hR hok h1 h2 e2 h4 ⟨⟨by omega, by omega, by omega, by omega, by omega, b6, by omega, b8⟩, b9⟩
  obtain ⟨pw4, i1, i2, _⟩ := rd_a_tick g3 (x := n) (by omega) (by omega) (by omega)
  obtain ⟨pw5, j1, j2⟩ := rd_a_emit i2 (by omega) (by omega) (k := 0) (a := 0) (t := 0) (by decide) (Nat.zero_le _) false (fun q => by cases q)
  obtain ⟨pw6, k1, k2⟩ := rd_a_emit j2 (by omega) (by omega) (k := 15) (a := 0) (t := 0) (by decide) (Nat.zero_le _) false (fun q => by cases q)
  refine ⟨rw3, rl3, pw6, tw3, tl3, ?_, g2, ?_, g4⟩
  · show fX7_readSigned (rd_sngl D) rw rl pw pl tw tl = _
    unfold fX7_readSigned
    rw [h3.1.1, if_neg (by decide), if_pos rfl, e1]
    show ((rd_sngl D rw rl pw pl tw1 tl1).bind _) = _
    rw [g1]
    show ((fX6_tick pw3 (pw 0 7)).bind _) = _
    rw [h2.1.1, i1]
    show ((fX6_emit pw4 0 0 0).bind _) = _
    rw [show fX6_emit pw4 0 0 0 = some pw5 from j1]
    show ((fX6_emit pw5 15 0 0).bind _) = _
    rw [show fX6_emit pw5 15 0 0 = some pw6 from k1]
    show ((fX7_raise rw3 (pu_I (re_ht e)) (tw 0 3)).bind _) = _
    rw [rd_raise (by omega)]
    rfl
  · have := rd_a_T k2 (T' := T + ((re_tks e).length + 1)) (by omega)
    rw [List.append_assoc] at this
    exact this
end RDS
