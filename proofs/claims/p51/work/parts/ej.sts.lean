/-! pure side, the reader 19: statements are read -/
section RDU
/-- a statement's end -/
theorem rd_J346 {f L0 n0 n L V T : Nat} {pw0 pw pws : ST} {l : List (Int32 × Int32 × Bool)} {rw : ST} {rl : SL} {tw : ST} {tl : SL} (h2 : rd_a f L0 pw0 n0 pw n L V T l) (hs : pws 0 7 = pu_I n0) (hn0 : n0 < n) (hn : n ≤ 3200) (hT : T + 1 ≤ 1000) :
    ∃ pw', fX7_readStatement_J346 pws rw rl pw tw tl = some (rw, rl, pw', tw, tl) ∧ rd_a f L0 pw0 n0 pw' n L V (T + 1) l ∧ tq_k pw' n0 := by
  obtain ⟨pw', e1, e2, e3⟩ := rd_a_tick h2 hn0 hn hT
  refine ⟨pw', ?_, e2, e3⟩
  unfold fX7_readStatement_J346
  rw [hs, e1]
  rfl
theorem rd_J215 {f op lp L0 n0 n L V T : Nat} {sv cs} {pw0 pw pws : ST} {l : List (Int32 × Int32 × Bool)} {rw : ST} {rl : SL} {tw : ST} {tl : SL} {rest : List Tok} (h1 : rd_w rw rl f op sv cs lp) (h2 : rd_a f L0 pw0 n0 pw n L V T l) (h3 : tk_s tw tl ((59, 0, 0) :: rest)) (hs : pws 0 7 = pu_I n0) (hn0 : n0 < n) (hn : n ≤ 3200) (hT : T + 1 ≤ 1000) :
    ∃ pw' tw' tl', ((fX7_expect rw 59 tw tl).bind fun (o : ST × ST × SL) => fX7_readStatement_J346 pws o.1 rl pw o.2.1 o.2.2) = some (rw, rl, pw', tw', tl') ∧ rd_a f L0 pw0 n0 pw' n L V (T + 1) l ∧ tk_s tw' tl' rest := by
  obtain ⟨tw1, tl1, e1, e2⟩ := rd_exp h1 h3 (K := 59) rfl (by decide)
  obtain ⟨pw', f1, f2, _⟩ := rd_J346 (rw := rw) (rl := rl) (tw := tw1) (tl := tl1) h2 hs hn0 hn hT
  refine ⟨pw', tw1, tl1, ?_, f2, e2⟩
  rw [e1]
  exact f1
theorem rs_Q_set {x : Int64} {e : RE} (hQ : re_Q e) (hok : re_ok e) : rs_Q (rs_set x e) := by
  intro D hD rw rl pw pl tw tl f op sv cs lp n L V T rest h1 h2 h3 h4 h5
  replace hD : re_dp e + 1 ≤ D := hD
  obtain ⟨D, rfl⟩ : ∃ q, D = q + 1 := ⟨D - 1, by omega⟩
  have hR := (hQ D (by omega)).2.2 0 (by decide) (Nat.zero_le _)
  obtain ⟨⟨b1, b2, b3, b4, b5, b6, b7, b8, b8'⟩, ⟨b9, b10⟩, v, v1, v2⟩ := h5
  have hlen : (rs_tks (rs_set x e)).length = (re_tks e).length + 3 := by
    show (_ :: _ :: (re_tks e ++ [_])).length = _
    rw [List.length_cons, List.length_cons, List.length_append]; rfl
  rw [hlen] at b6
  replace b1 : op + re_br e ≤ 8 := b1
  replace b2 : n + (re_ln e + 1) ≤ 3190 := b2
  replace b3 : L + re_ss e ≤ 640 := b3
  replace b4 : V + re_ss e ≤ 320 := b4
  replace b7 : cs.length + re_cn e ≤ 600 := b7
  have hpos := hok.2.2.1
  replace h3 : tk_s tw tl ((3, 0, x) :: (61, 0, 0) :: ((re_tks e ++ [(59, 0, 0)]) ++ rest)) := h3
  rw [List.append_assoc] at h3
  obtain ⟨tw1, tl1, e1, e2⟩ := rd_exp h1 h3 (K := 3) rfl (by decide)
  obtain ⟨tw2, tl2, f1, f2⟩ := rd_exp h1 e2 (K := 61) rfl (by decide)
  obtain ⟨rw3, rl3, pw3, tw3, tl3, g1, g2, g3, g4⟩ := rd_R_a (pl := pl) hR hok h1 h2 f2 rd_st_59 ⟨⟨b1, b9, by omega, b3, b4, b5, by omega, b7⟩, b10⟩
  obtain ⟨pw4, i1, i2⟩ := rd_a_emit g3 (by omega) (by omega) (k := 31) (a := pu_I v) (t := 0) (by decide) (Nat.zero_le _) false (fun q => by cases q)
  obtain ⟨pw5, tw5, tl5, j1, j2, j3⟩ := rd_J215 (pws := pw) g2 i2 g4 h2.1.1 (by omega) (by omega) (by omega)
  refine ⟨rw3, rl3, pw5, tw5, tl5, ?_, by rw [show rs_dv (rs_set x e) V = [] from rfl, List.append_nil]; exact g2, ?_, j3⟩
  · show fX7_readStatement _ _ _ _ rw rl pw pl tw tl = _
    unfold fX7_readStatement fX7_readStatement_J215
    rw [h3.1.1, if_pos rfl, e1]
    show (if tw1 0 2 = 40 then _ else _) = _
    rw [e2.1.1, if_neg (by decide)]
    show ((fX7_expect rw 61 tw1 tl1).bind _) = _
    rw [f1]
    show ((fX7_seenVariableOf rw rl (tl 0 5) (tw 0 3)).bind _) = _
    rw [h3.1.2.2 rfl, rd_seen h1 v2 v1]
    show ((rd_test D 0 rw rl pw pl tw2 tl2).bind _) = _
    rw [g1]
    show ((fX6_emit pw3 31 (pu_I v) 0).bind _) = _
    rw [show fX6_emit pw3 31 (pu_I v) 0 = some pw4 from i1]
    exact j1
  · have : rs_cd (rs_set x e) sv L V = re_cd e sv L V ++ [(31, pu_I v, false)] := by
      show re_cd e sv L V ++ [(31, pu_I ((rd_lk sv x).getD 0), false)] = _
      rw [v2]; rfl
    rw [this, hlen]
    exact rd_a_T j2 (by omega)
theorem rs_Q_ret {e : RE} (hQ : re_Q e) (hok : re_ok e) : rs_Q (rs_ret e) := by
  intro D hD rw rl pw pl tw tl f op sv cs lp n L V T rest h1 h2 h3 h4 h5
  replace hD : re_dp e + 1 ≤ D := hD
  obtain ⟨D, rfl⟩ : ∃ q, D = q + 1 := ⟨D - 1, by omega⟩
  have hR := (hQ D (by omega)).2.2 0 (by decide) (Nat.zero_le _)
  obtain ⟨⟨b1, b2, b3, b4, b5, b6, b7, b8, b8'⟩, b9, b10⟩ := h5
  have hlen : (rs_tks (rs_ret e)).length = (re_tks e).length + 2 := by
    show (_ :: (re_tks e ++ [_])).length = _
    rw [List.length_cons, List.length_append]; rfl
  rw [hlen] at b6
  replace b1 : op + re_br e ≤ 8 := b1
  replace b2 : n + (re_ln e + 1) ≤ 3190 := b2
  replace b3 : L + re_ss e ≤ 640 := b3
  replace b4 : V + re_ss e ≤ 320 := b4
  replace b7 : cs.length + re_cn e ≤ 600 := b7
  have hpos := hok.2.2.1
  replace h3 : tk_s tw tl ((9, 0, 0) :: ((re_tks e ++ [(59, 0, 0)]) ++ rest)) := h3
  rw [List.append_assoc] at h3
  obtain ⟨tw1, tl1, e1, e2⟩ := rd_exp h1 h3 (K := 9) rfl (by decide)
  obtain ⟨rw3, rl3, pw3, tw3, tl3, g1, g2, g3, g4⟩ := rd_R_a (pl := pl) hR hok h1 h2 e2 rd_st_59 ⟨⟨b1, b9, by omega, b3, b4, b5, by omega, b7⟩, b10⟩
  obtain ⟨pw4, i1, i2⟩ := rd_a_emit g3 (by omega) (by omega) (k := 24) (a := 0) (t := 0) (by decide) (Nat.zero_le _) false (fun q => by cases q)
  obtain ⟨pw5, tw5, tl5, j1, j2, j3⟩ := rd_J215 (pws := pw) g2 i2 g4 h2.1.1 (by omega) (by omega) (by omega)
  refine ⟨rw3, rl3, pw5, tw5, tl5, ?_, by rw [show rs_dv (rs_ret e) V = [] from rfl, List.append_nil]; exact g2, by rw [hlen]; exact rd_a_T j2 (by omega), j3⟩
  show fX7_readStatement _ _ _ _ rw rl pw pl tw tl = _
  unfold fX7_readStatement
  rw [h3.1.1, if_neg (by decide), if_neg (by decide), if_neg (by decide), if_neg (by decide), if_pos rfl, e1]
  show ((rd_test D 0 rw rl pw pl tw1 tl1).bind _) = _
  rw [g1]
  show ((fX6_emit pw3 24 0 0).bind _) = _
  rw [show fX6_emit pw3 24 0 0 = some pw4 from i1]
  exact j1
theorem rs_Q_wr {a b : RE} (ha : re_Q a) (hb : re_Q b) (oa : re_ok a) (ob : re_ok b) : rs_Q (rs_wr a b) := by
  intro D hD rw rl pw pl tw tl f op sv cs lp n L V T rest h1 h2 h3 h4 h5
  replace hD : max (re_dp a) (re_dp b) + 1 ≤ D := hD
  have hd1 := Nat.le_max_left (re_dp a) (re_dp b)
  have hd2 := Nat.le_max_right (re_dp a) (re_dp b)
  obtain ⟨D, rfl⟩ : ∃ q, D = q + 1 := ⟨D - 1, by omega⟩
  have hRa := (ha D (by omega)).2.2 0 (by decide) (Nat.zero_le _)
  have hRb := (hb D (by omega)).2.2 0 (by decide) (Nat.zero_le _)
  obtain ⟨⟨b1, b2, b3, b4, b5, b6, b7, b8, b8'⟩, ⟨b9, b10⟩, b11, b12⟩ := h5
  have hlen : (rs_tks (rs_wr a b)).length = (re_tks a).length + (re_tks b).length + 4 := by
    show (_ :: (re_tks a ++ (_ :: _ :: (re_tks b ++ [_])))).length = _
    simp only [List.length_append, List.length_cons, List.length_nil]; omega
  rw [hlen] at b6
  replace b1 : op + max (re_br a + 1) (re_br b) ≤ 8 := b1
  replace b2 : n + (re_ln a + re_ln b + 1) ≤ 3190 := b2
  replace b3 : L + (re_ss a + re_ss b) ≤ 640 := b3
  replace b4 : V + (re_ss a + re_ss b) ≤ 320 := b4
  replace b7 : cs.length + (re_cn a + re_cn b) ≤ 600 := b7
  have m1 := Nat.le_max_left (re_br a + 1) (re_br b)
  have m2 := Nat.le_max_right (re_br a + 1) (re_br b)
  have hpa := oa.2.2.1
  replace h3 : tk_s tw tl ((91, 0, 0) :: ((re_tks a ++ ((93, 0, 0) :: (61, 0, 0) :: (re_tks b ++ [(59, 0, 0)]))) ++ rest)) := h3
  rw [List.append_assoc, List.cons_append, List.cons_append, List.append_assoc] at h3
  obtain ⟨rw1, tw1, tl1, e1, e2, e3, _⟩ := rd_exo h1 h3 (K := 91) rfl (Or.inr (Or.inl rfl)) (by omega)
  obtain ⟨rw2, rl2, pw2, tw2, tl2, f1, f2, f3, f4⟩ := rd_R_a (pl := pl) hRa oa e2 h2 e3 rd_st_93 ⟨⟨by omega, b9, by omega, by omega, by omega, b5, by omega, by omega⟩, b10⟩
  obtain ⟨rw3, tw3, tl3, g1, g2, g3⟩ := rd_exc f2 f4 (K := 93) rfl (Or.inr (Or.inl rfl))
  obtain ⟨tw4, tl4, i1, i2⟩ := rd_exp g2 g3 (K := 61) rfl (by decide)
  obtain ⟨rw5, rl5, pw5, tw5, tl5, j1, j2, j3, j4⟩ := rd_R_a (pl := pl) hRb ob g2 f3.1 i2 rd_st_59 ⟨⟨by omega, b11, by omega, by omega, by omega, by omega, by omega, by rw [List.length_append, oa.2.1]; omega⟩, b12⟩
  obtain ⟨pw6, k1, k2⟩ := rd_a_emit (rd_a_tr f3 j3 (Nat.le_add_right _ _) (by omega)) (by omega) (by omega) (k := 18) (a := 0) (t := 0) (by decide) (Nat.zero_le _) false (fun q => by cases q)
  obtain ⟨pw7, tw7, tl7, l1, l2, l3⟩ := rd_J215 (pws := pw) j2 k2 j4 h2.1.1 (by omega) (by omega) (by omega)
  refine ⟨rw5, rl5, pw7, tw7, tl7, ?_, ?_, ?_, l3⟩
  · show fX7_readStatement _ _ _ _ rw rl pw pl tw tl = _
    unfold fX7_readStatement
    rw [h3.1.1, if_neg (by decide), if_neg (by decide), if_neg (by decide), if_neg (by decide), if_neg (by decide), if_neg (by decide), if_neg (by decide), if_pos rfl, e1]
    show ((rd_test D 0 rw1 rl pw pl tw1 tl1).bind _) = _
    rw [f1]
    show ((fX7_expect rw2 93 tw2 tl2).bind _) = _
    rw [g1]
    show ((fX7_expect rw3 61 tw3 tl3).bind _) = _
    rw [i1]
    show ((rd_test D 0 rw3 rl2 pw2 pl tw4 tl4).bind _) = _
    rw [j1]
    show ((fX6_emit pw5 18 0 0).bind _) = _
    rw [show fX6_emit pw5 18 0 0 = some pw6 from k1]
    exact l1
  · show rd_w rw5 rl5 f op (sv ++ []) (cs ++ (re_cl a n ++ re_cl b (n + re_ln a))) lp
    rw [List.append_nil, ← List.append_assoc]
    exact j2
  · show rd_a f L pw n pw7 (n + (re_ln a + re_ln b + 1)) (L + (re_ss a + re_ss b)) (V + (re_ss a + re_ss b)) (T + (rs_tks (rs_wr a b)).length) (re_cd a sv L V ++ (re_cd b sv (L + re_ss a) (V + re_ss a) ++ [(18, 0, false)]))
    rw [hlen, ← List.append_assoc, show n + (re_ln a + re_ln b + 1) = n + re_ln a + re_ln b + 1 by omega, ← Nat.add_assoc L, ← Nat.add_assoc V]
    exact rd_a_T l2 (by omega)
theorem rs_Q_var {x : Int64} {e : RE} (hQ : re_Q e) (hok : re_ok e) : rs_Q (rs_var x e) := by
  intro D hD rw rl pw pl tw tl f op sv cs lp n L V T rest h1 h2 h3 h4 h5
  replace hD : re_dp e + 1 ≤ D := hD
  obtain ⟨D, rfl⟩ : ∃ q, D = q + 1 := ⟨D - 1, by omega⟩
  have hR := (hQ D (by omega)).2.2 0 (by decide) (Nat.zero_le _)
  obtain ⟨⟨b1, b2, b3, b4, b5, b6, b7, b8, b8'⟩, ⟨b9, b10⟩, b11⟩ := h5
  have hlen : (rs_tks (rs_var x e)).length = (re_tks e).length + 4 := by
    show (_ :: _ :: _ :: (re_tks e ++ [_])).length = _
    simp only [List.length_append, List.length_cons, List.length_nil]
  rw [hlen] at b6
  replace b1 : op + re_br e ≤ 8 := b1
  replace b2 : n + (re_ln e + 1) ≤ 3190 := b2
  replace b3 : L + re_ss e ≤ 640 := b3
  replace b4 : V + (re_ss e + 1) ≤ 320 := b4
  replace b7 : cs.length + re_cn e ≤ 600 := b7
  have hpos := hok.2.2.1
  replace h3 : tk_s tw tl ((10, 0, 0) :: (3, 0, x) :: (61, 0, 0) :: ((re_tks e ++ [(59, 0, 0)]) ++ rest)) := h3
  rw [List.append_assoc] at h3
  obtain ⟨tw1, tl1, e1, e2⟩ := rd_exp h1 h3 (K := 10) rfl (by decide)
  obtain ⟨tw2, tl2, f1, f2⟩ := rd_exp h1 e2 (K := 3) rfl (by decide)
  obtain ⟨twb, tlb, fb1, fb2⟩ := rd_exp h1 f2 (K := 61) rfl (by decide)
  obtain ⟨rw3, rl3, pw3, tw3, tl3, g1, g2, g3, g4⟩ := rd_R_a (pl := pl) hR hok h1 h2 fb2 rd_st_59 ⟨⟨b1, b9, by omega, b3, by omega, b5, by omega, b7⟩, b10⟩
  obtain ⟨rw4, rl4, pw4, i1, i2, i3, i4, i5, i6⟩ := rd_decl (x := x) (lo := L) g2 g3.1 (by omega) (by omega) (by omega)
  have i7 := rd_a_tr g3 (⟨i3, i4, rd_c_nil, rfl⟩ : rd_a f L pw3 (n + re_ln e) pw4 (n + re_ln e) (L + re_ss e) (V + re_ss e + 1) _ []) (Nat.le_refl _) (Nat.le_refl _)
  rw [List.append_nil] at i7
  obtain ⟨pw5, j1, j2⟩ := rd_a_emit i7 (by omega) (by omega) (k := 31) (a := pu_I (V + re_ss e)) (t := 0) (by decide) (Nat.zero_le _) false (fun q => by cases q)
  obtain ⟨pw6, tw6, tl6, k1, k2, k3⟩ := rd_J215 (pws := pw) i2 j2 g4 h2.1.1 (by omega) (by omega) (by omega)
  refine ⟨rw4, rl4, pw6, tw6, tl6, ?_, i2, by rw [hlen]; exact rd_a_T k2 (by omega), k3⟩
  show fX7_readStatement _ _ _ _ rw rl pw pl tw tl = _
  unfold fX7_readStatement
  rw [h3.1.1, if_neg (by decide), if_neg (by decide), if_neg (by decide), if_neg (by decide), if_neg (by decide), if_pos rfl]
  have hnn : fX7_readNewName rw rl tw tl = some (x, rw, twb, tlb) := by
    unfold fX7_readNewName
    rw [e1]
    show ((fX7_expect rw 3 tw1 tl1).bind _) = _
    rw [f1]
    show ((fX7_variableOf rw rl (tl1 0 5)).bind _) = _
    rw [e2.1.2.2 rfl, rd_lk_0 h1, b11]
    show (if (-1 : Int32) < 0 then fX7_readNewName_J41 (rw, tw1, tl1) (rw, tw2, tl2) rw else ((fX7_blame rw 3 (tw1 0 3)).bind fun o => fX7_readNewName_J41 (rw, tw1, tl1) (rw, tw2, tl2) o)) = _
    rw [if_pos (by decide)]
    unfold fX7_readNewName_J41
    show ((fX7_expect rw 61 tw2 tl2).bind fun o => some (tl1 0 5, o.1, o.2.1, o.2.2)) = _
    rw [fb1, e2.1.2.2 rfl]
    rfl
  rw [hnn]
  show ((rd_test D 0 rw rl pw pl twb tlb).bind _) = _
  rw [g1]
  show ((fX7_declare rw3 rl3 x pw3).bind _) = _
  rw [i1]
  show ((fX6_emit pw4 31 (pu_I (V + re_ss e)) 0).bind _) = _
  rw [show fX6_emit pw4 31 (pu_I (V + re_ss e)) 0 = some pw5 from j1]
  exact k1
end RDU
