/-! pure side, the reader 20: if, while are read -/
section RDI
variable {f L0 n0 n L V T op lp D : Nat} {pw0 pw pw' : ST} {l : List (Int32 × Int32 × Bool)} {rw : ST} {rl : SL} {tw : ST} {tl : SL} {sv : rd_sv} {cs : List (Int64 × Nat × Nat)} {rest : List Tok}
theorem tk_len {t : Tok} {ts : List Tok} (h : tk_s tw tl (t :: ts)) : ts.length ≤ 600 := by
  obtain ⟨_, bs, k, _, _, _, h4⟩ := h
  omega
theorem rd_a_00 (lo : Nat) (h : rd_q f pw n L V T) (hT : T ≤ 1000) : rd_a f lo pw n pw n L V T [] := ⟨h, rd_y_rf h hT, rd_c_nil, rfl⟩
theorem rd_u_put {m k lo : Nat} (h : rd_a f lo pw n pw' (n + 1) L V T [(35, pu_I m, false)]) (hk : k ≠ m) (hm : m < 1000) (hk1 : k < 1000) (hu : rd_u pw n k) : rd_u pw' (n + 1) k := by
  intro x hx h35
  obtain ⟨_, hy, hc, _⟩ := h
  by_cases e : x < n
  · obtain ⟨y1, y2, _⟩ := hy.2.1 x e
    rw [y1] at h35
    rw [y2]
    exact hu x e h35
  · obtain ⟨⟨_, c2, _⟩, _⟩ := rd_c_cons.mp hc
    rw [show x = n by omega, c2 (show (35 : Int32) ≠ 20 by decide)]
    exact fun q => hk (pu_inj (by omega) (by omega) q).symm
/-- a row of the reader that nobody asks after -/
theorem rd_w_row {r i : Nat} {v : Int32} (h : rd_w rw rl f op sv cs lp) (hr : r = 11 ∨ r = 12) : rd_w (upw rw r i v) rl f op sv cs lp := by
  have hn : ∀ q, q ≠ 11 → q ≠ 12 → upw rw r i v q = rw q := fun q h1 h2 => pv_upw_n (by rcases hr with e | e <;> rw [e] <;> assumption)
  unfold rd_w
  rw [hn 0 (by decide) (by decide), hn 9 (by decide) (by decide), hn 15 (by decide) (by decide), hn 17 (by decide) (by decide)]
  exact h
theorem rs_Q_if {e : RE} {b : RS} (hQ : re_Q e) (hok : re_ok e) (hb : rb_Q b) (ob : rs_ok b) : rs_Q (rs_if e b) := by
  intro D hD rw rl pw pl tw tl f op sv cs lp n L V T rest h1 h2 h3 h4 h5
  replace hD : max (re_dp e) (rs_dp b) + 3 ≤ D := hD
  have hd1 := Nat.le_max_left (re_dp e) (rs_dp b)
  have hd2 := Nat.le_max_right (re_dp e) (rs_dp b)
  obtain ⟨E, rfl⟩ : ∃ q, D = q + 3 := ⟨D - 3, by omega⟩
  have hR := (hQ (E + 1) (by omega)).2.2 0 (by decide) (Nat.zero_le _)
  obtain ⟨⟨b1, b2, b3, b4, b5, b6, b7, b8, b8'⟩, ⟨b9, b10⟩, b11⟩ := h5
  have hlen : (rs_tks (rs_if e b)).length = (re_tks e).length + (rs_tks b).length + 3 := by
    show (_ :: (re_tks e ++ (_ :: (rs_tks b ++ [_])))).length = _
    simp only [List.length_append, List.length_cons, List.length_nil]; omega
  rw [hlen] at b6
  replace b1 : op + max (re_br e) (rs_br b + 1) ≤ 8 := b1
  replace b2 : n + (re_ln e + rs_ln b + 2) ≤ 3190 := b2
  replace b3 : L + (re_ss e + 1 + rs_sL b) ≤ 640 := b3
  replace b4 : V + (re_ss e + rs_sV b) ≤ 320 := b4
  replace b7 : cs.length + (re_cn e + rs_cn b) ≤ 600 := b7
  have m1 := Nat.le_max_left (re_br e) (rs_br b + 1)
  have m2 := Nat.le_max_right (re_br e) (rs_br b + 1)
  have hpos := hok.2.2.1
  replace h3 : tk_s tw tl ((8, 0, 0) :: ((re_tks e ++ ((123, 0, 0) :: (rs_tks b ++ [(125, 0, 0)]))) ++ rest)) := h3
  rw [List.append_assoc, List.cons_append, List.append_assoc] at h3
  have h600 := tk_len h3
  simp only [List.length_append, List.length_cons] at h600
  obtain ⟨tw1, tl1, e1, e2⟩ := rd_exp h1 h3 (K := 8) rfl (by decide)
  obtain ⟨rw2, rl2, pw2, tw2, tl2, f1, f2, f3, f4⟩ := rd_R_a (pl := pl) hR hok h1 h2 e2 rd_st_123 ⟨⟨by omega, b9, by omega, by omega, by omega, b5, by omega, by omega⟩, b10⟩
  obtain ⟨pw3, g1, g2, gu⟩ := rd_a_lab f3 (by omega) (by omega)
  obtain ⟨pw4, i1, i2⟩ := rd_a_emit (rd_a_00 (L + re_ss e + 1) g2.1 (by omega)) (by omega) (by omega) (k := 33) (a := pu_I (L + re_ss e)) (t := 0) (by decide) (Nat.zero_le _) false (fun q => by cases q)
  obtain ⟨rw5, rl5, pw5, tw5, tl5, j1, j2, j3, j4⟩ := rd_block (pl := pl) hb ob (D := E) (by omega) f2 i2.1 f4 ⟨⟨by omega, by omega, by omega, by omega, by omega, by omega, by rw [List.length_append, hok.2.1]; omega, by omega, by omega⟩, b11⟩ (by omega)
  have j5 := rd_a_tr i2 j3 (Nat.le_refl _) (by omega)
  have gu2 := rd_u_y gu j5.2.1 (by omega) (by omega)
  obtain ⟨pw6, k1, k2⟩ := rd_a_put (rd_a_tr g2 j5 (by omega) (by omega)) (by omega) (by omega) (m := L + re_ss e) (by omega) (by omega) (by omega) gu2
  obtain ⟨pw7, l1, l2, _⟩ := rd_J346 (rw := rw5) (rl := rl5) (tw := tw5) (tl := tl5) (pws := pw) k2 h2.1.1 (by omega) (by omega) (by omega)
  refine ⟨rw5, rl5, pw7, tw5, tl5, ?_, ?_, ?_, j4⟩
  · show fX7_readStatement _ _ ((rR (E + 2)).2.2.1) _ rw rl pw pl tw tl = _
    unfold fX7_readStatement
    rw [h3.1.1, if_neg (by decide), if_neg (by decide), if_neg (by decide), if_pos rfl]
    have hif : (rR (E + 2)).2.2.1 rw rl pw pl tw tl = some (rw5, rl5, pw6, tw5, tl5) := by
      show fX7_readIf ((rR (E + 1)).2.2.2.2.1) ((rR (E + 1)).1) rw rl pw pl tw tl = _
      unfold fX7_readIf fX7_readIf_J103
      rw [e1]
      show ((rd_test (E + 1) 0 rw rl pw pl tw1 tl1).bind _) = _
      rw [f1]
      show ((fX6_newLabel pw2).bind _) = _
      rw [g1]
      show ((fX6_emit pw3 33 (pu_I (L + re_ss e)) 0).bind _) = _
      rw [show fX6_emit pw3 33 (pu_I (L + re_ss e)) 0 = some pw4 from i1]
      show (((rR (E + 1)).1 rw2 rl2 pw4 pl tw2 tl2).bind _) = _
      rw [j1]
      show (if tw5 0 2 = 6 then _ else ((fX6_putLabel pw5 (pu_I (L + re_ss e))).bind fun o => some (rw5, rl5, o, tw5, tl5))) = _
      rw [tk_h_s (show tk_s tw5 tl5 rest from j4), if_neg h4, k1]
      rfl
    rw [hif]
    exact l1
  · show rd_w rw5 rl5 f op (sv ++ []) (cs ++ (re_cl e n ++ rs_cl b (n + re_ln e + 1))) lp
    rw [List.append_nil, ← List.append_assoc]
    exact j2
  · show rd_a f L pw n pw7 (n + (re_ln e + rs_ln b + 2)) (L + (re_ss e + 1 + rs_sL b)) (V + (re_ss e + rs_sV b)) (T + (rs_tks (rs_if e b)).length) (re_cd e sv L V ++ ([(33, pu_I (L + re_ss e), false)] ++ (rs_cd b sv (L + re_ss e + 1) (V + re_ss e) ++ [(35, pu_I (L + re_ss e), false)])))
    have := rd_a_T l2 (T' := T + ((re_tks e).length + (rs_tks b).length + 3)) (by omega)
    rw [hlen, show n + (re_ln e + rs_ln b + 2) = n + re_ln e + 1 + rs_ln b + 1 by omega, show L + (re_ss e + 1 + rs_sL b) = L + re_ss e + 1 + rs_sL b by omega, ← Nat.add_assoc V]
    simp only [List.append_assoc, List.nil_append, List.cons_append] at this ⊢
    exact this
theorem rs_Q_ife {e : RE} {b c : RS} (hQ : re_Q e) (hok : re_ok e) (hb : rb_Q b) (ob : rs_ok b) (hc : rb_Q c) (oc : rs_ok c) : rs_Q (rs_ife e b c) := by
  intro D hD rw rl pw pl tw tl f op sv cs lp n L V T rest h1 h2 h3 h4 h5
  replace hD : max (re_dp e) (max (rs_dp b) (rs_dp c)) + 3 ≤ D := hD
  have hd1 := Nat.le_max_left (re_dp e) (max (rs_dp b) (rs_dp c))
  have hd2 := Nat.le_max_right (re_dp e) (max (rs_dp b) (rs_dp c))
  have hd3 := Nat.le_max_left (rs_dp b) (rs_dp c)
  have hd4 := Nat.le_max_right (rs_dp b) (rs_dp c)
  obtain ⟨E, rfl⟩ : ∃ q, D = q + 3 := ⟨D - 3, by omega⟩
  have hR := (hQ (E + 1) (by omega)).2.2 0 (by decide) (Nat.zero_le _)
  obtain ⟨⟨b1, b2, b3, b4, b5, b6, b7, b8, b8'⟩, ⟨b9, b10⟩, b11, b12⟩ := h5
  have hlen : (rs_tks (rs_ife e b c)).length = (re_tks e).length + (rs_tks b).length + (rs_tks c).length + 6 := by
    show (_ :: (re_tks e ++ (_ :: (rs_tks b ++ (_ :: _ :: _ :: (rs_tks c ++ [_])))))).length = _
    simp only [List.length_append, List.length_cons, List.length_nil]; omega
  rw [hlen] at b6
  replace b1 : op + max (re_br e) (max (rs_br b) (rs_br c) + 1) ≤ 8 := b1
  replace b2 : n + (re_ln e + rs_ln b + rs_ln c + 4) ≤ 3190 := b2
  replace b3 : L + (re_ss e + 1 + rs_sL b + 1 + rs_sL c) ≤ 640 := b3
  replace b4 : V + (re_ss e + rs_sV b + rs_sV c) ≤ 320 := b4
  replace b7 : cs.length + (re_cn e + rs_cn b + rs_cn c) ≤ 600 := b7
  have m1 := Nat.le_max_left (re_br e) (max (rs_br b) (rs_br c) + 1)
  have m2 := Nat.le_max_right (re_br e) (max (rs_br b) (rs_br c) + 1)
  have m3 := Nat.le_max_left (rs_br b) (rs_br c)
  have m4 := Nat.le_max_right (rs_br b) (rs_br c)
  have hpos := hok.2.2.1
  replace h3 : tk_s tw tl ((8, 0, 0) :: ((re_tks e ++ ((123, 0, 0) :: (rs_tks b ++ ((125, 0, 0) :: (6, 0, 0) :: (123, 0, 0) :: (rs_tks c ++ [(125, 0, 0)]))))) ++ rest)) := h3
  rw [List.append_assoc, List.cons_append, List.append_assoc, List.cons_append, List.cons_append, List.cons_append, List.append_assoc] at h3
  have h600 := tk_len h3
  simp only [List.length_append, List.length_cons] at h600
  obtain ⟨tw1, tl1, e1, e2⟩ := rd_exp h1 h3 (K := 8) rfl (by decide)
  obtain ⟨rw2, rl2, pw2, tw2, tl2, f1, f2, f3, f4⟩ := rd_R_a (pl := pl) hR hok h1 h2 e2 rd_st_123 ⟨⟨by omega, b9, by omega, by omega, by omega, b5, by omega, by omega⟩, b10⟩
  obtain ⟨pw3, g1, g2, gu⟩ := rd_a_lab f3 (by omega) (by omega)
  obtain ⟨pw4, i1, i2⟩ := rd_a_emit (rd_a_00 (L + re_ss e + 1) g2.1 (by omega)) (by omega) (by omega) (k := 33) (a := pu_I (L + re_ss e)) (t := 0) (by decide) (Nat.zero_le _) false (fun q => by cases q)
  obtain ⟨rw5, rl5, pw5, tw5, tl5, j1, j2, j3, j4⟩ := rd_block (pl := pl) hb ob (D := E) (by omega) f2 i2.1 f4 ⟨⟨by omega, by omega, by omega, by omega, by omega, by omega, by rw [List.length_append, hok.2.1]; omega, by omega, by omega⟩, b11⟩ (by omega)
  have j5 := rd_a_tr i2 j3 (Nat.le_refl _) (by omega)
  obtain ⟨tw6, tl6, x1, x2⟩ := rd_exp j2 j4 (K := 6) rfl (by decide)
  obtain ⟨pw7, y1, y2, yu⟩ := rd_a_lab j5 (by omega) (by omega)
  obtain ⟨pw8, z1, z2⟩ := rd_a_emit (rd_a_00 (L + re_ss e + 1 + rs_sL b + 1) y2.1 (by omega)) (by omega) (by omega) (k := 22) (a := pu_I (L + re_ss e + 1 + rs_sL b)) (t := 0) (by decide) (Nat.zero_le _) false (fun q => by cases q)
  have z3 := rd_a_tr y2 z2 (by omega) (Nat.le_refl _)
  have gu2 := rd_u_y gu z3.2.1 (by omega) (by omega)
  have yu2 := rd_u_y yu z2.2.1 (by omega) (by omega)
  obtain ⟨pw9, k1, k2⟩ := rd_a_put (rd_a_00 (L + re_ss e) z3.1 (by omega)) (by omega) (by omega) (m := L + re_ss e) (by omega) (by omega) (by omega) gu2
  have yu3 := rd_u_put k2 (k := L + re_ss e + 1 + rs_sL b) (by omega) (by omega) (by omega) yu2
  have k3 := rd_a_tr (rd_a_tr g2 z3 (by omega) (by omega)) k2 (by omega) (Nat.le_refl _)
  obtain ⟨rw10, rl10, pw10, tw10, tl10, p1, p2, p3, p4⟩ := rd_block (pl := pl) hc oc (D := E) (by omega) j2 k2.1 x2 ⟨⟨by omega, by omega, by omega, by omega, by omega, by omega, by rw [List.length_append, List.length_append, hok.2.1, ob.2.1]; omega, by omega, by omega⟩, b12⟩ (by omega)
  have yu4 := rd_u_y yu3 p3.2.1 (by omega) (by omega)
  obtain ⟨pw11, q1, q2⟩ := rd_a_put (rd_a_tr k3 p3 (by omega) (by omega)) (by omega) (by omega) (m := L + re_ss e + 1 + rs_sL b) (by omega) (by omega) (by omega) yu4
  obtain ⟨pw12, l1, l2, _⟩ := rd_J346 (rw := rw10) (rl := rl10) (tw := tw10) (tl := tl10) (pws := pw) q2 h2.1.1 (by omega) (by omega) (by omega)
  refine ⟨rw10, rl10, pw12, tw10, tl10, ?_, ?_, ?_, p4⟩
  · show fX7_readStatement _ _ ((rR (E + 2)).2.2.1) _ rw rl pw pl tw tl = _
    unfold fX7_readStatement
    rw [h3.1.1, if_neg (by decide), if_neg (by decide), if_neg (by decide), if_pos rfl]
    have hif : (rR (E + 2)).2.2.1 rw rl pw pl tw tl = some (rw10, rl10, pw11, tw10, tl10) := by
      show fX7_readIf ((rR (E + 1)).2.2.2.2.1) ((rR (E + 1)).1) rw rl pw pl tw tl = _
      unfold fX7_readIf fX7_readIf_J103
      rw [e1]
      show ((rd_test (E + 1) 0 rw rl pw pl tw1 tl1).bind _) = _
      rw [f1]
      show ((fX6_newLabel pw2).bind _) = _
      rw [g1]
      show ((fX6_emit pw3 33 (pu_I (L + re_ss e)) 0).bind _) = _
      rw [show fX6_emit pw3 33 (pu_I (L + re_ss e)) 0 = some pw4 from i1]
      show (((rR (E + 1)).1 rw2 rl2 pw4 pl tw2 tl2).bind _) = _
      rw [j1]
      show (if tw5 0 2 = 6 then ((fX7_expect rw5 6 tw5 tl5).bind _) else _) = _
      rw [j4.1.1, if_pos rfl, x1]
      show ((fX6_newLabel pw5).bind _) = _
      rw [y1]
      show ((fX6_emit pw7 22 (pu_I (L + re_ss e + 1 + rs_sL b)) 0).bind _) = _
      rw [show fX6_emit pw7 22 (pu_I (L + re_ss e + 1 + rs_sL b)) 0 = some pw8 from z1]
      show ((fX6_putLabel pw8 (pu_I (L + re_ss e))).bind _) = _
      rw [k1]
      show (((rR (E + 1)).1 rw5 rl5 pw9 pl tw6 tl6).bind _) = _
      rw [p1]
      show ((fX6_putLabel pw10 (pu_I (L + re_ss e + 1 + rs_sL b))).bind _) = _
      rw [q1]
      rfl
    rw [hif]
    exact l1
  · show rd_w rw10 rl10 f op (sv ++ []) (cs ++ (re_cl e n ++ (rs_cl b (n + re_ln e + 1) ++ rs_cl c (n + re_ln e + 1 + rs_ln b + 2)))) lp
    rw [List.append_nil, ← List.append_assoc, ← List.append_assoc]
    exact p2
  · show rd_a f L pw n pw12 (n + (re_ln e + rs_ln b + rs_ln c + 4)) (L + (re_ss e + 1 + rs_sL b + 1 + rs_sL c)) (V + (re_ss e + rs_sV b + rs_sV c)) (T + (rs_tks (rs_ife e b c)).length) (re_cd e sv L V ++ ([(33, pu_I (L + re_ss e), false)] ++ (rs_cd b sv (L + re_ss e + 1) (V + re_ss e) ++ ([(22, pu_I (L + re_ss e + 1 + rs_sL b), false), (35, pu_I (L + re_ss e), false)] ++
      (rs_cd c sv (L + re_ss e + 1 + rs_sL b + 1) (V + re_ss e + rs_sV b) ++ [(35, pu_I (L + re_ss e + 1 + rs_sL b), false)])))))
    have := rd_a_T l2 (T' := T + ((re_tks e).length + (rs_tks b).length + (rs_tks c).length + 6)) (by omega)
    rw [hlen, show n + (re_ln e + rs_ln b + rs_ln c + 4) = n + re_ln e + 1 + rs_ln b + 1 + 1 + rs_ln c + 1 by omega, show L + (re_ss e + 1 + rs_sL b + 1 + rs_sL c) = L + re_ss e + 1 + rs_sL b + 1 + rs_sL c by omega, show V + (re_ss e + rs_sV b + rs_sV c) = V + re_ss e + rs_sV b + rs_sV c by omega]
    simp only [List.append_assoc, List.nil_append, List.cons_append] at this ⊢
    exact this
theorem rs_Q_wh {e : RE} {b : RS} (hQ : re_Q e) (hok : re_ok e) (hb : rb_Q b) (ob : rs_ok b) : rs_Q (rs_wh e b) := by
  intro D hD rw rl pw pl tw tl f op sv cs lp n L V T rest h1 h2 h3 h4 h5
  replace hD : max (re_dp e) (rs_dp b) + 3 ≤ D := hD
  have hd1 := Nat.le_max_left (re_dp e) (rs_dp b)
  have hd2 := Nat.le_max_right (re_dp e) (rs_dp b)
  obtain ⟨E, rfl⟩ : ∃ q, D = q + 3 := ⟨D - 3, by omega⟩
  have hR := (hQ (E + 1) (by omega)).2.2 0 (by decide) (Nat.zero_le _)
  obtain ⟨⟨b1, b2, b3, b4, b5, b6, b7, b8, b8'⟩, ⟨b9, b10⟩, b11⟩ := h5
  have hlen : (rs_tks (rs_wh e b)).length = (re_tks e).length + (rs_tks b).length + 3 := by
    show (_ :: (re_tks e ++ (_ :: (rs_tks b ++ [_])))).length = _
    simp only [List.length_append, List.length_cons, List.length_nil]; omega
  rw [hlen] at b6
  replace b1 : op + max (re_br e) (rs_br b + 1) ≤ 8 := b1
  replace b2 : n + (re_ln e + rs_ln b + 5) ≤ 3190 := b2
  replace b3 : L + (2 + re_ss e + rs_sL b) ≤ 640 := b3
  replace b4 : V + (re_ss e + rs_sV b) ≤ 320 := b4
  replace b7 : cs.length + (re_cn e + rs_cn b) ≤ 600 := b7
  have m1 := Nat.le_max_left (re_br e) (rs_br b + 1)
  have m2 := Nat.le_max_right (re_br e) (rs_br b + 1)
  have hpos := hok.2.2.1
  replace h3 : tk_s tw tl ((11, 0, 0) :: ((re_tks e ++ ((123, 0, 0) :: (rs_tks b ++ [(125, 0, 0)]))) ++ rest)) := h3
  rw [List.append_assoc, List.cons_append, List.append_assoc] at h3
  have h600 := tk_len h3
  simp only [List.length_append, List.length_cons] at h600
  obtain ⟨tw1, tl1, e1, e2⟩ := rd_exp h1 h3 (K := 11) rfl (by decide)
  obtain ⟨pwa, a1, a2⟩ := rd_a_emit (rd_a_0 h2 (by omega)) (by omega) (by omega) (k := 37) (a := 0) (t := 0) (by decide) (Nat.zero_le _) false (fun q => by cases q)
  obtain ⟨pwb, c1, c2, cu⟩ := rd_a_lab a2 (by omega) (by omega)
  obtain ⟨pwc, d1, d2, du⟩ := rd_a_lab (rd_a_00 (L + 1) c2.1 (by omega)) (by omega) (by omega)
  have cu2 := rd_u_y cu d2.2.1 (by omega) (by omega)
  obtain ⟨pwd, x1, x2⟩ := rd_a_put (rd_a_00 L d2.1 (by omega)) (by omega) (by omega) (m := L) (by omega) (by omega) (by omega) cu2
  have du2 := rd_u_put x2 (k := L + 1) (by omega) (by omega) (by omega) du
  have x3 := rd_a_tr (rd_a_tr c2 d2 (by omega) (by omega)) x2 (by omega) (Nat.le_refl _)
  obtain ⟨rw2, rl2, pw2, tw2, tl2, f1, f2, f3, f4⟩ := rd_R_a (pl := pl) hR hok h1 x2.1 e2 rd_st_123 ⟨⟨by omega, b9, by omega, by omega, by omega, b5, by omega, by omega⟩, b10⟩
  obtain ⟨pw4, i1, i2⟩ := rd_a_emit f3 (by omega) (by omega) (k := 33) (a := pu_I (L + 1)) (t := 0) (by decide) (Nat.zero_le _) false (fun q => by cases q)
  -- the loop is noted
  obtain ⟨rw3, w1, w2⟩ : ∃ rw3, (∀ (J : ST → Option (ST × SL × ST × ST × SL)), (if 8 ≤ (rw2 0 12) then J rw2 else (if ixb (rw2 0 12) 9 = true then (lt9 (upw rw2 11 (nn (rw2 0 12)) (pu_I L)) fun (w18 : ST) => (if ixb (w18 0 12) 9 = true then (lt9 (upw w18 12 (nn (w18 0 12)) (pu_I (L + 1))) fun (w20 : ST) => J w20) else none)) else none)) = J rw3) ∧ rd_w rw3 rl2 f op sv (cs ++ re_cl e (n + 2)) lp := by
    have h12 : rw2 0 12 = pu_I lp := f2.1.2.2.2.2
    by_cases e8 : 8 ≤ lp
    · refine ⟨rw2, fun J => ?_, f2⟩
      rw [h12, if_pos (by rw [show (8 : Int32) = pu_I 8 from rfl, pu_le (by decide) (by omega)]; exact e8)]
    · refine ⟨upw (upw rw2 11 lp (pu_I L)) 12 lp (pu_I (L + 1)), fun J => ?_, rd_w_row (rd_w_row f2 (Or.inl rfl)) (Or.inr rfl)⟩
      unfold lt9
      dsimp only
      rw [h12, if_neg (by rw [show (8 : Int32) = pu_I 8 from rfl, pu_le (by decide) (by omega)]; exact e8), if_pos ((pu_ix (by omega)).mpr (by omega)), pu_nn (by omega), pv_upw_n (by decide), h12, if_pos ((pu_ix (by omega)).mpr (by omega)), pu_nn (by omega)]
  have w3 := rd_w_lp w2 (lp' := lp + 1) (by omega)
  obtain ⟨rw5, rl5, pw5, tw5, tl5, j1, j2, j3, j4⟩ := rd_block (pl := pl) hb ob (D := E) (by omega) w3 i2.1 f4 ⟨⟨by omega, by omega, by omega, by omega, by omega, by omega, by rw [List.length_append, hok.2.1]; omega, by omega, by omega⟩, b11⟩ (by omega)
  have j6 := rd_w_lp j2 (lp' := lp) (by omega)
  obtain ⟨pw6, k1, k2⟩ := rd_a_emit (rd_a_tr i2 j3 (by omega) (by omega)) (by omega) (by omega) (k := 22) (a := pu_I L) (t := 0) (by decide) (Nat.zero_le _) false (fun q => by cases q)
  have du3 := rd_u_y du2 k2.2.1 (by omega) (by omega)
  obtain ⟨pw7, q1, q2⟩ := rd_a_put (rd_a_tr x3 k2 (by omega) (by omega)) (by omega) (by omega) (m := L + 1) (by omega) (by omega) (by omega) du3
  obtain ⟨pw8, l1, l2, l3⟩ := rd_J346 (rw := upw rw5 0 12 (pu_I lp)) (rl := rl5) (tw := tw5) (tl := tl5) (pws := pw) q2 h2.1.1 (by omega) (by omega) (by omega)
  refine ⟨upw rw5 0 12 (pu_I lp), rl5, pw8, tw5, tl5, ?_, ?_, ?_, j4⟩
  · show fX7_readStatement _ _ _ ((rR (E + 2)).2.2.2.1) rw rl pw pl tw tl = _
    unfold fX7_readStatement
    rw [h3.1.1, if_neg (by decide), if_neg (by decide), if_neg (by decide), if_neg (by decide), if_neg (by decide), if_neg (by decide), if_pos rfl]
    have hwh : (rR (E + 2)).2.2.2.1 rw rl pw pl tw tl = some (upw rw5 0 12 (pu_I lp), rl5, pw7, tw5, tl5) := by
      show fX7_readWhile ((rR (E + 1)).2.2.2.2.1) ((rR (E + 1)).1) rw rl pw pl tw tl = _
      unfold fX7_readWhile
      rw [e1]
      show ((fX6_emit pw 37 0 0).bind _) = _
      rw [show fX6_emit pw 37 0 0 = some pwa from a1]
      show ((fX6_newLabel pwa).bind _) = _
      rw [c1]
      show ((fX6_newLabel pwb).bind _) = _
      rw [d1]
      show ((fX6_putLabel pwc (pu_I L)).bind _) = _
      rw [x1]
      show ((rd_test (E + 1) 0 rw rl pwd pl tw1 tl1).bind _) = _
      rw [f1]
      show ((fX6_emit pw2 33 (pu_I (L + 1)) 0).bind _) = _
      rw [show fX6_emit pw2 33 (pu_I (L + 1)) 0 = some pw4 from i1]
      have hJ : fX7_readWhile_J87 pl (pu_I L, pwb) (pu_I (L + 1), pwc) (pu_I (re_ht e), rw2, rl2, pw2, tw2, tl2) pw4 ((rR (E + 1)).1) rw3 = some (upw rw5 0 12 (pu_I lp), rl5, pw7, tw5, tl5) := by
        unfold fX7_readWhile_J87 lt9
        dsimp only
        rw [w2.1.2.2.2.2, pu_su, j1]
        show ((fX6_emit pw5 22 (pu_I L) 0).bind fun o_14 => (fX6_putLabel o_14 (pu_I (L + 1))).bind fun o_15 => some (upw rw5 0 12 (rw5 0 12 - 1), rl5, o_15, tw5, tl5)) = _
        rw [show fX6_emit pw5 22 (pu_I L) 0 = some pw6 from k1]
        show ((fX6_putLabel pw6 (pu_I (L + 1))).bind _) = _
        rw [q1, j2.1.2.2.2.2, show pu_I (lp + 1) - 1 = pu_I lp by rw [show (1 : Int32) = pu_I 1 from rfl, pu_sub (by omega)]; rfl]
        rfl
      exact (w1 (fX7_readWhile_J87 pl (pu_I L, pwb) (pu_I (L + 1), pwc) (pu_I (re_ht e), rw2, rl2, pw2, tw2, tl2) pw4 ((rR (E + 1)).1))).trans hJ
    rw [hwh]
    exact l1
  · show rd_w _ rl5 f op (sv ++ []) (cs ++ (re_cl e (n + 2) ++ rs_cl b (n + 2 + re_ln e + 1))) lp
    rw [List.append_nil, ← List.append_assoc]
    exact j6
  · show rd_a f L pw n pw8 (n + (re_ln e + rs_ln b + 5)) (L + (2 + re_ss e + rs_sL b)) (V + (re_ss e + rs_sV b)) (T + (rs_tks (rs_wh e b)).length) ((37, 0, true) :: (35, pu_I L, false) :: (re_cd e sv (L + 2) V ++ ([(33, pu_I (L + 1), false)] ++ (rs_cd b sv (L + 2 + re_ss e) (V + re_ss e) ++ [(22, pu_I L, false), (35, pu_I (L + 1), false)]))))
    have := rd_a_T l2 (T' := T + ((re_tks e).length + (rs_tks b).length + 3)) (by omega)
    rw [hlen, show n + (re_ln e + rs_ln b + 5) = n + 1 + 1 + re_ln e + 1 + rs_ln b + 1 + 1 by omega, show L + (2 + re_ss e + rs_sL b) = L + 1 + 1 + re_ss e + rs_sL b by omega, ← Nat.add_assoc V]
    simp only [List.append_assoc, List.nil_append, List.cons_append] at this ⊢
    obtain ⟨t1, t2, t3, t4⟩ := this
    refine ⟨t1, t2, ?_, ?_⟩
    · obtain ⟨⟨u1, u2, _⟩, u3⟩ := rd_c_cons.mp t3
      exact rd_c_cons.mpr ⟨⟨u1, u2, fun _ => l3⟩, u3⟩
    · rw [t4]; rfl
end RDI
