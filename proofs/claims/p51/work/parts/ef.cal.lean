/-! pure side, the reader 15: calls -/
section RDK
variable {D : Nat}
abbrev rd_kt := ST → SL → Int32 → ST → SL → ST → SL → Option (Int32 × ST × SL × ST × ST × SL)
/-- the first argument -/
theorem rd_L21_0 {kt : rd_kt} {p2l : SL} {n h h1 : Nat} {rw rw' : ST} {rl rl' : SL} {pw pw' tw tw' : ST} {tl tl' : SL} {ts : List Tok} (ht : tk_s tw tl ts) (h41 : tk_h ts ≠ 41) (hk : kt rw rl 0 pw p2l tw tl = some (pu_I h1, rw', rl', pw', tw', tl')) (hh : h < 100) (hh1 : h1 < 100) :
    fX7_readCall_L21 p2l kt (n + 1) (pu_I h) 0 rw rl pw tw tl = fX7_readCall_L21 p2l kt n (pu_I (max h h1)) 1 rw' rl' pw' tw' tl' := by
  have e1 : fX7_readCall_L21 p2l kt (n + 1) (pu_I h) 0 rw rl pw tw tl = (if (4 : Int32) < 0 then some (pu_I h, 0, rw, rl, pw, tw, tl) else (if (tw 0 2) = 41 then some (pu_I h, 0, rw, rl, pw, tw, tl) else (if (0 : Int32) ≤ 0 then (if (0 : Int32) = 4 then none else ((kt rw rl 0 pw p2l tw tl).bind fun (o : Int32 × ST × SL × ST × ST × SL) => (fX7_readCall_L21 p2l kt n (if pu_I h < o.1 then o.1 else pu_I h) (0 + 1) o.2.1 o.2.2.1 o.2.2.2.1 o.2.2.2.2.1 o.2.2.2.2.2))) else _))) := rfl
  rw [e1, if_neg (by decide), tk_h_s ht, if_neg h41, if_pos (by decide), if_neg (by decide), hk]
  show fX7_readCall_L21 p2l kt n (if pu_I h < pu_I h1 then pu_I h1 else pu_I h) (0 + 1) rw' rl' pw' tw' tl' = _
  rw [rd_max hh hh1]
  rfl
/-- an argument behind a comma -/
theorem rd_L21_1 {kt : rd_kt} {p2l : SL} {n h h1 v : Nat} {rw rw' : ST} {rl rl' : SL} {pw pw' tw tw1 tw' : ST} {tl tl1 tl' : SL} {ts : List Tok} (ht : tk_s tw tl ((44, 0, 0) :: ts)) (he : fX7_expect rw 44 tw tl = some (rw, tw1, tl1)) (hk : kt rw rl 0 pw p2l tw1 tl1 = some (pu_I h1, rw', rl', pw', tw', tl')) (hh : h < 100) (hh1 : h1 < 100) (hv : 1 ≤ v) (hv3 : v ≤ 3) :
    fX7_readCall_L21 p2l kt (n + 1) (pu_I h) (pu_I v) rw rl pw tw tl = fX7_readCall_L21 p2l kt n (pu_I (max h h1)) (pu_I (v + 1)) rw' rl' pw' tw' tl' := by
  have e1 : fX7_readCall_L21 p2l kt (n + 1) (pu_I h) (pu_I v) rw rl pw tw tl = (if (4 : Int32) < pu_I v then some (pu_I h, pu_I v, rw, rl, pw, tw, tl) else (if (tw 0 2) = 41 then some (pu_I h, pu_I v, rw, rl, pw, tw, tl) else (if pu_I v ≤ 0 then fX7_readCall_J50 (fX7_readCall_L21 p2l kt n) p2l (pu_I h) (pu_I v) rl pw kt rw tw tl else ((fX7_expect rw 44 tw tl).bind fun (o_8 : ST × ST × SL) => (if pu_I v = 4 then none else ((kt o_8.1 rl 0 pw p2l o_8.2.1 o_8.2.2).bind fun (o : Int32 × ST × SL × ST × ST × SL) => (fX7_readCall_L21 p2l kt n (if pu_I h < o.1 then o.1 else pu_I h) (pu_I v + 1) o.2.1 o.2.2.1 o.2.2.2.1 o.2.2.2.2.1 o.2.2.2.2.2))))))) := rfl
  rw [e1, if_neg (by rw [show (4 : Int32) = pu_I 4 from rfl, pu_lt (by decide) (by omega)]; omega), ht.1.1, if_neg (by decide), if_neg (by rw [show (0 : Int32) = pu_I 0 from rfl, pu_le (by omega) (by decide)]; omega), he]
  show (if pu_I v = 4 then none else ((kt rw rl 0 pw p2l tw1 tl1).bind _)) = _
  rw [if_neg (show ¬ pu_I v = (4 : Int32) from fun q => absurd (pu_inj (a := v) (b := 4) (by omega) (by decide) q) (by omega)), hk]
  show fX7_readCall_L21 p2l kt n (if pu_I h < pu_I h1 then pu_I h1 else pu_I h) (pu_I v + 1) rw' rl' pw' tw' tl' = _
  rw [rd_max hh hh1, pu_su]
theorem rd_L21_e {kt : rd_kt} {p2l : SL} {n v : Nat} {h : Int32} {rw : ST} {rl : SL} {pw tw : ST} {tl : SL} {ts : List Tok} (ht : tk_s tw tl ((41, 0, 0) :: ts)) (hv : v ≤ 4) :
    fX7_readCall_L21 p2l kt (n + 1) h (pu_I v) rw rl pw tw tl = some (h, pu_I v, rw, rl, pw, tw, tl) := by
  have e1 : fX7_readCall_L21 p2l kt (n + 1) h (pu_I v) rw rl pw tw tl = (if (4 : Int32) < pu_I v then some (h, pu_I v, rw, rl, pw, tw, tl) else (if (tw 0 2) = 41 then some (h, pu_I v, rw, rl, pw, tw, tl) else _)) := rfl
  rw [e1, if_neg (by rw [show (4 : Int32) = pu_I 4 from rfl, pu_lt (by decide) (by omega)]; omega), ht.1.1, if_pos rfl]
/-- how a call ends, once its arguments are read -/
theorem rd_call_e {f L0 n0 n L V T op lp : Nat} {pw0 pw : ST} {l : List (Int32 × Int32 × Bool)} {rw : ST} {rl : SL} {sv cs} {tw : ST} {tl : SL} {rest : List Tok} {x : Int64} {p : Int32} {c h x0 : Nat}
    (h1 : rd_w rw rl f (op + 1) sv cs lp) (h2 : rd_a f L0 pw0 n0 pw n L V T l) (h3 : tk_s tw tl ((41, 0, 0) :: rest)) (hc : cs.length < 600) (hn : n + 5 ≤ 3200) (hT : T + 1 ≤ 1000) (hx0 : x0 < n + 1 + c) (hh : h < 10) {k : List (Int32 × Int32 × Bool)} {pwk : ST} (hk : fX7_readCall_L88 NF (pu_I c) pw = some pwk) (hka : rd_a f L0 pw0 n0 pwk (n + c) L V T k) (hc4 : c ≤ 4) :
    ∃ rw2 rl3 pw5 tw2 tl2, ((fX7_expect rw 41 tw tl).bind fun (o_9 : ST × ST × SL) => ((fX7_readCall_L88 NF (pu_I c) pw).bind fun (o88 : ST) => ((fX7_noteCall o_9.1 rl x p (pu_I c) o88).bind fun (o_12 : ST × SL) => ((fX6_emit o88 20 0 0).bind fun (o_13 : ST) => ((fX6_tick o_13 (pu_I x0)).bind fun (o_14 : ST) => ((fX7_raise o_12.1 (pu_I h) p).bind fun (o_15 : Int32 × ST) => some (o_15.1, o_15.2, o_12.2, o_14, o_9.2.1, o_9.2.2))))))) = some (pu_I (h + 1), rw2, rl3, pw5, tw2, tl2) ∧
      rd_w rw2 rl3 f op sv (cs ++ [(x, n + c, c)]) lp ∧ rd_a f L0 pw0 n0 pw5 (n + c + 1) L V (T + 1) (k ++ [(20, 0, false)]) ∧ tk_s tw2 tl2 rest := by
  obtain ⟨rw1, tw1, tl1, e1, e2, e3⟩ := rd_exc h1 h3 (K := 41) rfl (Or.inl rfl)
  obtain ⟨rw2, rl2, f1, f2⟩ := rd_note (x := x) (p := p) (c := c) e2 hka.1.1.1 hc
  obtain ⟨pw4, g1, g2⟩ := rd_a_emit hka (by omega) (by omega) (k := 20) (a := 0) (t := 0) (by decide) (Nat.zero_le _) false (fun q => by cases q)
  obtain ⟨pw5, i1, i2, _⟩ := rd_a_tick g2 (x := x0) (by omega) (by omega) hT
  refine ⟨rw2, rl2, pw5, tw1, tl1, ?_, f2, i2, e3⟩
  rw [e1]
  show ((fX7_readCall_L88 NF (pu_I c) pw).bind _) = _
  rw [hk]
  show ((fX7_noteCall rw1 rl x p (pu_I c) pwk).bind _) = _
  rw [f1]
  show ((fX6_emit pwk 20 0 0).bind _) = _
  rw [show fX6_emit pwk 20 0 0 = some pw4 from g1]
  show ((fX6_tick pw4 (pu_I x0)).bind _) = _
  rw [i1]
  show ((fX7_raise rw2 (pu_I h) p).bind _) = _
  rw [rd_raise hh]
  rfl
/-- the arguments are given -/
theorem rd_L88_0 {n : Nat} {pw : ST} : fX7_readCall_L88 (n + 1) 0 pw = some pw := by
  show (if (0 : Int32) ≤ 0 then some pw else ((fX6_emit pw 19 0 0).bind fun o => fX7_readCall_L88 n (0 + (-1)) o)) = _
  rw [if_pos (by decide)]
theorem rd_L88_s {n c : Nat} {pw pw' : ST} {q : Option ST} (h : fX6_emit pw 19 (pu_I (c + 1)) 0 = some pw') (hc : c < 10) (hq : fX7_readCall_L88 n (pu_I c) pw' = q) : fX7_readCall_L88 (n + 1) (pu_I (c + 1)) pw = q := by
  show (if pu_I (c + 1) ≤ 0 then some pw else ((fX6_emit pw 19 (pu_I (c + 1)) 0).bind fun o => fX7_readCall_L88 n (pu_I (c + 1) + (-1)) o)) = _
  rw [if_neg (by rw [show (0 : Int32) = pu_I 0 from rfl, pu_le (by omega) (by decide)]; omega), h]
  show fX7_readCall_L88 n (pu_I (c + 1) + (-1)) pw' = _
  rw [show pu_I (c + 1) + (-1) = pu_I c by rw [← pu_su, Int32.add_assoc, show (1 : Int32) + (-1) = 0 from rfl, Int32.add_zero]]
  exact hq
theorem re_Q_c2 {x : Int64} {a b : RE} (ha : re_Q a) (hb : re_Q b) (oa : re_ok a) (ob : re_ok b) (h41 : tk_h (re_tks a) ≠ 41) : re_Q (re_c2 x a b) := by
  have hdp : re_dp (re_c2 x a b) = max (re_dp a) (re_dp b) + 14 := rfl
  have hd1 := Nat.le_max_left (re_dp a) (re_dp b)
  have hd2 := Nat.le_max_right (re_dp a) (re_dp b)
  refine re_Q6 (d0 := max (re_dp a) (re_dp b) + 2) (re_ok_c2 oa ob) rfl (show (3 : Int32) ≠ 45 by decide) (show (3 : Int32) ≠ 33 by decide) (by rw [hdp]; omega) fun D hD => ?_
  obtain ⟨D, rfl⟩ : ∃ q, D = q + 2 := ⟨D - 2, by omega⟩
  have hRa := (ha D (by omega)).2.2 0 (by decide) (Nat.zero_le _)
  have hRb := (hb D (by omega)).2.2 0 (by decide) (Nat.zero_le _)
  refine rd_R_of fun rw rl pw pl tw tl f op sv cs lp n L V T rest h1 h2 h3 h4 h5 => ?_
  obtain ⟨⟨b1, b2, b3, b4, b5, b6, b7, b8⟩, b9, b10⟩ := h5
  have hlen : (re_tks (re_c2 x a b)).length = (re_tks a).length + (re_tks b).length + 4 := by
    show (_ :: _ :: (re_tks a ++ (_ :: (re_tks b ++ [_])))).length = _
    simp only [List.length_append, List.length_cons, List.length_nil]; omega
  rw [hlen] at b7 ⊢
  replace b1 : op + (max (re_br a) (re_br b) + 1) ≤ 8 := b1
  replace b2 : max (re_ht a) (re_ht b) + 1 ≤ 9 := b2
  replace b3 : n + (re_ln a + re_ln b + 3) ≤ 3190 := b3
  replace b4 : L + (re_ss a + re_ss b) ≤ 640 := b4
  replace b5 : V + (re_ss a + re_ss b) ≤ 320 := b5
  replace b8 : cs.length + (re_cn a + re_cn b + 1) ≤ 600 := b8
  have m1 := Nat.le_max_left (re_br a) (re_br b)
  have m2 := Nat.le_max_right (re_br a) (re_br b)
  have m3 := Nat.le_max_left (re_ht a) (re_ht b)
  have m4 := Nat.le_max_right (re_ht a) (re_ht b)
  have hpa := oa.2.2.1
  have hpb := ob.2.2.1
  replace h3 : tk_s tw tl ((3, 0, x) :: (40, 0, 0) :: ((re_tks a ++ ((44, 0, 0) :: (re_tks b ++ [(41, 0, 0)]))) ++ rest)) := h3
  rw [List.append_assoc, List.cons_append, List.append_assoc] at h3
  obtain ⟨tw1, tl1, e1, e2, _⟩ := tk_adv h3
  obtain ⟨rw2, tw2, tl2, f1, f2, f3, _⟩ := rd_exo h1 e2 (K := 40) rfl (Or.inl rfl) (by omega)
  obtain ⟨rw3, rl3, pw3, tw3, tl3, g1, g2, g3, g4⟩ := rd_R_a (pl := pl) hRa oa f2 h2 f3 rd_st_44 ⟨⟨by omega, by omega, by omega, by omega, by omega, b6, by omega, by omega⟩, b9⟩
  obtain ⟨tw4, tl4, i1, i2⟩ := rd_exp g2 g4 (K := 44) rfl (by decide)
  obtain ⟨rw5, rl5, pw5, tw5, tl5, j1, j2, j3, j4⟩ := rd_R_a (pl := pl) hRb ob g2 g3.1 i2 rd_st_41 ⟨⟨by omega, by omega, by omega, by omega, by omega, by omega, by omega, by rw [List.length_append, oa.2.1]; omega⟩, b10⟩
  have j5 := rd_a_tr g3 j3 (Nat.le_add_right _ _) (by omega)
  obtain ⟨pw6, k1, k2⟩ := rd_a_emit j5 (by omega) (by omega) (k := 19) (a := 2) (t := 0) (by decide) (Nat.zero_le _) false (fun q => by cases q)
  obtain ⟨pw7, l1, l2⟩ := rd_a_emit k2 (by omega) (by omega) (k := 19) (a := 1) (t := 0) (by decide) (Nat.zero_le _) false (fun q => by cases q)
  have h88 : fX7_readCall_L88 NF (pu_I 2) pw5 = some pw7 := by
    show fX7_readCall_L88 (4194301 + 1 + 1 + 1) (pu_I 2) pw5 = some pw7
    exact rd_L88_s k1 (by decide) (rd_L88_s l1 (by decide) rd_L88_0)
  obtain ⟨rw8, rl8, pw8, tw8, tl8, q1, q2, q3, q4⟩ := rd_call_e (x := x) (p := tw 0 3) (c := 2) (h := max (re_ht a) (re_ht b)) (x0 := n) j2 j5 j4 (by rw [List.length_append, List.length_append, oa.2.1, ob.2.1]; omega) (by omega) (by omega) (by omega) (by omega) h88 l2 (by decide)
  refine ⟨rw8, rl8, pw8, tw8, tl8, ?_, ?_, ?_, q4⟩
  · show fX7_readSingle ((rR (D + 1)).2.2.2.2.2.2.2.2.2) _ rw rl pw pl tw tl = _
    unfold fX7_readSingle fX7_readSingle_J199 fX7_readSingle_J111 fX7_readSingle_J199
    rw [h3.1.1]
    dsimp only
    rw [if_neg (by decide), if_pos rfl, e1]
    show (if tw1 0 2 = 40 then ((fX7_readCall ((rR D).2.2.2.2.1) rw rl (tl 0 5) (tw 0 3) pw pl tw1 tl1).bind fun o => some (o.1, o.2.1, o.2.2.1, o.2.2.2.1, o.2.2.2.2.1, o.2.2.2.2.2)) else _) = _
    rw [e2.1.1, if_pos rfl, rd_eta, h3.1.2.2 rfl]
    unfold fX7_readCall
    rw [f1]
    show ((fX7_readCall_L21 pl ((rR D).2.2.2.2.1) (4194301 + 1 + 1 + 1) (pu_I 0) 0 rw2 rl pw tw2 tl2).bind _) = _
    rw [rd_L21_0 f3 (by rw [tk_h_a oa.2.2.2.1]; exact h41) g1 (by decide) (by omega)]
    rw [show (1 : Int32) = pu_I 1 from rfl, rd_L21_1 g4 i1 j1 (by omega) (by omega) (by decide) (by decide), rd_L21_e j4 (by decide)]
    rw [show max (max 0 (re_ht a)) (re_ht b) = max (re_ht a) (re_ht b) by rw [Nat.zero_max], h2.1.1]
    exact q1
  · show rd_w rw8 rl8 f op sv (cs ++ (re_cl a n ++ (re_cl b (n + re_ln a) ++ [(x, n + re_ln a + re_ln b + 2, 2)]))) lp
    rw [← List.append_assoc, ← List.append_assoc]
    exact q2
  · show rd_a f L pw n pw8 (n + (re_ln a + re_ln b + 3)) (L + (re_ss a + re_ss b)) (V + (re_ss a + re_ss b)) (T + ((re_tks a).length + (re_tks b).length + 4)) (re_cd a sv L V ++ (re_cd b sv (L + re_ss a) (V + re_ss a) ++ [(19, 2, false), (19, 1, false), (20, 0, false)]))
    have := rd_a_T q3 (T' := T + ((re_tks a).length + (re_tks b).length + 4)) (by omega)
    simp only [List.append_assoc, List.nil_append, List.cons_append] at this ⊢
    rw [← Nat.add_assoc n, ← Nat.add_assoc n, ← Nat.add_assoc L, ← Nat.add_assoc V]
    exact this
theorem re_Q_c3 {x : Int64} {a b c : RE} (ha : re_Q a) (hb : re_Q b) (hc : re_Q c) (oa : re_ok a) (ob : re_ok b) (oc : re_ok c) (h41 : tk_h (re_tks a) ≠ 41) : re_Q (re_c3 x a b c) := by
  have hdp : re_dp (re_c3 x a b c) = max (max (re_dp a) (re_dp b)) (re_dp c) + 14 := rfl
  have hd1 := Nat.le_max_left (re_dp a) (re_dp b)
  have hd2 := Nat.le_max_right (re_dp a) (re_dp b)
  have hd3 := Nat.le_max_left (max (re_dp a) (re_dp b)) (re_dp c)
  have hd4 := Nat.le_max_right (max (re_dp a) (re_dp b)) (re_dp c)
  refine re_Q6 (d0 := max (max (re_dp a) (re_dp b)) (re_dp c) + 2) (re_ok_c3 oa ob oc) rfl (show (3 : Int32) ≠ 45 by decide) (show (3 : Int32) ≠ 33 by decide) (by rw [hdp]; omega) fun D hD => ?_
  obtain ⟨D, rfl⟩ : ∃ q, D = q + 2 := ⟨D - 2, by omega⟩
  have hRa := (ha D (by omega)).2.2 0 (by decide) (Nat.zero_le _)
  have hRb := (hb D (by omega)).2.2 0 (by decide) (Nat.zero_le _)
  have hRc := (hc D (by omega)).2.2 0 (by decide) (Nat.zero_le _)
  refine rd_R_of fun rw rl pw pl tw tl f op sv cs lp n L V T rest h1 h2 h3 h4 h5 => ?_
  obtain ⟨⟨b1, b2, b3, b4, b5, b6, b7, b8⟩, b9, b10, b11⟩ := h5
  have hlen : (re_tks (re_c3 x a b c)).length = (re_tks a).length + (re_tks b).length + (re_tks c).length + 5 := by
    show (_ :: _ :: (re_tks a ++ (_ :: (re_tks b ++ (_ :: (re_tks c ++ [_])))))).length = _
    simp only [List.length_append, List.length_cons, List.length_nil]; omega
  rw [hlen] at b7 ⊢
  replace b1 : op + (max (max (re_br a) (re_br b)) (re_br c) + 1) ≤ 8 := b1
  replace b2 : max (max (re_ht a) (re_ht b)) (re_ht c) + 1 ≤ 9 := b2
  replace b3 : n + (re_ln a + re_ln b + re_ln c + 4) ≤ 3190 := b3
  replace b4 : L + (re_ss a + re_ss b + re_ss c) ≤ 640 := b4
  replace b5 : V + (re_ss a + re_ss b + re_ss c) ≤ 320 := b5
  replace b8 : cs.length + (re_cn a + re_cn b + re_cn c + 1) ≤ 600 := b8
  have m1 := Nat.le_max_left (re_br a) (re_br b)
  have m2 := Nat.le_max_right (re_br a) (re_br b)
  have m3 := Nat.le_max_left (re_ht a) (re_ht b)
  have m4 := Nat.le_max_right (re_ht a) (re_ht b)
  have m5 := Nat.le_max_left (max (re_br a) (re_br b)) (re_br c)
  have m6 := Nat.le_max_right (max (re_br a) (re_br b)) (re_br c)
  have m7 := Nat.le_max_left (max (re_ht a) (re_ht b)) (re_ht c)
  have m8 := Nat.le_max_right (max (re_ht a) (re_ht b)) (re_ht c)
  have hpa := oa.2.2.1
  have hpb := ob.2.2.1
  have hpc := oc.2.2.1
  replace h3 : tk_s tw tl ((3, 0, x) :: (40, 0, 0) :: ((re_tks a ++ ((44, 0, 0) :: (re_tks b ++ ((44, 0, 0) :: (re_tks c ++ [(41, 0, 0)]))))) ++ rest)) := h3
  rw [List.append_assoc, List.cons_append, List.append_assoc, List.cons_append, List.append_assoc] at h3
  obtain ⟨tw1, tl1, e1, e2, _⟩ := tk_adv h3
  obtain ⟨rw2, tw2, tl2, f1, f2, f3, _⟩ := rd_exo h1 e2 (K := 40) rfl (Or.inl rfl) (by omega)
  obtain ⟨rw3, rl3, pw3, tw3, tl3, g1, g2, g3, g4⟩ := rd_R_a (pl := pl) hRa oa f2 h2 f3 rd_st_44 ⟨⟨by omega, by omega, by omega, by omega, by omega, b6, by omega, by omega⟩, b9⟩
  obtain ⟨tw4, tl4, i1, i2⟩ := rd_exp g2 g4 (K := 44) rfl (by decide)
  obtain ⟨rw5, rl5, pw5, tw5, tl5, j1, j2, j3, j4⟩ := rd_R_a (pl := pl) hRb ob g2 g3.1 i2 rd_st_44 ⟨⟨by omega, by omega, by omega, by omega, by omega, by omega, by omega, by rw [List.length_append, oa.2.1]; omega⟩, b10⟩
  have j5 := rd_a_tr g3 j3 (Nat.le_add_right _ _) (by omega)
  obtain ⟨twb, tlb, ib1, ib2⟩ := rd_exp j2 j4 (K := 44) rfl (by decide)
  obtain ⟨rwc, rlc, pwc, twc, tlc, c1, c2, c3, c4⟩ := rd_R_a (pl := pl) hRc oc j2 j5.1 ib2 rd_st_41 ⟨⟨by omega, by omega, by omega, by omega, by omega, by omega, by omega, by rw [List.length_append, List.length_append, oa.2.1, ob.2.1]; omega⟩, b11⟩
  have c5 := rd_a_tr j5 c3 (by omega) (by omega)
  obtain ⟨pw6, k1, k2⟩ := rd_a_emit c5 (by omega) (by omega) (k := 19) (a := 3) (t := 0) (by decide) (Nat.zero_le _) false (fun q => by cases q)
  obtain ⟨pw7, l1, l2⟩ := rd_a_emit k2 (by omega) (by omega) (k := 19) (a := 2) (t := 0) (by decide) (Nat.zero_le _) false (fun q => by cases q)
  obtain ⟨pw8, l3, l4⟩ := rd_a_emit l2 (by omega) (by omega) (k := 19) (a := 1) (t := 0) (by decide) (Nat.zero_le _) false (fun q => by cases q)
  have h88 : fX7_readCall_L88 NF (pu_I 3) pwc = some pw8 := by
    show fX7_readCall_L88 (4194300 + 1 + 1 + 1 + 1) (pu_I 3) pwc = some pw8
    exact rd_L88_s k1 (by decide) (rd_L88_s l1 (by decide) (rd_L88_s l3 (by decide) rd_L88_0))
  obtain ⟨rw8, rl8, pw9, tw8, tl8, q1, q2, q3, q4⟩ := rd_call_e (x := x) (p := tw 0 3) (c := 3) (h := max (max (re_ht a) (re_ht b)) (re_ht c)) (x0 := n) c2 c5 c4 (by simp only [List.length_append, oa.2.1, ob.2.1, oc.2.1]; omega) (by omega) (by omega) (by omega) (by omega) h88 l4 (by decide)
  refine ⟨rw8, rl8, pw9, tw8, tl8, ?_, ?_, ?_, q4⟩
  · show fX7_readSingle ((rR (D + 1)).2.2.2.2.2.2.2.2.2) _ rw rl pw pl tw tl = _
    unfold fX7_readSingle fX7_readSingle_J199 fX7_readSingle_J111 fX7_readSingle_J199
    rw [h3.1.1]
    dsimp only
    rw [if_neg (by decide), if_pos rfl, e1]
    show (if tw1 0 2 = 40 then ((fX7_readCall ((rR D).2.2.2.2.1) rw rl (tl 0 5) (tw 0 3) pw pl tw1 tl1).bind fun o => some (o.1, o.2.1, o.2.2.1, o.2.2.2.1, o.2.2.2.2.1, o.2.2.2.2.2)) else _) = _
    rw [e2.1.1, if_pos rfl, rd_eta, h3.1.2.2 rfl]
    unfold fX7_readCall
    rw [f1]
    show ((fX7_readCall_L21 pl ((rR D).2.2.2.2.1) (4194300 + 1 + 1 + 1 + 1) (pu_I 0) 0 rw2 rl pw tw2 tl2).bind _) = _
    rw [rd_L21_0 f3 (by rw [tk_h_a oa.2.2.2.1]; exact h41) g1 (by decide) (by omega)]
    rw [show (1 : Int32) = pu_I 1 from rfl, rd_L21_1 g4 i1 j1 (by omega) (by omega) (by decide) (by decide), rd_L21_1 j4 ib1 c1 (by omega) (by omega) (by decide) (by decide), rd_L21_e c4 (by decide)]
    rw [show max (max (max 0 (re_ht a)) (re_ht b)) (re_ht c) = max (max (re_ht a) (re_ht b)) (re_ht c) by rw [Nat.zero_max], h2.1.1]
    exact q1
  · show rd_w rw8 rl8 f op sv (cs ++ (re_cl a n ++ (re_cl b (n + re_ln a) ++ (re_cl c (n + re_ln a + re_ln b) ++ [(x, n + re_ln a + re_ln b + re_ln c + 3, 3)])))) lp
    rw [← List.append_assoc, ← List.append_assoc, ← List.append_assoc]
    exact q2
  · show rd_a f L pw n pw9 (n + (re_ln a + re_ln b + re_ln c + 4)) (L + (re_ss a + re_ss b + re_ss c)) (V + (re_ss a + re_ss b + re_ss c)) (T + ((re_tks a).length + (re_tks b).length + (re_tks c).length + 5)) (re_cd a sv L V ++ (re_cd b sv (L + re_ss a) (V + re_ss a) ++ (re_cd c sv (L + re_ss a + re_ss b) (V + re_ss a + re_ss b) ++ [(19, 3, false), (19, 2, false), (19, 1, false), (20, 0, false)])))
    have := rd_a_T q3 (T' := T + ((re_tks a).length + (re_tks b).length + (re_tks c).length + 5)) (by omega)
    simp only [List.append_assoc, List.nil_append, List.cons_append] at this ⊢
    rw [show n + (re_ln a + re_ln b + re_ln c + 4) = n + re_ln a + re_ln b + re_ln c + 3 + 1 by omega, show L + (re_ss a + re_ss b + re_ss c) = L + re_ss a + re_ss b + re_ss c by omega, show V + (re_ss a + re_ss b + re_ss c) = V + re_ss a + re_ss b + re_ss c by omega]
    exact this
end RDK
