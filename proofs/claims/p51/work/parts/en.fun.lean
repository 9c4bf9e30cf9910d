/-! pure side, the reader 23: a function is read -/
section RDG
variable {f f' n L T op lp : Nat} {pw pw' : ST} {rw : ST} {rl pl : SL} {tw : ST} {tl : SL} {sv : rd_sv} {cs : List (Int64 × Nat × Nat)} {rest : List Tok}
theorem rd_w_new (h : rd_w rw rl f' op sv cs lp) (hf : f < 6) : rd_w (upw (upw (upw rw 0 3 (pu_I f)) 0 9 0) 0 12 0) rl f op [] cs 0 := by
  obtain ⟨⟨a1, a2, a3, a4, a5⟩, ⟨b1, b2, b3⟩, ⟨c1, c2, c3⟩, d1, d2⟩ := h
  have h0 : ∀ j, j ≠ 3 → j ≠ 9 → j ≠ 12 → upw (upw (upw rw 0 3 (pu_I f)) 0 9 0) 0 12 0 0 j = rw 0 j := fun j h1 h2 h3 => by
    rw [pv_upw, if_neg (fun q => h3 q.2), pv_upw, if_neg (fun q => h2 q.2), pv_upw, if_neg (fun q => h1 q.2)]
  have hr : ∀ r, r ≠ 0 → upw (upw (upw rw 0 3 (pu_I f)) 0 9 0) 0 12 0 r = rw r := fun r hr => by rw [pv_upw_n hr, pv_upw_n hr, pv_upw_n hr]
  refine ⟨⟨by rw [pv_upw, if_neg (by decide), pv_upw, if_neg (by decide), pv_upw, if_pos ⟨rfl, rfl⟩], by rw [h0 4 (by decide) (by decide) (by decide)]; exact a2, by rw [h0 5 (by decide) (by decide) (by decide)]; exact a3, by rw [h0 6 (by decide) (by decide) (by decide)]; exact a4, by rw [pv_upw, if_pos ⟨rfl, rfl⟩]; rfl⟩, ⟨hf, b2, Nat.zero_le _⟩,
    ⟨by rw [pv_upw, if_neg (by decide), pv_upw, if_pos ⟨rfl, rfl⟩]; rfl, Nat.zero_le _, fun k x hx => by cases hx⟩, by rw [h0 17 (by decide) (by decide) (by decide)]; exact d1, fun k x hx => by rw [hr 15 (by decide), hr 17 (by decide)]; exact d2 k x hx⟩
/-- what a function leaves -/
def rf_out (x : Int64) (ps : List Int64) (b : RS) (f : Nat) (pw : ST) (pl : SL) (cs : List (Int64 × Nat × Nat)) (n L T : Nat) (rest : List Tok) (rw' : ST) (rl' : SL) (pw' : ST) (pl' : SL) (tw' : ST) (tl' : SL) : Prop :=
  rd_w rw' rl' f 0 (rp_sv 0 ps) (cs ++ rs_cl b (n + ps.length)) 0 ∧ pl' = upl pl 2 f x ∧ rd_p pw' (n + ps.length + rs_ln b + 2) (L + rs_sL b) (T + (rs_tks b).length) ∧ rd_z f pw n pw' (n + ps.length + rs_ln b + 2) ∧
  rd_c pw' n (rp_cd 0 ps ++ (rs_cd b (rp_sv 0 ps) L ps.length ++ [(0, 0, false), (24, 0, false)])) ∧
  (pw' 4 f = pu_I ps.length ∧ pw' 5 f = pu_I (ps.length + rs_sV b) ∧ pw' 6 f = pu_I n ∧ pw' 7 f = pu_I (n + ps.length + rs_ln b + 2) ∧ pw' 0 0 = pu_I (f + 1)) ∧ tk_s tw' tl' rest
theorem rd_fun {b : RS} {x : Int64} {ps : List Int64} {D : Nat} (hb : rb_Q b) (ob : rs_ok b) (hD : rs_dp b ≤ D) (hf : f < 6) (h1 : rd_w rw rl f' 0 sv cs lp) (h2 : rd_p pw n L T) (hx : ∀ g, g < f → pl 2 g ≠ x)
    (h3 : tk_s tw tl ((7, 0, 0) :: (3, 0, x) :: (40, 0, 0) :: (rp_tk 0 ps ++ ((41, 0, 0) :: (123, 0, 0) :: (rs_tks b ++ ((125, 0, 0) :: rest)))))) (hps : ps.length ≤ 4) (hpo : rp_ok [] 0 ps)
    (h5 : (rs_br b + 1 ≤ 8 ∧ n + ps.length + rs_ln b + 2 ≤ 3190 ∧ L + rs_sL b ≤ 640 ∧ ps.length + rs_sV b ≤ 320 ∧ 1 ≤ T ∧ T + (rs_tks b).length ≤ 1000 ∧ cs.length + rs_cn b ≤ 600) ∧ rs_sn b (rp_sv 0 ps)) :
    ∃ rw' rl' pw' pl' tw' tl', fX7_readFunction ((rR (D + 1)).1) rw rl (pu_I f) pw pl tw tl = some (rw', rl', pw', pl', tw', tl') ∧ rf_out x ps b f pw pl cs n L T rest rw' rl' pw' pl' tw' tl' := by
  obtain ⟨⟨b1, b2, b3, b4, b5, b6, b7⟩, b8⟩ := h5
  have hT : T ≤ 1000 := by omega
  obtain ⟨rw3, hrw3⟩ : ∃ rw3, rw3 = upw (upw (upw rw 0 3 (pu_I f)) 0 9 0) 0 12 0 := ⟨_, rfl⟩
  have a1 : rd_w rw3 rl f 0 [] cs 0 := by rw [hrw3]; exact rd_w_new h1 hf
  obtain ⟨tw1, tl1, e1, e2⟩ := rd_exp a1 h3 (K := 7) rfl (by decide)
  have hfind := rd_find (pl := pl) (x := x) (fs := f) (by omega) none (fun k q => by cases q) (fun k hk _ => hx k hk)
  obtain ⟨tw2, tl2, e3, e4⟩ := rd_exp a1 e2 (K := 3) rfl (by decide)
  obtain ⟨p10, hp10⟩ : ∃ p, p = upw pw 3 f (tw1 0 3) := ⟨_, rfl⟩
  obtain ⟨p12, hp12⟩ : ∃ p, p = upw p10 0 0 (pu_I (f + 1)) := ⟨_, rfl⟩
  obtain ⟨p14, hp14⟩ : ∃ p, p = upw p12 4 f 0 := ⟨_, rfl⟩
  obtain ⟨p16, hp16⟩ : ∃ p, p = upw p14 5 f 0 := ⟨_, rfl⟩
  obtain ⟨p18, hp18⟩ : ∃ p, p = upw p16 6 f (pu_I n) := ⟨_, rfl⟩
  obtain ⟨c10, z10⟩ := rd_z_w (f := f) (r := 3) (i := f) (v := tw1 0 3) h2 hT (by decide) (fun q => by cases q) (fun q => by omega)
  rw [← hp10] at c10 z10
  obtain ⟨c12, z12⟩ := rd_z_w (f := f) (r := 0) (i := 0) (v := pu_I (f + 1)) c10 hT (by decide) (fun _ => by decide) (fun q => by omega)
  rw [← hp12] at c12 z12
  obtain ⟨c14, z14⟩ := rd_z_w (f := f) (r := 4) (i := f) (v := 0) c12 hT (by decide) (fun q => by cases q) (fun _ _ => rfl)
  rw [← hp14] at c14 z14
  obtain ⟨c16, z16⟩ := rd_z_w (f := f) (r := 5) (i := f) (v := 0) c14 hT (by decide) (fun q => by cases q) (fun _ _ => rfl)
  rw [← hp16] at c16 z16
  obtain ⟨c18, z18⟩ := rd_z_w (f := f) (r := 6) (i := f) (v := pu_I n) c16 hT (by decide) (fun q => by cases q) (fun _ _ => rfl)
  rw [← hp18] at c18 z18
  have q18 : rd_q f p18 n L 0 T := rd_p_q c18 (by rw [hp18, pv_upw_n (by decide), hp16, pv_upw, if_pos ⟨rfl, rfl⟩]; rfl)
  obtain ⟨rw5, tw5, tl5, g1, g2, g3, _⟩ := rd_exo a1 e4 (K := 40) rfl (Or.inl rfl) (by decide)
  obtain ⟨rw6, rl6, pw6, tw6, tl6, i1, i2, i3, i4, i5, i6, i7, i8, i9⟩ := rd_pars (op := 1) hT ps 0 n rw5 rl p18 tw5 tl5 [] NF (by omega) g2 q18 (by rw [hp18, pv_upw_n (by decide), hp16, pv_upw_n (by decide), hp14, pv_upw, if_pos ⟨rfl, rfl⟩]; rfl) (Nat.le_refl 0) g3 hpo (by omega) (by unfold NF; omega)
  rw [Nat.zero_add] at i3 i4
  replace i2 : rd_w rw6 rl6 f 1 (rp_sv 0 ps) cs 0 := i2
  obtain ⟨rw7, tw7, tl7, j1, j2, j3⟩ := rd_exc i2 i7 (K := 41) rfl (Or.inl rfl)
  have h600 := tk_len j3
  simp only [List.length_append, List.length_cons] at h600
  obtain ⟨rw8, rl8, pw8, tw8, tl8, k1, k2, k3, k4⟩ := rd_block (pl := upl pl 2 f x) hb ob hD j2 i3 j3 ⟨⟨by omega, by omega, by omega, by omega, b5, by omega, by omega, by rw [rp_sv_len]; exact Nat.le_refl _, by omega⟩, b8⟩ (by omega)
  obtain ⟨pw9, l1, l2⟩ := rd_a_emit k3 (by omega) (by omega) (k := 0) (a := 0) (t := 0) (by decide) (Nat.zero_le _) false (fun q => by cases q)
  obtain ⟨pwa, m1, m2⟩ := rd_a_emit l2 (by omega) (by omega) (k := 24) (a := 0) (t := 0) (by decide) (Nat.zero_le _) false (fun q => by cases q)
  obtain ⟨ca, za⟩ := rd_z_w (f := f) (r := 7) (i := f) (v := pu_I (n + ps.length + rs_ln b + 1 + 1)) (rd_q_p m2.1) (by omega) (by decide) (fun q => by cases q) (fun _ _ => rfl)
  have hy := m2.2.1.2.2.2
  have zall := rd_z_tr z10 (rd_z_tr z12 (rd_z_tr z14 (rd_z_tr z16 (rd_z_tr z18 (rd_z_tr i5 (rd_z_tr (rd_y_z m2.2.1) za))))))
  refine ⟨rw8, rl8, upw pwa 7 f (pu_I (n + ps.length + rs_ln b + 1 + 1)), upl pl 2 f x, tw8, tl8, ?_, k2, rfl, ca, zall, ?_, ⟨?_, ?_, ?_, ?_, ?_⟩, k4⟩
  · have hix : ixb (pu_I f) 6 = true := (pu_ix (by omega)).mpr hf
    unfold fX7_readFunction fX7_readFunction_J10 lt9
    dsimp only
    rw [if_pos (by rw [show (6 : Int32) = pu_I 6 from rfl, pu_lt (by omega) (by decide)]; exact hf), ← hrw3, e1]
    show ((fX6_find pl (tl1 0 5) (pu_I f)).bind _) = _
    rw [e2.1.2.2 rfl, hfind]
    show (if (-1 : Int32) < 0 then fX7_readFunction_J61 rl (pu_I f) pw pl (rw3, tw1, tl1) ((rR (D + 1)).1) rw3 else ((fX7_blame rw3 3 (tw1 0 3)).bind fun o => fX7_readFunction_J61 rl (pu_I f) pw pl (rw3, tw1, tl1) ((rR (D + 1)).1) o)) = _
    rw [if_pos (by decide)]
    unfold fX7_readFunction_J61 lt9
    dsimp only
    rw [if_pos hix, if_pos hix, pu_nn (show f < 2147483648 by omega), e2.1.2.2 rfl, ← hp10, e3]
    show (if ixb (pu_I f) 6 = true then (if ixb (pu_I f) 6 = true then (if ixb (pu_I f) 6 = true then ((fX7_expect rw3 40 tw2 tl2).bind _) else none) else none) else none) = _
    rw [if_pos hix, if_pos hix, if_pos hix, pu_su, ← hp12, ← hp14, ← hp16, c16.1.1, ← hp18, g1]
    show ((fX7_readParameters rw5 rl tw5 tl5 p18).bind _) = _
    unfold fX7_readParameters
    rw [show (0 : Int32) = pu_I 0 from rfl, i1]
    show ((fX7_expect rw6 41 tw6 tl6).bind _) = _
    rw [j1]
    show (((rR (D + 1)).1 rw7 rl6 pw6 (upl pl 2 f x) tw7 tl7).bind _) = _
    rw [k1]
    show ((fX6_emit pw8 0 0 0).bind _) = _
    rw [show fX6_emit pw8 0 0 0 = some pw9 from l1]
    show ((fX6_emit pw9 24 0 0).bind _) = _
    rw [show fX6_emit pw9 24 0 0 = some pwa from m1]
    show (if ixb (pu_I f) 6 = true then some (rw8, rl8, upw pwa 7 f (pwa 0 7), upl pl 2 f x, tw8, tl8) else none) = _
    rw [if_pos hix, m2.1.1.1]
  · refine rd_c_app.mpr ⟨rd_c_z i6 (rd_z_tr (rd_y_z m2.2.1) za) (by rw [rp_cd_len]; exact Nat.le_refl _), ?_⟩
    rw [rp_cd_len]
    have := rd_c_z m2.2.2.1 za (by rw [← m2.2.2.2]; exact Nat.le_refl _)
    rw [List.append_assoc] at this
    exact this
  · rw [pv_upw_n (by decide), hy.1 4 (by decide) (by decide) (by decide) (by decide) (by decide) (by decide)]
    exact i4
  · rw [pv_upw_n (by decide)]
    exact m2.1.1.2.2
  · rw [pv_upw_n (by decide), hy.1 6 (by decide) (by decide) (by decide) (by decide) (by decide) (by decide), i8 6 (Or.inl rfl), hp18, pv_upw, if_pos ⟨rfl, rfl⟩]
  · rw [pv_upw, if_pos ⟨rfl, rfl⟩]
  · rw [pv_upw_n (by decide), hy.2.2, i9, hp18, pv_upw_n (by decide), hp16, pv_upw_n (by decide), hp14, pv_upw_n (by decide), hp12, pv_upw, if_pos ⟨rfl, rfl⟩]
end RDG
