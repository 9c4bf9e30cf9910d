/-! pure side, the law 6: one round's hypothesis, and its room -/
theorem mf_ln {dr : Nat → Nat → Nat} (hd : ∀ k n, 0 < n → dr k n < n) {d0 : Nat} : rs_ln (mf_b dr d0) ≤ 250 := by
  have hm4 := hd d0 4 (by decide)
  obtain ⟨X, I, W, Fk, gL, ⟨a1, a2, a3⟩, ⟨a4, a5, a6, a7, a8⟩, a9, a10⟩ := mf_lk hd d0
  obtain ⟨c1, ⟨c2, c3, c4, c5, c6⟩, ⟨c7, c8⟩, ⟨c9, c10⟩, c11⟩ := a10 rs_nil 0 0 0 rb_N_nil
  generalize hp' : (mf_l dr d0).2.2.1 = p' at a1 a2 a3 a9 c5 c6
  dsimp only at a1 a2 a3 a4 a5 a7 a8 a9 c5 c6 c11
  have hFk : Fk ≤ 8 := by have := a7 (by decide); omega
  have hW : W ≤ 3 := by have := a8 (by decide); omega
  have hp : p' ≤ 68 := by
    have : max (0 + 2) 58 = 58 := rfl
    omega
  have hI : I ≤ 45 := by
    have h3 : md_w 0 = 0 := rfl
    unfold md_w at a3 h3
    rw [if_pos rfl, if_neg (by omega)] at a3
    omega
  have z3 : rs_ln rs_nil = 0 := rfl
  rw [z3] at c4 c5
  have g3 : rs_ln (mf_b dr d0) = 1 + 1 + (1 + 1 + rs_ln ((mf_l dr d0).1 rs_nil)) := rfl
  rw [g3]
  omega
theorem rd_a400 {dr : Nat → Nat → Nat} (hd : ∀ k n, 0 < n → dr k n < n) {d0 : Nat} {k : Int32} {f : Nat} (hf : f < 3) : rp_a (mp_F dr d0 k) (f + 1) ≤ 400 ∧ rp_a (mp_F dr d0 k) f ≤ 400 := by
  have h1 := mf_ln hd (d0 := d0)
  have h2 : rs_ln (rg_b k) ≤ 66 := Nat.le_of_ble_eq_true rfl
  have h3 : rs_ln rh_b ≤ 66 := Nat.le_of_ble_eq_true rfl
  have e1 : rp_a (mp_F dr d0 k) 1 = 0 + 2 + rs_ln (mf_b dr d0) + 2 := rfl
  have e2 : rp_a (mp_F dr d0 k) 2 = rp_a (mp_F dr d0 k) 1 + 3 + rs_ln (rg_b k) + 2 := rfl
  have e3 : rp_a (mp_F dr d0 k) 3 = rp_a (mp_F dr d0 k) 2 + 2 + rs_ln rh_b + 2 := rfl
  have e0 : rp_a (mp_F dr d0 k) 0 = 0 := rfl
  match f, hf with
  | 0, _ => exact ⟨by show rp_a (mp_F dr d0 k) 1 ≤ 400; omega, by omega⟩
  | 1, _ => exact ⟨by show rp_a (mp_F dr d0 k) 2 ≤ 400; omega, by omega⟩
  | 2, _ => exact ⟨by show rp_a (mp_F dr d0 k) 3 ≤ 400; omega, by omega⟩
/-- lengths, counted -/
theorem rm_l {n : Nat} (h : n ≤ 300000) (m : Nat) : lgP n - m ≤ 60 := by
  have h1 := lgP_mono h
  have h2 : lgP 300000 ≤ 60 := by decide +kernel
  omega
theorem rm_X1 {a b : Nat → Nat} {R : Nat} (h : pt_pn b R) (hR : R ≤ 375) : gcX1 a b ≤ 23280 ∧ hcX1 a b ≤ 180 := by
  obtain ⟨h1, h2, h3, h4⟩ := h
  have hg : gcX1 a b ≤ b 19 + b 20 + b 21 := by
    unfold gcX1
    exact (Nat.add_le_add (Nat.add_le_add (Nat.sub_le _ _) (Nat.sub_le _ _)) (Nat.sub_le _ _))
  have hh : hcX1 a b ≤ 60 + 60 + 60 := by
    unfold hcX1
    exact (Nat.add_le_add (Nat.add_le_add (rm_l (n := b 19) (by omega) (lgP (a 19))) (rm_l (n := b 20) (by omega) (lgP (a 20)))) (rm_l (n := b 21) (by omega) (lgP (a 21))))
  omega
theorem rm_X1r (a : Nat → Nat) : gcX1 a a = 0 ∧ hcX1 a a = 0 := by
  unfold gcX1 hcX1
  simp only [Nat.sub_self, Nat.add_zero, and_self]
theorem rm_X9 {a b : Nat → Nat} {R M : Nat} (h : pv_sR b R) (hR : R ≤ M) (hM : M ≤ 300000) : gcX9 a b ≤ 5 * M ∧ hcX9 a b ≤ 300 := by
  obtain ⟨h2, h3, h4, h5, h6⟩ := h
  have hg : gcX9 a b ≤ b 2 + b 3 + b 4 + b 5 + b 6 := by
    unfold gcX9
    exact (Nat.add_le_add (Nat.add_le_add (Nat.add_le_add (Nat.add_le_add (Nat.sub_le _ _) (Nat.sub_le _ _)) (Nat.sub_le _ _)) (Nat.sub_le _ _)) (Nat.sub_le _ _))
  have hh : hcX9 a b ≤ 60 + 60 + 60 + 60 + 60 := by
    unfold hcX9
    exact (Nat.add_le_add (Nat.add_le_add (Nat.add_le_add (Nat.add_le_add (rm_l (n := b 2) (by omega) (lgP (a 2))) (rm_l (n := b 3) (by omega) (lgP (a 3)))) (rm_l (n := b 4) (by omega) (lgP (a 4)))) (rm_l (n := b 5) (by omega) (lgP (a 5)))) (rm_l (n := b 6) (by omega) (lgP (a 6))))
  omega
theorem rm_X9r (a : Nat → Nat) : gcX9 a a = 0 ∧ hcX9 a a = 0 := by
  unfold gcX9 hcX9
  simp only [Nat.sub_self, Nat.add_zero, and_self]
theorem rm_X9s {a b : Nat → Nat} {R Q : Nat} (h : pv_sR b R) (h' : pv_sR a Q) (hR : R ≤ Q) (hQ : Q ≤ 300000) : gcX9 a b = 0 ∧ hcX9 a b ≤ 300 := by
  obtain ⟨h2, h3, h4, h5, h6⟩ := h
  obtain ⟨q2, q3, q4, q5, q6⟩ := h'
  have hg : gcX9 a b = 0 := by
    unfold gcX9
    rw [h2, h3, h4, h5, h6, q2, q3, q4, q5, q6, Nat.sub_eq_zero_of_le hR]
  have hh : hcX9 a b ≤ 60 + 60 + 60 + 60 + 60 := by
    unfold hcX9
    exact (Nat.add_le_add (Nat.add_le_add (Nat.add_le_add (Nat.add_le_add (rm_l (n := b 2) (by omega) (lgP (a 2))) (rm_l (n := b 3) (by omega) (lgP (a 3)))) (rm_l (n := b 4) (by omega) (lgP (a 4)))) (rm_l (n := b 5) (by omega) (lgP (a 5)))) (rm_l (n := b 6) (by omega) (lgP (a 6))))
  omega
theorem rm_X0 {a b : Nat → Nat} (h : b 13 ≤ 10700 ∧ b 14 ≤ 10700) : gcX0 a b ≤ 21400 ∧ hcX0 a b ≤ 120 := by
  unfold gcX0 hcX0
  have l2 := rm_l (n := b 13) (by omega) (lgP (a 13))
  have l3 := rm_l (n := b 14) (by omega) (lgP (a 14))
  omega
theorem rm_X3 {a b : Nat → Nat} (h : b 17 ≤ 14520) : gcX3 a b ≤ 14520 ∧ hcX3 a b ≤ 60 := by
  unfold gcX3 hcX3
  have l2 := rm_l (n := b 17) (by omega) (lgP (a 17))
  omega
theorem rm_X2 {a b : Nat → Nat} (h : pg_cap b) : gcX2 a b ≤ 306684 ∧ hcX2 a b ≤ 840 := by
  obtain ⟨h4, h5, h6, h7, h10, h11, h12, h13, h14, h15, h16, h17, h18, h19⟩ := h
  have hg : gcX2 a b ≤ b 4 + b 5 + b 6 + b 7 + b 10 + b 11 + b 12 + b 13 + b 14 + b 15 + b 16 + b 17 + b 18 + b 19 := by
    unfold gcX2
    exact (Nat.add_le_add (Nat.add_le_add (Nat.add_le_add (Nat.add_le_add (Nat.add_le_add (Nat.add_le_add (Nat.add_le_add (Nat.add_le_add (Nat.add_le_add (Nat.add_le_add (Nat.add_le_add (Nat.add_le_add (Nat.add_le_add (Nat.sub_le _ _) (Nat.sub_le _ _)) (Nat.sub_le _ _)) (Nat.sub_le _ _)) (Nat.sub_le _ _)) (Nat.sub_le _ _)) (Nat.sub_le _ _)) (Nat.sub_le _ _)) (Nat.sub_le _ _)) (Nat.sub_le _ _)) (Nat.sub_le _ _)) (Nat.sub_le _ _)) (Nat.sub_le _ _)) (Nat.sub_le _ _))
  have hh : hcX2 a b ≤ 60 + 60 + 60 + 60 + 60 + 60 + 60 + 60 + 60 + 60 + 60 + 60 + 60 + 60 := by
    unfold hcX2
    exact (Nat.add_le_add (Nat.add_le_add (Nat.add_le_add (Nat.add_le_add (Nat.add_le_add (Nat.add_le_add (Nat.add_le_add (Nat.add_le_add (Nat.add_le_add (Nat.add_le_add (Nat.add_le_add (Nat.add_le_add (Nat.add_le_add (rm_l (n := b 4) (by omega) (lgP (a 4))) (rm_l (n := b 5) (by omega) (lgP (a 5)))) (rm_l (n := b 6) (by omega) (lgP (a 6)))) (rm_l (n := b 7) (by omega) (lgP (a 7)))) (rm_l (n := b 10) (by omega) (lgP (a 10)))) (rm_l (n := b 11) (by omega) (lgP (a 11)))) (rm_l (n := b 12) (by omega) (lgP (a 12)))) (rm_l (n := b 13) (by omega) (lgP (a 13)))) (rm_l (n := b 14) (by omega) (lgP (a 14)))) (rm_l (n := b 15) (by omega) (lgP (a 15)))) (rm_l (n := b 16) (by omega) (lgP (a 16)))) (rm_l (n := b 17) (by omega) (lgP (a 17)))) (rm_l (n := b 18) (by omega) (lgP (a 18)))) (rm_l (n := b 19) (by omega) (lgP (a 19))))
  omega
theorem rm_F1 {a : Nat → Nat} {b : Nat → Nat → Nat} (h : ∀ f, f < 3 → ∃ R, pt_pn (b f) R ∧ R ≤ 375) (h3 : ∀ f, 3 ≤ f → b f = a) : gcFX1 (fun _ => a) b ≤ 69840 ∧ hcFX1 (fun _ => a) b ≤ 540 := by
  obtain ⟨R0, p0, q0⟩ := h 0 (by decide)
  obtain ⟨R1, p1, q1⟩ := h 1 (by decide)
  obtain ⟨R2, p2, q2⟩ := h 2 (by decide)
  have a0 := rm_X1 (a := a) p0 q0
  have a1 := rm_X1 (a := a) p1 q1
  have a2 := rm_X1 (a := a) p2 q2
  have a3 := rm_X1r a
  unfold gcFX1 hcFX1
  dsimp only
  rw [h3 3 (by decide), h3 4 (by decide), h3 5 (by decide)]
  omega
theorem rm_F9 {a b : Nat → Nat → Nat} {M : Nat} (hM : M ≤ 300000) (h : ∀ f, f < 3 → ∃ R, pv_sR (b f) R ∧ R ≤ M) (h3 : ∀ f, 3 ≤ f → f < 6 → gcX9 (a f) (b f) = 0 ∧ hcX9 (a f) (b f) ≤ 300) : gcFX9 a b ≤ 15 * M ∧ hcFX9 a b ≤ 1800 := by
  obtain ⟨R0, p0, q0⟩ := h 0 (by decide)
  obtain ⟨R1, p1, q1⟩ := h 1 (by decide)
  obtain ⟨R2, p2, q2⟩ := h 2 (by decide)
  have a0 := rm_X9 (a := a 0) p0 q0 hM
  have a1 := rm_X9 (a := a 1) p1 q1 hM
  have a2 := rm_X9 (a := a 2) p2 q2 hM
  have a3 := h3 3 (by decide) (by decide)
  have a4 := h3 4 (by decide) (by decide)
  have a5 := h3 5 (by decide) (by decide)
  unfold gcFX9 hcFX9
  omega
theorem rd_cn {fs na : Nat} {F0 : pu_Flow} {n : Nat → Nat} {w : ST} {l : SL} {n2 : Nat → Nat} {w2 : ST} (h : pv_fn fs na F0 n w l n2 w2) : ∃ R, pv_sR n2 R ∧ R ≤ 976 := by
  obtain ⟨B, N, M, Lm, D, ch, ph, wb, dm, hfl, hN, _⟩ := h
  obtain ⟨_, R, h1, h2, h3⟩ := hfl.2.2.2.2.2.2.2.2.2.2.2.1
  exact ⟨R, h1, by omega⟩
/-- one round -/
theorem rd9_ok {xm : Nat} {xf : RI} (hx : xm < 2147483648) {T : Nat} (hT : T < 3) : RD9 xm xf (pu_I T) 190000 2250000 := by
  obtain ⟨d0, hd0⟩ : ∃ d0, d0 = 43 * T + 11 := ⟨_, rfl⟩
  have e43 : (43 * pu_I T) + 11 = pu_I d0 := by
    rw [show (43 : Int32) = pu_I 43 from rfl, pv_mul, show (11 : Int32) = pu_I 11 from rfl, pv_add, hd0]
  have hdr : ∀ k n, 0 < n → dx xm xf k n < n := dx_lt
  have hcell := dw_cell (xf := xf) hx (show T < 24 by omega)
  obtain ⟨r, hr, hb⟩ := lw_below ((fL_cell xm xf (pu_I T)).getD 0 >>> (2 &&& 31)) (m := 3) (by decide) (by decide)
  obtain ⟨v, hv⟩ : ∃ v, v = 2 + r := ⟨_, rfl⟩
  have hlen := (mx_txt_len (d0 := d0) (n := v) hdr (by omega)).1
  refine ⟨mx_ft (dx xm xf) d0, (fL_cell xm xf (pu_I T)).getD 0, pu_I r, v, by rw [e43]; exact dw_made hx (by omega), hcell, hb, by rw [show (2 : Int32) = pu_I 2 from rfl, pv_add, hv], by omega, by omega, ?_⟩
  have htx : (([] : List Int32) ++ mx_ft (dx xm xf) d0 ++ mx_g1 ++ mp_d v ++ mx_g2) = mx_txt (dx xm xf) d0 v := by
    rw [List.nil_append, List.append_assoc, List.append_assoc]
    rfl
  show ∀ f : RI, (∀ j, j < (([] : List Int32) ++ mx_ft (dx xm xf) d0 ++ mx_g1 ++ mp_d v ++ mx_g2).length → f j = (([] : List Int32) ++ mx_ft (dx xm xf) d0 ++ mx_g1 ++ mp_d v ++ mx_g2).getD j 0) → ∃ w', fL_write (([] : List Int32) ++ mx_ft (dx xm xf) d0 ++ mx_g1 ++ mp_d v ++ mx_g2).length f (fun _ _ => 0) = some w' ∧ PW9 xm xf (pu_I T) 190000 2250000 w'
  rw [htx]
  intro f hf
  obtain ⟨w', bs, e1, _, e2, e3⟩ := wr_rd hdr (d0 := d0) (n := v) (by omega) (by omega) (f := f) rfl hf (w := fun _ _ => 0) rfl
  refine ⟨w', e1, ?_⟩
  obtain ⟨S, P, g1, gP, gF, gT, A, rk, tk, gpg⟩ := rd_made hdr (p0w := fun _ _ => 0) (p1w := fun _ _ => 0) (p0l := fun _ _ => 0) (p1l := fun _ _ => 0) (tl := fun _ _ => 0) ⟨rfl, rfl, rfl⟩ e2 e3
  have hp : ld_P P (rp_a (mp_F (dx xm xf) d0 (pu_I v))) (fun f => ((mp_F (dx xm xf) d0 (pu_I v)).2.1 f).length) (fun f => ((mp_F (dx xm xf) d0 (pu_I v)).2.1 f).length + rs_sV ((mp_F (dx xm xf) d0 (pu_I v)).2.2 f)) :=
    ⟨gP, fun f hf => ⟨(gT f hf).1, (gF f hf).1, (gpg.2 f hf).2.2.1, (rd_a400 hdr hf).1⟩⟩
  obtain ⟨kw', kl', fw', fl', n', x', n2', s', mw', Ns', W', L', N2', W2', F0, q1, q2, q3, q4, q5⟩ := ld_V hp (p0w := upw (fun _ _ => 0) 0 10 (-1)) g1 (fun _ _ => 0) (fun _ _ => 0) (fun _ _ => 0) (fun _ _ => 0) (fun _ _ => 0) (fun _ _ => 0) (fun _ _ => 0) (fun _ _ => 0) (fun _ => (fun _ _ => 0)) (fun _ => (fun _ _ => 0)) (fun _ => (fun _ _ => 0))
    (n := fun q => if q = 19 then 32 else if q = 20 then 32 else if q = 21 then 1920 else 0) (n2 := fun q => if q = 2 then 256 else if q = 3 then 256 else if q = 4 then 256 else if q = 5 then 256 else if q = 6 then 256 else 0) (n0 := fun q => if q = 19 then 32 else if q = 20 then 32 else if q = 21 then 1920 else 0) (m0 := fun q => if q = 2 then 256 else if q = 3 then 256 else if q = 4 then 256 else if q = 5 then 256 else if q = 6 then 256 else 0)
    ⟨32, ⟨rfl, rfl, by decide, by decide⟩, by decide⟩ ⟨256, ⟨rfl, rfl, rfl, rfl, rfl⟩, by decide⟩ ⟨32, ⟨rfl, rfl, by decide, by decide⟩, by decide⟩ ⟨256, ⟨rfl, rfl, rfl, rfl, rfl⟩, by decide⟩
  obtain ⟨R7, t1, t2⟩ := q2
  obtain ⟨R8, t3, t4⟩ := q3
  have hJ : st_J P (rp_a (mp_F (dx xm xf) d0 (pu_I v))) (fun f => ((mp_F (dx xm xf) d0 (pu_I v)).2.1 f).length) (fun f => ((mp_F (dx xm xf) d0 (pu_I v)).2.1 f).length + rs_sV ((mp_F (dx xm xf) d0 (pu_I v)).2.2 f)) A rk tk F0 Ns' (fun q => if q = 2 then 256 else if q = 3 then 256 else if q = 4 then 256 else if q = 5 then 256 else if q = 6 then 256 else 0) (upw (fun _ _ => 0) 0 5 0) (fun q => if q = 13 then 256 else if q = 14 then 256 else 0) n' n2' (fun q => if q = 4 then 64 else if q = 5 then 64 else if q = 6 then 64 else if q = 7 then 1 else if q = 10 then 64 else if q = 11 then 64 else if q = 12 then 64 else if q = 13 then 64 else if q = 14 then 64 else if q = 15 then 64 else if q = 16 then 64 else if q = 17 then 64 else if q = 18 then 64 else if q = 19 then 64 else 0) (fun q => if q = 17 then 8 else 0) W' L' N2' W2' (fun _ => (fun q => if q = 2 then 256 else if q = 3 then 256 else if q = 4 then 256 else if q = 5 then 256 else if q = 6 then 256 else 0)) (fun _ => (fun _ _ => 0)) := by
    refine ⟨⟨gpg, fun f hf => by have := (rd_a400 hdr (d0 := d0) (k := pu_I v) hf).2; omega, gP, fun f hf => (q4 f hf).2.1, fun f hf => ⟨(gF f hf).1, (gpg.2 f hf).2.2.1⟩, fun f hf => (q4 f hf).1, Or.inl ?_⟩, ⟨fun c _ => rfl, ⟨⟨by decide, by decide⟩, ⟨R8, t3, by omega⟩, (by unfold pg_cap; decide)⟩, ⟨R7, t1, t2⟩, fun h _ => ⟨256, ⟨rfl, rfl, rfl, rfl, rfl⟩, by decide, fun _ => Nat.le_refl _⟩⟩, by decide, fun h hh => (q5 h hh).2⟩
    rw [pv_upw, if_pos ⟨rfl, rfl⟩]
  obtain ⟨w4', l4', s4', aw', an', fw2, fn', x9', m2', gw', gl', gn', w2, n3, W3, L3, N3, W4, Cn', Cw', qz, z1, z2, z3, z4, z5⟩ := st_W (xf := xf) hx (n := fun _ => 0) (upw (upw (fun _ _ => 0) 0 10 (-1)) 0 10 (-1)) hT 6 0 NF (fun _ _ => 0) (fun _ _ => 0) s' _ _ fw' n' x' n2' (fun _ _ => 0) (fun _ _ => 0) _ mw' _ W' L' N2' W2' _ _ (fun _ => (fun _ => 0)) (by omega) (by have := pv_NF; omega) hJ
  refine ⟨_, (w4', l4', s4', aw', an', fw2, fn', x9', m2', gw', gl', gn', w2, n3, W3, L3, N3, W4, Cn', Cw', qz), q1, ?_, ?_⟩
  · unfold fW
    exact (congrArg (fun z => Option.bind z (fun o105 => fW_G527_155 o105)) z1).trans rfl
  · obtain ⟨k1, ⟨k2, ⟨R5, k3, k3'⟩, k4⟩, ⟨R6, k5, k5'⟩, k6⟩ := z3
    have b1 := rm_X1 (a := fun q => if q = 19 then 32 else if q = 20 then 32 else if q = 21 then 1920 else 0) t1 t2
    have b2 := rm_X9 (a := fun q => if q = 2 then 256 else if q = 3 then 256 else if q = 4 then 256 else if q = 5 then 256 else if q = 6 then 256 else 0) t3 t4 (by decide)
    have b3 := rm_F1 (a := fun q => if q = 19 then 32 else if q = 20 then 32 else if q = 21 then 1920 else 0) (b := Ns') (fun f hf => (q4 f hf).2.2) (fun h hh => (q5 h hh).1)
    have b4 := rm_F9 (a := fun _ => fun q => if q = 2 then 256 else if q = 3 then 256 else if q = 4 then 256 else if q = 5 then 256 else if q = 6 then 256 else 0) (b := N2') (M := 976) (by decide) (fun f hf => rd_cn (q4 f hf).1) (fun h hh _ => by rw [(q5 h hh).2]; have := rm_X9r (fun q => if q = 2 then 256 else if q = 3 then 256 else if q = 4 then 256 else if q = 5 then 256 else if q = 6 then 256 else 0); omega)
    have b5 := rm_X0 (a := fun q => if q = 13 then 256 else if q = 14 then 256 else 0) k2
    have b6 := rm_X1 (a := n') k5 k5'
    have b7 := rm_X9 (a := n2') k3 k3' (by decide)
    have b8 := rm_X2 (a := fun q => if q = 4 then 64 else if q = 5 then 64 else if q = 6 then 64 else if q = 7 then 1 else if q = 10 then 64 else if q = 11 then 64 else if q = 12 then 64 else if q = 13 then 64 else if q = 14 then 64 else if q = 15 then 64 else if q = 16 then 64 else if q = 17 then 64 else if q = 18 then 64 else if q = 19 then 64 else 0) k4
    have b9 := rm_X3 (a := fun q => if q = 17 then 8 else 0) z4
    have b10 := rm_F9 (a := N2') (b := N3) (M := 976) (by decide) (fun f hf => rd_cn (z2.2.2.2.2.2.1 f hf)) (fun h hh _ => by rw [z5 h hh, (q5 h hh).2]; have := rm_X9r (fun q => if q = 2 then 256 else if q = 3 then 256 else if q = 4 then 256 else if q = 5 then 256 else if q = 6 then 256 else 0); omega)
    have b11 := rm_F9 (a := fun _ => fun q => if q = 2 then 256 else if q = 3 then 256 else if q = 4 then 256 else if q = 5 then 256 else if q = 6 then 256 else 0) (b := Cn') (M := 12950) (by decide) (fun f hf => by obtain ⟨R, r1, r2, _⟩ := k6 f (by omega); exact ⟨R, r1, r2⟩) (fun h hh h6 => by obtain ⟨R, r1, r2, r3⟩ := k6 h h6; exact rm_X9s r1 (Q := 256) ⟨rfl, rfl, rfl, rfl, rfl⟩ (r3 hh) (by decide))
    dsimp only
    omega
