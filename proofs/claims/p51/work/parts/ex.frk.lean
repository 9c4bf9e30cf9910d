/-! pure side, the made function 6: lines that fork -/
section MDK
variable {dr : Nat → Nat → Nat}
theorem md_ar6 {p p1 p2 C m : Nat} (h1 : p1 < 46) (h2 : p2 + 2 ≤ max (p1 + 2) C + 2 * m) (hm : m ≤ 2) (hC : 50 ≤ C) : p2 + 2 ≤ C + 4 ∧ p2 + 2 ≤ max (p + 2) (C + 4) + 2 := by omega
theorem md_ar7 {p p2 p3 C : Nat} (h2 : p2 + 2 ≤ C + 4) (h3 : p3 + 2 ≤ max (p2 + 2) C + 2 * 1) : p3 + 2 ≤ max (p + 2) (C + 4) + 2 := by omega
theorem md_ar8 (h : Nat) : 15 * (2 ^ (h + 1) - 1) + 6 + 9 = 2 * (15 * 2 ^ h) ∧ 15 * (2 ^ h - 1) + 6 + 9 = 15 * 2 ^ h ∧ 15 ≤ 15 * 2 ^ h := by
  have := Nat.one_le_two_pow (n := h)
  rw [Nat.pow_succ]
  omega
theorem md_if_lk {h C m q q2 : Nat} {s t2 F2 : md_S} {e : RE} {F : md_G} {B g I : Nat} (hC : 50 ≤ C) (hm : m ≤ 2) (h46 : t2.2.1 < 46) (h8 : t2.2.2.1 < 8) (ht : md_pk 2 s.2.1 t2.2.1 I s.2.2.1 t2.2.2.1 s.2.2.2 t2.2.2.2 e B g) (hF : md_lk h m C (q, t2.2.1, t2.2.2.1 + 1, t2.2.2.2) F2 F) : md_lk (h + 1) 1 (C + 4) s (q2, F2.2) (fun b => rs_cons (rs_if e (F rs_nil)) b) := by
  obtain ⟨h1, ⟨h2, h3, h4⟩, ⟨h5, h6, h7⟩, ⟨h8', h9, h10⟩, ⟨h11, h12, h13, h14⟩, h15, h16, h17⟩ := ht
  obtain ⟨X, J, W, Fk, gL, ⟨a1, a2, a3⟩, ⟨a4, a5, a6, a7, a8⟩, a9, a10⟩ := hF
  obtain ⟨c1, ⟨c2, c3, c4, c5, c6⟩, ⟨c7, c8⟩, ⟨c9, c10⟩, c11⟩ := a10 rs_nil 0 0 0 rb_N_nil
  dsimp only at a1 a2 a3 a4 a5 a7 a8 a9 c5 c6 c11
  obtain ⟨_, ar⟩ := md_ar6 (p := s.2.1) h46 a2 hm hC
  obtain ⟨e1, e2, e3⟩ := md_ar8 h
  clear h6 a2
  have z1 : rs_sL rs_nil = 0 := rfl
  have z2 : rs_sV rs_nil = 0 := rfl
  have z3 : rs_ln rs_nil = 0 := rfl
  have z4 : (rs_tks rs_nil).length = 0 := rfl
  have z5 : rs_cn rs_nil = 0 := rfl
  rw [z1] at c2; rw [z2] at c3; rw [z3] at c4 c5; rw [z4] at c6; rw [z5] at c7
  have hlen : (rs_tks (rs_if e (F rs_nil))).length = (re_tks e).length + (rs_tks (F rs_nil)).length + 3 := by
    show (_ :: (re_tks e ++ (_ :: (rs_tks (F rs_nil) ++ [_])))).length = _
    simp only [List.length_append, List.length_cons, List.length_nil]; omega
  have hN := rs_N_if h1 (by decide) c1
  rw [Nat.max_eq_left (Nat.zero_le _)] at hN
  refine md_c1 (X := re_ss e + X) (I := I + J) (W := W) (Fk := re_ss e + 1 + Fk) ⟨by dsimp only; omega, ar, by dsimp only; omega⟩ ⟨by dsimp only; omega, by dsimp only; omega, by omega, fun q => a7 (by omega), fun q => a8 (by omega)⟩ hN (by omega) (by omega) (by dsimp only; omega) ⟨?_, ?_, ?_, ?_⟩ ⟨?_, fun n => ?_⟩ ⟨?_, ?_⟩ (fun sv hsv => ⟨⟨by omega, h4 sv hsv.1⟩, c11 sv (by rw [h10]; exact hsv) (fun _ _ => trivial)⟩)
  · show re_ss e + 1 + rs_sL (F rs_nil) ≤ 2 * (re_ss e + 1 + Fk); omega
  · show re_ss e + rs_sV (F rs_nil) ≤ re_ss e + X + W; omega
  · show re_ln e + rs_ln (F rs_nil) + 2 + s.2.1 ≤ _; dsimp only; omega
  · rw [hlen]; dsimp only; omega
  · show re_cn e + rs_cn (F rs_nil) = 0; omega
  · show re_cl e n ++ rs_cl (F rs_nil) _ = []; rw [h3, c8 (fun _ => rfl)]; rfl
  · have : rs_br (F rs_nil) ≤ 3 + h := Nat.le_trans c9 (Nat.max_le.mpr ⟨Nat.le_refl _, Nat.zero_le _⟩)
    exact Nat.max_le.mpr ⟨by omega, by omega⟩
  · have : rs_dp (F rs_nil) ≤ 61 + 3 * h := Nat.le_trans c10 (Nat.max_le.mpr ⟨Nat.le_refl _, Nat.zero_le _⟩)
    show max (re_dp e) (rs_dp (F rs_nil)) + 3 ≤ 61 + 3 * (h + 1)
    have : max (re_dp e) (rs_dp (F rs_nil)) ≤ 61 + 3 * h := Nat.max_le.mpr ⟨by omega, this⟩
    omega
theorem md_ife_lk {h C m q q2 : Nat} {s t2 F2 E2 : md_S} {e : RE} {F E : md_G} {B g I : Nat} (hC : 50 ≤ C) (hm : m ≤ 2) (h46 : t2.2.1 < 46) (h8 : t2.2.2.1 < 8) (ht : md_pk 2 s.2.1 t2.2.1 I s.2.2.1 t2.2.2.1 s.2.2.2 t2.2.2.2 e B g) (hF : md_lk h m C (q, t2.2.1, t2.2.2.1 + 1, t2.2.2.2) F2 F) (hE : md_lk h 1 C (q2, F2.2) E2 E) : md_lk (h + 1) 1 (C + 4) s E2 (fun b => rs_cons (rs_ife e (F rs_nil) (E rs_nil)) b) := by
  obtain ⟨h1, ⟨h2, h3, h4⟩, ⟨h5, h6, h7⟩, ⟨h8', h9, h10⟩, ⟨h11, h12, h13, h14⟩, h15, h16, h17⟩ := ht
  obtain ⟨X, J, W, Fk, gL, ⟨a1, a2, a3⟩, ⟨a4, a5, a6, a7, a8⟩, a9, a10⟩ := hF
  obtain ⟨Y, K, U, Ek, gM, ⟨b1, b2, b3⟩, ⟨b4, b5, b6, b7, b8⟩, b9, b10⟩ := hE
  obtain ⟨c1, ⟨c2, c3, c4, c5, c6⟩, ⟨c7, c8⟩, ⟨c9, c10⟩, c11⟩ := a10 rs_nil 0 0 0 rb_N_nil
  obtain ⟨d1, ⟨d2, d3, d4, d5, d6⟩, ⟨d7, d8⟩, ⟨d9, d10⟩, d11⟩ := b10 rs_nil 0 0 0 rb_N_nil
  dsimp only at a1 a2 a3 a4 a5 a7 a8 a9 c5 c6 c11 b1 b2 b3 b4 b5 b7 b8 b9 d5 d6 d11
  obtain ⟨ar0, _⟩ := md_ar6 (p := s.2.1) h46 a2 hm hC
  have ar := md_ar7 (p := s.2.1) ar0 b2
  obtain ⟨e1, e2, e3⟩ := md_ar8 h
  clear h6 a2 b2
  have z1 : rs_sL rs_nil = 0 := rfl
  have z2 : rs_sV rs_nil = 0 := rfl
  have z3 : rs_ln rs_nil = 0 := rfl
  have z4 : (rs_tks rs_nil).length = 0 := rfl
  have z5 : rs_cn rs_nil = 0 := rfl
  rw [z1] at c2 d2; rw [z2] at c3 d3; rw [z3] at c4 c5 d4 d5; rw [z4] at c6 d6; rw [z5] at c7 d7
  have hlen : (rs_tks (rs_ife e (F rs_nil) (E rs_nil))).length = (re_tks e).length + (rs_tks (F rs_nil)).length + (rs_tks (E rs_nil)).length + 6 := by
    show (_ :: (re_tks e ++ (_ :: (rs_tks (F rs_nil) ++ (_ :: _ :: _ :: (rs_tks (E rs_nil) ++ [_])))))).length = _
    simp only [List.length_append, List.length_cons, List.length_nil]; omega
  have hN := rs_N_ife h1 (by decide) c1 d1
  rw [Nat.max_eq_left (Nat.zero_le _), Nat.max_eq_left (Nat.zero_le _)] at hN
  refine md_c1 (X := re_ss e + X + Y) (I := I + J + K) (W := W + U) (Fk := re_ss e + 1 + Fk + Ek) ⟨by omega, ar, by omega⟩ ⟨by omega, by omega, by omega, fun q => b7 (a7 (by omega)), fun q => b8 (a8 (by omega))⟩ hN (by omega) (by omega) (by omega) ⟨?_, ?_, ?_, ?_⟩ ⟨?_, fun n => ?_⟩ ⟨?_, ?_⟩ (fun sv hsv => ⟨⟨by omega, h4 sv hsv.1⟩, c11 sv (by rw [h10]; exact hsv) (fun _ _ => trivial), d11 sv (md_sw_mono hsv (by omega)) (fun _ _ => trivial)⟩)
  · show re_ss e + 1 + rs_sL (F rs_nil) + 1 + rs_sL (E rs_nil) ≤ 2 * (re_ss e + 1 + Fk + Ek); omega
  · show re_ss e + rs_sV (F rs_nil) + rs_sV (E rs_nil) ≤ re_ss e + X + Y + (W + U); omega
  · show re_ln e + rs_ln (F rs_nil) + rs_ln (E rs_nil) + 4 + s.2.1 ≤ _; omega
  · rw [hlen]; omega
  · show re_cn e + rs_cn (F rs_nil) + rs_cn (E rs_nil) = 0; omega
  · show re_cl e n ++ (rs_cl (F rs_nil) _ ++ rs_cl (E rs_nil) _) = []; rw [h3, c8 (fun _ => rfl), d8 (fun _ => rfl)]; rfl
  · have : rs_br (F rs_nil) ≤ 3 + h := Nat.le_trans c9 (Nat.max_le.mpr ⟨Nat.le_refl _, Nat.zero_le _⟩)
    have : rs_br (E rs_nil) ≤ 3 + h := Nat.le_trans d9 (Nat.max_le.mpr ⟨Nat.le_refl _, Nat.zero_le _⟩)
    have : max (rs_br (F rs_nil)) (rs_br (E rs_nil)) ≤ 3 + h := Nat.max_le.mpr ⟨by omega, by omega⟩
    exact Nat.max_le.mpr ⟨by omega, by omega⟩
  · have u1 : rs_dp (F rs_nil) ≤ 61 + 3 * h := Nat.le_trans c10 (Nat.max_le.mpr ⟨Nat.le_refl _, Nat.zero_le _⟩)
    have u2 : rs_dp (E rs_nil) ≤ 61 + 3 * h := Nat.le_trans d10 (Nat.max_le.mpr ⟨Nat.le_refl _, Nat.zero_le _⟩)
    show max (re_dp e) (max (rs_dp (F rs_nil)) (rs_dp (E rs_nil))) + 3 ≤ 61 + 3 * (h + 1)
    have : max (re_dp e) (max (rs_dp (F rs_nil)) (rs_dp (E rs_nil))) ≤ 61 + 3 * h := Nat.max_le.mpr ⟨by omega, Nat.max_le.mpr ⟨u1, u2⟩⟩
    omega
end MDK
