/-! pure side, the reader 21: statements that were read are in shape -/
section RDV
def rs_T (s : RS) (B : Nat) : Prop :=
  ∀ (P : ST) (a0 a1 Vn fs np : Nat) (vis : Int32 → Prop) (sv : rd_sv) (L V n : Nat), tq_G P a0 a1 → rd_c P n (rs_cd s sv L V) → rs_sn s sv → rd_vs Vn vis sv → a0 ≤ n → n + rs_ln s ≤ a1 →
    V + rs_sV s ≤ Vn → Vn ≤ 320 → L + rs_sL s ≤ 640 → fs ≤ 6 → rd_ck P fs (rs_cl s n) → tq_s P a0 a1 Vn fs np vis n (n + rs_ln s) B
/-- labels, forks and givers -/
def rs_C (s : RS) (fk g : Nat) : Prop := ∀ sv L V, rd_ct pt_q35 (rs_cd s sv L V) = rs_sL s ∧ rd_ct pt_q33 (rs_cd s sv L V) ≤ fk ∧ rd_ct pu_gk (rs_cd s sv L V) ≤ g
/-- a statement that is right in all respects and declares nothing -/
def rs_M (s : RS) (B fk g : Nat) : Prop := rs_o1 s ∧ rs_Q s ∧ rs_T s B ∧ rs_C s fk g ∧ ∀ V, rs_dv s V = []
/-- a row of statements -/
def rb_M (b : RS) (B fk g : Nat) : Prop := rs_ok b ∧ rb_Q b ∧ rs_T b B ∧ rs_C b fk g
theorem rs_T_mono {s : RS} {B B' : Nat} (h : rs_T s B) (hB : B ≤ B') : rs_T s B' :=
  fun P a0 a1 Vn fs np vis sv L V n h1 h2 h3 h4 h5 h6 h7 h8 h9 h10 h11 => tq_s_mono (h P a0 a1 Vn fs np vis sv L V n h1 h2 h3 h4 h5 h6 h7 h8 h9 h10 h11) hB
theorem rs_M_mono {s : RS} {B fk g B' fk' g' : Nat} (h : rs_M s B fk g) (hB : B ≤ B') (hf : fk ≤ fk') (hg : g ≤ g') : rs_M s B' fk' g' :=
  ⟨h.1, h.2.1, rs_T_mono h.2.2.1 hB, fun sv L V => ⟨(h.2.2.2.1 sv L V).1, Nat.le_trans (h.2.2.2.1 sv L V).2.1 hf, Nat.le_trans (h.2.2.2.1 sv L V).2.2 hg⟩, h.2.2.2.2⟩
theorem rb_M_mono {s : RS} {B fk g B' fk' g' : Nat} (h : rb_M s B fk g) (hB : B ≤ B') (hf : fk ≤ fk') (hg : g ≤ g') : rb_M s B' fk' g' :=
  ⟨h.1, h.2.1, rs_T_mono h.2.2.1 hB, fun sv L V => ⟨(h.2.2.2 sv L V).1, Nat.le_trans (h.2.2.2 sv L V).2.1 hf, Nat.le_trans (h.2.2.2 sv L V).2.2 hg⟩⟩
theorem rs_M_set {x : Int64} {e : RE} {k B g : Nat} (h : re_M e k B g) (hk : k ≤ 60) : rs_M (rs_set x e) (B + 1) (re_ss e) g := by
  obtain ⟨hok, hQ, hT, hC⟩ := h
  refine ⟨rs_o1_set hok, rs_Q_set hQ hok, ?_, fun sv L V => ?_, fun _ => rfl⟩
  · intro P a0 a1 Vn fs np vis sv L V n h1 h2 h3 h4 h5 h6 h7 h8 h9 h10 h11
    obtain ⟨c1, c2⟩ := rd_c_app.mp (show rd_c P n (re_cd e sv L V ++ [(31, pu_I ((rd_lk sv x).getD 0), false)]) from h2)
    obtain ⟨⟨_, h3⟩, v, v1, v2⟩ := h3
    replace h6 : n + (re_ln e + 1) ≤ a1 := h6
    rw [hok.1] at c2
    obtain ⟨⟨d1, d2, _⟩, _⟩ := rd_c_cons.mp c2
    rw [v2] at d2
    exact tq_s_set (m := n + re_ln e) h1 (hT P a0 a1 Vn fs np vis sv L V n h1 c1 h3 h4 h5 (by omega) h7 (by omega) h9 h10 h11) hk (by omega) d1 ⟨v, (h4 x v v2).1, d2 (show (31 : Int32) ≠ 20 by decide)⟩
  · obtain ⟨k1, k2, k3⟩ := hC sv L V
    show rd_ct pt_q35 (re_cd e sv L V ++ [_]) = re_ss e ∧ rd_ct pt_q33 (re_cd e sv L V ++ [_]) ≤ re_ss e ∧ rd_ct pu_gk (re_cd e sv L V ++ [_]) ≤ g
    rw [rd_ct_app, rd_ct_app, rd_ct_app, k1, k2]
    exact ⟨rfl, Nat.le_refl _, k3⟩
theorem rs_M_ret {e : RE} {k B g : Nat} (h : re_M e k B g) (hk : k ≤ 60) : rs_M (rs_ret e) (B + 1) (re_ss e) g := by
  obtain ⟨hok, hQ, hT, hC⟩ := h
  refine ⟨rs_o1_ret hok, rs_Q_ret hQ hok, ?_, fun sv L V => ?_, fun _ => rfl⟩
  · intro P a0 a1 Vn fs np vis sv L V n h1 h2 h3 h4 h5 h6 h7 h8 h9 h10 h11
    obtain ⟨c1, c2⟩ := rd_c_app.mp (show rd_c P n (re_cd e sv L V ++ [(24, 0, false)]) from h2)
    replace h6 : n + (re_ln e + 1) ≤ a1 := h6
    rw [hok.1] at c2
    obtain ⟨⟨d1, _, _⟩, _⟩ := rd_c_cons.mp c2
    exact tq_s_ret (m := n + re_ln e) h1 (hT P a0 a1 Vn fs np vis sv L V n h1 c1 h3.2 h4 h5 (by omega) h7 (by omega) h9 h10 h11) hk (by omega) d1
  · obtain ⟨k1, k2, k3⟩ := hC sv L V
    show rd_ct pt_q35 (re_cd e sv L V ++ [_]) = re_ss e ∧ rd_ct pt_q33 (re_cd e sv L V ++ [_]) ≤ re_ss e ∧ rd_ct pu_gk (re_cd e sv L V ++ [_]) ≤ g
    rw [rd_ct_app, rd_ct_app, rd_ct_app, k1, k2]
    exact ⟨rfl, Nat.le_refl _, k3⟩
theorem rs_M_wr {a b : RE} {ka Ba ga kb Bb gb : Nat} (ha : re_M a ka Ba ga) (hb : re_M b kb Bb gb) (hka : ka ≤ 59) (hkb : kb ≤ 59) : rs_M (rs_wr a b) (max Ba (Bb + 1)) (re_ss a + re_ss b) (ga + gb) := by
  obtain ⟨oa, Qa, Ta, Ca⟩ := ha
  obtain ⟨ob, Qb, Tb, Cb⟩ := hb
  refine ⟨rs_o1_wr oa ob, rs_Q_wr Qa Qb oa ob, ?_, fun sv L V => ?_, fun _ => rfl⟩
  · intro P a0 a1 Vn fs np vis sv L V n h1 h2 h3 h4 h5 h6 h7 h8 h9 h10 h11
    obtain ⟨c1, c0⟩ := rd_c_app.mp (show rd_c P n (re_cd a sv L V ++ (re_cd b sv (L + re_ss a) (V + re_ss a) ++ [(18, 0, false)])) from h2)
    obtain ⟨c2, c3⟩ := rd_c_app.mp c0
    replace h6 : n + (re_ln a + re_ln b + 1) ≤ a1 := h6
    replace h7 : V + (re_ss a + re_ss b) ≤ Vn := h7
    replace h9 : L + (re_ss a + re_ss b) ≤ 640 := h9
    rw [oa.1] at c2 c3
    rw [ob.1] at c3
    obtain ⟨⟨d1, _, _⟩, _⟩ := rd_c_cons.mp c3
    obtain ⟨k1, k2⟩ := rd_ck_l (show rd_ck P fs (re_cl a n ++ re_cl b (n + re_ln a)) from h11)
    have t1 := Ta P a0 a1 Vn fs np vis sv L V n h1 c1 h3.1.2 h4 h5 (by omega) (by omega) (by omega) (by omega) h10 k1
    have t2 := Tb P a0 a1 Vn fs np vis sv (L + re_ss a) (V + re_ss a) (n + re_ln a) h1 c2 h3.2.2 h4 (by omega) (by omega) (by omega) (by omega) (by omega) h10 k2
    have t3 := tq_s_wr h1 t1 t2 hka hkb (by omega) d1
    rw [show n + rs_ln (rs_wr a b) = n + re_ln a + re_ln b + 1 from (by show n + (re_ln a + re_ln b + 1) = _; omega)]
    exact t3
  · obtain ⟨k1, k2, k3⟩ := Ca sv L V
    obtain ⟨l1, l2, l3⟩ := Cb sv (L + re_ss a) (V + re_ss a)
    show rd_ct pt_q35 (re_cd a sv L V ++ (re_cd b sv (L + re_ss a) (V + re_ss a) ++ [_])) = re_ss a + re_ss b ∧ rd_ct pt_q33 (re_cd a sv L V ++ (re_cd b sv (L + re_ss a) (V + re_ss a) ++ [_])) ≤ re_ss a + re_ss b ∧ rd_ct pu_gk (re_cd a sv L V ++ (re_cd b sv (L + re_ss a) (V + re_ss a) ++ [_])) ≤ ga + gb
    simp only [rd_ct_app]
    rw [k1, k2, l1, l2]
    exact ⟨rfl, Nat.le_refl _, Nat.add_le_add k3 l3⟩
theorem rs_M_if {e : RE} {b : RS} {k B g B2 f2 g2 : Nat} (h : re_M e k B g) (hk : k ≤ 60) (hb : rb_M b B2 f2 g2) : rs_M (rs_if e b) (B + B2 + 2) (re_ss e + 1 + f2) (g + g2) := by
  obtain ⟨hok, hQ, hT, hC⟩ := h
  obtain ⟨ob, Qb, Tb, Cb⟩ := hb
  refine ⟨rs_o1_if hok ob, rs_Q_if hQ hok Qb ob, ?_, fun sv L V => ?_, fun _ => rfl⟩
  · intro P a0 a1 Vn fs np vis sv L V n h1 h2 h3 h4 h5 h6 h7 h8 h9 h10 h11
    obtain ⟨c1, c0⟩ := rd_c_app.mp (show rd_c P n (re_cd e sv L V ++ ([(33, pu_I (L + re_ss e), false)] ++ (rs_cd b sv (L + re_ss e + 1) (V + re_ss e) ++ [(35, pu_I (L + re_ss e), false)]))) from h2)
    rw [hok.1] at c0
    simp only [List.cons_append, List.nil_append] at c0
    obtain ⟨⟨d1, d2, _⟩, c2⟩ := rd_c_cons.mp c0
    obtain ⟨c3, c4⟩ := rd_c_app.mp c2
    rw [ob.1] at c4
    obtain ⟨⟨d3, d4, _⟩, _⟩ := rd_c_cons.mp c4
    replace h6 : n + (re_ln e + rs_ln b + 2) ≤ a1 := h6
    replace h7 : V + (re_ss e + rs_sV b) ≤ Vn := h7
    replace h9 : L + (re_ss e + 1 + rs_sL b) ≤ 640 := h9
    obtain ⟨k1, k2⟩ := rd_ck_l (show rd_ck P fs (re_cl e n ++ rs_cl b (n + re_ln e + 1)) from h11)
    have t1 := hT P a0 a1 Vn fs np vis sv L V n h1 c1 h3.1.2 h4 h5 (by omega) (by omega) (by omega) (by omega) h10 k1
    have t2 := Tb P a0 a1 Vn fs np vis sv (L + re_ss e + 1) (V + re_ss e) (n + re_ln e + 1) h1 c3 h3.2 h4 (by omega) (by omega) (by omega) h8 (by omega) h10 k2
    have d2' := d2 (show (33 : Int32) ≠ 20 by decide)
    have t3 := tq_s_if h1 t1 hk ⟨d1, L + re_ss e, by omega, d2'⟩ t2 (by omega) ⟨d3, (d4 (show (35 : Int32) ≠ 20 by decide)).trans d2'.symm⟩
    rw [show n + rs_ln (rs_if e b) = n + re_ln e + 1 + rs_ln b + 1 from (by show n + (re_ln e + rs_ln b + 2) = _; omega)]
    exact t3
  · obtain ⟨k1, k2, k3⟩ := hC sv L V
    obtain ⟨l1, l2, l3⟩ := Cb sv (L + re_ss e + 1) (V + re_ss e)
    have f : ∀ q : Int32 → Bool, rd_ct q (rs_cd (rs_if e b) sv L V) = rd_ct q (re_cd e sv L V) + (((if q 33 = true then 1 else 0) + 0) + (rd_ct q (rs_cd b sv (L + re_ss e + 1) (V + re_ss e)) + ((if q 35 = true then 1 else 0) + 0))) := fun q => by
      show rd_ct q (re_cd e sv L V ++ ([(33, pu_I (L + re_ss e), false)] ++ (rs_cd b sv (L + re_ss e + 1) (V + re_ss e) ++ [(35, pu_I (L + re_ss e), false)]))) = _
      rw [rd_ct_app, rd_ct_app, rd_ct_app]
      simp only [rd_ct_cons, rd_ct_nil]
    rw [f, f, f, k1, k2, l1]
    refine ⟨?_, ?_, ?_⟩
    · show re_ss e + (0 + (rs_sL b + 1)) = re_ss e + 1 + rs_sL b
      omega
    · show re_ss e + (1 + (rd_ct pt_q33 (rs_cd b sv (L + re_ss e + 1) (V + re_ss e)) + 0)) ≤ re_ss e + 1 + f2
      omega
    · show rd_ct pu_gk (re_cd e sv L V) + (0 + (rd_ct pu_gk (rs_cd b sv (L + re_ss e + 1) (V + re_ss e)) + 0)) ≤ g + g2
      omega
theorem rs_M_ife {e : RE} {b c : RS} {k B g B2 f2 g2 B3 f3 g3 : Nat} (h : re_M e k B g) (hk : k ≤ 60) (hb : rb_M b B2 f2 g2) (hc : rb_M c B3 f3 g3) : rs_M (rs_ife e b c) (B + (B2 + B3) + 4) (re_ss e + 1 + f2 + f3) (g + g2 + g3) := by
  obtain ⟨hok, hQ, hT, hC⟩ := h
  obtain ⟨ob, Qb, Tb, Cb⟩ := hb
  obtain ⟨oc, Qc, Tc, Cc⟩ := hc
  refine ⟨rs_o1_ife hok ob oc, rs_Q_ife hQ hok Qb ob Qc oc, ?_, fun sv L V => ?_, fun _ => rfl⟩
  · intro P a0 a1 Vn fs np vis sv L V n h1 h2 h3 h4 h5 h6 h7 h8 h9 h10 h11
    obtain ⟨c1, c0⟩ := rd_c_app.mp (show rd_c P n (re_cd e sv L V ++ ([(33, pu_I (L + re_ss e), false)] ++ (rs_cd b sv (L + re_ss e + 1) (V + re_ss e) ++ ([(22, pu_I (L + re_ss e + 1 + rs_sL b), false), (35, pu_I (L + re_ss e), false)] ++
      (rs_cd c sv (L + re_ss e + 1 + rs_sL b + 1) (V + re_ss e + rs_sV b) ++ [(35, pu_I (L + re_ss e + 1 + rs_sL b), false)]))))) from h2)
    rw [hok.1] at c0
    simp only [List.cons_append, List.nil_append] at c0
    obtain ⟨⟨d1, d2, _⟩, c2⟩ := rd_c_cons.mp c0
    obtain ⟨c3, c4⟩ := rd_c_app.mp c2
    rw [ob.1] at c4
    obtain ⟨⟨d3, d4, _⟩, c5⟩ := rd_c_cons.mp c4
    obtain ⟨⟨d5, d6, _⟩, c6⟩ := rd_c_cons.mp c5
    obtain ⟨c7, c8⟩ := rd_c_app.mp c6
    rw [oc.1] at c8
    obtain ⟨⟨d7, d8, _⟩, _⟩ := rd_c_cons.mp c8
    replace h6 : n + (re_ln e + rs_ln b + rs_ln c + 4) ≤ a1 := h6
    replace h7 : V + (re_ss e + rs_sV b + rs_sV c) ≤ Vn := h7
    replace h9 : L + (re_ss e + 1 + rs_sL b + 1 + rs_sL c) ≤ 640 := h9
    obtain ⟨k1, k23⟩ := rd_ck_l (show rd_ck P fs (re_cl e n ++ (rs_cl b (n + re_ln e + 1) ++ rs_cl c (n + re_ln e + 1 + rs_ln b + 2))) from h11)
    obtain ⟨k2, k3⟩ := rd_ck_l k23
    have t1 := hT P a0 a1 Vn fs np vis sv L V n h1 c1 h3.1.2 h4 h5 (by omega) (by omega) (by omega) (by omega) h10 k1
    have t2 := Tb P a0 a1 Vn fs np vis sv (L + re_ss e + 1) (V + re_ss e) (n + re_ln e + 1) h1 c3 h3.2.1 h4 (by omega) (by omega) (by omega) h8 (by omega) h10 k2
    have t3 := Tc P a0 a1 Vn fs np vis sv (L + re_ss e + 1 + rs_sL b + 1) (V + re_ss e + rs_sV b) (n + re_ln e + 1 + rs_ln b + 2) h1 c7 h3.2.2 h4 (by omega) (by omega) (by omega) h8 (by omega) h10 k3
    have d2' := d2 (show (33 : Int32) ≠ 20 by decide)
    have d4' := d4 (show (22 : Int32) ≠ 20 by decide)
    have t4 := tq_s_ife h1 t1 hk ⟨d1, L + re_ss e, by omega, d2'⟩ t2 ⟨d3, L + re_ss e + 1 + rs_sL b, by omega, d4'⟩ ⟨d5, (d6 (show (35 : Int32) ≠ 20 by decide)).trans d2'.symm⟩ t3 (by omega) ⟨d7, (d8 (show (35 : Int32) ≠ 20 by decide)).trans d4'.symm⟩
    rw [show n + rs_ln (rs_ife e b c) = n + re_ln e + 1 + rs_ln b + 2 + rs_ln c + 1 from (by show n + (re_ln e + rs_ln b + rs_ln c + 4) = _; omega)]
    exact t4
  · obtain ⟨k1, k2, k3⟩ := hC sv L V
    obtain ⟨l1, l2, l3⟩ := Cb sv (L + re_ss e + 1) (V + re_ss e)
    obtain ⟨m1, m2, m3⟩ := Cc sv (L + re_ss e + 1 + rs_sL b + 1) (V + re_ss e + rs_sV b)
    have f : ∀ q : Int32 → Bool, rd_ct q (rs_cd (rs_ife e b c) sv L V) = rd_ct q (re_cd e sv L V) + (((if q 33 = true then 1 else 0) + 0) + (rd_ct q (rs_cd b sv (L + re_ss e + 1) (V + re_ss e)) + (((if q 22 = true then 1 else 0) + ((if q 35 = true then 1 else 0) + 0)) + (rd_ct q (rs_cd c sv (L + re_ss e + 1 + rs_sL b + 1) (V + re_ss e + rs_sV b)) + ((if q 35 = true then 1 else 0) + 0))))) := fun q => by
      show rd_ct q (re_cd e sv L V ++ ([(33, pu_I (L + re_ss e), false)] ++ (rs_cd b sv (L + re_ss e + 1) (V + re_ss e) ++ ([(22, pu_I (L + re_ss e + 1 + rs_sL b), false), (35, pu_I (L + re_ss e), false)] ++
        (rs_cd c sv (L + re_ss e + 1 + rs_sL b + 1) (V + re_ss e + rs_sV b) ++ [(35, pu_I (L + re_ss e + 1 + rs_sL b), false)]))))) = _
      rw [rd_ct_app, rd_ct_app, rd_ct_app, rd_ct_app, rd_ct_app]
      simp only [rd_ct_cons, rd_ct_nil]
    rw [f, f, f, k1, k2, l1, m1]
    refine ⟨?_, ?_, ?_⟩
    · show re_ss e + (0 + (rs_sL b + (1 + (rs_sL c + 1)))) = re_ss e + 1 + rs_sL b + 1 + rs_sL c
      omega
    · show re_ss e + (1 + (rd_ct pt_q33 (rs_cd b sv (L + re_ss e + 1) (V + re_ss e)) + (0 + (rd_ct pt_q33 (rs_cd c sv (L + re_ss e + 1 + rs_sL b + 1) (V + re_ss e + rs_sV b)) + 0)))) ≤ re_ss e + 1 + f2 + f3
      omega
    · show rd_ct pu_gk (re_cd e sv L V) + (0 + (rd_ct pu_gk (rs_cd b sv (L + re_ss e + 1) (V + re_ss e)) + (0 + (rd_ct pu_gk (rs_cd c sv (L + re_ss e + 1 + rs_sL b + 1) (V + re_ss e + rs_sV b)) + 0)))) ≤ g + g2 + g3
      omega
theorem rs_M_wh {e : RE} {b : RS} {k B g B2 f2 g2 : Nat} (h : re_M e k B g) (hk : k ≤ 60) (hb : rb_M b B2 f2 g2) : rs_M (rs_wh e b) (B + B2 + 6) (re_ss e + 1 + f2) (g + g2) := by
  obtain ⟨hok, hQ, hT, hC⟩ := h
  obtain ⟨ob, Qb, Tb, Cb⟩ := hb
  refine ⟨rs_o1_wh hok ob, rs_Q_wh hQ hok Qb ob, ?_, fun sv L V => ?_, fun _ => rfl⟩
  · intro P a0 a1 Vn fs np vis sv L V n h1 h2 h3 h4 h5 h6 h7 h8 h9 h10 h11
    obtain ⟨⟨x1, _, x2⟩, c00⟩ := rd_c_cons.mp (show rd_c P n ((37, 0, true) :: (35, pu_I L, false) :: (re_cd e sv (L + 2) V ++ ([(33, pu_I (L + 1), false)] ++ (rs_cd b sv (L + 2 + re_ss e) (V + re_ss e) ++ [(22, pu_I L, false), (35, pu_I (L + 1), false)])))) from h2)
    obtain ⟨⟨x3, x4, _⟩, c01⟩ := rd_c_cons.mp c00
    obtain ⟨c1, c0⟩ := rd_c_app.mp (show rd_c P (n + 2) _ from c01)
    rw [hok.1] at c0
    simp only [List.cons_append, List.nil_append] at c0
    obtain ⟨⟨d1, d2, _⟩, c2⟩ := rd_c_cons.mp c0
    obtain ⟨c3, c4⟩ := rd_c_app.mp c2
    rw [ob.1] at c4
    obtain ⟨⟨d3, d4, _⟩, c5⟩ := rd_c_cons.mp c4
    obtain ⟨⟨d5, d6, _⟩, _⟩ := rd_c_cons.mp c5
    replace h6 : n + (re_ln e + rs_ln b + 5) ≤ a1 := h6
    replace h7 : V + (re_ss e + rs_sV b) ≤ Vn := h7
    replace h9 : L + (2 + re_ss e + rs_sL b) ≤ 640 := h9
    obtain ⟨k1, k2⟩ := rd_ck_l (show rd_ck P fs (re_cl e (n + 2) ++ rs_cl b (n + 2 + re_ln e + 1)) from h11)
    have t1 := hT P a0 a1 Vn fs np vis sv (L + 2) V (n + 2) h1 c1 h3.1.2 h4 (by omega) (by omega) (by omega) (by omega) (by omega) h10 k1
    have t2 := Tb P a0 a1 Vn fs np vis sv (L + 2 + re_ss e) (V + re_ss e) (n + 2 + re_ln e + 1) h1 c3 h3.2 h4 (by omega) (by omega) (by omega) h8 (by omega) h10 k2
    have d2' := d2 (show (33 : Int32) ≠ 20 by decide)
    have t3 := tq_s_while h1 x1 h5 (x2 rfl) x3 t1 hk ⟨d1, L + 1, by omega, d2'⟩ t2 ⟨d3, (d4 (show (22 : Int32) ≠ 20 by decide)).trans (x4 (show (35 : Int32) ≠ 20 by decide)).symm⟩ ⟨d5, (d6 (show (35 : Int32) ≠ 20 by decide)).trans d2'.symm⟩ (by omega)
    rw [show n + rs_ln (rs_wh e b) = n + 2 + re_ln e + 1 + rs_ln b + 2 from (by show n + (re_ln e + rs_ln b + 5) = _; omega)]
    exact t3
  · obtain ⟨k1, k2, k3⟩ := hC sv (L + 2) V
    obtain ⟨l1, l2, l3⟩ := Cb sv (L + 2 + re_ss e) (V + re_ss e)
    have f : ∀ q : Int32 → Bool, rd_ct q (rs_cd (rs_wh e b) sv L V) = (if q 37 = true then 1 else 0) + ((if q 35 = true then 1 else 0) + (rd_ct q (re_cd e sv (L + 2) V) + (((if q 33 = true then 1 else 0) + 0) + (rd_ct q (rs_cd b sv (L + 2 + re_ss e) (V + re_ss e)) + ((if q 22 = true then 1 else 0) + ((if q 35 = true then 1 else 0) + 0)))))) := fun q => by
      show rd_ct q ((37, 0, true) :: (35, pu_I L, false) :: (re_cd e sv (L + 2) V ++ ([(33, pu_I (L + 1), false)] ++ (rs_cd b sv (L + 2 + re_ss e) (V + re_ss e) ++ [(22, pu_I L, false), (35, pu_I (L + 1), false)])))) = _
      rw [rd_ct_cons, rd_ct_cons, rd_ct_app, rd_ct_app, rd_ct_app]
      simp only [rd_ct_cons, rd_ct_nil]
    rw [f, f, f, k1, k2, l1]
    refine ⟨?_, ?_, ?_⟩
    · show 0 + (1 + (re_ss e + (0 + (rs_sL b + 1)))) = 2 + re_ss e + rs_sL b
      omega
    · show 0 + (0 + (re_ss e + (1 + (rd_ct pt_q33 (rs_cd b sv (L + 2 + re_ss e) (V + re_ss e)) + 0)))) ≤ re_ss e + 1 + f2
      omega
    · show 0 + (0 + (rd_ct pu_gk (re_cd e sv (L + 2) V) + (0 + (rd_ct pu_gk (rs_cd b sv (L + 2 + re_ss e) (V + re_ss e)) + 0)))) ≤ g + g2
      omega
theorem rb_M_nil : rb_M rs_nil 0 0 0 :=
  ⟨rs_ok_nil, rb_Q_nil, fun P a0 a1 Vn fs np vis sv L V n _ _ _ _ h5 h6 _ _ _ _ _ => tq_s_nil h5 h6, fun _ _ _ => ⟨rfl, Nat.le_refl 0, Nat.le_refl 0⟩⟩
theorem rs_C_app {s b : RS} {f1 g1 f2 g2 : Nat} (h1 : rs_C s f1 g1) (h2 : rs_C b f2 g2) : rs_C (rs_cons s b) (f1 + f2) (g1 + g2) := fun sv L V => by
  obtain ⟨k1, k2, k3⟩ := h1 sv L V
  obtain ⟨l1, l2, l3⟩ := h2 (sv ++ rs_dv s V) (L + rs_sL s) (V + rs_sV s)
  have f : ∀ q : Int32 → Bool, rd_ct q (rs_cd (rs_cons s b) sv L V) = rd_ct q (rs_cd s sv L V) + rd_ct q (rs_cd b (sv ++ rs_dv s V) (L + rs_sL s) (V + rs_sV s)) := fun q => rd_ct_app
  rw [f, f, f, k1, l1]
  exact ⟨rfl, Nat.add_le_add k2 l2, Nat.add_le_add k3 l3⟩
theorem rb_M_cons {s b : RS} {B1 f1 g1 B2 f2 g2 : Nat} (hs : rs_M s B1 f1 g1) (hb : rb_M b B2 f2 g2) : rb_M (rs_cons s b) (max B1 B2) (f1 + f2) (g1 + g2) := by
  obtain ⟨os, Qs, Ts, Cs, ds⟩ := hs
  obtain ⟨ob, Qb, Tb, Cb⟩ := hb
  refine ⟨rs_ok_cons os ob, rb_Q_cons Qs Qb os ob, ?_, rs_C_app Cs Cb⟩
  intro P a0 a1 Vn fs np vis sv L V n h1 h2 h3 h4 h5 h6 h7 h8 h9 h10 h11
  obtain ⟨c1, c2⟩ := rd_c_app.mp (show rd_c P n (rs_cd s sv L V ++ rs_cd b (sv ++ rs_dv s V) (L + rs_sL s) (V + rs_sV s)) from h2)
  rw [os.1.1] at c2
  replace h6 : n + (rs_ln s + rs_ln b) ≤ a1 := h6
  replace h7 : V + (rs_sV s + rs_sV b) ≤ Vn := h7
  replace h9 : L + (rs_sL s + rs_sL b) ≤ 640 := h9
  have h32 := h3.2 V (by omega)
  rw [ds V, List.append_nil] at c2 h32
  obtain ⟨k1, k2⟩ := rd_ck_l (show rd_ck P fs (rs_cl s n ++ rs_cl b (n + rs_ln s)) from h11)
  have t1 := Ts P a0 a1 Vn fs np vis sv L V n h1 c1 h3.1 h4 h5 (by omega) (by omega) h8 (by omega) h10 k1
  have t2 := Tb P a0 a1 Vn fs np vis sv (L + rs_sL s) (V + rs_sV s) (n + rs_ln s) h1 c2 h32 h4 (by omega) (by omega) (by omega) h8 (by omega) h10 k2
  rw [show n + rs_ln (rs_cons s b) = n + rs_ln s + rs_ln b from (by show n + (rs_ln s + rs_ln b) = _; omega)]
  exact tq_s_app (tq_s_mono t1 (Nat.le_max_left _ _)) (tq_s_mono t2 (Nat.le_max_right _ _))
theorem rd_lk_snoc {x y : Int64} {v w : Nat} : ∀ {l : rd_sv}, rd_lk (l ++ [(x, v)]) y = some w → rd_lk l y = some w ∨ (x = y ∧ w = v)
  | [], h => by
    have h : (if x = y then some v else none) = some w := h
    by_cases e : x = y
    · rw [if_pos e] at h
      exact Or.inr ⟨e, (Option.some.inj h).symm⟩
    · rw [if_neg e] at h; cases h
  | (z, u) :: l, h => by
    have h : (if z = y then some u else rd_lk (l ++ [(x, v)]) y) = some w := h
    show (if z = y then some u else rd_lk l y) = some w ∨ _
    by_cases e : z = y
    · rw [if_pos e] at h ⊢; exact Or.inl h
    · rw [if_neg e] at h ⊢; exact rd_lk_snoc h
theorem rb_M_var {x : Int64} {e : RE} {b : RS} {k B g B2 f2 g2 : Nat} (h : re_M e k B g) (hk : k ≤ 60) (hb : rb_M b B2 f2 g2) : rb_M (rs_cons (rs_var x e) b) (max (B + 1) B2) (re_ss e + f2) (g + g2) := by
  obtain ⟨hok, hQ, hT, hC⟩ := h
  obtain ⟨ob, Qb, Tb, Cb⟩ := hb
  have ov : rs_o1 (rs_var x e) := rs_o1_var hok
  refine ⟨rs_ok_cons ov ob, rb_Q_cons (rs_Q_var hQ hok) Qb ov ob, ?_, rs_C_app (fun sv L V => ?_) Cb⟩
  · intro P a0 a1 Vn fs np vis sv L V n h1 h2 h3 h4 h5 h6 h7 h8 h9 h10 h11
    obtain ⟨c1, c2⟩ := rd_c_app.mp (show rd_c P n ((re_cd e sv L V ++ [(31, pu_I (V + re_ss e), false)]) ++ rs_cd b (sv ++ [(x, V + re_ss e)]) (L + re_ss e) (V + (re_ss e + 1))) from h2)
    obtain ⟨c3, c4⟩ := rd_c_app.mp c1
    rw [List.length_append, hok.1] at c2
    rw [hok.1] at c4
    obtain ⟨⟨d1, d2, _⟩, _⟩ := rd_c_cons.mp c4
    have d2' := d2 (show (31 : Int32) ≠ 20 by decide)
    replace h6 : n + (re_ln e + 1 + rs_ln b) ≤ a1 := h6
    replace h7 : V + (re_ss e + 1 + rs_sV b) ≤ Vn := h7
    replace h9 : L + (re_ss e + rs_sL b) ≤ 640 := h9
    have h32 : rs_sn b (sv ++ [(x, V + re_ss e)]) := h3.2 V (by show V + (re_ss e + 1) ≤ 320; omega)
    obtain ⟨k1, k2⟩ := rd_ck_l (show rd_ck P fs (re_cl e n ++ rs_cl b (n + (re_ln e + 1))) from h11)
    have t1 := hT P a0 a1 Vn fs np vis sv L V n h1 c3 h3.1.1.2 h4 h5 (by omega) (by omega) (by omega) (by omega) h10 k1
    have t2 := tq_s_set (m := n + re_ln e) h1 t1 hk (by omega) d1 ⟨V + re_ss e, by omega, d2'⟩
    have t3 := Tb P a0 a1 Vn fs np (fun u => u = pu_I (V + re_ss e) ∨ vis u) (sv ++ [(x, V + re_ss e)]) (L + re_ss e) (V + (re_ss e + 1)) (n + (re_ln e + 1)) h1 c2 h32 (fun y w hw => by
      rcases rd_lk_snoc hw with q | ⟨_, q⟩
      · exact ⟨(h4 y w q).1, Or.inr (h4 y w q).2⟩
      · rw [q]; exact ⟨by omega, Or.inl rfl⟩) (by omega) (by omega) (by omega) h8 (by omega) h10 k2
    rw [show n + rs_ln (rs_cons (rs_var x e) b) = n + re_ln e + 1 + rs_ln b from (by show n + (re_ln e + 1 + rs_ln b) = _; omega)]
    rw [← Nat.add_assoc n] at t3
    exact tq_s_decl (v := pu_I (V + re_ss e)) (a := n + re_ln e) (tq_s_mono t2 (Nat.le_max_left _ _)) (tq_s_mono t3 (Nat.le_max_right _ _)) (by omega) ⟨Or.inl d1, d2'⟩
  · obtain ⟨k1, k2, k3⟩ := hC sv L V
    show rd_ct pt_q35 (re_cd e sv L V ++ [_]) = re_ss e ∧ rd_ct pt_q33 (re_cd e sv L V ++ [_]) ≤ re_ss e ∧ rd_ct pu_gk (re_cd e sv L V ++ [_]) ≤ g
    rw [rd_ct_app, rd_ct_app, rd_ct_app, k1, k2]
    exact ⟨rfl, Nat.le_refl _, k3⟩
end RDV
