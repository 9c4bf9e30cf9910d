/-! pure side, the reader 16: tests that were read are in shape -/
section RDT
/-- calls lead to functions of as many parameters -/
def rd_ck (P : ST) (fs : Nat) (l : List (Int64 × Nat × Nat)) : Prop := ∀ x n c, (x, n, c) ∈ l → ∃ g, g < fs ∧ P 10 n = pu_I g ∧ P 4 g = pu_I c
/-- variables that are seen -/
def rd_vs (Vn : Nat) (vis : Int32 → Prop) (sv : List (Int64 × Nat)) : Prop := ∀ x v, rd_lk sv x = some v → v < Vn ∧ vis (pu_I v)
/-- a test is in shape wherever it stands -/
def re_T (e : RE) (k B : Nat) : Prop :=
  ∀ (P : ST) (a0 a1 Vn fs np : Nat) (vis : Int32 → Prop) (sv : List (Int64 × Nat)) (L V n : Nat), tq_G P a0 a1 → rd_c P n (re_cd e sv L V) → re_sn e sv → rd_vs Vn vis sv → a0 ≤ n → n + re_ln e ≤ a1 →
    V + re_ss e ≤ Vn → Vn ≤ 1000 → L + re_ss e ≤ 640 → fs ≤ 6 → rd_ck P fs (re_cl e n) → tq_e P a0 a1 Vn fs np vis n (n + re_ln e) k B
theorem rd_ck_l {P : ST} {fs : Nat} {l1 l2 : List (Int64 × Nat × Nat)} (h : rd_ck P fs (l1 ++ l2)) : rd_ck P fs l1 ∧ rd_ck P fs l2 :=
  ⟨fun x n c hm => h x n c (List.mem_append_left _ hm), fun x n c hm => h x n c (List.mem_append_right _ hm)⟩
theorem re_T_mono {e : RE} {k B k' B' : Nat} (h : re_T e k B) (hk : k ≤ k') (hB : B ≤ B') : re_T e k' B' :=
  fun P a0 a1 Vn fs np vis sv L V n h1 h2 h3 h4 h5 h6 h7 h8 h9 h10 h11 => tq_e_mono (h P a0 a1 Vn fs np vis sv L V n h1 h2 h3 h4 h5 h6 h7 h8 h9 h10 h11) hk hB
theorem re_T_nm {v : Int32} : re_T (re_nm v) 1 1 := by
  intro P a0 a1 Vn fs np vis sv L V n h1 h2 h3 h4 h5 h6 h7 h8 h9 h10 h11
  obtain ⟨⟨c1, c2, c3⟩, _⟩ := rd_c_cons.mp h2
  exact tq_e_lf h1 h5 (by have : n + 1 ≤ a1 := h6; omega) c1 (Or.inl rfl) (c3 rfl)
theorem re_T_vr {x : Int64} : re_T (re_vr x) 1 1 := by
  intro P a0 a1 Vn fs np vis sv L V n h1 h2 h3 h4 h5 h6 h7 h8 h9 h10 h11
  obtain ⟨⟨c1, c2, c3⟩, _⟩ := rd_c_cons.mp h2
  obtain ⟨v, v1, v2⟩ := h3
  replace c2 : P 10 n = pu_I ((rd_lk sv x).getD 0) := c2 (show (30 : Int32) ≠ 20 by decide)
  rw [v2] at c2
  replace c2 : P 10 n = pu_I v := c2
  obtain ⟨v3, v4⟩ := h4 x v v2
  exact tq_e_lf h1 h5 (by have : n + 1 ≤ a1 := h6; omega) c1 (Or.inr ⟨rfl, ⟨v, v3, c2⟩, by rw [c2]; exact v4⟩) (c3 rfl)
theorem re_T_ld {e : RE} {k B : Nat} (h : re_T e k B) (hok : re_ok e) : re_T (re_ld e) k (B + 1) := by
  intro P a0 a1 Vn fs np vis sv L V n h1 h2 h3 h4 h5 h6 h7 h8 h9 h10 h11
  obtain ⟨c1, c2⟩ := rd_c_app.mp (show rd_c P n (re_cd e sv L V ++ [(17, 0, false)]) from h2)
  replace h6 : n + (re_ln e + 1) ≤ a1 := h6
  rw [hok.1] at c2
  obtain ⟨⟨d1, _, _⟩, _⟩ := rd_c_cons.mp c2
  exact tq_e_rd (m := n + re_ln e) h1 (h P a0 a1 Vn fs np vis sv L V n h1 c1 h3 h4 h5 (by omega) h7 h8 h9 h10 h11) (by omega) d1
theorem re_T_pr {e : RE} {k B : Nat} (h : re_T e k B) : re_T (re_pr e) k B := h
theorem re_T_ng {e : RE} {k B : Nat} (h : re_T e k B) (hok : re_ok e) : re_T (re_ng e) (k + 1) (B + 1) := by
  intro P a0 a1 Vn fs np vis sv L V n h1 h2 h3 h4 h5 h6 h7 h8 h9 h10 h11
  obtain ⟨⟨b1, b2, b3⟩, c0⟩ := rd_c_cons.mp (show rd_c P n ((0, 0, true) :: (re_cd e sv L V ++ [(2, 0, false)])) from h2)
  obtain ⟨c1, c2⟩ := rd_c_app.mp c0
  replace h6 : n + (re_ln e + 2) ≤ a1 := h6
  rw [hok.1] at c2
  obtain ⟨⟨d1, _, _⟩, _⟩ := rd_c_cons.mp c2
  have t1 := tq_e_lf (Vn := Vn) (fs := fs) (np := np) (vis := vis) h1 h5 (by omega) b1 (Or.inl rfl) (b3 rfl)
  have t2 := h P a0 a1 Vn fs np vis sv L V (n + 1) h1 c1 h3 h4 (by omega) (by omega) h7 h8 h9 h10 h11
  have t3 := tq_e_op2 h1 t1 t2 (by omega) d1 (by decide)
  rw [show n + re_ln (re_ng e) = n + 1 + re_ln e + 1 from (by show n + (re_ln e + 2) = _; omega)]
  exact tq_e_mono t3 (by rw [Nat.max_le]; omega) (by rw [Nat.max_le]; omega)
theorem re_T_nt {e : RE} {k B : Nat} (h : re_T e k B) (hok : re_ok e) : re_T (re_nt e) (k + 1) (B + 2) := by
  intro P a0 a1 Vn fs np vis sv L V n h1 h2 h3 h4 h5 h6 h7 h8 h9 h10 h11
  obtain ⟨c1, c2⟩ := rd_c_app.mp (show rd_c P n (re_cd e sv L V ++ [(0, 0, false), (15, 0, false)]) from h2)
  replace h6 : n + (re_ln e + 2) ≤ a1 := h6
  rw [hok.1] at c2
  obtain ⟨⟨d1, _, _⟩, c3⟩ := rd_c_cons.mp c2
  obtain ⟨⟨d2, _, _⟩, _⟩ := rd_c_cons.mp c3
  exact tq_e_tr (m := n + re_ln e) h1 (h P a0 a1 Vn fs np vis sv L V n h1 c1 h3 h4 h5 (by omega) h7 h8 h9 h10 h11) (by omega) d1 d2 (by decide)
theorem re_T_bn {s K : Int32} {r : Nat} {a b : RE} {ka Ba kb Bb : Nat} (ha : re_T a ka Ba) (hb : re_T b kb Bb) (oa : re_ok a) (ob : re_ok b) (hK : pu_isop K = true) : re_T (re_bn s K r a b) (max ka (kb + 1)) (max Ba (Bb + 1)) := by
  intro P a0 a1 Vn fs np vis sv L V n h1 h2 h3 h4 h5 h6 h7 h8 h9 h10 h11
  obtain ⟨c1, c0⟩ := rd_c_app.mp (show rd_c P n (re_cd a sv L V ++ (re_cd b sv (L + re_ss a) (V + re_ss a) ++ [(K, 0, false)])) from h2)
  obtain ⟨c2, c3⟩ := rd_c_app.mp c0
  replace h6 : n + (re_ln a + re_ln b + 1) ≤ a1 := h6
  replace h7 : V + (re_ss a + re_ss b) ≤ Vn := h7
  replace h9 : L + (re_ss a + re_ss b) ≤ 640 := h9
  rw [oa.1] at c2 c3
  rw [ob.1] at c3
  obtain ⟨⟨d1, _, _⟩, _⟩ := rd_c_cons.mp c3
  obtain ⟨k1, k2⟩ := rd_ck_l (show rd_ck P fs (re_cl a n ++ re_cl b (n + re_ln a)) from h11)
  have t1 := ha P a0 a1 Vn fs np vis sv L V n h1 c1 h3.1 h4 h5 (by omega) (by omega) h8 (by omega) h10 k1
  have t2 := hb P a0 a1 Vn fs np vis sv (L + re_ss a) (V + re_ss a) (n + re_ln a) h1 c2 h3.2 h4 (by omega) (by omega) (by omega) h8 (by omega) h10 k2
  have t3 := tq_e_op2 h1 t1 t2 (by omega) d1 hK
  rw [show n + re_ln (re_bn s K r a b) = n + re_ln a + re_ln b + 1 from (by show n + (re_ln a + re_ln b + 1) = _; omega)]
  exact t3
theorem re_T_sc {c : Bool} {a b : RE} {ka Ba kb Bb : Nat} (ha : re_T a ka Ba) (hb : re_T b kb Bb) (oa : re_ok a) (ob : re_ok b) : re_T (re_sc c a b) (max (ka + 1) (kb + 1)) (Ba + Bb + 8) := by
  intro P a0 a1 Vn fs np vis sv L V n h1 h2 h3 h4 h5 h6 h7 h8 h9 h10 h11
  obtain ⟨c1, c0⟩ := rd_c_app.mp (show rd_c P n (re_cd a sv L V ++ ([(0, 0, false), (16, 0, false), (32, pu_I (V + re_ss a), false), (if c = true then 33 else 34, pu_I (L + re_ss a), false)] ++
      (re_cd b sv (L + re_ss a + 1) (V + re_ss a + 1) ++ [(0, 0, false), (16, 0, false), (31, pu_I (V + re_ss a), false), (35, pu_I (L + re_ss a), false), (30, pu_I (V + re_ss a), false)]))) from h2)
  rw [oa.1] at c0
  obtain ⟨x0, x4⟩ := rd_c_app.mp c0
  obtain ⟨⟨d0, _, _⟩, x1⟩ := rd_c_cons.mp x0
  obtain ⟨⟨d1, _, _⟩, x2⟩ := rd_c_cons.mp x1
  obtain ⟨⟨d2, d2', _⟩, x3⟩ := rd_c_cons.mp x2
  obtain ⟨⟨d3, d3', _⟩, _⟩ := rd_c_cons.mp x3
  obtain ⟨c2, y0⟩ := rd_c_app.mp (show rd_c P (n + re_ln a + 4) _ from x4)
  rw [ob.1] at y0
  obtain ⟨⟨e0, _, _⟩, y1⟩ := rd_c_cons.mp y0
  obtain ⟨⟨e1, _, _⟩, y2⟩ := rd_c_cons.mp y1
  obtain ⟨⟨e2, e2', _⟩, y3⟩ := rd_c_cons.mp y2
  obtain ⟨⟨e3, e3', _⟩, y4⟩ := rd_c_cons.mp y3
  obtain ⟨⟨e4, e4', _⟩, _⟩ := rd_c_cons.mp y4
  replace h6 : n + (re_ln a + re_ln b + 9) ≤ a1 := h6
  replace h7 : V + (re_ss a + re_ss b + 1) ≤ Vn := h7
  replace h9 : L + (re_ss a + re_ss b + 1) ≤ 640 := h9
  obtain ⟨k1, k2⟩ := rd_ck_l (show rd_ck P fs (re_cl a n ++ re_cl b (n + re_ln a + 4)) from h11)
  have t1 := ha P a0 a1 Vn fs np vis sv L V n h1 c1 h3.1 h4 h5 (by omega) (by omega) h8 (by omega) h10 k1
  have t2 := hb P a0 a1 Vn fs np vis sv (L + re_ss a + 1) (V + re_ss a + 1) (n + re_ln a + 4) h1 c2 h3.2 h4 (by omega) (by omega) (by omega) h8 (by omega) h10 k2
  have hK : (if c = true then 33 else 34 : Int32) = 33 ∨ (if c = true then 33 else 34 : Int32) = 34 := by cases c <;> decide
  have hK20 : (if c = true then 33 else 34 : Int32) ≠ 20 := by cases c <;> decide
  have t3 := tq_e_sc (v := V + re_ss a) h1 t1 t2 (by omega) (by omega) h8 d0 d1 ⟨d2, d2' (show (32 : Int32) ≠ 20 by decide)⟩ ⟨d3, hK, L + re_ss a, by omega, d3' hK20⟩
    e0 e1 ⟨e2, e2' (show (31 : Int32) ≠ 20 by decide)⟩ ⟨e3, (e3' (show (35 : Int32) ≠ 20 by decide)).trans (d3' hK20).symm⟩ ⟨e4, e4' (show (30 : Int32) ≠ 20 by decide)⟩
  rw [show n + re_ln (re_sc c a b) = n + re_ln a + 4 + re_ln b + 5 from (by show n + (re_ln a + re_ln b + 9) = _; omega)]
  exact t3
theorem re_T_c2 {x : Int64} {a b : RE} {k B : Nat} (ha : re_T a k B) (hb : re_T b k B) (oa : re_ok a) (ob : re_ok b) : re_T (re_c2 x a b) (k + 2) (B + 2 + 12) := by
  intro P a0 a1 Vn fs np vis sv L V n h1 h2 h3 h4 h5 h6 h7 h8 h9 h10 h11
  obtain ⟨c1, c0⟩ := rd_c_app.mp (show rd_c P n (re_cd a sv L V ++ (re_cd b sv (L + re_ss a) (V + re_ss a) ++ [(19, 2, false), (19, 1, false), (20, 0, false)])) from h2)
  obtain ⟨c2, c3⟩ := rd_c_app.mp c0
  replace h6 : n + (re_ln a + re_ln b + 3) ≤ a1 := h6
  replace h7 : V + (re_ss a + re_ss b) ≤ Vn := h7
  replace h9 : L + (re_ss a + re_ss b) ≤ 640 := h9
  rw [oa.1] at c2 c3
  rw [ob.1] at c3
  obtain ⟨⟨d0, d0', _⟩, x1⟩ := rd_c_cons.mp c3
  obtain ⟨⟨d1, d1', _⟩, x2⟩ := rd_c_cons.mp x1
  obtain ⟨⟨d2, _, _⟩, _⟩ := rd_c_cons.mp x2
  obtain ⟨k1, k23⟩ := rd_ck_l (show rd_ck P fs (re_cl a n ++ (re_cl b (n + re_ln a) ++ [(x, n + re_ln a + re_ln b + 2, 2)])) from h11)
  obtain ⟨k2, k3⟩ := rd_ck_l k23
  obtain ⟨g, g1, g2, g3⟩ := k3 _ _ _ (List.mem_singleton.mpr rfl)
  have t1 := ha P a0 a1 Vn fs np vis sv L V n h1 c1 h3.1 h4 h5 (by omega) (by omega) h8 (by omega) h10 k1
  have t2 := hb P a0 a1 Vn fs np vis sv (L + re_ss a) (V + re_ss a) (n + re_ln a) h1 c2 h3.2 h4 (by omega) (by omega) (by omega) h8 (by omega) h10 k2
  have t3 := tq_e_call (n := 2) (g := g) h1 ⟨n + re_ln a, ⟨n, ⟨rfl, h5, by omega⟩, t1⟩, t2⟩ (by decide) (by decide) (by omega) (fun d hd => by
    rcases (by omega : d = 0 ∨ d = 1) with e | e <;> subst e
    · exact ⟨d0, d0' (show (19 : Int32) ≠ 20 by decide)⟩
    · exact ⟨d1, d1' (show (19 : Int32) ≠ 20 by decide)⟩) d2 g2 g1 h10 g3
  rw [show n + re_ln (re_c2 x a b) = n + re_ln a + re_ln b + 2 + 1 from (by show n + (re_ln a + re_ln b + 3) = _; omega)]
  exact t3
theorem re_T_c3 {x : Int64} {a b c : RE} {k B : Nat} (ha : re_T a k B) (hb : re_T b k B) (hc : re_T c k B) (oa : re_ok a) (ob : re_ok b) (oc : re_ok c) : re_T (re_c3 x a b c) (k + 3) (B + 3 + 12) := by
  intro P a0 a1 Vn fs np vis sv L V n h1 h2 h3 h4 h5 h6 h7 h8 h9 h10 h11
  obtain ⟨c1, c0⟩ := rd_c_app.mp (show rd_c P n (re_cd a sv L V ++ (re_cd b sv (L + re_ss a) (V + re_ss a) ++ (re_cd c sv (L + re_ss a + re_ss b) (V + re_ss a + re_ss b) ++ [(19, 3, false), (19, 2, false), (19, 1, false), (20, 0, false)]))) from h2)
  obtain ⟨c2, c4⟩ := rd_c_app.mp c0
  obtain ⟨c3, c5⟩ := rd_c_app.mp c4
  replace h6 : n + (re_ln a + re_ln b + re_ln c + 4) ≤ a1 := h6
  replace h7 : V + (re_ss a + re_ss b + re_ss c) ≤ Vn := h7
  replace h9 : L + (re_ss a + re_ss b + re_ss c) ≤ 640 := h9
  rw [oa.1] at c2 c3 c5
  rw [ob.1] at c3 c5
  rw [oc.1] at c5
  obtain ⟨⟨d0, d0', _⟩, x1⟩ := rd_c_cons.mp c5
  obtain ⟨⟨d1, d1', _⟩, x2⟩ := rd_c_cons.mp x1
  obtain ⟨⟨d2, d2', _⟩, x3⟩ := rd_c_cons.mp x2
  obtain ⟨⟨d3, _, _⟩, _⟩ := rd_c_cons.mp x3
  obtain ⟨k1, k23⟩ := rd_ck_l (show rd_ck P fs (re_cl a n ++ (re_cl b (n + re_ln a) ++ (re_cl c (n + re_ln a + re_ln b) ++ [(x, n + re_ln a + re_ln b + re_ln c + 3, 3)]))) from h11)
  obtain ⟨k2, k34⟩ := rd_ck_l k23
  obtain ⟨k3, k4⟩ := rd_ck_l k34
  obtain ⟨g, g1, g2, g3⟩ := k4 _ _ _ (List.mem_singleton.mpr rfl)
  have t1 := ha P a0 a1 Vn fs np vis sv L V n h1 c1 h3.1 h4 h5 (by omega) (by omega) h8 (by omega) h10 k1
  have t2 := hb P a0 a1 Vn fs np vis sv (L + re_ss a) (V + re_ss a) (n + re_ln a) h1 c2 h3.2.1 h4 (by omega) (by omega) (by omega) h8 (by omega) h10 k2
  have t3 := hc P a0 a1 Vn fs np vis sv (L + re_ss a + re_ss b) (V + re_ss a + re_ss b) (n + re_ln a + re_ln b) h1 c3 h3.2.2 h4 (by omega) (by omega) (by omega) h8 (by omega) h10 k3
  have t4 := tq_e_call (n := 3) (g := g) h1 ⟨n + re_ln a + re_ln b, ⟨n + re_ln a, ⟨n, ⟨rfl, h5, by omega⟩, t1⟩, t2⟩, t3⟩ (by decide) (by decide) (by omega) (fun d hd => by
    rcases (by omega : d = 0 ∨ d = 1 ∨ d = 2) with e | e | e <;> subst e
    · exact ⟨d0, d0' (show (19 : Int32) ≠ 20 by decide)⟩
    · exact ⟨d1, d1' (show (19 : Int32) ≠ 20 by decide)⟩
    · exact ⟨d2, d2' (show (19 : Int32) ≠ 20 by decide)⟩) d3 g2 g1 h10 g3
  rw [show n + re_ln (re_c3 x a b c) = n + re_ln a + re_ln b + re_ln c + 3 + 1 from (by show n + (re_ln a + re_ln b + re_ln c + 4) = _; omega)]
  exact t4
end RDT
