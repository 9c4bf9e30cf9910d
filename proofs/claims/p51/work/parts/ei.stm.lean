/-! pure side, the reader 18: statements, blocks -/
section RDS2
abbrev rd_sv := List (Int64 × Nat)
/-- a statement, or a row of them: its tokens, calls, ops, whether its variables are seen, the variables that it declares;
numbers: labels, variables, ops, calls, brackets open at once, how deep the reader goes -/
abbrev RS := (List Tok × (Nat → List (Int64 × Nat × Nat)) × (rd_sv → Nat → Nat → List (Int32 × Int32 × Bool)) × (rd_sv → Prop) × (Nat → rd_sv)) × (Nat × Nat × Nat × Nat × Nat × Nat)
abbrev rs_tks (s : RS) := s.1.1
abbrev rs_cl (s : RS) := s.1.2.1
abbrev rs_cd (s : RS) := s.1.2.2.1
abbrev rs_sn (s : RS) := s.1.2.2.2.1
abbrev rs_dv (s : RS) := s.1.2.2.2.2
abbrev rs_sL (s : RS) : Nat := s.2.1
abbrev rs_sV (s : RS) : Nat := s.2.2.1
abbrev rs_ln (s : RS) : Nat := s.2.2.2.1
abbrev rs_cn (s : RS) : Nat := s.2.2.2.2.1
abbrev rs_br (s : RS) : Nat := s.2.2.2.2.2.1
abbrev rs_dp (s : RS) : Nat := s.2.2.2.2.2.2
/-- x = e; -/
def rs_set (x : Int64) (e : RE) : RS := (((3, 0, x) :: (61, 0, 0) :: (re_tks e ++ [(59, 0, 0)]), re_cl e, fun sv L V => re_cd e sv L V ++ [(31, pu_I ((rd_lk sv x).getD 0), false)], fun sv => (re_ht e ≤ 9 ∧ re_sn e sv) ∧ ∃ v, v < 320 ∧ rd_lk sv x = some v, fun _ => []),
  (re_ss e, re_ss e, re_ln e + 1, re_cn e, re_br e, re_dp e + 1))
/-- [a] = b; -/
def rs_wr (a b : RE) : RS := (((91, 0, 0) :: (re_tks a ++ ((93, 0, 0) :: (61, 0, 0) :: (re_tks b ++ [(59, 0, 0)]))), fun n => re_cl a n ++ re_cl b (n + re_ln a), fun sv L V => re_cd a sv L V ++ (re_cd b sv (L + re_ss a) (V + re_ss a) ++ [(18, 0, false)]), fun sv => (re_ht a ≤ 9 ∧ re_sn a sv) ∧ re_ht b ≤ 9 ∧ re_sn b sv, fun _ => []),
  (re_ss a + re_ss b, re_ss a + re_ss b, re_ln a + re_ln b + 1, re_cn a + re_cn b, max (re_br a + 1) (re_br b), max (re_dp a) (re_dp b) + 1))
/-- return e; -/
def rs_ret (e : RE) : RS := (((9, 0, 0) :: (re_tks e ++ [(59, 0, 0)]), re_cl e, fun sv L V => re_cd e sv L V ++ [(24, 0, false)], fun sv => re_ht e ≤ 9 ∧ re_sn e sv, fun _ => []),
  (re_ss e, re_ss e, re_ln e + 1, re_cn e, re_br e, re_dp e + 1))
/-- var x = e; -/
def rs_var (x : Int64) (e : RE) : RS := (((10, 0, 0) :: (3, 0, x) :: (61, 0, 0) :: (re_tks e ++ [(59, 0, 0)]), re_cl e, fun sv L V => re_cd e sv L V ++ [(31, pu_I (V + re_ss e), false)], fun sv => (re_ht e ≤ 9 ∧ re_sn e sv) ∧ rd_lk sv x = none, fun V => [(x, V + re_ss e)]),
  (re_ss e, re_ss e + 1, re_ln e + 1, re_cn e, re_br e, re_dp e + 1))
/-- if e { b } -/
def rs_if (e : RE) (b : RS) : RS := (((8, 0, 0) :: (re_tks e ++ ((123, 0, 0) :: (rs_tks b ++ [(125, 0, 0)]))), fun n => re_cl e n ++ rs_cl b (n + re_ln e + 1),
  fun sv L V => re_cd e sv L V ++ ([(33, pu_I (L + re_ss e), false)] ++ (rs_cd b sv (L + re_ss e + 1) (V + re_ss e) ++ [(35, pu_I (L + re_ss e), false)])), fun sv => (re_ht e ≤ 9 ∧ re_sn e sv) ∧ rs_sn b sv, fun _ => []),
  (re_ss e + 1 + rs_sL b, re_ss e + rs_sV b, re_ln e + rs_ln b + 2, re_cn e + rs_cn b, max (re_br e) (rs_br b + 1), max (re_dp e) (rs_dp b) + 3))
/-- if e { b } else { c } -/
def rs_ife (e : RE) (b c : RS) : RS := (((8, 0, 0) :: (re_tks e ++ ((123, 0, 0) :: (rs_tks b ++ ((125, 0, 0) :: (6, 0, 0) :: (123, 0, 0) :: (rs_tks c ++ [(125, 0, 0)]))))), fun n => re_cl e n ++ (rs_cl b (n + re_ln e + 1) ++ rs_cl c (n + re_ln e + 1 + rs_ln b + 2)),
  fun sv L V => re_cd e sv L V ++ ([(33, pu_I (L + re_ss e), false)] ++ (rs_cd b sv (L + re_ss e + 1) (V + re_ss e) ++ ([(22, pu_I (L + re_ss e + 1 + rs_sL b), false), (35, pu_I (L + re_ss e), false)] ++
    (rs_cd c sv (L + re_ss e + 1 + rs_sL b + 1) (V + re_ss e + rs_sV b) ++ [(35, pu_I (L + re_ss e + 1 + rs_sL b), false)])))), fun sv => (re_ht e ≤ 9 ∧ re_sn e sv) ∧ rs_sn b sv ∧ rs_sn c sv, fun _ => []),
  (re_ss e + 1 + rs_sL b + 1 + rs_sL c, re_ss e + rs_sV b + rs_sV c, re_ln e + rs_ln b + rs_ln c + 4, re_cn e + rs_cn b + rs_cn c, max (re_br e) (max (rs_br b) (rs_br c) + 1), max (re_dp e) (max (rs_dp b) (rs_dp c)) + 3))
/-- while e { b } -/
def rs_wh (e : RE) (b : RS) : RS := (((11, 0, 0) :: (re_tks e ++ ((123, 0, 0) :: (rs_tks b ++ [(125, 0, 0)]))), fun n => re_cl e (n + 2) ++ rs_cl b (n + 2 + re_ln e + 1),
  fun sv L V => (37, 0, true) :: (35, pu_I L, false) :: (re_cd e sv (L + 2) V ++ ([(33, pu_I (L + 1), false)] ++ (rs_cd b sv (L + 2 + re_ss e) (V + re_ss e) ++ [(22, pu_I L, false), (35, pu_I (L + 1), false)]))), fun sv => (re_ht e ≤ 9 ∧ re_sn e sv) ∧ rs_sn b sv, fun _ => []),
  (2 + re_ss e + rs_sL b, re_ss e + rs_sV b, re_ln e + rs_ln b + 5, re_cn e + rs_cn b, max (re_br e) (rs_br b + 1), max (re_dp e) (rs_dp b) + 3))
/-- rows of statements -/
def rs_nil : RS := (([], fun _ => [], fun _ _ _ => [], fun _ => True, fun _ => []), (0, 0, 0, 0, 0, 0))
def rs_cons (s b : RS) : RS := ((rs_tks s ++ rs_tks b, fun n => rs_cl s n ++ rs_cl b (n + rs_ln s), fun sv L V => rs_cd s sv L V ++ rs_cd b (sv ++ rs_dv s V) (L + rs_sL s) (V + rs_sV s), fun sv => rs_sn s sv ∧ ∀ V, V + rs_sV s ≤ 320 → rs_sn b (sv ++ rs_dv s V), fun V => rs_dv s V ++ rs_dv b (V + rs_sV s)),
  (rs_sL s + rs_sL b, rs_sV s + rs_sV b, rs_ln s + rs_ln b, rs_cn s + rs_cn b, max (rs_br s) (rs_br b), max (rs_dp s) (rs_dp b)))
/-- the numbers are right -/
def rs_ok (s : RS) : Prop := (∀ sv L V, (rs_cd s sv L V).length = rs_ln s) ∧ (∀ n, (rs_cl s n).length = rs_cn s) ∧ (∀ V, (rs_dv s V).length ≤ rs_sV s) ∧ tk_h (rs_tks s) ≠ 6 ∧ tk_h (rs_tks s) ≠ 125
/-- one statement -/
def rs_o1 (s : RS) : Prop := rs_ok s ∧ 1 ≤ rs_ln s ∧ 1 ≤ (rs_tks s).length
theorem rs_o1_set {x : Int64} {e : RE} (h : re_ok e) : rs_o1 (rs_set x e) := by
  refine ⟨⟨fun sv L V => ?_, h.2.1, fun _ => Nat.zero_le _, show (3 : Int32) ≠ 6 by decide, show (3 : Int32) ≠ 125 by decide⟩, Nat.le_add_left 1 _, by show 1 ≤ List.length (_ :: _); rw [List.length_cons]; omega⟩
  show (re_cd e sv L V ++ [_]).length = re_ln e + 1
  rw [List.length_append, h.1]; rfl
theorem rs_o1_wr {a b : RE} (ha : re_ok a) (hb : re_ok b) : rs_o1 (rs_wr a b) := by
  refine ⟨⟨fun sv L V => ?_, fun n => ?_, fun _ => Nat.zero_le _, show (91 : Int32) ≠ 6 by decide, show (91 : Int32) ≠ 125 by decide⟩, Nat.le_add_left 1 _, by show 1 ≤ List.length (_ :: _); rw [List.length_cons]; omega⟩
  · show (re_cd a sv L V ++ (re_cd b sv (L + re_ss a) (V + re_ss a) ++ [_])).length = re_ln a + re_ln b + 1
    rw [List.length_append, List.length_append, ha.1, hb.1]; rfl
  · show (re_cl a n ++ re_cl b (n + re_ln a)).length = re_cn a + re_cn b
    rw [List.length_append, ha.2.1, hb.2.1]
theorem rs_o1_ret {e : RE} (h : re_ok e) : rs_o1 (rs_ret e) := by
  refine ⟨⟨fun sv L V => ?_, h.2.1, fun _ => Nat.zero_le _, show (9 : Int32) ≠ 6 by decide, show (9 : Int32) ≠ 125 by decide⟩, Nat.le_add_left 1 _, by show 1 ≤ List.length (_ :: _); rw [List.length_cons]; omega⟩
  show (re_cd e sv L V ++ [_]).length = re_ln e + 1
  rw [List.length_append, h.1]; rfl
theorem rs_o1_var {x : Int64} {e : RE} (h : re_ok e) : rs_o1 (rs_var x e) := by
  refine ⟨⟨fun sv L V => ?_, h.2.1, fun _ => Nat.le_add_left 1 _, show (10 : Int32) ≠ 6 by decide, show (10 : Int32) ≠ 125 by decide⟩, Nat.le_add_left 1 _, by show 1 ≤ List.length (_ :: _); rw [List.length_cons]; omega⟩
  show (re_cd e sv L V ++ [_]).length = re_ln e + 1
  rw [List.length_append, h.1]; rfl
theorem rs_o1_if {e : RE} {b : RS} (h : re_ok e) (hb : rs_ok b) : rs_o1 (rs_if e b) := by
  refine ⟨⟨fun sv L V => ?_, fun n => ?_, fun _ => Nat.zero_le _, show (8 : Int32) ≠ 6 by decide, show (8 : Int32) ≠ 125 by decide⟩, by show 1 ≤ re_ln e + rs_ln b + 2; omega, by show 1 ≤ List.length (_ :: _); rw [List.length_cons]; omega⟩
  · show (re_cd e sv L V ++ ([_] ++ (rs_cd b sv _ _ ++ [_]))).length = re_ln e + rs_ln b + 2
    simp only [List.length_append, List.length_cons, List.length_nil]
    rw [h.1, hb.1]; omega
  · show (re_cl e n ++ rs_cl b _).length = re_cn e + rs_cn b
    rw [List.length_append, h.2.1, hb.2.1]
theorem rs_o1_ife {e : RE} {b c : RS} (h : re_ok e) (hb : rs_ok b) (hc : rs_ok c) : rs_o1 (rs_ife e b c) := by
  refine ⟨⟨fun sv L V => ?_, fun n => ?_, fun _ => Nat.zero_le _, show (8 : Int32) ≠ 6 by decide, show (8 : Int32) ≠ 125 by decide⟩, by show 1 ≤ re_ln e + rs_ln b + rs_ln c + 4; omega, by show 1 ≤ List.length (_ :: _); rw [List.length_cons]; omega⟩
  · show (re_cd e sv L V ++ ([_] ++ (rs_cd b sv _ _ ++ ([_, _] ++ (rs_cd c sv _ _ ++ [_]))))).length = re_ln e + rs_ln b + rs_ln c + 4
    simp only [List.length_append, List.length_cons, List.length_nil]
    rw [h.1, hb.1, hc.1]; omega
  · show (re_cl e n ++ (rs_cl b _ ++ rs_cl c _)).length = re_cn e + rs_cn b + rs_cn c
    rw [List.length_append, List.length_append, h.2.1, hb.2.1, hc.2.1, Nat.add_assoc]
theorem rs_o1_wh {e : RE} {b : RS} (h : re_ok e) (hb : rs_ok b) : rs_o1 (rs_wh e b) := by
  refine ⟨⟨fun sv L V => ?_, fun n => ?_, fun _ => Nat.zero_le _, show (11 : Int32) ≠ 6 by decide, show (11 : Int32) ≠ 125 by decide⟩, by show 1 ≤ re_ln e + rs_ln b + 5; omega, by show 1 ≤ List.length (_ :: _); rw [List.length_cons]; omega⟩
  · show (_ :: _ :: (re_cd e sv _ V ++ ([_] ++ (rs_cd b sv _ _ ++ [_, _])))).length = re_ln e + rs_ln b + 5
    simp only [List.length_append, List.length_cons, List.length_nil]
    rw [h.1, hb.1]; omega
  · show (re_cl e _ ++ rs_cl b _).length = re_cn e + rs_cn b
    rw [List.length_append, h.2.1, hb.2.1]
theorem rs_ok_nil : rs_ok rs_nil := ⟨fun _ _ _ => rfl, fun _ => rfl, fun _ => Nat.le_refl 0, show (0 : Int32) ≠ 6 by decide, show (0 : Int32) ≠ 125 by decide⟩
theorem rs_ok_cons {s b : RS} (hs : rs_o1 s) (hb : rs_ok b) : rs_ok (rs_cons s b) := by
  obtain ⟨⟨h1, h2, h3, h4, h5⟩, h6, h7⟩ := hs
  refine ⟨fun sv L V => ?_, fun n => ?_, fun V => ?_, ?_, ?_⟩
  · show (rs_cd s sv L V ++ rs_cd b _ _ _).length = rs_ln s + rs_ln b
    rw [List.length_append, h1, hb.1]
  · show (rs_cl s n ++ rs_cl b _).length = rs_cn s + rs_cn b
    rw [List.length_append, h2, hb.2.1]
  · show (rs_dv s V ++ rs_dv b _).length ≤ rs_sV s + rs_sV b
    rw [List.length_append]
    exact Nat.add_le_add (h3 V) (hb.2.2.1 _)
  · show tk_h (rs_tks s ++ rs_tks b) ≠ 6
    rw [tk_h_a h7]; exact h4
  · show tk_h (rs_tks s ++ rs_tks b) ≠ 125
    rw [tk_h_a h7]; exact h5
/-- what a statement asks of the reader -/
def rs_in (s : RS) (op : Nat) (sv : rd_sv) (cs : List (Int64 × Nat × Nat)) (n L V T lp : Nat) : Prop :=
  (op + rs_br s ≤ 8 ∧ n + rs_ln s ≤ 3190 ∧ L + rs_sL s ≤ 640 ∧ V + rs_sV s ≤ 320 ∧ 1 ≤ T ∧ T + (rs_tks s).length ≤ 1000 ∧ cs.length + rs_cn s ≤ 600 ∧ sv.length ≤ V ∧ lp ≤ op) ∧ rs_sn s sv
abbrev rd_G := ST → SL → ST → SL → ST → SL → Option (ST × SL × ST × ST × SL)
/-- what it leaves -/
def rs_out (s : RS) (o : Option (ST × SL × ST × ST × SL)) (pw : ST) (f op : Nat) (sv sv' : rd_sv) (cs : List (Int64 × Nat × Nat)) (n L V T lp : Nat) (rest : List Tok) : Prop :=
  ∃ rw' rl' pw' tw' tl', o = some (rw', rl', pw', tw', tl') ∧ rd_w rw' rl' f op sv' (cs ++ rs_cl s n) lp ∧
      rd_a f L pw n pw' (n + rs_ln s) (L + rs_sL s) (V + rs_sV s) (T + (rs_tks s).length) (rs_cd s sv L V) ∧ tk_s tw' tl' rest
/-- a function of the reader reads this statement -/
def rs_R (F : rd_G) (s : RS) : Prop :=
  ∀ rw rl pw pl tw tl f op sv cs lp n L V T rest, rd_w rw rl f op sv cs lp → rd_q f pw n L V T → tk_s tw tl (rs_tks s ++ rest) → tk_h rest ≠ 6 → rs_in s op sv cs n L V T lp →
    rs_out s (F rw rl pw pl tw tl) pw f op sv (sv ++ rs_dv s V) cs n L V T lp rest
def rs_Q (s : RS) : Prop := ∀ D, rs_dp s ≤ D → rs_R ((rR D).2.1) s
/-- a row of statements is read, up to the bracket that closes it -/
def rb_Q (b : RS) : Prop := ∀ D, rs_dp b ≤ D →
  ∀ rw rl pw pl tw tl f op sv cs lp n L V T rest v fu, rd_w rw rl f op sv cs lp → rd_q f pw n L V T → tk_s tw tl (rs_tks b ++ ((125, 0, 0) :: rest)) → rs_in b op sv cs n L V T lp → v + (rs_tks b).length ≤ 600 → (rs_tks b).length < fu →
    rs_out b (fX7_readBlock_L13 pl ((rR D).2.1) fu (pu_I v) rw rl pw tw tl) pw f op sv (sv ++ rs_dv b V) cs n L V T lp ((125, 0, 0) :: rest)
theorem rb_Q_nil : rb_Q rs_nil := by
  intro D hD rw rl pw pl tw tl f op sv cs lp n L V T rest v fu h1 h2 h3 h4 h5 h6
  obtain ⟨fu, rfl⟩ : ∃ q, fu = q + 1 := ⟨fu - 1, by omega⟩
  replace h5 : v + 0 ≤ 600 := h5
  replace h3 : tk_s tw tl ((125, 0, 0) :: rest) := h3
  have h7 : T + 0 ≤ 1000 := h4.1.2.2.2.2.2.1
  refine ⟨rw, rl, pw, tw, tl, ?_, by rw [show rs_dv rs_nil V = [] from rfl, show rs_cl rs_nil n = [] from rfl, List.append_nil, List.append_nil]; exact h1, rd_a_0 h2 (show T ≤ 1000 from h7), h3⟩
  show (if (600 : Int32) < pu_I v then some (rw, rl, pw, tw, tl) else (if (tw 0 2) = 125 then some (rw, rl, pw, tw, tl) else _)) = _
  rw [if_neg (by rw [show (600 : Int32) = pu_I 600 from rfl, pu_lt (by decide) (by omega)]; omega), h3.1.1, if_pos rfl]
theorem rb_Q_cons {s b : RS} (hs : rs_Q s) (hb : rb_Q b) (os : rs_o1 s) (ob : rs_ok b) : rb_Q (rs_cons s b) := by
  have hd1 := Nat.le_max_left (rs_dp s) (rs_dp b)
  have hd2 := Nat.le_max_right (rs_dp s) (rs_dp b)
  intro D hD rw rl pw pl tw tl f op sv cs lp n L V T rest v fu h1 h2 h3 h4 h5 h6
  replace hD : max (rs_dp s) (rs_dp b) ≤ D := hD
  obtain ⟨fu, rfl⟩ : ∃ q, fu = q + 1 := ⟨fu - 1, by omega⟩
  obtain ⟨⟨o1, o2, o3, o4, o5⟩, o6, o7⟩ := os
  have hlen : (rs_tks (rs_cons s b)).length = (rs_tks s).length + (rs_tks b).length := List.length_append
  rw [hlen] at h5 h6
  obtain ⟨⟨b1, b2, b3, b4, b5, b6, b7, b8, b8'⟩, b9, b10⟩ := h4
  rw [hlen] at b6
  replace b1 : op + max (rs_br s) (rs_br b) ≤ 8 := b1
  replace b2 : n + (rs_ln s + rs_ln b) ≤ 3190 := b2
  replace b3 : L + (rs_sL s + rs_sL b) ≤ 640 := b3
  replace b4 : V + (rs_sV s + rs_sV b) ≤ 320 := b4
  replace b7 : cs.length + (rs_cn s + rs_cn b) ≤ 600 := b7
  have m1 := Nat.le_max_left (rs_br s) (rs_br b)
  have m2 := Nat.le_max_right (rs_br s) (rs_br b)
  have hdv := o3 V
  replace h3 : tk_s tw tl ((rs_tks s ++ rs_tks b) ++ ((125, 0, 0) :: rest)) := h3
  rw [List.append_assoc] at h3
  have hh : tk_h (rs_tks b ++ ((125, 0, 0) :: rest)) ≠ 6 := by
    by_cases e : 1 ≤ (rs_tks b).length
    · rw [tk_h_a e]; exact ob.2.2.2.1
    · have : rs_tks b = [] := List.length_eq_zero_iff.mp (by omega)
      rw [this]
      show (125 : Int32) ≠ 6
      decide
  obtain ⟨rw1, rl1, pw1, tw1, tl1, e1, e2, e3, e4⟩ := hs D (by omega) rw rl pw pl tw tl f op sv cs lp n L V T _ h1 h2 h3 hh ⟨⟨by omega, by omega, by omega, by omega, b5, by omega, by omega, b8, b8'⟩, b9⟩
  obtain ⟨rw2, rl2, pw2, tw2, tl2, f1, f2, f3, f4⟩ := hb D (by omega) rw1 rl1 pw1 pl tw1 tl1 f op (sv ++ rs_dv s V) (cs ++ rs_cl s n) lp (n + rs_ln s) (L + rs_sL s) (V + rs_sV s) (T + (rs_tks s).length) rest (v + 1) fu e2 e3.1 e4
    ⟨⟨by omega, by omega, by omega, by omega, by omega, by omega, by rw [List.length_append, o2]; omega, by rw [List.length_append]; omega, b8'⟩, b10 V (by omega)⟩ (by omega) (by omega)
  refine ⟨rw2, rl2, pw2, tw2, tl2, ?_, ?_, ?_, f4⟩
  · show (if (600 : Int32) < pu_I v then some (rw, rl, pw, tw, tl) else (if (tw 0 2) = 125 then some (rw, rl, pw, tw, tl) else (((rR D).2.1 rw rl pw pl tw tl).bind fun (o_4 : ST × SL × ST × ST × SL) => ((fX7_readBlock_L13 pl ((rR D).2.1) fu) (pu_I v + 1) (o_4.1) (o_4.2.1) (o_4.2.2.1) (o_4.2.2.2.1) (o_4.2.2.2.2))))) = _
    rw [if_neg (by rw [show (600 : Int32) = pu_I 600 from rfl, pu_lt (by decide) (by omega)]; omega), tk_h_s h3, tk_h_a o7, if_neg o5, e1, pu_su]
    exact f1
  · show rd_w rw2 rl2 f op (sv ++ (rs_dv s V ++ rs_dv b (V + rs_sV s))) (cs ++ (rs_cl s n ++ rs_cl b (n + rs_ln s))) lp
    rw [← List.append_assoc, ← List.append_assoc]
    exact f2
  · show rd_a f L pw n pw2 (n + (rs_ln s + rs_ln b)) (L + (rs_sL s + rs_sL b)) (V + (rs_sV s + rs_sV b)) (T + (rs_tks s ++ rs_tks b).length) (rs_cd s sv L V ++ rs_cd b (sv ++ rs_dv s V) (L + rs_sL s) (V + rs_sV s))
    rw [List.length_append, ← Nat.add_assoc n, ← Nat.add_assoc L, ← Nat.add_assoc V, ← Nat.add_assoc T]
    exact rd_a_tr e3 f3 (Nat.le_add_right _ _) (by omega)
/-- a block -/
theorem rd_block {b : RS} (hb : rb_Q b) (ob : rs_ok b) {D : Nat} (hD : rs_dp b ≤ D) {rw : ST} {rl : SL} {pw pl tw tl f op sv cs lp n L V T} {rest : List Tok} (h1 : rd_w rw rl f op sv cs lp) (h2 : rd_q f pw n L V T) (h3 : tk_s tw tl ((123, 0, 0) :: (rs_tks b ++ ((125, 0, 0) :: rest))))
    (h4 : (op + (rs_br b + 1) ≤ 8 ∧ n + rs_ln b ≤ 3190 ∧ L + rs_sL b ≤ 640 ∧ V + rs_sV b ≤ 320 ∧ 1 ≤ T ∧ T + (rs_tks b).length ≤ 1000 ∧ cs.length + rs_cn b ≤ 600 ∧ sv.length ≤ V ∧ lp ≤ op + 1) ∧ rs_sn b sv) (h5 : (rs_tks b).length ≤ 600) :
    rs_out b ((rR (D + 1)).1 rw rl pw pl tw tl) pw f op sv sv cs n L V T lp rest := by
  obtain ⟨⟨b1, b2, b3, b4, b5, b6, b7, b8, b9⟩, b10⟩ := h4
  obtain ⟨rw1, tw1, tl1, e1, e2, e3, e4⟩ := rd_exo h1 h3 (K := 123) rfl (Or.inr (Or.inr rfl)) (by omega)
  obtain ⟨rw2, rl2, pw2, tw2, tl2, f1, f2, f3, f4⟩ := hb D hD rw1 rl pw pl tw1 tl1 f (op + 1) sv cs lp n L V T rest 0 NF e2 h2 e3 ⟨⟨by omega, b2, b3, b4, b5, b6, b7, b8, b9⟩, b10⟩ (by omega) (by unfold NF; omega)
  obtain ⟨rw3, tw3, tl3, g1, g2, g3⟩ := rd_exc f2 f4 (K := 125) rfl (Or.inr (Or.inr rfl))
  refine ⟨upw rw3 0 9 (pu_I sv.length), rl2, pw2, tw3, tl3, ?_, rd_w_sn g2 rfl, f3, g3⟩
  show fX7_readBlock ((rR D).2.1) rw rl pw pl tw tl = _
  unfold fX7_readBlock
  rw [e1]
  show ((fX7_readBlock_L13 pl ((rR D).2.1) NF (pu_I 0) rw1 rl pw tw1 tl1).bind _) = _
  rw [f1]
  show ((fX7_expect rw2 125 tw2 tl2).bind _) = _
  rw [g1]
  show some (upw rw3 0 9 (rw 0 9), rl2, pw2, tw3, tl3) = _
  rw [h1.2.2.1.1]
end RDS2
