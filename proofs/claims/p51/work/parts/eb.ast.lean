/-! pure side, the reader 11: tests as trees -/
section RDA
/-- a test as the reader meets it: its tokens, its calls, its ops, whether its variables are seen; and numbers:
short cuts, ops, calls, height, brackets open at once, how deep the reader goes, the row of its last operator (6: single, 5: signed) -/
abbrev RE := (List Tok × (Nat → List (Int64 × Nat × Nat)) × (List (Int64 × Nat) → Nat → Nat → List (Int32 × Int32 × Bool)) × (List (Int64 × Nat) → Prop)) × (Nat × Nat × Nat × Nat × Nat × Nat × Nat)
abbrev re_tks (e : RE) := e.1.1
abbrev re_cl (e : RE) := e.1.2.1
abbrev re_cd (e : RE) := e.1.2.2.1
abbrev re_sn (e : RE) := e.1.2.2.2
abbrev re_ss (e : RE) : Nat := e.2.1
abbrev re_ln (e : RE) : Nat := e.2.2.1
abbrev re_cn (e : RE) : Nat := e.2.2.2.1
abbrev re_ht (e : RE) : Nat := e.2.2.2.2.1
abbrev re_br (e : RE) : Nat := e.2.2.2.2.2.1
abbrev re_dp (e : RE) : Nat := e.2.2.2.2.2.2.1
abbrev re_lv (e : RE) : Nat := e.2.2.2.2.2.2.2
/-- a number -/
def re_nm (v : Int32) : RE := (([(2, v, 0)], fun _ => [], fun _ _ _ => [(0, v, true)], fun _ => True), (0, 1, 0, 1, 0, 12, 6))
/-- a variable -/
def re_vr (x : Int64) : RE := (([(3, 0, x)], fun _ => [], fun sv _ _ => [(30, pu_I ((rd_lk sv x).getD 0), true)], fun sv => ∃ v, v < 320 ∧ rd_lk sv x = some v), (0, 1, 0, 1, 0, 12, 6))
/-- a word of memory -/
def re_ld (e : RE) : RE := (((91, 0, 0) :: (re_tks e ++ [(93, 0, 0)]), re_cl e, fun sv L V => re_cd e sv L V ++ [(17, 0, false)], re_sn e), (re_ss e, re_ln e + 1, re_cn e, re_ht e + 1, re_br e + 1, re_dp e + 12, 6))
/-- brackets -/
def re_pr (e : RE) : RE := (((40, 0, 0) :: (re_tks e ++ [(41, 0, 0)]), re_cl e, re_cd e, re_sn e), (re_ss e, re_ln e, re_cn e, re_ht e, re_br e + 1, re_dp e + 12, 6))
/-- - ahead of a single test -/
def re_ng (e : RE) : RE := (((45, 0, 0) :: re_tks e, fun n => re_cl e (n + 1), fun sv L V => (0, 0, true) :: (re_cd e sv L V ++ [(2, 0, false)]), re_sn e), (re_ss e, re_ln e + 2, re_cn e, re_ht e + 1, re_br e, re_dp e + 12, 5))
/-- ! ahead of a single test -/
def re_nt (e : RE) : RE := (((33, 0, 0) :: re_tks e, re_cl e, fun sv L V => re_cd e sv L V ++ [(0, 0, false), (15, 0, false)], re_sn e), (re_ss e, re_ln e + 2, re_cn e, re_ht e + 1, re_br e, re_dp e + 12, 5))
/-- an operator: sign, kind, row -/
def re_bn (s K : Int32) (r : Nat) (a b : RE) : RE := ((re_tks a ++ ((s, 0, 0) :: re_tks b), fun n => re_cl a n ++ re_cl b (n + re_ln a), fun sv L V => re_cd a sv L V ++ (re_cd b sv (L + re_ss a) (V + re_ss a) ++ [(K, 0, false)]), fun sv => re_sn a sv ∧ re_sn b sv),
  (re_ss a + re_ss b, re_ln a + re_ln b + 1, re_cn a + re_cn b, max (re_ht a) (re_ht b) + 1, max (re_br a) (re_br b), max (re_dp a) (re_dp b) + 12, r))
/-- a short cut: || in row 0, && in row 1 -/
def re_sc (c : Bool) (a b : RE) : RE := ((re_tks a ++ ((if c = true then 294 else 380, 0, 0) :: re_tks b), fun n => re_cl a n ++ re_cl b (n + re_ln a + 4),
  fun sv L V => re_cd a sv L V ++ ([(0, 0, false), (16, 0, false), (32, pu_I (V + re_ss a), false), (if c = true then 33 else 34, pu_I (L + re_ss a), false)] ++
      (re_cd b sv (L + re_ss a + 1) (V + re_ss a + 1) ++ [(0, 0, false), (16, 0, false), (31, pu_I (V + re_ss a), false), (35, pu_I (L + re_ss a), false), (30, pu_I (V + re_ss a), false)])), fun sv => re_sn a sv ∧ re_sn b sv),
  (re_ss a + re_ss b + 1, re_ln a + re_ln b + 9, re_cn a + re_cn b, max (re_ht a) (re_ht b) + 1, max (re_br a) (re_br b), max (re_dp a) (re_dp b) + 12, if c = true then 1 else 0))
/-- a call of two arguments, of three -/
def re_c2 (x : Int64) (a b : RE) : RE := (((3, 0, x) :: (40, 0, 0) :: (re_tks a ++ ((44, 0, 0) :: (re_tks b ++ [(41, 0, 0)]))), fun n => re_cl a n ++ (re_cl b (n + re_ln a) ++ [(x, n + re_ln a + re_ln b + 2, 2)]),
  fun sv L V => re_cd a sv L V ++ (re_cd b sv (L + re_ss a) (V + re_ss a) ++ [(19, 2, false), (19, 1, false), (20, 0, false)]), fun sv => re_sn a sv ∧ re_sn b sv),
  (re_ss a + re_ss b, re_ln a + re_ln b + 3, re_cn a + re_cn b + 1, max (re_ht a) (re_ht b) + 1, max (re_br a) (re_br b) + 1, max (re_dp a) (re_dp b) + 14, 6))
def re_c3 (x : Int64) (a b c : RE) : RE := (((3, 0, x) :: (40, 0, 0) :: (re_tks a ++ ((44, 0, 0) :: (re_tks b ++ ((44, 0, 0) :: (re_tks c ++ [(41, 0, 0)]))))), fun n => re_cl a n ++ (re_cl b (n + re_ln a) ++ (re_cl c (n + re_ln a + re_ln b) ++ [(x, n + re_ln a + re_ln b + re_ln c + 3, 3)])),
  fun sv L V => re_cd a sv L V ++ (re_cd b sv (L + re_ss a) (V + re_ss a) ++ (re_cd c sv (L + re_ss a + re_ss b) (V + re_ss a + re_ss b) ++ [(19, 3, false), (19, 2, false), (19, 1, false), (20, 0, false)])), fun sv => re_sn a sv ∧ re_sn b sv ∧ re_sn c sv),
  (re_ss a + re_ss b + re_ss c, re_ln a + re_ln b + re_ln c + 4, re_cn a + re_cn b + re_cn c + 1, max (max (re_ht a) (re_ht b)) (re_ht c) + 1, max (max (re_br a) (re_br b)) (re_br c) + 1, max (max (re_dp a) (re_dp b)) (re_dp c) + 14, 6))
/-- its numbers are right -/
def re_ok (e : RE) : Prop := (∀ sv L V, (re_cd e sv L V).length = re_ln e) ∧ (∀ n, (re_cl e n).length = re_cn e) ∧ 1 ≤ re_ln e ∧ 1 ≤ (re_tks e).length ∧ re_lv e ≤ 6
theorem re_ok_nm {v : Int32} : re_ok (re_nm v) := ⟨fun _ _ _ => rfl, fun _ => rfl, Nat.le_refl 1, Nat.le_refl 1, Nat.le_refl 6⟩
theorem re_ok_vr {x : Int64} : re_ok (re_vr x) := ⟨fun _ _ _ => rfl, fun _ => rfl, Nat.le_refl 1, Nat.le_refl 1, Nat.le_refl 6⟩
theorem re_ok_ld {e : RE} (h : re_ok e) : re_ok (re_ld e) := by
  obtain ⟨h1, h2, h3, h4, h5⟩ := h
  refine ⟨fun sv L V => ?_, h2, Nat.le_add_left 1 _, by show 1 ≤ List.length (_ :: _); rw [List.length_cons]; omega, Nat.le_refl 6⟩
  show (re_cd e sv L V ++ [(17, 0, false)]).length = re_ln e + 1
  rw [List.length_append, h1]; rfl
theorem re_ok_pr {e : RE} (h : re_ok e) : re_ok (re_pr e) := by
  obtain ⟨h1, h2, h3, h4, h5⟩ := h
  exact ⟨h1, h2, h3, by show 1 ≤ List.length (_ :: _); rw [List.length_cons]; omega, Nat.le_refl 6⟩
theorem re_ok_ng {e : RE} (h : re_ok e) : re_ok (re_ng e) := by
  obtain ⟨h1, h2, h3, h4, h5⟩ := h
  refine ⟨fun sv L V => ?_, fun n => h2 _, by show 1 ≤ re_ln e + 2; omega, by show 1 ≤ List.length (_ :: _); rw [List.length_cons]; omega, (by decide : 5 ≤ 6)⟩
  show ((0, 0, true) :: (re_cd e sv L V ++ [(2, 0, false)])).length = re_ln e + 2
  rw [List.length_cons, List.length_append, h1]; rfl
theorem re_ok_nt {e : RE} (h : re_ok e) : re_ok (re_nt e) := by
  obtain ⟨h1, h2, h3, h4, h5⟩ := h
  refine ⟨fun sv L V => ?_, h2, by show 1 ≤ re_ln e + 2; omega, by show 1 ≤ List.length (_ :: _); rw [List.length_cons]; omega, (by decide : 5 ≤ 6)⟩
  show (re_cd e sv L V ++ [(0, 0, false), (15, 0, false)]).length = re_ln e + 2
  rw [List.length_append, h1]; rfl
theorem re_ok_bn {s K : Int32} {r : Nat} {a b : RE} (ha : re_ok a) (hb : re_ok b) (hr : r ≤ 4) : re_ok (re_bn s K r a b) := by
  obtain ⟨a1, a2, a3, a4, a5⟩ := ha
  obtain ⟨b1, b2, b3, b4, b5⟩ := hb
  refine ⟨fun sv L V => ?_, fun n => ?_, Nat.le_add_left 1 _, by show 1 ≤ (re_tks a ++ _).length; rw [List.length_append]; omega, by show r ≤ 6; omega⟩
  · show (re_cd a sv L V ++ (re_cd b sv (L + re_ss a) (V + re_ss a) ++ [(K, 0, false)])).length = re_ln a + re_ln b + 1
    rw [List.length_append, List.length_append, a1, b1]; rfl
  · show (re_cl a n ++ re_cl b (n + re_ln a)).length = re_cn a + re_cn b
    rw [List.length_append, a2, b2]
theorem re_ok_sc {c : Bool} {a b : RE} (ha : re_ok a) (hb : re_ok b) : re_ok (re_sc c a b) := by
  obtain ⟨a1, a2, a3, a4, a5⟩ := ha
  obtain ⟨b1, b2, b3, b4, b5⟩ := hb
  refine ⟨fun sv L V => ?_, fun n => ?_, Nat.le_trans a3 (by show re_ln a ≤ re_ln a + re_ln b + 9; omega), by show 1 ≤ (re_tks a ++ _).length; rw [List.length_append]; omega, by show (if c = true then 1 else 0) ≤ 6; cases c <;> decide⟩
  · show (re_cd a sv L V ++ ([(0, 0, false), (16, 0, false), (32, pu_I (V + re_ss a), false), (if c = true then 33 else 34, pu_I (L + re_ss a), false)] ++ (re_cd b sv (L + re_ss a + 1) (V + re_ss a + 1) ++ [(0, 0, false), (16, 0, false), (31, pu_I (V + re_ss a), false), (35, pu_I (L + re_ss a), false), (30, pu_I (V + re_ss a), false)]))).length = re_ln a + re_ln b + 9
    rw [List.length_append, List.length_append, List.length_append, a1, b1]
    show re_ln a + (4 + (re_ln b + 5)) = _
    omega
  · show (re_cl a n ++ re_cl b (n + re_ln a + 4)).length = re_cn a + re_cn b
    rw [List.length_append, a2, b2]
theorem re_ok_c2 {x : Int64} {a b : RE} (ha : re_ok a) (hb : re_ok b) : re_ok (re_c2 x a b) := by
  obtain ⟨a1, a2, a3, a4, a5⟩ := ha
  obtain ⟨b1, b2, b3, b4, b5⟩ := hb
  refine ⟨fun sv L V => ?_, fun n => ?_, Nat.le_trans a3 (by show re_ln a ≤ re_ln a + re_ln b + 3; omega), by show 1 ≤ List.length (_ :: _); rw [List.length_cons]; omega, Nat.le_refl 6⟩
  · show (re_cd a sv L V ++ (re_cd b sv (L + re_ss a) (V + re_ss a) ++ [(19, 2, false), (19, 1, false), (20, 0, false)])).length = re_ln a + re_ln b + 3
    rw [List.length_append, List.length_append, a1, b1]; rfl
  · show (re_cl a n ++ (re_cl b (n + re_ln a) ++ [_])).length = re_cn a + re_cn b + 1
    rw [List.length_append, List.length_append, a2, b2]; rfl
theorem re_ok_c3 {x : Int64} {a b c : RE} (ha : re_ok a) (hb : re_ok b) (hc : re_ok c) : re_ok (re_c3 x a b c) := by
  obtain ⟨a1, a2, a3, a4, a5⟩ := ha
  obtain ⟨b1, b2, b3, b4, b5⟩ := hb
  obtain ⟨c1, c2, c3, c4, c5⟩ := hc
  refine ⟨fun sv L V => ?_, fun n => ?_, Nat.le_trans a3 (by show re_ln a ≤ re_ln a + re_ln b + re_ln c + 4; omega), by show 1 ≤ List.length (_ :: _); rw [List.length_cons]; omega, Nat.le_refl 6⟩
  · show (re_cd a sv L V ++ (re_cd b sv (L + re_ss a) (V + re_ss a) ++ (re_cd c sv (L + re_ss a + re_ss b) (V + re_ss a + re_ss b) ++ [(19, 3, false), (19, 2, false), (19, 1, false), (20, 0, false)]))).length = re_ln a + re_ln b + re_ln c + 4
    rw [List.length_append, List.length_append, List.length_append, a1, b1, c1, List.length_cons, List.length_cons, List.length_cons, List.length_cons, List.length_nil]; omega
  · show (re_cl a n ++ (re_cl b (n + re_ln a) ++ (re_cl c (n + re_ln a + re_ln b) ++ [_]))).length = re_cn a + re_cn b + re_cn c + 1
    rw [List.length_append, List.length_append, List.length_append, a2, b2, c2, List.length_singleton]; omega
/-- ops that stand in a program from n on -/
def rd_c (P : ST) (n : Nat) (l : List (Int32 × Int32 × Bool)) : Prop :=
  ∀ k c, l[k]? = some c → P 9 (n + k) = c.1 ∧ (c.1 ≠ 20 → P 10 (n + k) = c.2.1) ∧ (c.2.2 = true → tq_k P (n + k))
theorem rd_c_app {P : ST} {n : Nat} {l1 l2 : List (Int32 × Int32 × Bool)} : rd_c P n (l1 ++ l2) ↔ rd_c P n l1 ∧ rd_c P (n + l1.length) l2 := by
  constructor
  · intro h
    refine ⟨fun k c hc => h k c ?_, fun k c hc => ?_⟩
    · rw [List.getElem?_append_left (List.getElem?_eq_some_iff.mp hc).1]; exact hc
    · have := h (l1.length + k) c (by rw [List.getElem?_append_right (by omega), Nat.add_sub_cancel_left]; exact hc)
      rw [show n + (l1.length + k) = n + l1.length + k by omega] at this
      exact this
  · rintro ⟨h1, h2⟩ k c hc
    by_cases e : k < l1.length
    · rw [List.getElem?_append_left e] at hc
      exact h1 k c hc
    · rw [List.getElem?_append_right (by omega)] at hc
      have := h2 (k - l1.length) c hc
      rw [show n + l1.length + (k - l1.length) = n + k by omega] at this
      exact this
theorem rd_c_nil {P : ST} {n : Nat} : rd_c P n [] := fun k c hc => by cases hc
theorem rd_c_cons {P : ST} {n : Nat} {c : Int32 × Int32 × Bool} {l : List (Int32 × Int32 × Bool)} : rd_c P n (c :: l) ↔ (P 9 n = c.1 ∧ (c.1 ≠ 20 → P 10 n = c.2.1) ∧ (c.2.2 = true → tq_k P n)) ∧ rd_c P (n + 1) l := by
  rw [show c :: l = [c] ++ l from rfl, rd_c_app]
  constructor
  · rintro ⟨h1, h2⟩
    exact ⟨h1 0 c rfl, h2⟩
  · rintro ⟨h1, h2⟩
    refine ⟨fun k d hd => ?_, h2⟩
    cases k with
    | zero =>
      have hd : c = d := Option.some.inj hd
      subst hd
      exact h1
    | succ k => cases hd
/-- they stand when the program goes on -/
theorem rd_c_y {f lo n0 n n' L' : Nat} {pw pw' : ST} {l : List (Int32 × Int32 × Bool)} (h : rd_c pw n0 l) (hy : rd_y f lo pw n pw' n' L') (hn : n0 + l.length ≤ n) : rd_c pw' n0 l := by
  intro k c hc
  have hk := (List.getElem?_eq_some_iff.mp hc).1
  obtain ⟨h1, h2, h3⟩ := h k c hc
  obtain ⟨y1, y2, t, t', y3, y4, y5, y6⟩ := hy.2.1 (n0 + k) (by omega)
  refine ⟨by rw [y1]; exact h1, fun q => by rw [y2]; exact h2 q, fun q => ?_⟩
  obtain ⟨s, s1, s2, s3⟩ := h3 q
  have e : s = t := by
    rw [s3] at y3
    exact pu_inj (by omega) (by omega) y3
  exact ⟨t', by omega, y6, y4⟩
/-- the kind of the token that comes -/
def tk_h : List Tok → Int32
  | [] => 0
  | t :: _ => t.1
theorem tk_h_s {tw : ST} {tl : SL} : ∀ {ts : List Tok}, tk_s tw tl ts → tw 0 2 = tk_h ts
  | [], h => h
  | _ :: _, h => h.1.1
/-- what comes stops all rows from r on, and is no call's bracket -/
def rd_st (r : Nat) (rest : List Tok) : Prop := tk_h rest ≠ 40 ∧ ∃ i, fX7_rowOf (tk_h rest) = some i ∧ i < pu_I r
theorem rd_st_mono {r r' : Nat} {rest : List Tok} (h : rd_st r rest) (hr : r ≤ r') (h6 : r' ≤ 6) : rd_st r' rest := by
  obtain ⟨h1, i, h2, h3⟩ := h
  exact ⟨h1, i, h2, Int32.lt_of_lt_of_le h3 ((pu_le (by omega) (by omega)).mpr hr)⟩
/-- what a test asks of the reader -/
def rd_in (e : RE) (op : Nat) (sv : List (Int64 × Nat)) (cs : List (Int64 × Nat × Nat)) (n L V T : Nat) : Prop :=
  (op + re_br e ≤ 8 ∧ re_ht e ≤ 9 ∧ n + re_ln e ≤ 3190 ∧ L + re_ss e ≤ 640 ∧ V + re_ss e ≤ 320 ∧ 1 ≤ T ∧ T + (re_tks e).length ≤ 1000 ∧ cs.length + re_cn e ≤ 600) ∧ re_sn e sv
abbrev rd_F := ST → SL → ST → SL → ST → SL → Option (Int32 × ST × SL × ST × ST × SL)
/-- a function of the reader reads this test -/
def rd_R (r : Nat) (F : rd_F) (e : RE) : Prop :=
  ∀ rw rl pw pl tw tl f op sv cs lp n L V T rest, rd_w rw rl f op sv cs lp → rd_q f pw n L V T → tk_s tw tl (re_tks e ++ rest) → rd_st r rest → rd_in e op sv cs n L V T →
    ∃ rw' rl' pw' tw' tl', F rw rl pw pl tw tl = some (pu_I (re_ht e), rw', rl', pw', tw', tl') ∧ rd_w rw' rl' f op sv (cs ++ re_cl e n) lp ∧
      rd_q f pw' (n + re_ln e) (L + re_ss e) (V + re_ss e) (T + (re_tks e).length) ∧ rd_y f L pw n pw' (n + re_ln e) (L + re_ss e) ∧ rd_c pw' n (re_cd e sv L V) ∧ tk_s tw' tl' rest
/-- the ring's functions for tests -/
abbrev rd_test (D r : Nat) : rd_F := fun rw rl pw pl tw tl => (rR D).2.2.2.2.1 rw rl (pu_I r) pw pl tw tl
abbrev rd_opnd (D r : Nat) : rd_F := fun rw rl pw pl tw tl => (rR D).2.2.2.2.2.1 rw rl (pu_I r) pw pl tw tl
abbrev rd_shrt (D r : Nat) : rd_F := fun rw rl pw pl tw tl => (rR D).2.2.2.2.2.2.1 rw rl (pu_I r) pw pl tw tl
abbrev rd_sgnd (D : Nat) : rd_F := (rR D).2.2.2.2.2.2.2.1
abbrev rd_sngl (D : Nat) : rd_F := (rR D).2.2.2.2.2.2.2.2.1
theorem rd_max {a b : Nat} (ha : a < 100) (hb : b < 100) : (if pu_I a < pu_I b then pu_I b else pu_I a) = pu_I (max a b) := by
  by_cases e : a < b
  · rw [if_pos ((pu_lt (by omega) (by omega)).mpr e), Nat.max_eq_right (by omega)]
  · rw [if_neg (fun q => e ((pu_lt (by omega) (by omega)).mp q)), Nat.max_eq_left (by omega)]
end RDA
