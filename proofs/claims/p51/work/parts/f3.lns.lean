/-! pure side, bytes 4: lines -/
section BYL
variable {dr : Nat → Nat → Nat}
/-- bytes of lines one behind the other -/
def mx_many (line : md_S → md_G × md_S) (bx : md_S → List Int32) : Nat → md_S → List Int32
  | 0, _ => []
  | n + 1, s => bx s ++ mx_many line bx n (line s).2
/-- bytes of a while: n its counter, v its bound, x its lines -/
def mx_wh (n v : Nat) (x : List Int32) : List Int32 :=
  [118, 97, 114, 32, 105] ++ (mp_d n ++ ([61, 48, 59, 119, 104, 105, 108, 101, 32, 105] ++ (mp_d n ++ ([60] ++ (mp_d v ++ ([123] ++ (x ++ ([105] ++ (mp_d n ++ ([61, 105] ++ (mp_d n ++ [43, 49, 59, 125])))))))))))
/-- bytes of a line -/
def mx_step (dr : Nat → Nat → Nat) (inner fork : Bool) (sub : md_S → md_G × md_S) (subx : md_S → List Int32) (s : md_S) : List Int32 :=
  (fun (t : RE × md_S) (x : List Int32) =>
    if fork = true ∧ t.2.2.1 < 46 ∧ t.2.2.2.1 < 8 ∧ 6 < dr s.1 10 then
      (if dr s.1 10 = 9 ∧ t.2.2.2.2 < 3 then
        mx_wh t.2.2.2.2 (dr (t.2.1 + 1) 4) (mx_many sub subx (1 + dr (t.2.1 + 2) 2) (t.2.1 + 3, t.2.2.1, t.2.2.2.1 + 1, t.2.2.2.2 + 1))
      else
        (fun (F : md_G × md_S) (fx : List Int32) => (if dr F.2.1 2 = 0 then [105, 102, 32] ++ (x ++ ([123] ++ (fx ++ [125])))
          else [105, 102, 32] ++ (x ++ ([123] ++ (fx ++ ([125] ++ ([101, 108, 115, 101, 123] ++ (mx_many sub subx 1 (F.2.1 + 1, F.2.2) ++ [125]))))))))
          (md_many sub (1 + dr (t.2.1 + 1) 2) (t.2.1 + 2, t.2.2.1, t.2.2.2.1 + 1, t.2.2.2.2)) (mx_many sub subx (1 + dr (t.2.1 + 1) 2) (t.2.1 + 2, t.2.2.1, t.2.2.2.1 + 1, t.2.2.2.2)))
    else if dr s.1 10 = 5 ∧ inner = true then
      (if dr t.2.1 4 = 0 then [114, 101, 116, 117, 114, 110, 32] ++ (x ++ [59]) else mx_nm (dr (t.2.1 + 1) 4) ++ ([61] ++ (x ++ [59])))
    else if dr s.1 10 = 6 then [91] ++ (x ++ ([93, 61] ++ (mx_part dr 1 (t.2.1 + 1, t.2.2) ++ [59])))
    else mx_nm (dr t.2.1 4) ++ ([61] ++ (x ++ [59]))) (md_part dr 2 (s.1 + 1, s.2)) (mx_part dr 2 (s.1 + 1, s.2))
def mx_line (dr : Nat → Nat → Nat) : Nat → md_S → List Int32
  | 0 => mx_step dr true false (fun s => (id, s)) (fun _ => [])
  | h + 1 => mx_step dr (decide (h = 0)) true (md_line dr h) (mx_line dr h)
/-- bytes of lines, ahead of what follows; m lines -/
def mx_L (m : Nat) (s : md_S) (xs : List Int32) (F : md_G × md_S) : Prop :=
  (∃ ts, (∀ b, rs_tks (F.1 b) = ts ++ rs_tks b) ∧ lx_g (fun _ => True) xs ts) ∧
  (s.2.2.1 ≤ F.2.2.2.1 ∧ s.2.2.2 ≤ F.2.2.2.2 ∧ xs.length + 4 * s.2.1 + 35 * s.2.2.1 + 18 * s.2.2.2 ≤ 4 * F.2.2.1 + 35 * F.2.2.2.1 + 18 * F.2.2.2.2 + 8 * m)
theorem mx_many_ok {line : md_S → md_G × md_S} {bx : md_S → List Int32} (h : ∀ s, mx_L 1 s (bx s) (line s)) : ∀ n s, mx_L n s (mx_many line bx n s) (md_many line n s) := by
  intro n
  induction n with
  | zero => intro s; exact ⟨⟨[], fun b => rfl, lx_g_nil⟩, Nat.le_refl _, Nat.le_refl _, by show 0 + 4 * s.2.1 + 35 * s.2.2.1 + 18 * s.2.2.2 ≤ 4 * s.2.1 + 35 * s.2.2.1 + 18 * s.2.2.2 + 8 * 0; omega⟩
  | succ n ih =>
    intro s
    obtain ⟨⟨t1, a1, a2⟩, a3, a4, a5⟩ := h s
    obtain ⟨⟨t2, b1, b2⟩, b3, b4, b5⟩ := ih (line s).2
    unfold md_many mx_many
    generalize line s = l at a1 a3 a4 a5 b1 b2 b3 b4 b5 ⊢
    refine ⟨⟨t1 ++ t2, fun b => ?_, lx_g_ap a2 b2⟩, Nat.le_trans a3 b3, Nat.le_trans a4 b4, ?_⟩
    · show rs_tks (l.1 _) = _
      rw [a1, b1, List.append_assoc]
    · rw [List.length_append]
      dsimp only at b5 ⊢
      omega
/-- a piece that nothing makes longer, as a row of pieces -/
theorem mx_w {core : List Int32} {k : Int32} (h : (core ≠ [] ∧ (97 ≤ lx_hd core ∧ lx_hd core ≤ 122) ∧ (∀ x, x ∈ core → lx_al x) ∧ core.length ≤ 8) ∧ k = lx_kw (lx_nm 0 core) ∧ k ≠ 3) : lx_g lx_na core [(k, 0, 0)] :=
  lx_g_wd h.1.1 h.1.2.1 h.1.2.2.1 h.1.2.2.2 h.2.1 (fun q => absurd q h.2.2)
theorem mx_n59 : ¬ lx_al 59 := by unfold lx_al; decide
theorem mx_n61 : ¬ lx_al 61 := by unfold lx_al; decide
theorem mx_n32 : ¬ lx_al 32 := by unfold lx_al; decide
theorem mx_n43 : ¬ lx_al 43 := by unfold lx_al; decide
theorem mx_n60 : ¬ lx_al 60 := by unfold lx_al; decide
theorem mx_n93 : ¬ lx_al 93 := by unfold lx_al; decide
theorem mx_n123 : ¬ lx_al 123 := by unfold lx_al; decide
theorem mx_ct_ok {n : Nat} (h : n < 3) : lx_g lx_na ([105] ++ mp_d n) [(3, 0, md_ct n)] ∧ (mp_d n).length = 1 := by
  have hw : ∀ c : Int32, (48 ≤ c ∧ c ≤ 57) ∧ lx_kw (lx_nm 0 [105, c]) = 3 → lx_g lx_na [105, c] [(3, 0, lx_nm 0 [105, c])] := fun c hc => lx_g_wd (fun q => (by cases q)) (show (97 : Int32) ≤ 105 ∧ (105 : Int32) ≤ 122 by decide) (fun x hx => by
    simp only [List.mem_cons, List.not_mem_nil, or_false] at hx
    rcases hx with e | e
    · rw [e]; unfold lx_al; decide
    · rw [e]; exact Or.inr hc.1) (show 2 ≤ 8 by decide) hc.2.symm (fun _ => rfl)
  rcases (by omega : n = 0 ∨ n = 1 ∨ n = 2) with e | e | e <;> subst e
  · exact ⟨hw 48 (by decide), rfl⟩
  · exact ⟨hw 49 (by decide), rfl⟩
  · exact ⟨hw 50 (by decide), rfl⟩
theorem mx_q61 : lx_g lx_ns [61] [(61, 0, 0)] := lx_g_s1 (by unfold lx_al; decide)
/-- a part (or what is like it) and a sign behind it that nothing makes longer -/
theorem mx_sg {x : List Int32} {T : List Tok} {c : Int32} (h : lx_g lx_na x T) (hc : ¬ lx_al c) (hs : lx_g (fun _ => True) [c] [(c, 0, 0)]) : lx_g (fun _ => True) (x ++ [c]) (T ++ [(c, 0, 0)]) := lx_g_app h hs (fun q => (by cases q)) hc
theorem mx_set_g {k : Nat} {x : List Int32} {e : RE} (hk : k < 4) (h : mx_ok x (re_tks e)) : lx_g (fun _ => True) (mx_nm k ++ ([61] ++ (x ++ [59]))) (rs_tks (rs_set (md_nm k) e)) := by
  refine lx_g_app (b2 := [61] ++ (x ++ [59])) (t1 := [(3, 0, md_nm k)]) (t2 := (61, 0, 0) :: (re_tks e ++ [(59, 0, 0)])) (mx_nm_ok hk).1.2.2 (lx_g_app (b1 := [61]) (t1 := [(61, 0, 0)]) mx_q61 (mx_sg h.2.2 mx_n59 mx_q59) (fun q => h.1.1 (List.append_eq_nil_iff.mp q).1) ?_) (fun q => (by cases q)) mx_n61
  cases x with
  | nil => exact absurd rfl h.1.1
  | cons c cs => exact mx_hd_ns h.2.1
/-- a word, a blank, a part, and what follows -/
theorem mx_kw_g {core x y : List Int32} {k : Int32} {T ts : List Tok} (hk : lx_g lx_na core [(k, 0, 0)]) (h : mx_ok x T) (hy : lx_g (fun _ => True) y ts) (hn : y ≠ [] ∧ lx_na (lx_hd y)) : lx_g (fun _ => True) (core ++ ([32] ++ (x ++ y))) ((k, 0, 0) :: (T ++ ts)) := by
  have h1 : lx_g (fun _ => True) (x ++ y) (T ++ ts) := lx_g_app h.2.2 hy hn.1 hn.2
  have h2 : lx_g (fun _ => True) ([32] ++ (x ++ y)) (T ++ ts) := by
    cases hT : T ++ ts with
    | nil => exact absurd (List.append_eq_nil_iff.mp hT).1 h.1.2
    | cons t tr => rw [hT] at h1; exact lx_g_bl h1
  exact lx_g_app (t1 := [(k, 0, 0)]) hk h2 (fun q => (by cases q)) mx_n32
theorem mx_if_g {x fx : List Int32} {e : RE} {F : md_G} {ts : List Tok} (h : mx_ok x (re_tks e)) (hF : ∀ b, rs_tks (F b) = ts ++ rs_tks b) (hx : lx_g (fun _ => True) fx ts) : lx_g (fun _ => True) ([105, 102, 32] ++ (x ++ ([123] ++ (fx ++ [125])))) (rs_tks (rs_if e (F rs_nil))) := by
  have h1 : lx_g (fun _ => True) ([123] ++ (fx ++ [125])) ((123, 0, 0) :: (rs_tks (F rs_nil) ++ [(125, 0, 0)])) := by
    rw [hF]
    show lx_g _ _ ([(123, 0, 0)] ++ ((ts ++ []) ++ [(125, 0, 0)]))
    rw [List.append_nil]
    exact lx_g_ap mx_q123 (lx_g_ap hx mx_q125)
  exact mx_kw_g (core := [105, 102]) (mx_w ⟨⟨by decide, by decide, by unfold lx_al; decide, by decide⟩, by decide, by decide⟩) h h1 ⟨fun q => (by cases q), mx_n123⟩
theorem mx_ife_g {x fx gx : List Int32} {e : RE} {F E : md_G} {ts us : List Tok} (h : mx_ok x (re_tks e)) (hF : ∀ b, rs_tks (F b) = ts ++ rs_tks b) (hx : lx_g (fun _ => True) fx ts) (hE : ∀ b, rs_tks (E b) = us ++ rs_tks b) (hg : lx_g (fun _ => True) gx us) : lx_g (fun _ => True) ([105, 102, 32] ++ (x ++ ([123] ++ (fx ++ ([125] ++ ([101, 108, 115, 101, 123] ++ (gx ++ [125]))))))) (rs_tks (rs_ife e (F rs_nil) (E rs_nil))) := by
  have h0 : lx_g (fun _ => True) ([101, 108, 115, 101, 123] ++ (gx ++ [125])) ([(6, 0, 0), (123, 0, 0)] ++ (us ++ [(125, 0, 0)])) := by
    refine lx_g_ap (?_ : lx_g (fun _ => True) ([101, 108, 115, 101] ++ [123]) ([(6, 0, 0)] ++ [(123, 0, 0)])) (lx_g_ap hg mx_q125)
    exact lx_g_app (mx_w ⟨⟨by decide, by decide, by unfold lx_al; decide, by decide⟩, by decide, by decide⟩) mx_q123 (fun q => (by cases q)) mx_n123
  have h1 : lx_g (fun _ => True) ([123] ++ (fx ++ ([125] ++ ([101, 108, 115, 101, 123] ++ (gx ++ [125]))))) ((123, 0, 0) :: (rs_tks (F rs_nil) ++ ((125, 0, 0) :: (6, 0, 0) :: (123, 0, 0) :: (rs_tks (E rs_nil) ++ [(125, 0, 0)])))) := by
    rw [hF, hE]
    show lx_g _ _ ([(123, 0, 0)] ++ ((ts ++ []) ++ ([(125, 0, 0)] ++ ([(6, 0, 0), (123, 0, 0)] ++ ((us ++ []) ++ [(125, 0, 0)])))))
    rw [List.append_nil, List.append_nil]
    exact lx_g_ap mx_q123 (lx_g_ap hx (lx_g_ap mx_q125 h0))
  exact mx_kw_g (core := [105, 102]) (mx_w ⟨⟨by decide, by decide, by unfold lx_al; decide, by decide⟩, by decide, by decide⟩) h h1 ⟨fun q => (by cases q), mx_n123⟩
theorem mx_ret_g {x : List Int32} {e : RE} (h : mx_ok x (re_tks e)) : lx_g (fun _ => True) ([114, 101, 116, 117, 114, 110, 32] ++ (x ++ [59])) (rs_tks (rs_ret e)) :=
  mx_kw_g (core := [114, 101, 116, 117, 114, 110]) (mx_w ⟨⟨by decide, by decide, by unfold lx_al; decide, by decide⟩, by decide, by decide⟩) h mx_q59 ⟨fun q => (by cases q), mx_n59⟩
theorem mx_wr_g {x y : List Int32} {a b : RE} (h : mx_ok x (re_tks a)) (h2 : mx_ok y (re_tks b)) : lx_g (fun _ => True) ([91] ++ (x ++ ([93, 61] ++ (y ++ [59])))) (rs_tks (rs_wr a b)) := by
  have h3 : lx_g (fun _ => True) ([61] ++ (y ++ [59])) ((61, 0, 0) :: (re_tks b ++ [(59, 0, 0)])) := by
    refine lx_g_app (t1 := [(61, 0, 0)]) mx_q61 (mx_sg h2.2.2 mx_n59 mx_q59) (fun q => h2.1.1 (List.append_eq_nil_iff.mp q).1) ?_
    cases y with
    | nil => exact absurd rfl h2.1.1
    | cons c cs => exact mx_hd_ns h2.2.1
  refine lx_g_ap (t1 := [(91, 0, 0)]) mx_q91 (lx_g_app h.2.2 (lx_g_ap (b1 := [93]) (t1 := [(93, 0, 0)]) mx_q93 h3) (fun q => (by cases q)) mx_n93)
theorem mx_wh_g {n v : Nat} {x : List Int32} {F : md_G} {ts : List Tok} (hn : n < 3) (hv : v < 10000) (hF : ∀ b, rs_tks (F b) = ts ++ rs_tks b) (hx : lx_g (fun _ => True) x ts) : ∃ us, (∀ b, rs_tks (md_wh n v F b) = us ++ rs_tks b) ∧ lx_g (fun _ => True) (mx_wh n v x) us := by
  have hc := (mx_ct_ok hn).1
  have hd : ∀ {B : Int32 → Prop} {y : List Int32} {us : List Tok}, lx_g B y us → (y ≠ [] ∧ lx_na (lx_hd y)) → lx_g B ([105] ++ (mp_d n ++ y)) ((3, 0, md_ct n) :: us) := fun {B y us} h2 h1 => by
    rw [← List.append_assoc]
    exact lx_g_app (t1 := [(3, 0, md_ct n)]) hc h2 h1.1 h1.2
  -- i = i + 1 ; }
  have e1 : lx_g (fun _ => True) [43, 49, 59, 125] ([(43, 0, 0)] ++ ([(2, 1, 0)] ++ ([(59, 0, 0)] ++ [(125, 0, 0)]))) :=
    lx_g_ap (b1 := [43]) (mx_s0 (by unfold lx_al; decide)) (lx_g_app (b1 := [49]) (lx_g_d (v := 1) (by decide)) (lx_g_ap (b1 := [59]) mx_q59 mx_q125) (fun q => (by cases q)) mx_n59)
  have e2 := hd e1 ⟨fun q => (by cases q), mx_n43⟩
  have e3 : lx_g (fun _ => True) ([61, 105] ++ (mp_d n ++ [43, 49, 59, 125])) ((61, 0, 0) :: (3, 0, md_ct n) :: ([(43, 0, 0)] ++ ([(2, 1, 0)] ++ ([(59, 0, 0)] ++ [(125, 0, 0)])))) :=
    lx_g_app (b1 := [61]) (t1 := [(61, 0, 0)]) mx_q61 e2 (fun q => (by cases q)) (show lx_ns 105 by unfold lx_ns; decide)
  have e4 := hd e3 ⟨fun q => (by cases q), mx_n61⟩
  -- the lines
  have e5 := lx_g_ap hx e4
  have e6 : lx_g (fun _ => True) ([123] ++ _) ((123, 0, 0) :: _) := lx_g_ap (t1 := [(123, 0, 0)]) mx_q123 e5
  have e7 := lx_g_app (lx_g_d hv) e6 (fun q => (by cases q)) mx_n123
  have e8 : lx_g (fun _ => True) ([60] ++ _) ((60, 0, 0) :: _) := lx_g_app (b1 := [60]) (t1 := [(60, 0, 0)]) (lx_g_s1 (by unfold lx_al; decide)) e7 (fun q => (mx_d_ok hv).1.1 (List.append_eq_nil_iff.mp q).1) (by
    have := (mx_d_ok hv).2.1
    cases hq : mp_d v with
    | nil => exact absurd hq (mx_d_ok hv).1.1
    | cons c cs => rw [hq] at this; exact mx_hd_ns this)
  have e9 := hd e8 ⟨fun q => (by cases q), mx_n60⟩
  have e10 : lx_g (fun _ => True) ([119, 104, 105, 108, 101] ++ ([32] ++ _)) ((11, 0, 0) :: _) := lx_g_app (t1 := [(11, 0, 0)]) (mx_w ⟨⟨by decide, by decide, by unfold lx_al; decide, by decide⟩, by decide, by decide⟩) (lx_g_bl e9) (fun q => (by cases q)) mx_n32
  have e11 : lx_g (fun _ => True) ([61] ++ ([48] ++ ([59] ++ _))) ((61, 0, 0) :: (2, 0, 0) :: (59, 0, 0) :: _) := lx_g_app (b1 := [61]) (t1 := [(61, 0, 0)]) mx_q61 (lx_g_app (b1 := [48]) (t1 := [(2, 0, 0)]) (lx_g_d (v := 0) (by decide)) (lx_g_ap (t1 := [(59, 0, 0)]) mx_q59 e10) (fun q => (by cases q)) mx_n59) (fun q => (by cases q)) (show lx_ns 48 by unfold lx_ns; decide)
  have e12 := hd e11 ⟨fun q => (by cases q), mx_n61⟩
  have e13 : lx_g (fun _ => True) ([118, 97, 114] ++ ([32] ++ _)) ((10, 0, 0) :: _) := lx_g_app (t1 := [(10, 0, 0)]) (mx_w ⟨⟨by decide, by decide, by unfold lx_al; decide, by decide⟩, by decide, by decide⟩) (lx_g_bl e12) (fun q => (by cases q)) mx_n32
  refine ⟨_, fun b => ?_, e13⟩
  show ((10, 0, 0) :: (3, 0, md_ct n) :: (61, 0, 0) :: ([(2, 0, 0)] ++ [(59, 0, 0)])) ++ (((11, 0, 0) :: (([(3, 0, md_ct n)] ++ ((60, 0, 0) :: [(2, pu_I v, 0)])) ++ ((123, 0, 0) :: (rs_tks (F (rs_cons (rs_set (md_ct n) (re_bn 43 1 3 (re_vr (md_ct n)) (re_nm 1))) rs_nil)) ++ [(125, 0, 0)])))) ++ rs_tks b) = _
  rw [hF]
  show ((10, 0, 0) :: (3, 0, md_ct n) :: (61, 0, 0) :: ([(2, 0, 0)] ++ [(59, 0, 0)])) ++ (((11, 0, 0) :: (([(3, 0, md_ct n)] ++ ((60, 0, 0) :: [(2, pu_I v, 0)])) ++ ((123, 0, 0) :: ((ts ++ (((3, 0, md_ct n) :: (61, 0, 0) :: (([(3, 0, md_ct n)] ++ ((43, 0, 0) :: [(2, 1, 0)])) ++ [(59, 0, 0)])) ++ [])) ++ [(125, 0, 0)])))) ++ rs_tks b) = _
  simp only [List.append_eq, List.append_assoc, List.cons_append, List.nil_append, List.append_nil]
theorem mx_step_ok (hd : ∀ k n, 0 < n → dr k n < n) {inner fork : Bool} {sub : md_S → md_G × md_S} {subx : md_S → List Int32} (hs : fork = true → ∀ s, mx_L 1 s (subx s) (sub s)) (s : md_S) : mx_L 1 s (mx_step dr inner fork sub subx s) (md_step dr inner fork sub s) := by
  have hp := mx_part_ok hd 2 (s.1 + 1, s.2)
  obtain ⟨B, g, I, _, _, ⟨p1, _⟩, _, ⟨p2, _, p3⟩, _⟩ := md_part_ok hd 2 (Nat.le_refl 2) (s.1 + 1, s.2)
  unfold mx_step md_step
  generalize md_part dr 2 (s.1 + 1, s.2) = t at hp p1 p2 p3 ⊢
  generalize mx_part dr 2 (s.1 + 1, s.2) = x at hp ⊢
  obtain ⟨hx, hlen⟩ := hp
  dsimp only at p1 p2 p3 hlen ⊢
  have one : ∀ {xs : List Int32} {S : RS} {s' : md_S}, lx_g (fun _ => True) xs (rs_tks S) → s.2.2.1 ≤ s'.2.2.1 → s.2.2.2 ≤ s'.2.2.2 → xs.length + 4 * s.2.1 + 35 * s.2.2.1 + 18 * s.2.2.2 ≤ 4 * s'.2.1 + 35 * s'.2.2.1 + 18 * s'.2.2.2 + 8 → mx_L 1 s xs (fun b => rs_cons S b, s') := fun h1 h2 h3 h4 => ⟨⟨_, fun b => rfl, h1⟩, h2, h3, h4⟩
  by_cases c0 : fork = true ∧ t.2.2.1 < 46 ∧ t.2.2.2.1 < 8 ∧ 6 < dr s.1 10
  · rw [if_pos c0, if_pos c0]
    have hs := hs c0.1
    by_cases c1 : dr s.1 10 = 9 ∧ t.2.2.2.2 < 3
    · rw [if_pos c1, if_pos c1]
      have hm := mx_many_ok hs (1 + dr (t.2.1 + 2) 2) (t.2.1 + 3, t.2.2.1, t.2.2.2.1 + 1, t.2.2.2.2 + 1)
      generalize md_many sub (1 + dr (t.2.1 + 2) 2) (t.2.1 + 3, t.2.2.1, t.2.2.2.1 + 1, t.2.2.2.2 + 1) = F at hm ⊢
      generalize mx_many sub subx (1 + dr (t.2.1 + 2) 2) (t.2.1 + 3, t.2.2.1, t.2.2.2.1 + 1, t.2.2.2.2 + 1) = fx at hm ⊢
      obtain ⟨⟨ts, a1, a2⟩, a3, a4, a5⟩ := hm
      have h4 := hd (t.2.1 + 1) 4 (by decide)
      have h2 := hd (t.2.1 + 2) 2 (by decide)
      refine ⟨mx_wh_g c1.2 (by omega) a1 a2, ?_, ?_, ?_⟩
      · dsimp only at a3 ⊢; omega
      · dsimp only at a4 ⊢; omega
      · have q1 := (mx_ct_ok c1.2).2
        have q2 := mp_d_1 (v := dr (t.2.1 + 1) 4) (by omega)
        unfold mx_wh
        simp only [List.length_append, List.length_cons, List.length_nil, q1, q2]
        dsimp only at a3 a4 a5 ⊢
        omega
    · rw [if_neg c1, if_neg c1]
      have hm := mx_many_ok hs (1 + dr (t.2.1 + 1) 2) (t.2.1 + 2, t.2.2.1, t.2.2.2.1 + 1, t.2.2.2.2)
      generalize md_many sub (1 + dr (t.2.1 + 1) 2) (t.2.1 + 2, t.2.2.1, t.2.2.2.1 + 1, t.2.2.2.2) = F at hm ⊢
      generalize mx_many sub subx (1 + dr (t.2.1 + 1) 2) (t.2.1 + 2, t.2.2.1, t.2.2.2.1 + 1, t.2.2.2.2) = fx at hm ⊢
      obtain ⟨⟨ts, a1, a2⟩, a3, a4, a5⟩ := hm
      have h2 := hd (t.2.1 + 1) 2 (by decide)
      dsimp only at a3 a4 a5 ⊢
      by_cases c2 : dr F.2.1 2 = 0
      · rw [if_pos c2, if_pos c2]
        refine one (mx_if_g hx a1 a2) ?_ ?_ ?_
        · dsimp only; omega
        · dsimp only; omega
        · simp only [List.length_append, List.length_cons, List.length_nil]
          omega
      · rw [if_neg c2, if_neg c2]
        have hm2 := mx_many_ok hs 1 (F.2.1 + 1, F.2.2)
        generalize md_many sub 1 (F.2.1 + 1, F.2.2) = E at hm2 ⊢
        generalize mx_many sub subx 1 (F.2.1 + 1, F.2.2) = gx at hm2 ⊢
        obtain ⟨⟨us, b1, b2⟩, b3, b4, b5⟩ := hm2
        dsimp only at b3 b4 b5 ⊢
        refine one (mx_ife_g hx a1 a2 b1 b2) ?_ ?_ ?_
        · omega
        · omega
        · simp only [List.length_append, List.length_cons, List.length_nil]
          omega
  rw [if_neg c0, if_neg c0]
  have hset : ∀ k q, k < 4 → mx_L 1 s (mx_nm k ++ ([61] ++ (x ++ [59]))) (fun b => rs_cons (rs_set (md_nm k) t.1) b, (q, t.2.2)) := fun k q hk => by
    refine one (mx_set_g hk hx) ?_ ?_ ?_
    · dsimp only; omega
    · dsimp only; omega
    · have := (mx_nm_ok hk).2
      simp only [List.length_append, List.length_cons, List.length_nil]
      omega
  by_cases c3 : dr s.1 10 = 5 ∧ inner = true
  · rw [if_pos c3, if_pos c3]
    by_cases c4 : dr t.2.1 4 = 0
    · rw [if_pos c4, if_pos c4]
      refine one (mx_ret_g hx) ?_ ?_ ?_
      · dsimp only; omega
      · dsimp only; omega
      · simp only [List.length_append, List.length_cons, List.length_nil]
        omega
    · rw [if_neg c4, if_neg c4]
      exact hset _ _ (hd _ 4 (by decide))
  rw [if_neg c3, if_neg c3]
  by_cases c5 : dr s.1 10 = 6
  · rw [if_pos c5, if_pos c5]
    have hp := mx_part_ok hd 1 (t.2.1 + 1, t.2.2)
    obtain ⟨B, g, I, _, _, ⟨r1, _⟩, _, ⟨r2, _, r3⟩, _⟩ := md_part_ok hd 1 (by decide) (t.2.1 + 1, t.2.2)
    generalize md_part dr 1 (t.2.1 + 1, t.2.2) = o at hp r1 r2 r3 ⊢
    generalize mx_part dr 1 (t.2.1 + 1, t.2.2) = y at hp ⊢
    obtain ⟨hy, hlen2⟩ := hp
    dsimp only at r1 r2 r3 hlen2 ⊢
    refine one (mx_wr_g hx hy) ?_ ?_ ?_
    · omega
    · omega
    · simp only [List.length_append, List.length_cons, List.length_nil]
      omega
  · rw [if_neg c5, if_neg c5]
    exact hset _ _ (hd _ 4 (by decide))
theorem mx_line_ok (hd : ∀ k n, 0 < n → dr k n < n) : ∀ h s, mx_L 1 s (mx_line dr h s) (md_line dr h s) := by
  intro h
  induction h with
  | zero => intro s; exact mx_step_ok hd (fun q => (by cases q)) s
  | succ h ih => intro s; exact mx_step_ok hd (fun _ => ih) s
end BYL
