/-! pure side, bytes 5: fixed texts, the whole text -/
section BYF
def lx_dgb (c : Int32) : Bool := decide (48 ≤ c) && decide (c ≤ 57)
def lx_alb (c : Int32) : Bool := (decide (97 ≤ c) && decide (c ≤ 122)) || lx_dgb c
def lx_s4 (c : Int32) : Bool := decide (c = 60) || (decide (c = 62) || (decide (c = 38) || decide (c = 124)))
def lx_s5 (c : Int32) : Bool := decide (c = 60) || (decide (c = 62) || (decide (c = 61) || decide (c = 33)))
/-- whether core is the token t, ahead of h -/
def lx_tb (core : List Int32) (h : Int32) (t : Tok) : Bool :=
  match core with
  | [] => false
  | c :: cs =>
    if 97 ≤ c ∧ c ≤ 122 then
      (c :: cs).all lx_alb && (!lx_alb h && (decide ((c :: cs).length ≤ 8) && (decide (t.1 = lx_kw (lx_nm 0 (c :: cs))) && (!decide (t.1 = 3) || decide (t.2.2 = lx_nm 0 (c :: cs))))))
    else if lx_dgb c = true then
      (c :: cs).all lx_dgb && (!lx_dgb h && (decide ((c :: cs).length ≤ 9) && decide (t = (2, lx_fg 0 (c :: cs), 0))))
    else match cs with
      | [] => !lx_alb c && (decide (c ≠ 32) && (decide (c ≠ 10) && (decide (0 ≤ c) && (decide (c < 128) && (!(decide (h = c) && lx_s4 c) && (!(decide (h = 61) && lx_s5 c) && (!decide (sx_ix c < 0) && decide (t = (c, 0, 0)))))))))
      | [d] => (decide (c = d) && (lx_s4 c && decide (t = (256 + c, 0, 0)))) || (decide (d = 61) && (lx_s5 c && decide (t = (512 + c, 0, 0))))
      | _ => false
theorem lx_dgb_i {c : Int32} : lx_dgb c = true ↔ (48 ≤ c ∧ c ≤ 57) := by unfold lx_dgb; rw [Bool.and_eq_true, decide_eq_true_eq, decide_eq_true_eq]
theorem lx_alb_i {c : Int32} : lx_alb c = true ↔ lx_al c := by unfold lx_alb lx_al; rw [Bool.or_eq_true, Bool.and_eq_true, decide_eq_true_eq, decide_eq_true_eq, lx_dgb_i]
theorem lx_s4_i {c : Int32} : lx_s4 c = true ↔ (c = 60 ∨ c = 62 ∨ c = 38 ∨ c = 124) := by unfold lx_s4; simp only [Bool.or_eq_true, decide_eq_true_eq]
theorem lx_s5_i {c : Int32} : lx_s5 c = true ↔ (c = 60 ∨ c = 62 ∨ c = 61 ∨ c = 33) := by unfold lx_s5; simp only [Bool.or_eq_true, decide_eq_true_eq]
theorem lx_nb {b : Bool} : (!b) = true ↔ ¬ b = true := by cases b <;> decide
theorem lx_tb_ok {core : List Int32} {h : Int32} {t : Tok} (hb : lx_tb core h t = true) {rest : List Int32} (hr : lx_hd rest = h) : lx_t core rest t := by
  subst hr
  cases core with
  | nil => cases hb
  | cons c cs =>
    unfold lx_tb at hb
    dsimp only at hb
    by_cases h1 : 97 ≤ c ∧ c ≤ 122
    · rw [if_pos h1] at hb
      simp only [Bool.and_eq_true, Bool.or_eq_true, lx_nb, decide_eq_true_eq, lx_alb_i] at hb
      obtain ⟨b1, b2, b3, b4, b5⟩ := hb
      exact Or.inl ⟨c, cs, rfl, h1, fun x hx => lx_alb_i.mp (List.all_eq_true.mp b1 x hx), b2, b3, b4, fun q => b5.resolve_left fun w => w q⟩
    · rw [if_neg h1] at hb
      by_cases h2 : lx_dgb c = true
      · rw [if_pos h2] at hb
        simp only [Bool.and_eq_true, lx_nb, decide_eq_true_eq, lx_dgb_i] at hb
        obtain ⟨b1, b2, b3, b4⟩ := hb
        exact Or.inr (Or.inl ⟨c, cs, rfl, fun x hx => lx_dgb_i.mp (List.all_eq_true.mp b1 x hx), b2, b3, b4⟩)
      · rw [if_neg h2] at hb
        cases cs with
        | nil =>
          simp only [Bool.and_eq_true, lx_nb, decide_eq_true_eq, lx_alb_i, lx_s4_i, lx_s5_i] at hb
          obtain ⟨b1, b2, b3, b4, b5, b6, b7, b8, b9⟩ := hb
          exact Or.inr (Or.inr (Or.inl ⟨c, rfl, b1, b2, b3, b4, b5, b6, b7, b8, b9⟩))
        | cons d ds =>
          cases ds with
          | nil =>
            simp only [Bool.and_eq_true, Bool.or_eq_true, decide_eq_true_eq, lx_s4_i, lx_s5_i] at hb
            rcases hb with ⟨b1, b2, b3⟩ | ⟨b1, b2, b3⟩
            · exact Or.inr (Or.inr (Or.inr (Or.inl ⟨c, by rw [b1], b2, b3⟩)))
            · exact Or.inr (Or.inr (Or.inr (Or.inr ⟨c, by rw [b1], b2, b3⟩)))
          | cons _ _ => cases hb
/-- pieces, some with a blank ahead -/
def lx_fl : List (Bool × List Int32) → List Int32
  | [] => []
  | x :: cs => (if x.1 = true then [32] else []) ++ (x.2 ++ lx_fl cs)
def lx_cb (h : Int32) : List (Bool × List Int32) → List Tok → Bool
  | [], [] => true
  | x :: cs, t :: ts => lx_tb x.2 (lx_hd (lx_fl cs ++ [h])) t && lx_cb h cs ts
  | _, _ => false
theorem lx_hd_app {a r : List Int32} : lx_hd (a ++ r) = lx_hd (a ++ [lx_hd r]) := by cases a <;> rfl
theorem lx_cb_ok {h : Int32} : ∀ {cs : List (Bool × List Int32)} {ts : List Tok}, lx_cb h cs ts = true → lx_g (fun c => c = h) (lx_fl cs) ts
  | [], [], _ => lx_g_nil
  | [], _ :: _, hb => (by cases hb)
  | _ :: _, [], hb => (by cases hb)
  | x :: cs, t :: ts, hb => by
    have hb := Bool.and_eq_true _ _ ▸ hb
    intro rest rts hB hr
    refine ⟨if x.1 = true then [32] else [], x.2, lx_fl cs ++ rest, ?_, fun c hc => ?_, lx_tb_ok hb.1 (by rw [lx_hd_app, hB]), lx_cb_ok hb.2 rest rts hB hr⟩
    · show ((if x.1 = true then [32] else []) ++ (x.2 ++ lx_fl cs)) ++ rest = _
      rw [List.append_assoc, List.append_assoc]
    · by_cases e : x.1 = true
      · rw [if_pos e] at hc
        exact Or.inl (List.mem_singleton.mp hc)
      · rw [if_neg e] at hc
        cases hc
def mx_fB : List Int32 := [102, 117, 110, 32, 102, 40, 97, 44, 98, 41, 123, 118, 97, 114, 32, 99, 61, 98, 59, 118, 97, 114, 32, 100, 61, 51, 59]
def mx_g1 : List Int32 := [102, 117, 110, 32, 103, 40, 110, 44, 98, 44, 99, 41, 123, 105, 102, 32, 110, 60, 49, 124, 124, 110, 62]
def mx_g2 : List Int32 := [123, 114, 101, 116, 117, 114, 110, 32, 98, 45, 99, 59, 125, 91, 110, 93, 61, 91, 98, 93, 43, 110, 59, 118, 97, 114, 32, 116, 61, 103, 40, 110, 45, 49, 44, 99, 44, 98, 41, 42, 50, 59, 114, 101, 116, 117, 114, 110, 32, 116, 43, 104, 40, 110, 44, 116, 41, 59, 125, 102, 117, 110, 32, 104, 40, 120, 44, 121, 41, 123, 118, 97, 114, 32, 122, 61, 120, 38, 38, 121, 59, 105, 102, 32, 33, 122, 123, 114, 101, 116, 117, 114, 110, 32, 120, 124, 121, 59, 125, 119, 104, 105, 108, 101, 32, 120, 62, 48, 123, 120, 61, 120, 45, 49, 59, 121, 61, 121, 43, 120, 42, 122, 59, 125, 114, 101, 116, 117, 114, 110, 32, 121, 37, 40, 120, 43, 55, 41, 45, 120, 59, 125]
def mx_fT : List Tok := [(7, 0, 0), (3, 0, 102), (40, 0, 0), (3, 0, 97), (44, 0, 0), (3, 0, 98), (41, 0, 0), (123, 0, 0), (10, 0, 0), (3, 0, 99), (61, 0, 0), (3, 0, 98), (59, 0, 0), (10, 0, 0), (3, 0, 100), (61, 0, 0), (2, 3, 0)]
theorem mx_f_g : lx_g (fun _ => True) mx_fB (mx_fT ++ [(59, 0, 0)]) :=
  lx_g_app (b1 := lx_fl [(false, [102, 117, 110]), (true, [102]), (false, [40]), (false, [97]), (false, [44]), (false, [98]), (false, [41]), (false, [123]), (false, [118, 97, 114]), (true, [99]), (false, [61]), (false, [98]), (false, [59]), (false, [118, 97, 114]), (true, [100]), (false, [61]), (false, [51])]) (lx_cb_ok (h := 59) (by decide +kernel)) mx_q59 (fun q => (by cases q)) rfl
def mx_ghc (n : Nat) : List (Bool × List Int32) := [(false, [102, 117, 110]), (true, [103]), (false, [40]), (false, [110]), (false, [44]), (false, [98]), (false, [44]), (false, [99]), (false, [41]), (false, [123]), (false, [105, 102]), (true, [110]), (false, [60]), (false, [49]), (false, [124, 124]), (false, [110]), (false, [62])] ++ ((false, mp_d n) :: [(false, [123]), (false, [114, 101, 116, 117, 114, 110]), (true, [98]), (false, [45]), (false, [99]), (false, [59]), (false, [125]), (false, [91]), (false, [110]), (false, [93]), (false, [61]), (false, [91]), (false, [98]), (false, [93]), (false, [43]), (false, [110]), (false, [59]), (false, [118, 97, 114]), (true, [116]), (false, [61]), (false, [103]), (false, [40]), (false, [110]), (false, [45]), (false, [49]), (false, [44]), (false, [99]), (false, [44]), (false, [98]), (false, [41]), (false, [42]), (false, [50]), (false, [59]), (false, [114, 101, 116, 117, 114, 110]), (true, [116]), (false, [43]), (false, [104]), (false, [40]), (false, [110]), (false, [44]), (false, [116]), (false, [41]), (false, [59]), (false, [125]), (false, [102, 117, 110]), (true, [104]), (false, [40]), (false, [120]), (false, [44]), (false, [121]), (false, [41]), (false, [123]), (false, [118, 97, 114]), (true, [122]), (false, [61]), (false, [120]), (false, [38, 38]), (false, [121]), (false, [59]), (false, [105, 102]), (true, [33]), (false, [122]), (false, [123]), (false, [114, 101, 116, 117, 114, 110]), (true, [120]), (false, [124]), (false, [121]), (false, [59]), (false, [125]), (false, [119, 104, 105, 108, 101]), (true, [120]), (false, [62]), (false, [48]), (false, [123]), (false, [120]), (false, [61]), (false, [120]), (false, [45]), (false, [49]), (false, [59]), (false, [121]), (false, [61]), (false, [121]), (false, [43]), (false, [120]), (false, [42]), (false, [122]), (false, [59]), (false, [125]), (false, [114, 101, 116, 117, 114, 110]), (true, [121]), (false, [37]), (false, [40]), (false, [120]), (false, [43]), (false, [55]), (false, [41]), (false, [45]), (false, [120]), (false, [59])])
def mx_ghT (k : Int32) : List Tok := (7, 0, 0) :: (3, 0, 103) :: (40, 0, 0) :: (rp_tk 0 [110, 98, 99] ++ ((41, 0, 0) :: (123, 0, 0) :: (rs_tks (rg_b k) ++ ((125, 0, 0) :: ((7, 0, 0) :: (3, 0, 104) :: (40, 0, 0) :: (rp_tk 0 [120, 121] ++ ((41, 0, 0) :: (123, 0, 0) :: rs_tks rh_b)))))))
variable {dr : Nat → Nat → Nat}
set_option maxRecDepth 10000 in
theorem mx_gh_g {n d0 : Nat} (h1 : 2 ≤ n) (h2 : n ≤ 4) : lx_g (fun _ => True) (mx_g1 ++ (mp_d n ++ mx_g2)) (rp_ts (mp_F dr d0 (pu_I n)) 2 1) := by
  have e : rp_ts (mp_F dr d0 (pu_I n)) 2 1 = mx_ghT (pu_I n) ++ [(125, 0, 0)] := rfl
  rw [e]
  rcases (by omega : n = 2 ∨ n = 3 ∨ n = 4) with q | q | q <;> subst q
  · exact lx_g_app (b1 := lx_fl (mx_ghc 2)) (lx_cb_ok (h := 125) (by decide +kernel)) mx_q125 (fun q => (by cases q)) rfl
  · exact lx_g_app (b1 := lx_fl (mx_ghc 3)) (lx_cb_ok (h := 125) (by decide +kernel)) mx_q125 (fun q => (by cases q)) rfl
  · exact lx_g_app (b1 := lx_fl (mx_ghc 4)) (lx_cb_ok (h := 125) (by decide +kernel)) mx_q125 (fun q => (by cases q)) rfl
/-- f's text -/
def mx_ft (dr : Nat → Nat → Nat) (d0 : Nat) : List Int32 := mx_fB ++ (mx_many (md_line dr 2) (mx_line dr 2) (3 + dr d0 4) (d0 + 1, 0, 0, 0) ++ [125])
/-- THE WHOLE TEXT -/
def mx_txt (dr : Nat → Nat → Nat) (d0 n : Nat) : List Int32 := mx_ft dr d0 ++ (mx_g1 ++ (mp_d n ++ mx_g2))
theorem mx_txt_s (hd : ∀ k n, 0 < n → dr k n < n) {d0 n : Nat} (h1 : 2 ≤ n) (h2 : n ≤ 4) {bl : List Int32} (hbl : ∀ c, c ∈ bl → c = 32) : lx_s (mx_txt dr d0 n ++ bl) (rp_ts (mp_F dr d0 (pu_I n)) 3 0) := by
  obtain ⟨⟨ts, a1, a2⟩, _⟩ := mx_many_ok (mx_line_ok hd 2) (3 + dr d0 4) (d0 + 1, 0, 0, 0)
  have h : lx_g (fun _ => True) (mx_txt dr d0 n) ((mx_fT ++ [(59, 0, 0)]) ++ ((ts ++ [(125, 0, 0)]) ++ rp_ts (mp_F dr d0 (pu_I n)) 2 1)) := by
    unfold mx_txt mx_ft
    rw [List.append_assoc]
    exact lx_g_ap mx_f_g (lx_g_ap (lx_g_ap a2 mx_q125) (mx_gh_g h1 h2))
  have h9 := h bl [] trivial (fun c hc => Or.inl (hbl c hc))
  have a1 : rs_tks ((mf_l dr d0).1 rs_nil) = ts ++ rs_tks rs_nil := a1 rs_nil
  have e : rp_ts (mp_F dr d0 (pu_I n)) 3 0 = ((mx_fT ++ [(59, 0, 0)]) ++ (rs_tks ((mf_l dr d0).1 rs_nil) ++ ((125, 0, 0) :: rp_ts (mp_F dr d0 (pu_I n)) 2 1))) := rfl
  rw [List.append_nil] at h9
  rw [e, a1, show rs_tks rs_nil = [] from rfl, List.append_nil]
  rw [List.append_assoc ts] at h9
  exact h9
theorem mx_txt_len (hd : ∀ k n, 0 < n → dr k n < n) {d0 n : Nat} (h2 : n ≤ 4) : (mx_ft dr d0).length ≤ 682 ∧ (mx_txt dr d0 n).length ≤ 848 ∧ mx_txt dr d0 n ≠ [] := by
  obtain ⟨_, b1, b2, b3⟩ := mx_many_ok (mx_line_ok hd 2) (3 + dr d0 4) (d0 + 1, 0, 0, 0)
  obtain ⟨X, I, W, Fk, gL, ⟨a1, a2, a3⟩, ⟨a4, a5, a6, a7, a8⟩, a9, a10⟩ := mf_lk hd d0
  have hm4 := hd d0 4 (by decide)
  have a2 : (md_many (md_line dr 2) (3 + dr d0 4) (d0 + 1, 0, 0, 0)).2.2.1 + 2 ≤ max (0 + 2) 58 + 2 * (3 + dr d0 4) := a2
  have e58 : max (0 + 2) 58 = 58 := rfl
  have f8 : (md_many (md_line dr 2) (3 + dr d0 4) (d0 + 1, 0, 0, 0)).2.2.2.1 ≤ 8 := a7 (show 0 ≤ 8 by decide)
  have f3 : (md_many (md_line dr 2) (3 + dr d0 4) (d0 + 1, 0, 0, 0)).2.2.2.2 ≤ 3 := a8 (show 0 ≤ 3 by decide)
  dsimp only at b3
  have l1 : mx_fB.length = 27 := rfl
  have l2 : mx_g1.length = 23 := rfl
  have l3 : mx_g2.length = 142 := rfl
  have l4 := mp_d_1 (v := n) (by omega)
  refine ⟨?_, ?_, fun q => ?_⟩
  · unfold mx_ft
    rw [List.length_append, List.length_append, l1, List.length_cons, List.length_nil]
    omega
  · unfold mx_txt mx_ft
    rw [List.length_append, List.length_append, List.length_append, List.length_append, List.length_append, l1, l2, l3, l4, List.length_cons, List.length_nil]
    omega
  · cases q
end BYF
