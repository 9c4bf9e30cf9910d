/-! pure side, bytes 3: parts of tests -/
section BYP
variable {dr : Nat → Nat → Nat}
theorem lx_g_ap {B : Int32 → Prop} {b1 b2 : List Int32} {t1 t2 : List Tok} (h1 : lx_g (fun _ => True) b1 t1) (h2 : lx_g B b2 t2) : lx_g B (b1 ++ b2) (t1 ++ t2) := by
  intro rest rts hB hr
  rw [List.append_assoc, List.append_assoc]
  exact h1 _ _ trivial (h2 rest rts hB hr)
def mx_op (k : Nat) : List Int32 :=
  if k = 1 then [43] else if k = 2 then [45] else if k = 3 then [42] else if k = 4 then [47] else if k = 5 then [37] else if k = 6 then [38] else if k = 7 then [124] else if k = 8 then [94] else if k = 9 then [60, 60] else if k = 10 then [62, 62] else
  if k = 11 then [60] else if k = 12 then [60, 61] else if k = 13 then [62] else if k = 14 then [62, 61] else if k = 15 then [61, 61] else [33, 61]
def mx_nm (k : Nat) : List Int32 := if k = 0 then [97] else if k = 1 then [98] else if k = 2 then [99] else [100]
/-- what a part begins with -/
def mx_hd (c : Int32) : Prop := lx_al c ∨ c = 40 ∨ c = 91
theorem mx_hd_ns {c : Int32} (h : mx_hd c) : lx_ns c := by
  have hne : ∀ k : Int32, ¬ mx_hd k → c ≠ k := fun k hk e => hk (e ▸ h)
  refine ⟨hne _ ?_, hne _ ?_, hne _ ?_, hne _ ?_, hne _ ?_⟩ <;> (unfold mx_hd lx_al; decide)
/-- bytes of a part, or of a row that stands in brackets -/
def mx_ok (bs : List Int32) (ts : List Tok) : Prop := (bs ≠ [] ∧ ts ≠ []) ∧ mx_hd (lx_hd bs) ∧ lx_g lx_na bs ts
theorem mx_s0 {c : Int32} (h : (¬ lx_al c ∧ c ≠ 32 ∧ c ≠ 10 ∧ 0 ≤ c ∧ c < 128 ∧ ¬ sx_ix c < 0) ∧ (c ≠ 60 ∧ c ≠ 62 ∧ c ≠ 38 ∧ c ≠ 124 ∧ c ≠ 61 ∧ c ≠ 33)) : lx_g (fun _ => True) [c] [(c, 0, 0)] := lx_g_s0 h.1 h.2
theorem mx_q40 : lx_g (fun _ => True) [40] [(40, 0, 0)] := mx_s0 (by unfold lx_al; decide)
theorem mx_q41 : lx_g (fun _ => True) [41] [(41, 0, 0)] := mx_s0 (by unfold lx_al; decide)
theorem mx_q91 : lx_g (fun _ => True) [91] [(91, 0, 0)] := mx_s0 (by unfold lx_al; decide)
theorem mx_q93 : lx_g (fun _ => True) [93] [(93, 0, 0)] := mx_s0 (by unfold lx_al; decide)
theorem mx_q45 : lx_g (fun _ => True) [45] [(45, 0, 0)] := mx_s0 (by unfold lx_al; decide)
theorem mx_q59 : lx_g (fun _ => True) [59] [(59, 0, 0)] := mx_s0 (by unfold lx_al; decide)
theorem mx_q123 : lx_g (fun _ => True) [123] [(123, 0, 0)] := mx_s0 (by unfold lx_al; decide)
theorem mx_q125 : lx_g (fun _ => True) [125] [(125, 0, 0)] := mx_s0 (by unfold lx_al; decide)
theorem mx_q44 : lx_g (fun _ => True) [44] [(44, 0, 0)] := mx_s0 (by unfold lx_al; decide)
theorem mx_na1 {c : Int32} (h : ¬ lx_al c) {cs : List Int32} : lx_na (lx_hd (c :: cs)) := h
theorem lx_g_na {B : Int32 → Prop} {bs : List Int32} {ts : List Tok} (h : lx_g (fun _ => True) bs ts) : lx_g B bs ts := lx_g_mono h fun _ _ => trivial
theorem mx_pr {X : List Int32} {T : List Tok} (h : lx_g lx_na X T) : mx_ok (40 :: (X ++ [41])) ((40, 0, 0) :: (T ++ [(41, 0, 0)])) :=
  ⟨⟨fun q => (by cases q), fun q => (by cases q)⟩, Or.inr (Or.inl rfl), lx_g_ap (b1 := [40]) (t1 := [(40, 0, 0)]) mx_q40 (lx_g_na (lx_g_app h mx_q41 (fun q => (by cases q)) (mx_na1 (by unfold lx_al; decide))))⟩
theorem mx_ld {X : List Int32} {T : List Tok} (h : lx_g lx_na X T) : mx_ok (91 :: (X ++ [93])) ((91, 0, 0) :: (T ++ [(93, 0, 0)])) :=
  ⟨⟨fun q => (by cases q), fun q => (by cases q)⟩, Or.inr (Or.inr rfl), lx_g_ap (b1 := [91]) (t1 := [(91, 0, 0)]) mx_q91 (lx_g_na (lx_g_app h mx_q93 (fun q => (by cases q)) (mx_na1 (by unfold lx_al; decide))))⟩
theorem mx_ng {X : List Int32} {T : List Tok} (h : mx_ok X T) : lx_g lx_na (45 :: X) ((45, 0, 0) :: T) := lx_g_ap (b1 := [45]) (t1 := [(45, 0, 0)]) mx_q45 h.2.2
theorem mx_nt {X : List Int32} {T : List Tok} (h : mx_ok X T) : lx_g lx_na (33 :: X) ((33, 0, 0) :: T) :=
  lx_g_app (b1 := [33]) (t1 := [(33, 0, 0)]) (lx_g_s1 (by unfold lx_al; decide)) h.2.2 h.1.1 (mx_hd_ns h.2.1)
theorem mx_op_g : ∀ k, 1 ≤ k → k ≤ 16 → (mx_op k ≠ [] ∧ lx_na (lx_hd (mx_op k)) ∧ (mx_op k).length ≤ 2 ∧ (k = 4 ∨ k = 5 → (mx_op k).length = 1)) ∧ lx_g lx_ns (mx_op k) [((md_op k).1, 0, 0)] := by
  intro k h1 h2
  have z1 : ∀ c : Int32, (¬ lx_al c ∧ c ≠ 32 ∧ c ≠ 10 ∧ 0 ≤ c ∧ c < 128 ∧ ¬ sx_ix c < 0) → lx_g lx_ns [c] [(c, 0, 0)] := fun c h => lx_g_s1 h
  have z2 : ∀ c : Int32, (c = 60 ∨ c = 62 ∨ c = 38 ∨ c = 124) → lx_g lx_ns [c, c] [(256 + c, 0, 0)] := fun c h => lx_g_na (lx_g_s2 h)
  have z3 : ∀ c : Int32, (c = 60 ∨ c = 62 ∨ c = 61 ∨ c = 33) → lx_g lx_ns [c, 61] [(512 + c, 0, 0)] := fun c h => lx_g_na (lx_g_s3 h)
  rcases (by omega : k = 1 ∨ k = 2 ∨ k = 3 ∨ k = 4 ∨ k = 5 ∨ k = 6 ∨ k = 7 ∨ k = 8 ∨ k = 9 ∨ k = 10 ∨ k = 11 ∨ k = 12 ∨ k = 13 ∨ k = 14 ∨ k = 15 ∨ k = 16) with e | e | e | e | e | e | e | e | e | e | e | e | e | e | e | e <;> subst e
  all_goals refine ⟨⟨by decide, by unfold lx_na lx_al; decide, by decide, by decide⟩, ?_⟩
  · exact z1 43 (by unfold lx_al; decide)
  · exact z1 45 (by unfold lx_al; decide)
  · exact z1 42 (by unfold lx_al; decide)
  · exact z1 47 (by unfold lx_al; decide)
  · exact z1 37 (by unfold lx_al; decide)
  · exact z1 38 (by unfold lx_al; decide)
  · exact z1 124 (by unfold lx_al; decide)
  · exact z1 94 (by unfold lx_al; decide)
  · exact z2 60 (by decide)
  · exact z2 62 (by decide)
  · exact z1 60 (by unfold lx_al; decide)
  · exact z3 60 (by decide)
  · exact z1 62 (by unfold lx_al; decide)
  · exact z3 62 (by decide)
  · exact z3 61 (by decide)
  · exact z3 33 (by decide)
theorem mx_two {a b o : List Int32} {ta tb : List Tok} {t : Tok} (ha : mx_ok a ta) (hb : mx_ok b tb) (ho : (o ≠ [] ∧ lx_na (lx_hd o)) ∧ lx_g lx_ns o [t]) : lx_g lx_na (a ++ (o ++ b)) (ta ++ (t :: tb)) := by
  have h1 : lx_g lx_na (o ++ b) ([t] ++ tb) := lx_g_app ho.2 hb.2.2 hb.1.1 (mx_hd_ns hb.2.1)
  refine lx_g_app ha.2.2 h1 (fun q => ho.1.1 (List.append_eq_nil_iff.mp q).1) ?_
  cases o with
  | nil => exact absurd rfl ho.1.1
  | cons c cs => exact ho.1.2
theorem mx_nm_ok {k : Nat} (h : k < 4) : mx_ok (mx_nm k) [(3, 0, md_nm k)] ∧ (mx_nm k).length = 1 := by
  have hw : ∀ c : Int32, (97 ≤ c ∧ c ≤ 122) ∧ lx_kw (lx_nm 0 [c]) = 3 → mx_ok [c] [(3, 0, lx_nm 0 [c])] := fun c hc => ⟨⟨fun q => (by cases q), fun q => (by cases q)⟩, Or.inl (Or.inl hc.1), lx_g_wd (fun q => (by cases q)) hc.1 (fun x hx => by rw [List.mem_singleton.mp hx]; exact Or.inl hc.1) (show 1 ≤ 8 by decide) hc.2.symm (fun _ => rfl)⟩
  rcases (by omega : k = 0 ∨ k = 1 ∨ k = 2 ∨ k = 3) with e | e | e | e <;> subst e
  · exact ⟨hw 97 (by decide), rfl⟩
  · exact ⟨hw 98 (by decide), rfl⟩
  · exact ⟨hw 99 (by decide), rfl⟩
  · exact ⟨hw 100 (by decide), rfl⟩
theorem mx_d_ok {v : Nat} (h : v < 10000) : mx_ok (mp_d v) [(2, pu_I v, 0)] := by
  have hl := mp_d_len v
  refine ⟨⟨fun q => by rw [q] at hl; exact absurd hl.1 (by decide), fun q => (by cases q)⟩, Or.inl (Or.inr ?_), lx_g_d h⟩
  unfold mp_d
  by_cases c1 : v < 10
  · rw [if_pos c1]; exact mp_dg c1
  rw [if_neg c1]
  by_cases c2 : v < 100
  · rw [if_pos c2]; exact mp_dg (by omega)
  rw [if_neg c2]
  by_cases c3 : v < 1000
  · rw [if_pos c3]; exact mp_dg (by omega)
  rw [if_neg c3]; exact mp_dg (by omega)
theorem mp_d_1 {v : Nat} (h : v < 10) : (mp_d v).length = 1 := by
  unfold mp_d
  rw [if_pos h]; rfl
/-- bytes of a part without parts -/
def mx_leaf (dr : Nat → Nat → Nat) (sort : Nat) (s : md_S) : List Int32 :=
  if sort % 2 = 0 then (if dr s.1 4 = 0 then mp_d (dr (s.1 + 1) 5000) else mp_d (dr (s.1 + 1) 9)) else mx_nm (dr s.1 4)
/-- bytes of a part -/
def mx_part (dr : Nat → Nat → Nat) : Nat → md_S → List Int32
  | 0, s => mx_leaf dr (dr s.1 10) (s.1 + 1, s.2.1 + 1, s.2.2)
  | d + 1, s =>
    if 46 < s.2.1 + 1 ∨ dr s.1 10 < 2 then mx_leaf dr (dr s.1 10) (s.1 + 1, s.2.1 + 1, s.2.2)
    else if dr s.1 10 = 2 then 40 :: ((if dr (s.1 + 1) 2 = 0 then 45 else 33) :: mx_part dr d (s.1 + 2, s.2.1 + 1, s.2.2) ++ [41])
    else if dr s.1 10 = 3 then 91 :: (mx_part dr d (s.1 + 1, s.2.1 + 1, s.2.2) ++ [93])
    else if dr s.1 10 = 4 ∧ s.2.2.1 < 8 then
      (fun l : RE × md_S => 40 :: ((mx_part dr d (s.1 + 1, s.2.1 + 1, s.2.2.1 + 1, s.2.2.2) ++ ((if dr l.2.1 2 = 0 then [38, 38] else [124, 124]) ++ mx_part dr d (l.2.1 + 1, l.2.2))) ++ [41])) (md_part dr d (s.1 + 1, s.2.1 + 1, s.2.2.1 + 1, s.2.2.2))
    else (fun k : Nat => (fun l : RE × md_S => 40 :: ((mx_part dr d (s.1 + 2, s.2.1 + 1, s.2.2) ++ (mx_op k ++
      (if k = 4 ∨ k = 5 then (if dr l.2.1 5 = 0 then mx_part dr d (l.2.1 + 1, l.2.2) else mp_d (1 + dr (l.2.1 + 1) 9)) else mx_part dr d l.2))) ++ [41])) (md_part dr d (s.1 + 2, s.2.1 + 1, s.2.2))) (1 + dr (s.1 + 1) 16)
def mx_Q (s : md_S) (bs : List Int32) (r : RE × md_S) : Prop := mx_ok bs (re_tks r.1) ∧ bs.length + 4 * s.2.1 ≤ 4 * r.2.2.1
theorem mx_leaf_ok (hd : ∀ k n, 0 < n → dr k n < n) {sort : Nat} {s : md_S} : mx_Q s (mx_leaf dr sort (s.1 + 1, s.2.1 + 1, s.2.2)) (md_leaf dr sort (s.1 + 1, s.2.1 + 1, s.2.2)) := by
  have hn : ∀ v q, v < 10000 → mx_Q s (mp_d v) (re_nm (pu_I v), (q, s.2.1 + 1, s.2.2)) := fun v q h => ⟨mx_d_ok h, by
    have := (mp_d_len v).2
    show (mp_d v).length + 4 * s.2.1 ≤ 4 * (s.2.1 + 1)
    omega⟩
  unfold mx_leaf md_leaf
  by_cases e : sort % 2 = 0
  · rw [if_pos e, if_pos e]
    by_cases e2 : dr (s.1 + 1) 4 = 0
    · rw [if_pos e2, if_pos e2]
      exact hn _ _ (Nat.lt_of_lt_of_le (hd _ 5000 (by decide)) (by decide))
    · rw [if_neg e2, if_neg e2]
      exact hn _ _ (Nat.lt_of_lt_of_le (hd _ 9 (by decide)) (by decide))
  · rw [if_neg e, if_neg e]
    have h := mx_nm_ok (hd (s.1 + 1) 4 (by decide))
    refine ⟨h.1, ?_⟩
    show (mx_nm _).length + 4 * s.2.1 ≤ 4 * (s.2.1 + 1)
    rw [h.2]; omega
theorem mx_part_ok (hd : ∀ k n, 0 < n → dr k n < n) : ∀ d (s : md_S), mx_Q s (mx_part dr d s) (md_part dr d s) := by
  intro d
  induction d with
  | zero => intro s; exact mx_leaf_ok hd
  | succ d ih =>
    intro s
    unfold md_part mx_part
    by_cases c0 : 46 < s.2.1 + 1 ∨ dr s.1 10 < 2
    · rw [if_pos c0, if_pos c0]
      exact mx_leaf_ok hd
    rw [if_neg c0, if_neg c0]
    by_cases c1 : dr s.1 10 = 2
    · rw [if_pos c1, if_pos c1]
      have h := ih (s.1 + 2, s.2.1 + 1, s.2.2)
      generalize md_part dr d (s.1 + 2, s.2.1 + 1, s.2.2) = l at h ⊢
      generalize mx_part dr d (s.1 + 2, s.2.1 + 1, s.2.2) = x at h ⊢
      have hlen : ∀ c : Int32, (40 :: (c :: x ++ [41])).length + 4 * s.2.1 ≤ 4 * l.2.2.1 := fun c => by
        have := h.2
        simp only [List.length_cons, List.length_append, List.length_nil]
        dsimp only at this
        omega
      by_cases c2 : dr (s.1 + 1) 2 = 0
      · rw [if_pos c2, if_pos c2]
        exact ⟨mx_pr (mx_ng h.1), hlen _⟩
      · rw [if_neg c2, if_neg c2]
        exact ⟨mx_pr (mx_nt h.1), hlen _⟩
    rw [if_neg c1, if_neg c1]
    by_cases c3 : dr s.1 10 = 3
    · rw [if_pos c3, if_pos c3]
      have h := ih (s.1 + 1, s.2.1 + 1, s.2.2)
      refine ⟨mx_ld h.1.2.2, ?_⟩
      have := h.2
      simp only [List.length_cons, List.length_append, List.length_nil]
      dsimp only at this ⊢
      omega
    rw [if_neg c3, if_neg c3]
    by_cases c4 : dr s.1 10 = 4 ∧ s.2.2.1 < 8
    · rw [if_pos c4, if_pos c4]
      have h := ih (s.1 + 1, s.2.1 + 1, s.2.2.1 + 1, s.2.2.2)
      generalize md_part dr d (s.1 + 1, s.2.1 + 1, s.2.2.1 + 1, s.2.2.2) = l at h ⊢
      generalize mx_part dr d (s.1 + 1, s.2.1 + 1, s.2.2.1 + 1, s.2.2.2) = x at h ⊢
      dsimp only
      have h' := ih (l.2.1 + 1, l.2.2)
      generalize md_part dr d (l.2.1 + 1, l.2.2) = r at h' ⊢
      generalize mx_part dr d (l.2.1 + 1, l.2.2) = y at h' ⊢
      have hlen : ∀ o : List Int32, o.length ≤ 2 → (40 :: ((x ++ (o ++ y)) ++ [41])).length + 4 * s.2.1 ≤ 4 * r.2.2.1 := fun o ho => by
        have q1 := h.2
        have q2 := h'.2
        simp only [List.length_cons, List.length_append, List.length_nil]
        dsimp only at q1 q2
        omega
      by_cases c5 : dr l.2.1 2 = 0
      · rw [if_pos c5]
        refine ⟨?_, hlen [38, 38] (by decide)⟩
        show mx_ok _ ((40, 0, 0) :: ((re_tks l.1 ++ ((if decide (dr l.2.1 2 = 0) = true then 294 else 380, 0, 0) :: re_tks r.1)) ++ [(41, 0, 0)]))
        rw [if_pos (decide_eq_true c5)]
        exact mx_pr (mx_two h.1 h'.1 ⟨⟨by decide, by unfold lx_na lx_al; decide⟩, lx_g_na (lx_g_s2 (by decide))⟩)
      · rw [if_neg c5]
        refine ⟨?_, hlen [124, 124] (by decide)⟩
        show mx_ok _ ((40, 0, 0) :: ((re_tks l.1 ++ ((if decide (dr l.2.1 2 = 0) = true then 294 else 380, 0, 0) :: re_tks r.1)) ++ [(41, 0, 0)]))
        rw [if_neg (fun q => c5 (of_decide_eq_true q))]
        exact mx_pr (mx_two h.1 h'.1 ⟨⟨by decide, by unfold lx_na lx_al; decide⟩, lx_g_na (lx_g_s2 (by decide))⟩)
    rw [if_neg c4, if_neg c4]
    have hk16 := hd (s.1 + 1) 16 (by decide)
    obtain ⟨k, hk⟩ : ∃ k, k = 1 + dr (s.1 + 1) 16 := ⟨_, rfl⟩
    rw [← hk]
    dsimp only
    obtain ⟨⟨g1, g2, g3, g5⟩, g4⟩ := mx_op_g k (by omega) (by omega)
    have h := ih (s.1 + 2, s.2.1 + 1, s.2.2)
    generalize md_part dr d (s.1 + 2, s.2.1 + 1, s.2.2) = l at h ⊢
    generalize mx_part dr d (s.1 + 2, s.2.1 + 1, s.2.2) = x at h ⊢
    have htwo : ∀ q2, mx_Q s (40 :: ((x ++ (mx_op k ++ mx_part dr d (q2, l.2.2))) ++ [41])) (re_pr (re_bn (md_op k).1 (pu_I k) (md_op k).2 l.1 (md_part dr d (q2, l.2.2)).1), (md_part dr d (q2, l.2.2)).2) := fun q2 => by
      have h' := ih (q2, l.2.2)
      refine ⟨mx_pr (mx_two h.1 h'.1 ⟨⟨g1, g2⟩, g4⟩), ?_⟩
      have q1 := h.2
      have q2 := h'.2
      simp only [List.length_cons, List.length_append, List.length_nil]
      dsimp only at q1 q2 ⊢
      omega
    by_cases c5 : k = 4 ∨ k = 5
    · rw [if_pos c5, if_pos c5]
      by_cases c6 : dr l.2.1 5 = 0
      · rw [if_pos c6, if_pos c6]
        exact htwo _
      · rw [if_neg c6, if_neg c6]
        have hv : 1 + dr (l.2.1 + 1) 9 < 10 := by have := hd (l.2.1 + 1) 9 (by decide); omega
        refine ⟨mx_pr (mx_two h.1 (mx_d_ok (by omega)) ⟨⟨g1, g2⟩, g4⟩), ?_⟩
        have q1 := h.2
        have q2 := g5 c5
        have q3 := mp_d_1 hv
        simp only [List.length_cons, List.length_append, List.length_nil]
        dsimp only at q1 ⊢
        omega
    · rw [if_neg c5, if_neg c5]
      exact htwo _
end BYP
