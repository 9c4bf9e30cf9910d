/-! pure side, the reader 10: what the reader holds -/
section RDW
/-- the reader within function f: open brackets, variables that are seen, calls noted, loops -/
def rd_w (rw : ST) (rl : SL) (f op : Nat) (sv : List (Int64 × Nat)) (cs : List (Int64 × Nat × Nat)) (lp : Nat) : Prop :=
  (rw 0 3 = pu_I f ∧ rw 0 4 = pu_I op ∧ rw 0 5 < 0 ∧ rw 0 6 = 0 ∧ rw 0 12 = pu_I lp) ∧ (f < 6 ∧ op ≤ 8 ∧ lp ≤ 100) ∧
  (rw 0 9 = pu_I sv.length ∧ sv.length ≤ 320 ∧ ∀ k x, sv[k]? = some x → rl 8 k = x.1 ∧ rw 9 k = pu_I x.2) ∧
  (rw 0 17 = pu_I cs.length ∧ ∀ k x, cs[k]? = some x → rl 14 k = x.1 ∧ rw 15 k = pu_I x.2.1 ∧ rw 17 k = pu_I x.2.2)
variable {rw : ST} {rl : SL} {f op lp : Nat} {sv : List (Int64 × Nat)} {cs : List (Int64 × Nat × Nat)} {tw : ST} {tl : SL} {t : Tok} {ts : List Tok}
/-- how many brackets are open -/
theorem rd_w_op (h : rd_w rw rl f op sv cs lp) {op' : Nat} (ho : op' ≤ 8) : rd_w (upw rw 0 4 (pu_I op')) rl f op' sv cs lp := by
  obtain ⟨⟨a1, a2, a3, a4, a5⟩, ⟨b1, b2, b3⟩, ⟨c1, c2, c3⟩, d1, d2⟩ := h
  have h0 : ∀ j, j ≠ 4 → upw rw 0 4 (pu_I op') 0 j = rw 0 j := fun j hj => by rw [pv_upw, if_neg (fun q => hj q.2)]
  have hr : ∀ r, r ≠ 0 → upw rw 0 4 (pu_I op') r = rw r := fun r hr => pv_upw_n hr
  refine ⟨⟨by rw [h0 3 (by decide)]; exact a1, by rw [pv_upw, if_pos ⟨rfl, rfl⟩], by rw [h0 5 (by decide)]; exact a3, by rw [h0 6 (by decide)]; exact a4, by rw [h0 12 (by decide)]; exact a5⟩, ⟨b1, ho, b3⟩, ⟨by rw [h0 9 (by decide)]; exact c1, c2, fun k x hx => by rw [hr 9 (by decide)]; exact c3 k x hx⟩, by rw [h0 17 (by decide)]; exact d1, fun k x hx => by rw [hr 15 (by decide), hr 17 (by decide)]; exact d2 k x hx⟩
/-- loops -/
theorem rd_w_lp (h : rd_w rw rl f op sv cs lp) {lp' : Nat} (ho : lp' ≤ 100) : rd_w (upw rw 0 12 (pu_I lp')) rl f op sv cs lp' := by
  obtain ⟨⟨a1, a2, a3, a4, a5⟩, ⟨b1, b2, b3⟩, ⟨c1, c2, c3⟩, d1, d2⟩ := h
  have h0 : ∀ j, j ≠ 12 → upw rw 0 12 (pu_I lp') 0 j = rw 0 j := fun j hj => by rw [pv_upw, if_neg (fun q => hj q.2)]
  have hr : ∀ r, r ≠ 0 → upw rw 0 12 (pu_I lp') r = rw r := fun r hr => pv_upw_n hr
  refine ⟨⟨by rw [h0 3 (by decide)]; exact a1, by rw [h0 4 (by decide)]; exact a2, by rw [h0 5 (by decide)]; exact a3, by rw [h0 6 (by decide)]; exact a4, by rw [pv_upw, if_pos ⟨rfl, rfl⟩]⟩, ⟨b1, b2, ho⟩, ⟨by rw [h0 9 (by decide)]; exact c1, c2, fun k x hx => by rw [hr 9 (by decide)]; exact c3 k x hx⟩, by rw [h0 17 (by decide)]; exact d1, fun k x hx => by rw [hr 15 (by decide), hr 17 (by decide)]; exact d2 k x hx⟩
/-- a block ends: what it declared is seen no more -/
theorem rd_w_sn (h : rd_w rw rl f op sv cs lp) {sv' sv2 : List (Int64 × Nat)} (hs : sv = sv' ++ sv2) : rd_w (upw rw 0 9 (pu_I sv'.length)) rl f op sv' cs lp := by
  obtain ⟨⟨a1, a2, a3, a4, a5⟩, b, ⟨c1, c2, c3⟩, d1, d2⟩ := h
  have h0 : ∀ j, j ≠ 9 → upw rw 0 9 (pu_I sv'.length) 0 j = rw 0 j := fun j hj => by rw [pv_upw, if_neg (fun q => hj q.2)]
  have hr : ∀ r, r ≠ 0 → upw rw 0 9 (pu_I sv'.length) r = rw r := fun r hr => pv_upw_n hr
  have hl : sv.length = sv'.length + sv2.length := by rw [hs, List.length_append]
  refine ⟨⟨by rw [h0 3 (by decide)]; exact a1, by rw [h0 4 (by decide)]; exact a2, by rw [h0 5 (by decide)]; exact a3, by rw [h0 6 (by decide)]; exact a4, by rw [h0 12 (by decide)]; exact a5⟩, b, ⟨by rw [pv_upw, if_pos ⟨rfl, rfl⟩], by omega, fun k x hx => ?_⟩, by rw [h0 17 (by decide)]; exact d1, fun k x hx => by rw [hr 15 (by decide), hr 17 (by decide)]; exact d2 k x hx⟩
  rw [hr 9 (by decide)]
  refine c3 k x ?_
  rw [hs, List.getElem?_append_left]
  · exact hx
  · exact (List.getElem?_eq_some_iff.mp hx).1
/-- a token that is no bracket -/
theorem rd_exp {K : Int32} (h : rd_w rw rl f op sv cs lp) (ht : tk_s tw tl (t :: ts)) (hK : t.1 = K) (hk : K ≠ 40 ∧ K ≠ 91 ∧ K ≠ 123 ∧ K ≠ 41 ∧ K ≠ 93 ∧ K ≠ 125) :
    ∃ tw' tl', fX7_expect rw K tw tl = some (rw, tw', tl') ∧ tk_s tw' tl' ts := by
  obtain ⟨tw', tl', e1, e2, _⟩ := tk_adv ht
  obtain ⟨k1, k2, k3, k4, k5, k6⟩ := hk
  refine ⟨tw', tl', ?_, e2⟩
  have h2 : tw 0 2 = K := by rw [← hK]; exact ht.1.1
  unfold fX7_expect fX7_expect_J23 fX7_expect_J52 fX7_expect_J97
  rw [if_neg k1, if_neg k2, if_neg k3, if_pos h2, if_pos rfl, if_pos rfl, if_neg k4, if_neg k5, if_neg k6, e1]
  rfl
/-- a bracket opens -/
theorem rd_exo {K : Int32} (h : rd_w rw rl f op sv cs lp) (ht : tk_s tw tl (t :: ts)) (hK : t.1 = K) (hk : K = 40 ∨ K = 91 ∨ K = 123) (ho : op < 8) :
    ∃ rw' tw' tl', fX7_expect rw K tw tl = some (rw', tw', tl') ∧ rd_w rw' rl f (op + 1) sv cs lp ∧ tk_s tw' tl' ts ∧ rw' 0 9 = rw 0 9 := by
  obtain ⟨tw', tl', e1, e2, _⟩ := tk_adv ht
  have h2 : tw 0 2 = K := by rw [← hK]; exact ht.1.1
  have h4 : rw 0 4 = pu_I op := h.1.2.1
  refine ⟨upw rw 0 4 (pu_I (op + 1)), tw', tl', ?_, rd_w_op h (by omega), e2, by rw [pv_upw, if_neg (by decide)]⟩
  have h18 : fX7_expect rw K tw tl = fX7_expect_J18 rw K tw tl := by
    unfold fX7_expect
    rcases hk with e | e | e <;> subst e
    · rw [if_pos rfl]
    · rw [if_neg (by decide), if_pos rfl]
    · rw [if_neg (by decide), if_neg (by decide), if_pos rfl]
  rw [h18]
  unfold fX7_expect_J18 fX7_expect_J23 fX7_expect_J52 fX7_expect_J97 lt9
  dsimp only
  rw [if_pos h2, if_neg (by decide), if_neg (by rw [h4]; exact fun q => absurd (pu_inj (by omega) (by decide) (q.trans (show (8 : Int32) = pu_I 8 from rfl))) (by omega)), if_neg (by decide), h4, pu_su, e1]
  rfl
/-- a bracket is closed -/
theorem rd_exc {K : Int32} (h : rd_w rw rl f (op + 1) sv cs lp) (ht : tk_s tw tl (t :: ts)) (hK : t.1 = K) (hk : K = 41 ∨ K = 93 ∨ K = 125) :
    ∃ rw' tw' tl', fX7_expect rw K tw tl = some (rw', tw', tl') ∧ rd_w rw' rl f op sv cs lp ∧ tk_s tw' tl' ts := by
  obtain ⟨tw', tl', e1, e2, _⟩ := tk_adv ht
  have h2 : tw 0 2 = K := by rw [← hK]; exact ht.1.1
  have h4 : rw 0 4 = pu_I (op + 1) := h.1.2.1
  have ho := h.2.1.2.1
  refine ⟨upw rw 0 4 (pu_I op), tw', tl', ?_, rd_w_op h (by omega), e2⟩
  have hm : pu_I (op + 1) - 1 = pu_I op := by
    rw [show (1 : Int32) = pu_I 1 from rfl, pu_sub (by omega)]
    rfl
  have h23 : fX7_expect rw K tw tl = fX7_expect_J23 rw K tw tl 0 := by
    unfold fX7_expect
    rcases hk with e | e | e <;> subst e <;> rw [if_neg (by decide), if_neg (by decide), if_neg (by decide)]
  have h52 : fX7_expect_J52 rw K tw tl 0 = fX7_expect_J87 rw tw tl := by
    unfold fX7_expect_J52
    rw [if_pos rfl]
    rcases hk with e | e | e <;> subst e
    · rw [if_pos rfl]
    · rw [if_neg (by decide), if_pos rfl]
    · rw [if_neg (by decide), if_neg (by decide), if_pos rfl]
  rw [h23]
  unfold fX7_expect_J23
  rw [if_pos h2, if_pos rfl, h52]
  unfold fX7_expect_J87 fX7_expect_J97 lt9
  dsimp only
  rw [h4, hm, e1]
  rfl
/-- the height stays low -/
theorem rd_raise {h : Nat} (hh : h < 10) (p : Int32) : fX7_raise rw (pu_I h) p = some (pu_I (h + 1), rw) := by
  unfold fX7_raise fX7_raise_J26
  rw [if_pos (by rw [show (10 : Int32) = pu_I 10 from rfl, pu_lt (by omega) (by decide)]; exact hh), pu_su]
/-- which variable a name is -/
def rd_lk : List (Int64 × Nat) → Int64 → Option Nat
  | [], _ => none
  | (y, v) :: l, x => if y = x then some v else rd_lk l x
theorem rd_lk_L {x : Int64} (h : rd_w rw rl f op sv cs lp) : ∀ (m : List (Int64 × Nat)) (k n : Nat), sv.drop k = m → m.length < n → k + m.length = sv.length →
    fX7_variableOf_L2 rw rl x n (pu_I k) = some (match rd_lk m x with | none => Sum.inr () | some v => Sum.inl (pu_I v)) := by
  obtain ⟨_, _, ⟨c1, c2, c3⟩, _⟩ := h
  intro m
  induction m with
  | nil =>
    intro k n hd hn hl
    obtain ⟨n, rfl⟩ : ∃ q, n = q + 1 := ⟨n - 1, by simp only [List.length_nil] at hn; omega⟩
    simp only [List.length_nil] at hl
    show (if (rw 0 9) ≤ pu_I k then some (Sum.inr ()) else _) = _
    rw [c1, if_pos (by rw [pu_le (by omega) (by omega)]; omega)]
    rfl
  | cons y m ih =>
    intro k n hd hn hl
    obtain ⟨n, rfl⟩ : ∃ q, n = q + 1 := ⟨n - 1, by simp only [List.length_cons] at hn; omega⟩
    simp only [List.length_cons] at hl hn
    have hk : sv[k]? = some y := by
      have := List.getElem?_drop (xs := sv) (i := k) (j := 0)
      rw [hd] at this
      simpa using this.symm
    obtain ⟨g1, g2⟩ := c3 k y hk
    show (if (rw 0 9) ≤ pu_I k then some (Sum.inr ()) else (if ixb (pu_I k) 320 = true then (if (lg_cmp (rl 8 (nn (pu_I k))) x) = 0 then (if ixb (pu_I k) 320 = true then some (Sum.inl (rw 9 (nn (pu_I k)))) else none) else ((fX7_variableOf_L2 rw rl x n) (pu_I k + 1))) else none)) = _
    rw [c1, if_neg (by rw [pu_le (by omega) (by omega)]; omega), if_pos ((pu_ix (by omega)).mpr (by omega)), pu_nn (by omega), g1, if_pos ((pu_ix (by omega)).mpr (by omega)), g2, pu_su]
    obtain ⟨y1, y2⟩ := y
    show _ = some (match (if y1 = x then some y2 else rd_lk m x) with | none => Sum.inr () | some v => Sum.inl (pu_I v))
    by_cases e : y1 = x
    · rw [if_pos ((pv_cmp0 _ _).mpr e), if_pos e]
    · rw [if_neg (fun q => e ((pv_cmp0 _ _).mp q)), if_neg e]
      refine ih (k + 1) n ?_ (by omega) (by omega)
      rw [← List.drop_drop, hd]
      rfl
theorem rd_lk_0 {x : Int64} (h : rd_w rw rl f op sv cs lp) : fX7_variableOf rw rl x = some (match rd_lk sv x with | none => -1 | some v => pu_I v) := by
  have h1 := rd_lk_L (x := x) h sv 0 NF rfl (by have := h.2.2.1.2.1; unfold NF; omega) (by omega)
  unfold fX7_variableOf
  rw [show (0 : Int32) = pu_I 0 from rfl, h1]
  cases rd_lk sv x <;> rfl
theorem rd_seen {x : Int64} {v : Nat} (h : rd_w rw rl f op sv cs lp) (hv : rd_lk sv x = some v) (hv3 : v < 320) (p : Int32) : fX7_seenVariableOf rw rl x p = some (pu_I v, rw) := by
  unfold fX7_seenVariableOf fX7_seenVariableOf_J18
  rw [rd_lk_0 h, hv]
  show (if 0 ≤ pu_I v then some (pu_I v, rw) else _) = _
  rw [if_pos (by rw [show (0 : Int32) = pu_I 0 from rfl, pu_le (by decide) (by omega)]; omega)]
theorem rd_lk_app {x : Int64} {v : Nat} : ∀ (l : List (Int64 × Nat)) (l2 : List (Int64 × Nat)), rd_lk l x = some v → rd_lk (l ++ l2) x = some v
  | [], _, h => by cases h
  | (y, u) :: l, l2, h => by
    show (if y = x then some u else rd_lk (l ++ l2) x) = some v
    have h' : (if y = x then some u else rd_lk l x) = some v := h
    by_cases e : y = x
    · rw [if_pos e] at h' ⊢; exact h'
    · rw [if_neg e] at h' ⊢; exact rd_lk_app l l2 h'
/-- a variable is declared -/
theorem rd_decl {pw : ST} {n L V T lo : Nat} {x : Int64} (h : rd_w rw rl f op sv cs lp) (hq : rd_q f pw n L V T) (hV : V < 320) (hT : T ≤ 1000) (hs : sv.length < 320) :
    ∃ rw' rl' pw', fX7_declare rw rl x pw = some (pu_I V, rw', rl', pw') ∧ rd_w rw' rl' f op (sv ++ [(x, V)]) cs lp ∧ rd_q f pw' n L (V + 1) T ∧ rd_y f lo pw n pw' n L ∧ (∀ r, r ≠ 5 → pw' r = pw r) ∧ rw' 0 3 = rw 0 3 := by
  obtain ⟨⟨a1, a2, a3, a4, a5⟩, ⟨b1, b2, b3⟩, ⟨c1, c2, c3⟩, d1, d2⟩ := h
  obtain ⟨pw', e1, e2, e3, e4⟩ := rd_var hq b1 hV hT (lo := lo)
  have hix : ixb (pu_I sv.length) 320 = true := (pu_ix (by omega)).mpr hs
  obtain ⟨r7, hr7⟩ : ∃ r7, r7 = upw rw 9 sv.length (pu_I V) := ⟨_, rfl⟩
  have h70 : r7 0 = rw 0 := by rw [hr7, pv_upw_n (by decide)]
  have h8 : ∀ j, j ≠ 9 → upw r7 0 9 (pu_I (sv.length + 1)) 0 j = rw 0 j := fun j hj => by rw [pv_upw, if_neg (fun q => hj q.2), h70]
  refine ⟨upw r7 0 9 (pu_I (sv.length + 1)), upl rl 8 sv.length x, pw', ?_, ⟨⟨?_, ?_, ?_, ?_, ?_⟩, ⟨b1, b2, b3⟩, ⟨?_, by rw [List.length_append]; exact hs, fun k y hy => ?_⟩, ?_, fun k y hy => ?_⟩, e2, e3, e4, h8 3 (by decide)⟩
  · unfold fX7_declare fX7_declare_J52 lt9
    dsimp only
    rw [a1, e1]
    show (if 320 ≤ (rw 0 9) then _ else _) = _
    rw [c1, if_neg (by rw [show (320 : Int32) = pu_I 320 from rfl, pu_le (by decide) (by omega)]; omega), if_pos hix, if_pos hix, pu_nn (show sv.length < 2147483648 by omega)]
    dsimp only
    rw [← hr7, h70, c1, pu_su]
  · rw [h8 3 (by decide)]; exact a1
  · rw [h8 4 (by decide)]; exact a2
  · rw [h8 5 (by decide)]; exact a3
  · rw [h8 6 (by decide)]; exact a4
  · rw [h8 12 (by decide)]; exact a5
  · rw [pv_upw, if_pos ⟨rfl, rfl⟩, List.length_append]
    rfl
  · rw [pv_upw_n (by decide), hr7, pv_upl, pv_upw]
    by_cases e : k < sv.length
    · rw [List.getElem?_append_left e] at hy
      rw [if_neg (by omega), if_neg (by omega)]
      exact c3 k y hy
    · rw [List.getElem?_append_right (by omega)] at hy
      by_cases e2 : k = sv.length
      · subst e2
        rw [Nat.sub_self] at hy
        have hy : (x, V) = y := Option.some.inj hy
        subst hy
        rw [if_pos ⟨rfl, rfl⟩, if_pos ⟨rfl, rfl⟩]
        exact ⟨rfl, rfl⟩
      · rw [List.getElem?_eq_none (by simp only [List.length_singleton]; omega)] at hy
        cases hy
  · rw [h8 17 (by decide)]; exact d1
  · rw [pv_upw_n (by decide), pv_upw_n (by decide), hr7, pv_upw_n (by decide), pv_upw_n (by decide), pv_upl_n (by decide)]
    exact d2 k y hy
/-- a call is noted -/
theorem rd_note {pw : ST} {x : Int64} {p : Int32} {n c : Nat} (h : rd_w rw rl f op sv cs lp) (hp : pw 0 7 = pu_I n) (hc : cs.length < 600) :
    ∃ rw' rl', fX7_noteCall rw rl x p (pu_I c) pw = some (rw', rl') ∧ rd_w rw' rl' f op sv (cs ++ [(x, n, c)]) lp := by
  obtain ⟨⟨a1, a2, a3, a4, a5⟩, ⟨b1, b2, b3⟩, ⟨c1, c2, c3⟩, d1, d2⟩ := h
  have hix : ixb (pu_I cs.length) 600 = true := (pu_ix (by omega)).mpr hc
  obtain ⟨r5, hr5⟩ : ∃ r5, r5 = upw rw 15 cs.length (pu_I n) := ⟨_, rfl⟩
  obtain ⟨r7, hr7⟩ : ∃ r7, r7 = upw r5 16 cs.length p := ⟨_, rfl⟩
  obtain ⟨r9, hr9⟩ : ∃ r9, r9 = upw r7 17 cs.length (pu_I c) := ⟨_, rfl⟩
  have h50 : r5 0 = rw 0 := by rw [hr5, pv_upw_n (by decide)]
  have h70 : r7 0 = rw 0 := by rw [hr7, pv_upw_n (by decide), h50]
  have h90 : r9 0 = rw 0 := by rw [hr9, pv_upw_n (by decide), h70]
  have h8 : ∀ j, j ≠ 17 → upw r9 0 17 (pu_I (cs.length + 1)) 0 j = rw 0 j := fun j hj => by rw [pv_upw, if_neg (fun q => hj q.2), h90]
  refine ⟨upw r9 0 17 (pu_I (cs.length + 1)), upl rl 14 cs.length x, ?_, ⟨⟨?_, ?_, ?_, ?_, ?_⟩, ⟨b1, b2, b3⟩, ⟨?_, c2, fun k y hy => ?_⟩, ?_, fun k y hy => ?_⟩⟩
  · unfold fX7_noteCall fX7_noteCall_J67 lt9
    dsimp only
    rw [d1, if_neg (by rw [show (600 : Int32) = pu_I 600 from rfl, pu_le (by decide) (by omega)]; omega), if_pos hix, if_pos hix, pu_nn (show cs.length < 2147483648 by omega), hp, ← hr5, h50, d1, if_pos hix, pu_nn (show cs.length < 2147483648 by omega), ← hr7, h70, d1, if_pos hix, pu_nn (show cs.length < 2147483648 by omega), ← hr9, h90, d1, pu_su]
  · rw [h8 3 (by decide)]; exact a1
  · rw [h8 4 (by decide)]; exact a2
  · rw [h8 5 (by decide)]; exact a3
  · rw [h8 6 (by decide)]; exact a4
  · rw [h8 12 (by decide)]; exact a5
  · rw [h8 9 (by decide)]; exact c1
  · rw [pv_upw_n (by decide), hr9, pv_upw_n (by decide), hr7, pv_upw_n (by decide), hr5, pv_upw_n (by decide), pv_upl_n (by decide)]
    exact c3 k y hy
  · rw [pv_upw, if_pos ⟨rfl, rfl⟩, List.length_append]
    rfl
  · have f15 : upw r9 0 17 (pu_I (cs.length + 1)) 15 k = if k = cs.length then pu_I n else rw 15 k := by
      rw [pv_upw_n (by decide), hr9, pv_upw_n (by decide), hr7, pv_upw_n (by decide), hr5, pv_upw]
      by_cases e : k = cs.length
      · rw [if_pos ⟨rfl, e⟩, if_pos e]
      · rw [if_neg (fun q => e q.2), if_neg e]
    have f17 : upw r9 0 17 (pu_I (cs.length + 1)) 17 k = if k = cs.length then pu_I c else rw 17 k := by
      rw [pv_upw_n (by decide), hr9, pv_upw, hr7, pv_upw_n (by decide), hr5, pv_upw_n (by decide)]
      by_cases e : k = cs.length
      · rw [if_pos ⟨rfl, e⟩, if_pos e]
      · rw [if_neg (fun q => e q.2), if_neg e]
    have f14 : upl rl 14 cs.length x 14 k = if k = cs.length then x else rl 14 k := by
      rw [pv_upl]
      by_cases e : k = cs.length
      · rw [if_pos ⟨rfl, e⟩, if_pos e]
      · rw [if_neg (fun q => e q.2), if_neg e]
    rw [f14, f15, f17]
    by_cases e : k < cs.length
    · rw [List.getElem?_append_left e] at hy
      rw [if_neg (by omega), if_neg (by omega), if_neg (by omega)]
      exact d2 k y hy
    · rw [List.getElem?_append_right (by omega)] at hy
      by_cases e2 : k = cs.length
      · subst e2
        rw [Nat.sub_self] at hy
        have hy : (x, n, c) = y := Option.some.inj hy
        subst hy
        rw [if_pos rfl, if_pos rfl, if_pos rfl]
        exact ⟨rfl, rfl, rfl⟩
      · rw [List.getElem?_eq_none (by simp only [List.length_singleton]; omega)] at hy
        cases hy
end RDW
