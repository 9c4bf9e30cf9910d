/-! pure side, the maker 37: what is wanted ahead of make whole -/
theorem pt_nw_lo {P : ST} {lo lo' vo : Nat → Int32} {a v : Nat} {nw0 : Nat → Int32} : ∀ i, (∀ j, a ≤ j → j < i → lo j = lo' j) → pt_nw P lo vo a nw0 i v = pt_nw P lo' vo a nw0 i v := by
  intro i
  induction i with
  | zero => intro _; rfl
  | succ i ih =>
    intro h
    by_cases hi : i < a
    · rw [pt_nw_a _ _ _ _ _ _ _ (by omega), pt_nw_a _ _ _ _ _ _ _ (by omega)]
    · rw [pt_nw_s (by omega), pt_nw_s (by omega), h i (by omega) (Nat.lt_succ_self i), ih fun j j1 j2 => h j j1 (by omega)]
theorem pt_sl_lo {P : ST} {lo lo' ro ro' vo : Nat → Int32} {a : Nat} : ∀ i, (∀ j, a ≤ j → j < i → lo j = lo' j ∧ ro j = ro' j) → pt_sl P lo ro vo a i = pt_sl P lo' ro' vo a i := by
  intro i
  induction i with
  | zero => intro _; rfl
  | succ i ih =>
    intro h
    by_cases hi : i < a
    · rw [pt_sl_a _ _ _ _ _ _ (by omega), pt_sl_a _ _ _ _ _ _ (by omega)]
    · have h9 := h i (by omega) (Nat.lt_succ_self i)
      have hs : pt_stp P lo ro vo i = pt_stp P lo' ro' vo i := by
        unfold pt_stp
        rw [h9.1, h9.2]
      rw [pt_sl_s (by omega), pt_sl_s (by omega), hs, ih fun j j1 j2 => h j j1 (by omega)]
theorem pt_ev_lo {P : ST} {lo lo' vo : Nat → Int32} {a : Nat} : ∀ i, (∀ j, a ≤ j → j < i → lo j = lo' j) → pt_ev P lo vo a i = pt_ev P lo' vo a i := by
  intro i
  induction i with
  | zero => intro _; rfl
  | succ i ih =>
    intro h
    by_cases hi : i < a
    · rw [pt_ev_a _ _ _ _ _ (by omega), pt_ev_a _ _ _ _ _ (by omega)]
    · rw [pt_ev_s (by omega), pt_ev_s (by omega), h i (by omega) (Nat.lt_succ_self i), ih fun j j1 j2 => h j j1 (by omega)]
theorem pt_ev_or {P : ST} {lo vo : Nat → Int32} {a : Nat} : ∀ i, pt_ev P lo vo a i = -1 ∨ ∃ j, a ≤ j ∧ j < i ∧ pt_en3 (P 9 j) ∧ pt_ev P lo vo a i = pt_va vo (lo j) := by
  intro i
  induction i with
  | zero => exact Or.inl rfl
  | succ i ih =>
    by_cases hi : i < a
    · exact Or.inl (pt_ev_a _ _ _ _ _ (by omega))
    · rw [pt_ev_s (by omega)]
      by_cases h3 : pt_en3 (P 9 i)
      · rw [if_pos h3]
        exact Or.inr ⟨i, by omega, Nat.lt_succ_self i, h3, rfl⟩
      · rw [if_neg h3]
        exact ih.imp id fun ⟨j, j1, j2, j3⟩ => ⟨j, j1, by omega, j3⟩
/-- all that make asks of a function's text -/
def pt_fn (P : ST) (f a0 a1 Vn fs : Nat) (A : Nat → Nat → Prop) : Prop :=
  (f < 6 ∧ P 5 f = pu_I Vn ∧ P 6 f = pu_I a0 ∧ P 7 f = pu_I a1 ∧ a1 ≤ 3200 ∧ Vn ≤ 16) ∧ pt_tx P a0 a1 Vn A ∧
  (∀ i, a0 ≤ i → i < a1 → P 9 i = 35 ∨ P 9 i = 22 ∨ P 9 i = 33 ∨ P 9 i = 34 → ixb (P 10 i) 640 = true) ∧ (∀ i j, a0 ≤ i → i < a1 → a0 ≤ j → j < a1 → P 9 i = 35 → P 9 j = 35 → P 10 i = P 10 j → i = j) ∧
  (∀ j s, a0 ≤ j → j < a1 → (P 9 j = 22 ∨ P 9 j = 33 ∨ P 9 j = 34) → pt_lab P a0 a1 j s → P 13 (nn (P 10 j)) = pu_I s) ∧
  (1 + (pt_ks P a0 a1 pt_q35).length + 3 * (pt_ks P a0 a1 pt_q33).length ≤ 60 ∧ pt_c P a0 a1 ≤ 640 ∧ Vn * ((pt_ks P a0 a1 pt_q33).length + 1) + pt_gc P a0 a1 ≤ 250) ∧ pt_Qc P a0 a1 ∧
  (∀ i, a0 ≤ i → i < a1 → (P 9 i = 20 → ixb (P 10 i) fs = true) ∧ (P 9 i = 21 → ixb (P 10 i) (nn (P 4 f)) = true))
section PR
variable {P w w' : ST} {a0 a1 Vn B : Nat} {A : Nat → Nat → Prop} {po : Nat → Int32} {fo ot pj : Nat → Nat}
theorem pt_tab_e (h7 : w' 7 = w 7) (h8 : w' 8 = w 8) (h9 : w' 9 = w 9) (h10 : w' 10 = w 10) (h13 : w' 13 = w 13) (h : pt_tab P a0 a1 w) : pt_tab P a0 a1 w' := by
  intro j j1 j2 j3
  have h9' := h j j1 j2 j3
  unfold pt_1 pt_2 at h9' ⊢
  rw [h7, h8, h9, h10, h13]
  exact h9'
theorem pt_bk_e (h8 : w' 8 = w 8) (h10 : w' 10 = w 10) (h11 : w' 11 = w 11) (h : pt_bk P a0 a1 w po B fo ot pj) : pt_bk P a0 a1 w' po B fo ot pj := by
  unfold pt_bk pt_bd pt_ld pt_ldn at h ⊢
  rw [h8, h10, h11]
  exact h
/-- the ends of blocks -/
theorem pt_ends (hbk : pt_bk P a0 a1 w po B fo ot pj) (hB : B ≤ 60) {b : Nat} (hb : b < B) :
    (w 8 b = 22 ∨ w 8 b = 23 ∨ w 8 b = 24) ∧ ((w 8 b = 22 → ¬ w 10 b < 0 ∧ w 11 b < 0) ∧ (w 8 b = 23 → ¬ w 10 b < 0 ∧ ¬ w 11 b < 0) ∧ (w 8 b = 24 → w 10 b < 0 ∧ w 11 b < 0)) := by
  obtain ⟨b1, b2, b3, _⟩ := hbk
  have hge : ∀ {x : Int32} {c : Nat}, c < B → x = pu_I c → ¬ x < 0 := fun hc h => by rw [h]; exact pu_ge (by omega)
  have hld : ∀ {x : Int32} {s : Nat}, pt_ld w po B fo x s → ¬ x < 0 := by
    intro x s ⟨t, t1, _, _, t4⟩
    rcases t4 with h | ⟨z, z1, _, z3, _⟩
    · exact hge t1 h
    · exact hge z1 z3
  have h22 : w 8 b = 22 → ¬ w 10 b < 0 → w 11 b < 0 → (w 8 b = 22 ∨ w 8 b = 23 ∨ w 8 b = 24) ∧ ((w 8 b = 22 → ¬ w 10 b < 0 ∧ w 11 b < 0) ∧ (w 8 b = 23 → ¬ w 10 b < 0 ∧ ¬ w 11 b < 0) ∧ (w 8 b = 24 → w 10 b < 0 ∧ w 11 b < 0)) := fun h h1 h2 =>
    ⟨Or.inl h, fun _ => ⟨h1, h2⟩, fun h9 => by rw [h] at h9; exact absurd h9 (by decide), fun h9 => by rw [h] at h9; exact absurd h9 (by decide)⟩
  have h23 : w 8 b = 23 → ¬ w 10 b < 0 → ¬ w 11 b < 0 → (w 8 b = 22 ∨ w 8 b = 23 ∨ w 8 b = 24) ∧ ((w 8 b = 22 → ¬ w 10 b < 0 ∧ w 11 b < 0) ∧ (w 8 b = 23 → ¬ w 10 b < 0 ∧ ¬ w 11 b < 0) ∧ (w 8 b = 24 → w 10 b < 0 ∧ w 11 b < 0)) := fun h h1 h2 =>
    ⟨Or.inr (Or.inl h), fun h9 => by rw [h] at h9; exact absurd h9 (by decide), fun _ => ⟨h1, h2⟩, fun h9 => by rw [h] at h9; exact absurd h9 (by decide)⟩
  by_cases hn : po b < 0
  · obtain ⟨_, _, h8, h11, t, t1, _, t3⟩ := b2 b hb hn
    exact h22 h8 (hge t1 t3) h11
  · obtain ⟨_, _, c3, _, _, g1, g2, g3, g4, g5⟩ := b1 b hb hn
    rcases c3 with (h | h | h | h) | h
    · obtain ⟨k1, k2, s, _, k3⟩ := g2 h
      exact h22 k1 (hld k3) k2
    · obtain ⟨k1, s, _, k2, k3⟩ := g3 h
      exact h23 k1 (hld k2) (hld k3)
    · obtain ⟨k1, s, _, k2, k3⟩ := g4 h
      exact h23 k1 (hld k2) (hld k3)
    · obtain ⟨k1, k2, k3⟩ := g5 h
      exact ⟨Or.inr (Or.inr k1), fun h9 => by rw [k1] at h9; exact absurd h9 (by decide), fun h9 => by rw [k1] at h9; exact absurd h9 (by decide), fun _ => ⟨k2, k3⟩⟩
    · obtain ⟨k1, k2, k3⟩ := g1 h
      exact h22 k1 (hld (pt_ldn_ld k3)) k2
theorem pt_sw_of (hbk : pt_bk P a0 a1 w po B fo ot pj) (hB : B ≤ 60) (hsv : pv_sv B w) {F : pu_Flow} (hF : ∀ b, b < B → (F b).2.2.1 = w 8 b ∧ (F b).2.2.2.2.1 = w 10 b ∧ (F b).2.2.2.2.2 = w 11 b) : pt_sw F w B := by
  have key : ∀ p c, p < B → (pu_sc F p c ↔ c < B ∧ pv_eg w p c) := by
    intro p c hp
    obtain ⟨f1, f2, f3⟩ := hF p hp
    obtain ⟨e1, e2, e3, e4⟩ := pt_ends hbk hB hp
    obtain ⟨s1, s2⟩ := hsv p hp
    unfold pu_sc pv_eg
    rw [f1, f2, f3]
    rcases e1 with h | h | h
    · obtain ⟨g1, g2⟩ := e2 h
      obtain ⟨x, x1, x2⟩ := s1.resolve_left g1
      rw [h]
      constructor
      · rintro ⟨_, h9 | ⟨h9, _⟩⟩
        · rw [x2, pu_nn (by omega)] at h9
          exact ⟨by omega, Or.inl (by rw [h9]; exact x2)⟩
        · exact absurd h9 (by decide)
      · rintro ⟨hc, h9 | h9⟩
        · exact ⟨by decide, Or.inl (by rw [h9, pu_nn (by omega)])⟩
        · rw [h9] at g2
          exact absurd g2 (pu_ge (by omega))
    · obtain ⟨g1, g2⟩ := e3 h
      obtain ⟨x, x1, x2⟩ := s1.resolve_left g1
      obtain ⟨y, y1, y2⟩ := s2.resolve_left g2
      rw [h]
      constructor
      · rintro ⟨_, h9 | ⟨_, h9⟩⟩
        · rw [x2, pu_nn (by omega)] at h9
          exact ⟨by omega, Or.inl (by rw [h9]; exact x2)⟩
        · rw [y2, pu_nn (by omega)] at h9
          exact ⟨by omega, Or.inr (by rw [h9]; exact y2)⟩
      · rintro ⟨hc, h9 | h9⟩
        · exact ⟨by decide, Or.inl (by rw [h9, pu_nn (by omega)])⟩
        · exact ⟨by decide, Or.inr ⟨rfl, by rw [h9, pu_nn (by omega)]⟩⟩
    · obtain ⟨g1, g2⟩ := e4 h
      rw [h]
      constructor
      · rintro ⟨h9, _⟩
        exact absurd rfl h9
      · rintro ⟨hc, h9 | h9⟩
        · rw [h9] at g1; exact absurd g1 (pu_ge (by omega))
        · rw [h9] at g2; exact absurd g2 (pu_ge (by omega))
  exact ⟨fun p c hp hc => ⟨fun h => ((key p c hp).mp h).2, fun h => (key p c hp).mpr ⟨hc, h⟩⟩, fun p c hp h => ((key p c hp).mp h).1⟩
/-- what is surely assigned at a place of a block, without an assignment ahead of it in the block -/
theorem pt_A_back (hbk : pt_bk P a0 a1 w po B fo ot pj) (htx : pt_tx P a0 a1 Vn A) {b v : Nat} (hb : b < B) (hn : ¬ po b < 0) : ∀ i, fo b ≤ i → i ≤ pj b → ¬ pt_asg P (fo b) i v → A i v → A (fo b) v := by
  obtain ⟨p1, p2, p3, p4, p5, _⟩ := hbk.1 b hb hn
  obtain ⟨z1, z2, _⟩ := pt_piece (P := P) (a0 := a0) (pj b) p1
  have hfr := pt_fr_le (P := P) (a := a0) (pj b) p1
  intro i
  induction i with
  | zero => intro h _ _ ha; rw [show fo b = 0 by omega]; exact ha
  | succ i ih =>
    intro h1 h2 hno ha
    by_cases e : fo b = i + 1
    · rw [e]; exact ha
    · have hnl : ¬ pt_leap P i := by
        intro hl
        by_cases e9 : i = pt_fr P a0 (pj b)
        · rcases z2 (by omega) with h | h
          · rw [← e9] at h
            rcases hl with h8 | h8 | h8 | h8 <;> (rw [h] at h8; exact absurd h8 (by decide))
          · rw [← e9] at h
            exact h (Or.inl hl)
        · exact z1 i (by omega) (by omega) (Or.inl hl)
      rcases htx.2.2.2.1.2.1 i v (by omega) (by omega) (fun h => hnl (Or.inl h)) (fun h => hnl (Or.inr (Or.inr (Or.inr h)))) ha with h | h
      · exact ih (by omega) (by omega) (fun ⟨z, z1, z2, z3⟩ => hno ⟨z, z1, by omega, z3⟩) h
      · exact absurd ⟨i, by omega, Nat.lt_succ_self i, h⟩ hno
/-- what is wanted somewhere is surely assigned there -/
theorem pt_A_wcl {l : SL} (hB : B ≤ 60) (hbk : pt_bk P a0 a1 w po B fo ot pj) (htx : pt_tx P a0 a1 Vn A) {v : Nat} (hu : ∀ x, x < B → (pv_bt (l 17 v) x = true ↔ pt_asg P (fo x) (ot x) v) ∧ (pv_bt (l 16 v) x = true ↔ pt_use P (fo x) (ot x) v)) (hsv : pv_sv B w) : pt_wcl l w B v (fun b => b < B ∧ A (pt_psn po w fo b) v) := by
  have hfo : ∀ b, b < B → ¬ po b < 0 → pt_psn po w fo b = fo b := fun b _ hn => if_neg hn
  refine ⟨fun b hb h => ⟨hb, ?_⟩, fun b c hb he hX hna => ⟨hb, ?_⟩⟩
  · obtain ⟨j, j1, j2, ⟨j3, j4⟩, j5⟩ := (hu b hb).2.mp h
    obtain ⟨ja, ja1, hn⟩ := pt_inn hbk hb j1 j2
    rw [hfo b hb hn]
    obtain ⟨p1, p2, p3, p4, p5, _⟩ := hbk.1 b hb hn
    refine pt_A_back hbk htx hb hn j j1 ?_ j5 (htx.2.2.2.1.2.2.2 j v ja ja1 j3 j4)
    rw [p5] at j2
    unfold pt_to at j2
    by_cases h35 : P 9 (pj b) = 35
    · rw [if_pos h35] at j2; omega
    · rw [if_neg h35] at j2; omega
  · obtain ⟨hc, hA⟩ := hX
    rcases pt_edge hB hbk hb hc he with ⟨_, h2, _⟩ | ⟨hn, h2⟩
    · rw [← h2]; exact hA
    · rw [hfo b hb hn]
      obtain ⟨p1, p2, p3, p4, p5, _⟩ := hbk.1 b hb hn
      have hfr := pt_fr_le (P := P) (a := a0) (pj b) p1
      have hno : ¬ pt_asg P (fo b) (pj b) v := fun ⟨z, z1, z2, z3⟩ => hna ((hu b hb).1.mpr ⟨z, z1, by
        rw [p5]
        unfold pt_to
        by_cases h35 : P 9 (pj b) = 35
        · rw [if_pos h35]; exact z2
        · rw [if_neg h35]; omega, z3⟩)
      refine pt_A_back hbk htx hb hn (pj b) (by omega) (Nat.le_refl _) hno ?_
      rcases h2 with ⟨k1, k2⟩ | ⟨k1, k2⟩ | ⟨k1, k2⟩
      · rw [k2] at hA; exact hA
      · rw [k2] at hA
        rcases htx.2.2.2.1.2.1 (pj b) v p1 p2 (by rcases k1 with h | h <;> rw [h] <;> decide) (by rcases k1 with h | h <;> rw [h] <;> decide) hA with h | h
        · exact h
        · exact absurd h.1 (by rcases k1 with h | h <;> rw [h] <;> decide)
      · exact htx.2.2.2.1.2.2.1 (pj b) _ v p1 p2 k1 k2 hA
end PR
