/-! pure side, the maker 26: blocks and places -/
noncomputable def pt_pj (P : ST) (a0 a1 : Nat) (po : Nat → Int32) (b : Nat) : Nat := Classical.epsilon fun j => a0 ≤ j ∧ j < a1 ∧ pt_cut P j ∧ po b = pu_I (pt_c P a0 j)
noncomputable def pt_fo (P : ST) (a0 a1 : Nat) (po : Nat → Int32) (b : Nat) : Nat := if po b < 0 then 0 else pt_fr P a0 (pt_pj P a0 a1 po b)
noncomputable def pt_ot (P : ST) (a0 a1 : Nat) (po : Nat → Int32) (b : Nat) : Nat := if po b < 0 then 0 else pt_to P (pt_pj P a0 a1 po b)
/-- a way leads to the block that begins at a place, straight or by a block without ops -/
def pt_ld (w : ST) (po : Nat → Int32) (B : Nat) (fo : Nat → Nat) (x : Int32) (s : Nat) : Prop := ∃ t, t < B ∧ ¬ po t < 0 ∧ fo t = s ∧ (x = pu_I t ∨ ∃ z, z < B ∧ po z < 0 ∧ x = pu_I z ∧ w 10 z = pu_I t)
/-- the same, the block has ops -/
def pt_ldn (w : ST) (po : Nat → Int32) (B : Nat) (fo ot : Nat → Nat) (x : Int32) (s : Nat) : Prop := ∃ t, t < B ∧ ¬ po t < 0 ∧ fo t = s ∧ s < ot t ∧ (x = pu_I t ∨ ∃ z, z < B ∧ po z < 0 ∧ x = pu_I z ∧ w 10 z = pu_I t)
theorem pt_ldn_ld {w : ST} {po : Nat → Int32} {B : Nat} {fo ot : Nat → Nat} {x : Int32} {s : Nat} (h : pt_ldn w po B fo ot x s) : pt_ld w po B fo x s := by
  obtain ⟨t, t1, t2, t3, _, t4⟩ := h
  exact ⟨t, t1, t2, t3, t4⟩
def pt_bd (P : ST) (a0 a1 : Nat) (w : ST) (po : Nat → Int32) (B : Nat) (fo ot : Nat → Nat) (b j : Nat) : Prop :=
  (P 9 j = 35 → w 8 b = 22 ∧ w 11 b < 0 ∧ pt_ldn w po B fo ot (w 10 b) j) ∧
  (P 9 j = 22 → w 8 b = 22 ∧ w 11 b < 0 ∧ ∃ s, pt_lab P a0 a1 j s ∧ pt_ld w po B fo (w 10 b) s) ∧
  (P 9 j = 33 → w 8 b = 23 ∧ ∃ s, pt_lab P a0 a1 j s ∧ pt_ld w po B fo (w 10 b) (j + 1) ∧ pt_ld w po B fo (w 11 b) s) ∧
  (P 9 j = 34 → w 8 b = 23 ∧ ∃ s, pt_lab P a0 a1 j s ∧ pt_ld w po B fo (w 10 b) s ∧ pt_ld w po B fo (w 11 b) (j + 1)) ∧
  (P 9 j = 24 → w 8 b = 24 ∧ w 10 b < 0 ∧ w 11 b < 0)
/-- the blocks of a text -/
def pt_bk (P : ST) (a0 a1 : Nat) (w : ST) (po : Nat → Int32) (B : Nat) (fo ot pj : Nat → Nat) : Prop :=
  (∀ b, b < B → ¬ po b < 0 → a0 ≤ pj b ∧ pj b < a1 ∧ pt_cut P (pj b) ∧ fo b = pt_fr P a0 (pj b) ∧ ot b = pt_to P (pj b) ∧ pt_bd P a0 a1 w po B fo ot b (pj b)) ∧
  (∀ b, b < B → po b < 0 → fo b = 0 ∧ ot b = 0 ∧ w 8 b = 22 ∧ w 11 b < 0 ∧ ∃ t, t < B ∧ ¬ po t < 0 ∧ w 10 b = pu_I t) ∧
  (∀ b c, b < B → c < B → ¬ po b < 0 → ¬ po c < 0 → pj b = pj c → b = c) ∧ (¬ po 0 < 0 ∧ fo 0 = a0)
section BK
variable {P w mw : ST} {a0 a1 B : Nat} {F G po : Nat → Int32}
theorem pt_kem {F G : Nat → Int32} {p : Nat} : (F p < 0 → G p < 0 → pt_ke F G p = 24) ∧ (¬ F p < 0 → G p < 0 → pt_ke F G p = 22) ∧ (¬ G p < 0 → pt_ke F G p = 23) := by
  unfold pt_ke
  exact ⟨fun h1 h2 => by rw [if_pos h2, if_pos h1], fun h1 h2 => by rw [if_pos h2, if_neg h1], fun h => if_neg h⟩
theorem pt_blocks (hK : pt_c P a0 a1 ≤ 640) (hcl : ∃ z, a0 ≤ z ∧ z < a1 ∧ pt_cut P z) (hps : ∀ j, a0 ≤ j → j < a1 → pt_cut P j → pt_ps P a0 a1 F G j) (hB : B ≤ 60) (hB0 : 0 < B) (hb : pt_nbk (pt_c P a0 a1) F G w po B) :
    pt_bk P a0 a1 w po B (pt_fo P a0 a1 po) (pt_ot P a0 a1 po) (pt_pj P a0 a1 po) ∧ (∀ b, b < B → ¬ po b < 0 → po b = pu_I (pt_c P a0 (pt_pj P a0 a1 po b))) := by
  obtain ⟨n1, n2, n3, n4, n5⟩ := hb
  have hge : ∀ p, p < pt_c P a0 a1 → ¬ pu_I p < 0 := fun p hp => pu_ge (by omega)
  have hpj : ∀ b q, q < pt_c P a0 a1 → po b = pu_I q → a0 ≤ pt_pj P a0 a1 po b ∧ pt_pj P a0 a1 po b < a1 ∧ pt_cut P (pt_pj P a0 a1 po b) ∧ pt_c P a0 (pt_pj P a0 a1 po b) = q := by
    intro b q hq hp
    obtain ⟨j, j1, j2, j3, j4⟩ := pt_cut_of a1 hq
    have h9 := Classical.epsilon_spec (p := fun j => a0 ≤ j ∧ j < a1 ∧ pt_cut P j ∧ po b = pu_I (pt_c P a0 j)) ⟨j, j1, j2, j3, by rw [hp, j4]⟩
    refine ⟨h9.1, h9.2.1, h9.2.2.1, ?_⟩
    have h8 : pt_c P a0 (pt_pj P a0 a1 po b) < pt_c P a0 a1 := pt_c_lt h9.1 h9.2.1 h9.2.2.1
    exact pu_inj (by omega) (by omega) (h9.2.2.2.symm.trans hp)
  have hpc : ∀ b, b < B → ¬ po b < 0 → ∃ q, q < pt_c P a0 a1 ∧ po b = pu_I q := by
    intro b hb h
    rcases n3 b hb with h9 | ⟨h9, _⟩
    · exact h9
    · rw [h9] at h; exact absurd (by decide) h
  -- a piece's block
  have hst : ∀ t q s, q < pt_c P a0 a1 → po t = pu_I q → pt_st P a0 a1 q s → ¬ po t < 0 ∧ pt_fo P a0 a1 po t = s := by
    intro t q s hq hp ⟨j, j1, j2, j3, j4, j5⟩
    have hn : ¬ po t < 0 := by rw [hp]; exact hge q hq
    obtain ⟨p1, p2, p3, p4⟩ := hpj t q hq hp
    refine ⟨hn, ?_⟩
    unfold pt_fo
    rw [if_neg hn, pt_cut_un p1 j1 p3 j3 (by rw [p4, j4]), j5]
  have hm1 : ∀ z : Int32, z = -1 → z < 0 := fun z h => by rw [h]; decide
  refine ⟨⟨fun b hb hn => ?_, fun b hb hn => ?_, fun b c hb hc hnb hnc he => ?_, by rw [n1]; exact ⟨hge 0 (by
    obtain ⟨z, z1, z2, z3⟩ := hcl
    have := pt_c_lt z1 z2 z3
    omega), (hst 0 0 a0 (by
    obtain ⟨z, z1, z2, z3⟩ := hcl
    have := pt_c_lt z1 z2 z3
    omega) n1 (pt_first hcl)).2⟩⟩, fun b hb hn => by
    obtain ⟨q, q1, q2⟩ := hpc b hb hn
    rw [(hpj b q q1 q2).2.2.2, q2]⟩
  · obtain ⟨q, q1, q2⟩ := hpc b hb hn
    obtain ⟨p1, p2, p3, p4⟩ := hpj b q q1 q2
    obtain ⟨k1, k2, k3, k4, k5⟩ := n2 b q hb q1 q2
    obtain ⟨h1, h2, h3, h4, h5⟩ := hps _ p1 p2 p3
    rw [p4] at h1 h2 h3 h4 h5
    have hld1 : ∀ q' s, F q = pu_I q' → pt_st P a0 a1 q' s → pt_ld w po B (pt_fo P a0 a1 po) (w 10 b) s := by
      intro q' s e hs
      obtain ⟨t, t1, t2, t3⟩ := k4 q' (pt_st_lt hs) e
      obtain ⟨u1, u2⟩ := hst t q' s (pt_st_lt hs) t2 hs
      exact ⟨t, t1, u1, u2, t3.imp id fun ⟨z, z1, z2, z3, z4⟩ => ⟨z, z1, hm1 _ z2, z3, z4⟩⟩
    have hld2 : ∀ q' s, G q = pu_I q' → pt_st P a0 a1 q' s → pt_ld w po B (pt_fo P a0 a1 po) (w 11 b) s := by
      intro q' s e hs
      obtain ⟨t, t1, t2, t3⟩ := k5 q' (pt_st_lt hs) e
      obtain ⟨u1, u2⟩ := hst t q' s (pt_st_lt hs) t2 hs
      exact ⟨t, t1, u1, u2, t3.imp id fun ⟨z, z1, z2, z3, z4⟩ => ⟨z, z1, hm1 _ z2, z3, z4⟩⟩
    have hgF : ∀ q' s, F q = pu_I q' → pt_st P a0 a1 q' s → ¬ F q < 0 := fun q' s e hs => by rw [e]; exact hge q' (pt_st_lt hs)
    have hgG : ∀ q' s, G q = pu_I q' → pt_st P a0 a1 q' s → ¬ G q < 0 := fun q' s e hs => by rw [e]; exact hge q' (pt_st_lt hs)
    refine ⟨p1, p2, p3, by unfold pt_fo; rw [if_neg hn], by unfold pt_ot; rw [if_neg hn], fun h => ?_, fun h => ?_, fun h => ?_, fun h => ?_, fun h => ?_⟩
    · obtain ⟨q', c0, c1, c2, c3⟩ := h1 h
      refine ⟨by rw [k1, pt_kem.2.1 (hgF _ _ c2 c1) c3], k3 c3, ?_⟩
      obtain ⟨t, t1, t2, t3⟩ := k4 q' (pt_st_lt c1) c2
      obtain ⟨u1, u2⟩ := hst t q' _ (pt_st_lt c1) t2 c1
      refine ⟨t, t1, u1, u2, ?_, t3.imp id fun ⟨z, z1, z2, z3, z4⟩ => ⟨z, z1, hm1 _ z2, z3, z4⟩⟩
      obtain ⟨v1, v2, v3, v4⟩ := hpj t q' (pt_st_lt c1) t2
      have hgt : pt_pj P a0 a1 po b < pt_pj P a0 a1 po t := by
        refine Classical.byContradiction fun hle => ?_
        have := pt_c_le (P := P) (a := a0) (show pt_pj P a0 a1 po t ≤ pt_pj P a0 a1 po b by omega)
        omega
      unfold pt_ot
      rw [if_neg u1]
      unfold pt_to
      by_cases h35 : P 9 (pt_pj P a0 a1 po t) = 35
      · rw [if_pos h35]; exact hgt
      · rw [if_neg h35]; omega
    · obtain ⟨q', s, _, c0, c1, c2, c3⟩ := h2 h
      exact ⟨by rw [k1, pt_kem.2.1 (hgF _ _ c2 c1) c3], k3 c3, s, c0, hld1 q' _ c2 c1⟩
    · obtain ⟨q', q'', s, _, c0, c1, c2, c3, c4⟩ := h3 h
      exact ⟨by rw [k1, pt_kem.2.2 (hgG _ _ c4 c2)], s, c0, hld1 q' _ c3 c1, hld2 q'' _ c4 c2⟩
    · obtain ⟨q', q'', s, _, c0, c1, c2, c3, c4⟩ := h4 h
      exact ⟨by rw [k1, pt_kem.2.2 (hgG _ _ c4 c2)], s, c0, hld1 q' _ c3 c1, hld2 q'' _ c4 c2⟩
    · obtain ⟨c1, c2⟩ := h5 h
      exact ⟨by rw [k1, pt_kem.1 c1 c2], k2 c1, k3 c2⟩
  · rcases n3 b hb with ⟨p, p1, p2⟩ | ⟨_, h8, h11, t, p, t1, t2, t3, t4⟩
    · exact absurd hn (by rw [p2]; exact hge p p1)
    · exact ⟨if_pos hn, if_pos hn, h8, h11, t, t1, by rw [t3]; exact hge p t2, t4⟩
  · obtain ⟨q, q1, q2⟩ := hpc b hb hnb
    obtain ⟨q', q1', q2'⟩ := hpc c hc hnc
    have h1 := (hpj b q q1 q2).2.2.2
    have h2 := (hpj c q' q1' q2').2.2.2
    rw [he] at h1
    exact n4 b c q hb hc q1 q2 (by rw [q2', ← h1, h2])
/-- what stands in a piece: a label at its beginning, a leap at its end, nothing else of the kind -/
theorem pt_piece : ∀ j, a0 ≤ j → (∀ x, pt_fr P a0 j < x → x < j → ¬ pt_cut P x) ∧ (pt_fr P a0 j < j → P 9 (pt_fr P a0 j) = 35 ∨ ¬ pt_cut P (pt_fr P a0 j)) ∧ pt_c P a0 j = pt_c P a0 (pt_fr P a0 j) + (if pt_fr P a0 j < j ∧ P 9 (pt_fr P a0 j) = 35 then 1 else 0) := by
  intro j
  induction j with
  | zero =>
    intro h
    rw [pt_fr_a P a0 0 (by omega)]
    exact ⟨fun x x1 x2 => absurd x2 (Nat.not_lt_zero x), fun h => absurd h (Nat.not_lt_zero _), by rw [if_neg fun h => absurd h.1 (Nat.not_lt_zero _), show a0 = 0 by omega]; rfl⟩
  | succ j ih =>
    intro h
    by_cases e : a0 = j + 1
    · rw [pt_fr_a P a0 (j + 1) (by omega), e]
      exact ⟨fun x x1 x2 => by omega, fun h => absurd h (Nat.lt_irrefl _), by rw [if_neg fun h => absurd h.1 (Nat.lt_irrefl _)]; rfl⟩
    · obtain ⟨i1, i2, i3⟩ := ih (by omega)
      have hle := (pt_fr_le (P := P) (a := a0) j (by omega)).2
      rw [pt_fr_s (by omega)]
      by_cases h35 : P 9 j = 35
      · rw [if_pos h35]
        refine ⟨fun x x1 x2 => by omega, fun _ => Or.inl h35, ?_⟩
        rw [if_pos ⟨Nat.lt_succ_self j, h35⟩, pt_c_s (by omega), if_pos (Or.inr h35)]
      · rw [if_neg h35]
        by_cases hl : pt_leap P j
        · rw [if_pos hl]
          refine ⟨fun x x1 x2 => by omega, fun h => absurd h (Nat.lt_irrefl _), ?_⟩
          rw [if_neg fun h => absurd h.1 (Nat.lt_irrefl _)]
          rfl
        · rw [if_neg hl]
          have hc : ¬ pt_cut P j := fun h => h.elim hl h35
          refine ⟨fun x x1 x2 => ?_, fun h9 => ?_, ?_⟩
          · by_cases ex : x = j
            · rw [ex]; exact hc
            · exact i1 x x1 (by omega)
          · by_cases ex : pt_fr P a0 j = j
            · rw [ex]; exact Or.inr hc
            · exact i2 (by omega)
          · rw [pt_c_s (by omega), if_neg hc, Nat.add_zero, i3]
            congr 1
            by_cases ex : pt_fr P a0 j = j
            · rw [ex, if_neg fun h => absurd h.1 (Nat.lt_irrefl _), if_neg fun h => h35 h.2]
            · by_cases e35 : P 9 (pt_fr P a0 j) = 35
              · rw [if_pos ⟨by omega, e35⟩, if_pos ⟨by omega, e35⟩]
              · rw [if_neg fun h => e35 h.2, if_neg fun h => e35 h.2]
/-- which piece a place is in -/
theorem pt_home {j i : Nat} (ha : a0 ≤ j) (hc : pt_cut P j) (h1 : pt_fr P a0 j ≤ i) (h2 : i < pt_to P j) : pt_c P a0 j = pt_c P a0 i + (if P 9 i = 35 then 1 else 0) := by
  obtain ⟨p1, p2, p3⟩ := pt_piece (P := P) (a0 := a0) j ha
  have hfr := pt_fr_le (P := P) (a := a0) j ha
  unfold pt_to at h2
  by_cases hij : i = j
  · rw [hij] at h2 ⊢
    by_cases h35 : P 9 j = 35
    · rw [if_pos h35] at h2; omega
    · rw [if_neg h35]; rfl
  · have hlt : i < j := by
      by_cases h35 : P 9 j = 35
      · rw [if_pos h35] at h2; exact h2
      · rw [if_neg h35] at h2; omega
    by_cases hi : i = pt_fr P a0 j
    · rw [hi, p3]
      congr 1
      by_cases e35 : P 9 (pt_fr P a0 j) = 35
      · rw [if_pos e35, if_pos ⟨by omega, e35⟩]
      · rw [if_neg e35, if_neg fun h => e35 h.2]
    · have hnc := p1 i (by omega) hlt
      obtain ⟨q1, _⟩ := pt_quiet (P := P) (a0 := a0) (j := i) (by omega) j hlt fun x x1 x2 => p1 x (by omega) x2
      rw [q1, pt_c_s (by omega), if_neg hnc, if_neg fun h => hnc (Or.inr h)]
theorem pt_bk_od {fo ot pj : Nat → Nat} (hb : pt_bk P a0 a1 w po B fo ot pj) : ∀ b c i, b < B → c < B → fo b ≤ i → i < ot b → fo c ≤ i → i < ot c → b = c := by
  obtain ⟨b1, b2, b3, _⟩ := hb
  intro b c i hb hc i1 i2 i3 i4
  have nb : ¬ po b < 0 := fun h => by have := (b2 b hb h).2.1; omega
  have nc : ¬ po c < 0 := fun h => by have := (b2 c hc h).2.1; omega
  obtain ⟨p1, p2, p3, p4, p5, _⟩ := b1 b hb nb
  obtain ⟨q1, q2, q3, q4, q5, _⟩ := b1 c hc nc
  rw [p4] at i1
  rw [p5] at i2
  rw [q4] at i3
  rw [q5] at i4
  exact b3 b c hb hc nb nc (pt_cut_un p1 q1 p3 q3 (by rw [pt_home p1 p3 i1 i2, pt_home q1 q3 i3 i4]))
theorem pt_bk_os {fo ot pj : Nat → Nat} (hb : pt_bk P a0 a1 w po B fo ot pj) (hB : B ≤ 60) (h3 : a1 ≤ 3200) (hK : pt_c P a0 a1 ≤ 640) (ht : pt_tab P a0 a1 mw) (h15 : ∀ b, b < B → mw 15 b = po b) (hpo : ∀ b, b < B → ¬ po b < 0 → po b = pu_I (pt_c P a0 (pj b))) : pt_os mw B fo ot := by
  obtain ⟨b1, b2, b3, _⟩ := hb
  intro b hb
  have hbx : ixb (pu_I b) 60 = true := (pu_ix (by omega)).mpr (by omega)
  have hbn : nn (pu_I b) = b := pu_nn (by omega)
  unfold fX4_opsFrom fX4_opsTo fX4_opsFrom_J24 fX4_opsTo_J24
  simp only [if_pos hbx]
  rw [hbn, h15 b hb]
  by_cases hn : po b < 0
  · obtain ⟨e1, e2, _⟩ := b2 b hb hn
    rw [if_neg (Int32.not_le.mpr hn), if_neg (Int32.not_le.mpr hn), e1, e2]
    exact ⟨rfl, rfl, Nat.le_refl _, Nat.zero_le _⟩
  · obtain ⟨p1, p2, p3, p4, p5, _⟩ := b1 b hb hn
    have hlt := pt_c_lt p1 p2 p3
    obtain ⟨t7, t8, _, _⟩ := ht _ p1 p2 p3
    have hx : ixb (po b) 640 = true := by rw [hpo b hb hn]; exact (pu_ix (by omega)).mpr (by omega)
    have hxn : nn (po b) = pt_c P a0 (pj b) := by rw [hpo b hb hn, pu_nn (by omega)]
    have hfr := (pt_fr_le (P := P) (a := a0) (pj b) p1).2
    rw [if_pos (Int32.not_lt.mp hn), if_pos (Int32.not_lt.mp hn), if_pos hx, if_pos hx, hxn, t7, t8, p4, p5]
    refine ⟨rfl, rfl, ?_, ?_⟩
    · unfold pt_to
      by_cases h35 : P 9 (pj b) = 35
      · rw [if_pos h35]; exact hfr
      · rw [if_neg h35]; omega
    · unfold pt_to
      by_cases h35 : P 9 (pj b) = 35
      · rw [if_pos h35]; omega
      · rw [if_neg h35]; omega
end BK
