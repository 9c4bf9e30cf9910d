/-! pure side, the graph 4: what a block uses ahead of giving it, and what it gives -/
/-- given by steps -/
def pg_gv (l : List pu_Stp) (v : Int32) : Prop := ∃ s, s ∈ l ∧ pu_gw s.1 = true ∧ s.2.1 = v
def pg_no : Int32 → Prop := fun _ => False
theorem pg_lv_x {X : Int32 → Prop} : ∀ (l : List pu_Stp) (v : Int32), pu_lv l X v ↔ pu_lv l pg_no v ∨ (X v ∧ ¬ pg_gv l v) := by
  intro l
  induction l with
  | nil =>
    intro v
    exact ⟨fun h => Or.inr ⟨h, fun ⟨s, hs, _⟩ => by cases hs⟩, fun h => h.elim (fun h => absurd h id) And.left⟩
  | cons s l ih =>
    intro v
    have hg : pg_gv (s :: l) v ↔ (pu_gw s.1 = true ∧ s.2.1 = v) ∨ pg_gv l v := by
      constructor
      · rintro ⟨t, ht, h1, h2⟩
        rcases List.mem_cons.mp ht with rfl | ht
        · exact Or.inl ⟨h1, h2⟩
        · exact Or.inr ⟨t, ht, h1, h2⟩
      · rintro (⟨h1, h2⟩ | ⟨t, ht, h1, h2⟩)
        · exact ⟨s, List.mem_cons_self, h1, h2⟩
        · exact ⟨t, List.mem_cons_of_mem _ ht, h1, h2⟩
    show ((pu_ul s.1 = true ∧ v = s.2.2.1) ∨ (pu_ur s.1 = true ∧ v = s.2.2.2) ∨ (pu_lv l X v ∧ ¬ (pu_gw s.1 = true ∧ v = s.2.1))) ↔ ((pu_ul s.1 = true ∧ v = s.2.2.1) ∨ (pu_ur s.1 = true ∧ v = s.2.2.2) ∨ (pu_lv l pg_no v ∧ ¬ (pu_gw s.1 = true ∧ v = s.2.1))) ∨ (X v ∧ ¬ pg_gv (s :: l) v)
    rw [ih v, hg]
    constructor
    · rintro (h | h | ⟨h | ⟨h1, h2⟩, h3⟩)
      · exact Or.inl (Or.inl h)
      · exact Or.inl (Or.inr (Or.inl h))
      · exact Or.inl (Or.inr (Or.inr ⟨h, h3⟩))
      · exact Or.inr ⟨h1, fun h => h.elim (fun h => h3 ⟨h.1, h.2.symm⟩) h2⟩
    · rintro ((h | h | h) | ⟨h1, h2⟩)
      · exact Or.inl h
      · exact Or.inr (Or.inl h)
      · exact Or.inr (Or.inr ⟨Or.inl h.1, h.2⟩)
      · exact Or.inr (Or.inr ⟨Or.inr ⟨h1, fun h => h2 (Or.inr h)⟩, fun h => h2 (Or.inl ⟨h.1, h.2.symm⟩)⟩)
theorem pg_gv_app (l : List pu_Stp) (s : pu_Stp) (v : Int32) : pg_gv (l ++ [s]) v ↔ pg_gv l v ∨ (pu_gw s.1 = true ∧ s.2.1 = v) := by
  constructor
  · rintro ⟨t, ht, h1, h2⟩
    rcases List.mem_append.mp ht with ht | ht
    · exact Or.inl ⟨t, ht, h1, h2⟩
    · rw [List.mem_singleton.mp ht] at h1 h2
      exact Or.inr ⟨h1, h2⟩
  · rintro (⟨t, ht, h1, h2⟩ | ⟨h1, h2⟩)
    · exact ⟨t, List.mem_append_left _ ht, h1, h2⟩
    · exact ⟨s, List.mem_append_right _ (List.mem_singleton.mpr rfl), h1, h2⟩
theorem pg_lv_app (l : List pu_Stp) (s : pu_Stp) (v : Int32) : pu_lv (l ++ [s]) pg_no v ↔ pu_lv l pg_no v ∨ (((pu_ul s.1 = true ∧ v = s.2.2.1) ∨ (pu_ur s.1 = true ∧ v = s.2.2.2)) ∧ ¬ pg_gv l v) := by
  rw [pu_lv_app, pg_lv_x l v]
  have h : pu_lv [s] pg_no v ↔ ((pu_ul s.1 = true ∧ v = s.2.2.1) ∨ (pu_ur s.1 = true ∧ v = s.2.2.2)) := by
    show ((pu_ul s.1 = true ∧ v = s.2.2.1) ∨ (pu_ur s.1 = true ∧ v = s.2.2.2) ∨ (pg_no v ∧ ¬ (pu_gw s.1 = true ∧ v = s.2.1))) ↔ _
    constructor
    · rintro (h | h | h)
      · exact Or.inl h
      · exact Or.inr h
      · exact absurd h.1 id
    · rintro (h | h)
      · exact Or.inl h
      · exact Or.inr (Or.inl h)
  rw [h]
/-- a flow on its way, in stores -/
def pg_fl (B N V : Nat) (fw x9 : ST) (n2 : Nat → Nat) (qs : Nat → List Nat) : Prop :=
  (fw 0 0 = pu_I B ∧ 0 < B ∧ B ≤ 60) ∧ ((N ≤ n2 2 ∧ N ≤ n2 3 ∧ N ≤ n2 4 ∧ N ≤ n2 5 ∧ N ≤ n2 6) ∧ N < 8500 ∧ V < 100000) ∧ pv_stc B fw x9 qs ∧ pv_dis B N qs ∧
  (∀ b, b < B → ∀ a, a ∈ qs b → pu_kw (x9 2 a) ∧ (pu_gw (x9 2 a) = true → ∃ u, u < V ∧ x9 3 a = pu_I u) ∧ (pu_gw (x9 2 a) = false → x9 3 a = -1) ∧ (pu_ul (x9 2 a) = true → ∃ u, u < V ∧ x9 4 a = pu_I u) ∧ (pu_ur (x9 2 a) = true → ∃ u, u < V ∧ x9 5 a = pu_I u)) ∧
  (∀ b, b < B → (fw 8 b = 22 ∨ fw 8 b = 23 ∨ fw 8 b = 24) ∧ (fw 8 b = 22 → fw 9 b < 0) ∧ (fw 8 b = 23 ∨ fw 8 b = 24 → ∃ u, u < V ∧ fw 9 b = pu_I u) ∧
    (fw 8 b = 22 → (∃ c, c < B ∧ fw 10 b = pu_I c) ∧ fw 11 b < 0) ∧ (fw 8 b = 23 → (∃ c, c < B ∧ fw 10 b = pu_I c) ∧ ∃ c, c < B ∧ fw 11 b = pu_I c) ∧ (fw 8 b = 24 → fw 10 b < 0 ∧ fw 11 b < 0))
/-- the flow that it is -/
abbrev pg_F (fw x9 : ST) (qs : Nat → List Nat) : pu_Flow := pv_F fw x9 qs (fun _ => [])
section NT
variable {n n2 : Nat → Nat} {w fw x9 : ST} {B N V H wd : Nat} {qs : Nat → List Nat}
def pg_nu (H wd b v : Nat) (l : SL) : SL := if v < H ∧ pg_g l 5 wd b v = false then pg_up l 4 wd b v else l
theorem pg_noteUse {l : SL} {b v : Nat} (hw0 : w 0 0 = pu_I H) (hw2 : w 0 2 = pu_I wd) (hH : H ≤ wd * 64) (hH2 : H < 100000) (hb : b < B) (h4 : B * wd ≤ n 4) (h5 : B * wd ≤ n 5) (hn4 : n 4 < 1000000) (hn5 : n 5 < 1000000) (hv : v < 100000) :
    fX2_noteUse n w l (pu_I b) (pu_I v) = some (pg_nu H wd b v l) := by
  unfold fX2_noteUse pg_nu
  rw [hw0]
  by_cases h : v < H
  · have hix : b * wd + v / 64 < B * wd := pg_ixlt hb (by omega)
    rw [if_neg (by rw [pu_le (by omega) (by omega)]; omega), pg_isIn4 hw2 (by omega) (by omega) hn5, Option.bind_some]
    cases hg : pg_g l 5 wd b v with
    | false =>
      rw [if_pos (show pv_b false = 0 from rfl), pg_put3 hw2 (by omega) (by omega) hn4, Option.bind_some, if_pos ⟨h, rfl⟩]
      rfl
    | true =>
      rw [if_neg (show ¬ pv_b true = 0 by decide), if_neg (fun h9 => by cases h9.2)]
      rfl
  · rw [if_pos (by rw [pu_le (by omega) (by omega)]; omega), if_neg (fun h9 => h h9.1)]
    rfl
theorem pg_nu_n {l : SL} {b v r : Nat} (hr : r ≠ 4) : pg_nu H wd b v l r = l r := by
  unfold pg_nu
  by_cases h : v < H ∧ pg_g l 5 wd b v = false
  · rw [if_pos h, pg_up_n hr]
  · rw [if_neg h]
theorem pg_nu_g {l : SL} {b v b' h' : Nat} (hH : H ≤ wd * 64) (hh' : h' < wd * 64) : pg_g (pg_nu H wd b v l) 4 wd b' h' = true ↔ pg_g l 4 wd b' h' = true ∨ (b' = b ∧ h' = v ∧ v < H ∧ ¬ pg_g l 5 wd b v = true) := by
  unfold pg_nu
  by_cases h : v < H ∧ pg_g l 5 wd b v = false
  · rw [if_pos h, pg_up_g l 4 wd b v (by omega) (by omega), Bool.or_eq_true, decide_eq_true_iff]
    constructor
    · rintro (h1 | h1)
      · exact Or.inl h1
      · exact Or.inr ⟨h1.1, h1.2, h.1, by rw [h.2]; decide⟩
    · rintro (h1 | h1)
      · exact Or.inl h1
      · exact Or.inr ⟨h1.1, h1.2.1⟩
  · rw [if_neg h]
    refine ⟨Or.inl, fun h1 => h1.elim id fun ⟨_, h2, hv, h3⟩ => absurd ⟨hv, ?_⟩ h⟩
    cases e : pg_g l 5 wd b v with
    | false => rfl
    | true => exact absurd e h3
/-- the bits of a block behind some of its steps -/
def pg_nI (l0 : SL) (H wd b : Nat) (d : List pu_Stp) (l : SL) : Prop :=
  (∀ r, r ≠ 4 → r ≠ 5 → l r = l0 r) ∧ (∀ b' h, b' ≠ b → h < wd * 64 → pg_g l 4 wd b' h = pg_g l0 4 wd b' h ∧ pg_g l 5 wd b' h = pg_g l0 5 wd b' h) ∧
  ∀ h, h < wd * 64 → (pg_g l 4 wd b h = true ↔ h < H ∧ pu_lv d pg_no (pu_I h)) ∧ (pg_g l 5 wd b h = true ↔ h < H ∧ pg_gv d (pu_I h))
theorem pg_note57 (hw0 : w 0 0 = pu_I H) (hw2 : w 0 2 = pu_I wd) (hH : H ≤ wd * 64) (hH2 : H < 100000) (hfl : pg_fl B N V fw x9 n2 qs) {b : Nat} (hb : b < B) (h4 : B * wd ≤ n 4) (h5 : B * wd ≤ n 5) (hn4 : n 4 < 1000000) (hn5 : n 5 < 1000000) {l0 l : SL} (hI : pg_nI l0 H wd b [] l) :
    ∃ l', fX2_noteBlock_L57 n w (pu_I b) n2 x9 NF (fw 4 b) l = some l' ∧ pg_nI l0 H wd b ((qs b).map (pv_S x9)) l' := by
  obtain ⟨⟨hB0, hBp, hB⟩, ⟨⟨r2, r3, r4, r5, r6⟩, hN, hV⟩, hst, hd, hstep, hend⟩ := hfl
  refine pv_chl (G := fun k x (s : SL) => fX2_noteBlock_L57 n w (pu_I b) n2 x9 k x s) (nx := x9 6) (Inv := fun done rem s => (∀ a, a ∈ rem → a < N ∧ a ∈ qs b) ∧ (done ++ rem = qs b) ∧ pg_nI l0 H wd b (done.map (pv_S x9)) s) (Q := fun s => pg_nI l0 H wd b ((qs b).map (pv_S x9)) s)
    (fun k a done rem s hI => ?_) (fun k x done s hx hI => ?_) (qs b) [] (fw 4 b) NF l (hst.1 b hb) (by have := pv_len N (qs b) (hd.2.1 b hb) (hd.1 b hb); have := pv_NF; omega) ⟨fun a ha => ⟨hd.1 b hb a ha, ha⟩, rfl, hI⟩
  · obtain ⟨i1, i2, i3, i4, i5⟩ := hI
    obtain ⟨haN, haq⟩ := i1 a List.mem_cons_self
    obtain ⟨k1, k2, k3, k4, k5⟩ := hstep b hb a haq
    have hi : ∀ y, N ≤ y → ixb (pu_I a) y = true := fun y hy => (pu_ix (by omega)).mpr (by omega)
    have hna : nn (pu_I a) = a := pu_nn (by omega)
    -- the three writes
    obtain ⟨s1, hs1⟩ : ∃ s1, s1 = if pu_ul (x9 2 a) = true then pg_nu H wd b (nn (x9 4 a)) s else s := ⟨_, rfl⟩
    obtain ⟨s2, hs2⟩ : ∃ s2, s2 = if pu_ur (x9 2 a) = true then pg_nu H wd b (nn (x9 5 a)) s1 else s1 := ⟨_, rfl⟩
    obtain ⟨s3, hs3⟩ : ∃ s3, s3 = if pu_gw (x9 2 a) = true ∧ nn (x9 3 a) < H then pg_up s2 5 wd b (nn (x9 3 a)) else s2 := ⟨_, rfl⟩
    have e1 : fX2_noteBlock_L57 n w (pu_I b) n2 x9 (k + 1) (pu_I a) s = fX2_noteBlock_J87 (fX2_noteBlock_L57 n w (pu_I b) n2 x9 k) n w (pu_I b) n2 x9 (pu_I a) s1 := by
      show (if pu_I a < 0 then some s else (if ixb (pu_I a) (n2 2) = true then ((fX11_usesLeft (x9 2 (nn (pu_I a)))).bind fun (o_6 : Int32) => (if o_6 = 0 then (fX2_noteBlock_J87 (fX2_noteBlock_L57 n w (pu_I b) n2 x9 k) n w (pu_I b) n2 x9 (pu_I a) s) else (if ixb (pu_I a) (n2 4) = true then ((fX2_noteUse n w s (pu_I b) (x9 4 (nn (pu_I a)))).bind fun (o_23 : SL) => (fX2_noteBlock_J87 (fX2_noteBlock_L57 n w (pu_I b) n2 x9 k) n w (pu_I b) n2 x9 (pu_I a) o_23)) else none))) else none)) = _
      rw [if_neg (pu_ge (by omega)), if_pos (hi _ r2), hna, pv_ul, Option.bind_some, hs1]
      cases hu : pu_ul (x9 2 a) with
      | false => rw [if_pos (show pv_b false = 0 from rfl), if_neg (by decide)]
      | true =>
        obtain ⟨u, u1, u2⟩ := k4 hu
        rw [if_neg (show ¬ pv_b true = 0 by decide), if_pos (hi _ r4), u2, pg_noteUse hw0 hw2 hH hH2 hb h4 h5 hn4 hn5 (by omega), Option.bind_some, if_pos rfl, pu_nn (show u < 2147483648 by omega)]
    have e2 : fX2_noteBlock_J87 (fX2_noteBlock_L57 n w (pu_I b) n2 x9 k) n w (pu_I b) n2 x9 (pu_I a) s1 = fX2_noteBlock_J112 (fX2_noteBlock_L57 n w (pu_I b) n2 x9 k) n w (pu_I b) n2 x9 (pu_I a) s2 := by
      unfold fX2_noteBlock_J87
      rw [if_pos (hi _ r2), hna, pv_ur, Option.bind_some, hs2]
      cases hu : pu_ur (x9 2 a) with
      | false => rw [if_pos (show pv_b false = 0 from rfl), if_neg (by decide)]
      | true =>
        obtain ⟨u, u1, u2⟩ := k5 hu
        rw [if_neg (show ¬ pv_b true = 0 by decide), if_pos (hi _ r5), u2, pg_noteUse hw0 hw2 hH hH2 hb h4 h5 hn4 hn5 (by omega), Option.bind_some, if_pos rfl, pu_nn (show u < 2147483648 by omega)]
    have e3 : fX2_noteBlock_J112 (fX2_noteBlock_L57 n w (pu_I b) n2 x9 k) n w (pu_I b) n2 x9 (pu_I a) s2 = fX2_noteBlock_L57 n w (pu_I b) n2 x9 k (x9 6 a) s3 := by
      have hJ : ∀ q, fX2_noteBlock_J152 (fX2_noteBlock_L57 n w (pu_I b) n2 x9 k) n2 x9 (pu_I a) q = fX2_noteBlock_L57 n w (pu_I b) n2 x9 k (x9 6 a) q := fun q => by
        unfold fX2_noteBlock_J152
        rw [if_pos (hi _ r6), hna]
      unfold fX2_noteBlock_J112
      rw [if_pos (hi _ r3), hna, hs3, hw0]
      cases hg : pu_gw (x9 2 a) with
      | false =>
        rw [k3 hg, if_pos (show (-1 : Int32) < 0 by decide), if_neg (fun h => by cases h.1)]
        exact hJ _
      | true =>
        obtain ⟨u, u1, u2⟩ := k2 hg
        rw [u2, if_neg (pu_ge (by omega)), if_pos (hi _ r3), pu_nn (show u < 2147483648 by omega)]
        by_cases h : u < H
        · have hix : b * wd + u / 64 < B * wd := pg_ixlt hb (by omega)
          rw [if_neg (by rw [pu_le (by omega) (by omega)]; omega), if_pos (hi _ r3), pg_put4 hw2 (by omega) (by omega) hn5, Option.bind_some, if_pos ⟨rfl, h⟩]
          exact hJ _
        · rw [if_pos (by rw [pu_le (by omega) (by omega)]; omega), if_neg (fun h9 => h h9.2)]
          exact hJ _
    have f1 : ∀ r, r ≠ 4 → s1 r = s r := fun r hr => by
      rw [hs1]
      by_cases h : pu_ul (x9 2 a) = true
      · rw [if_pos h, pg_nu_n hr]
      · rw [if_neg h]
    have f2 : ∀ r, r ≠ 4 → s2 r = s r := fun r hr => by
      rw [hs2]
      by_cases h : pu_ur (x9 2 a) = true
      · rw [if_pos h, pg_nu_n hr, f1 r hr]
      · rw [if_neg h, f1 r hr]
    have f3 : ∀ r, r ≠ 4 → r ≠ 5 → s3 r = s r := fun r hr hr5 => by
      rw [hs3]
      by_cases h : pu_gw (x9 2 a) = true ∧ nn (x9 3 a) < H
      · rw [if_pos h, pg_up_n hr5, f2 r hr]
      · rw [if_neg h, f2 r hr]
    have f34 : s3 4 = s2 4 := by
      rw [hs3]
      by_cases h : pu_gw (x9 2 a) = true ∧ nn (x9 3 a) < H
      · rw [if_pos h, pg_up_n (by decide)]
      · rw [if_neg h]
    have g5 : ∀ b' h, pg_g s1 5 wd b' h = pg_g s 5 wd b' h := fun b' h => by
      unfold pg_g
      rw [f1 5 (by decide)]
    have b1 : ∀ b' h, h < wd * 64 → (pg_g s1 4 wd b' h = true ↔ pg_g s 4 wd b' h = true ∨ (b' = b ∧ h < H ∧ pu_ul (x9 2 a) = true ∧ pu_I h = x9 4 a ∧ ¬ pg_g s 5 wd b h = true)) := fun b' h hh => by
      rw [hs1]
      cases hu : pu_ul (x9 2 a) with
      | false => rw [if_neg (by decide)]; exact ⟨Or.inl, fun h9 => h9.elim id fun h9 => by cases h9.2.2.1⟩
      | true =>
        obtain ⟨u, u1, u2⟩ := k4 hu
        rw [if_pos rfl, u2, pu_nn (show u < 2147483648 by omega), pg_nu_g hH hh]
        constructor
        · rintro (h1 | ⟨h1, rfl, h4, h3⟩)
          · exact Or.inl h1
          · exact Or.inr ⟨h1, h4, rfl, rfl, h3⟩
        · rintro (h1 | ⟨h1, h4, _, h2, h3⟩)
          · exact Or.inl h1
          · have := pu_inj (by omega) (by omega) h2
            exact Or.inr ⟨h1, this, by omega, by rw [← this]; exact h3⟩
    have b2 : ∀ b' h, h < wd * 64 → (pg_g s2 4 wd b' h = true ↔ pg_g s1 4 wd b' h = true ∨ (b' = b ∧ h < H ∧ pu_ur (x9 2 a) = true ∧ pu_I h = x9 5 a ∧ ¬ pg_g s 5 wd b h = true)) := fun b' h hh => by
      rw [hs2]
      cases hu : pu_ur (x9 2 a) with
      | false => rw [if_neg (by decide)]; exact ⟨Or.inl, fun h9 => h9.elim id fun h9 => by cases h9.2.2.1⟩
      | true =>
        obtain ⟨u, u1, u2⟩ := k5 hu
        rw [if_pos rfl, u2, pu_nn (show u < 2147483648 by omega), pg_nu_g hH hh, g5]
        constructor
        · rintro (h1 | ⟨h1, rfl, h4, h3⟩)
          · exact Or.inl h1
          · exact Or.inr ⟨h1, h4, rfl, rfl, h3⟩
        · rintro (h1 | ⟨h1, h4, _, h2, h3⟩)
          · exact Or.inl h1
          · have := pu_inj (by omega) (by omega) h2
            exact Or.inr ⟨h1, this, by omega, by rw [← this]; exact h3⟩
    have g52 : ∀ b' h, pg_g s2 5 wd b' h = pg_g s 5 wd b' h := fun b' h => by
      unfold pg_g
      rw [f2 5 (by decide)]
    have b3 : ∀ b' h, h < wd * 64 → (pg_g s3 5 wd b' h = true ↔ pg_g s 5 wd b' h = true ∨ (b' = b ∧ h < H ∧ pu_gw (x9 2 a) = true ∧ x9 3 a = pu_I h)) := fun b' h hh => by
      rw [hs3]
      by_cases h9 : pu_gw (x9 2 a) = true ∧ nn (x9 3 a) < H
      · obtain ⟨u, u1, u2⟩ := k2 h9.1
        rw [if_pos h9, u2, pu_nn (show u < 2147483648 by omega)]
        rw [u2, pu_nn (show u < 2147483648 by omega)] at h9
        rw [pg_up_g s2 5 wd b u (by omega) (by omega), Bool.or_eq_true, decide_eq_true_iff, g52]
        constructor
        · rintro (h1 | ⟨h1, rfl⟩)
          · exact Or.inl h1
          · exact Or.inr ⟨h1, h9.2, h9.1, rfl⟩
        · rintro (h1 | ⟨h1, _, _, h2⟩)
          · exact Or.inl h1
          · exact Or.inr ⟨h1, (pu_inj (by omega) (by omega) h2).symm⟩
      · rw [if_neg h9, g52]
        refine ⟨Or.inl, fun h1 => h1.elim id fun ⟨_, h4, h2, h3⟩ => absurd ⟨h2, ?_⟩ h9⟩
        rw [h3, pu_nn (by omega)]
        exact h4
    have hg34 : ∀ b' h, pg_g s3 4 wd b' h = pg_g s2 4 wd b' h := fun b' h => by
      unfold pg_g
      rw [f34]
    refine ⟨s3, by rw [e1, e2, e3], fun z hz => i1 z (List.mem_cons_of_mem _ hz), by rw [List.append_assoc]; exact i2, fun r hr hr5 => by rw [f3 r hr hr5, i3 r hr hr5], fun b' h hb' hh => ?_, fun h hh => ?_⟩
    · obtain ⟨j1, j2⟩ := i4 b' h hb' hh
      rw [← j1, ← j2]
      constructor
      · rw [Bool.eq_iff_iff, hg34, b2 b' h hh, b1 b' h hh]
        exact ⟨fun h9 => h9.elim (fun h9 => h9.elim id fun h9 => absurd h9.1 hb') fun h9 => absurd h9.1 hb', fun h9 => Or.inl (Or.inl h9)⟩
      · rw [Bool.eq_iff_iff, b3 b' h hh]
        exact ⟨fun h9 => h9.elim id fun h9 => absurd h9.1 hb', Or.inl⟩
    · obtain ⟨j1, j2⟩ := i5 h hh
      rw [List.map_append, List.map_cons, List.map_nil]
      constructor
      · rw [hg34, b2 b h hh, b1 b h hh, pg_lv_app, j1, j2]
        constructor
        · rintro ((h9 | ⟨_, a0, a1, a2, a3⟩) | ⟨_, a0, a1, a2, a3⟩)
          · exact ⟨h9.1, Or.inl h9.2⟩
          · exact ⟨a0, Or.inr ⟨Or.inl ⟨a1, a2⟩, fun h9 => a3 ⟨a0, h9⟩⟩⟩
          · exact ⟨a0, Or.inr ⟨Or.inr ⟨a1, a2⟩, fun h9 => a3 ⟨a0, h9⟩⟩⟩
        · rintro ⟨a0, h9 | ⟨⟨a1, a2⟩ | ⟨a1, a2⟩, a3⟩⟩
          · exact Or.inl (Or.inl ⟨a0, h9⟩)
          · exact Or.inl (Or.inr ⟨rfl, a0, a1, a2, fun h9 => a3 h9.2⟩)
          · exact Or.inr ⟨rfl, a0, a1, a2, fun h9 => a3 h9.2⟩
      · rw [b3 b h hh, pg_gv_app, j2]
        constructor
        · rintro (⟨a0, h9⟩ | ⟨_, a0, h9⟩)
          · exact ⟨a0, Or.inl h9⟩
          · exact ⟨a0, Or.inr h9⟩
        · rintro ⟨a0, h9 | h9⟩
          · exact Or.inl ⟨a0, h9⟩
          · exact Or.inr ⟨rfl, a0, h9⟩
  · obtain ⟨i1, i2, i3⟩ := hI
    rw [List.append_nil] at i2
    refine ⟨s, ?_, by rw [← i2]; exact i3⟩
    show (if x < 0 then some s else _) = _
    rw [if_pos hx]
/-- what the end of a block uses -/
def pg_E (fw : ST) (b : Nat) : Int32 → Prop := fun v => (fw 8 b = 23 ∨ fw 8 b = 24) ∧ v = fw 9 b
theorem pg_noteBlock (hw0 : w 0 0 = pu_I H) (hw2 : w 0 2 = pu_I wd) (hH : H ≤ wd * 64) (hH2 : H < 100000) (hfl : pg_fl B N V fw x9 n2 qs) {b : Nat} (hb : b < B) (h4 : B * wd ≤ n 4) (h5 : B * wd ≤ n 5) (hn4 : n 4 < 1000000) (hn5 : n 5 < 1000000) (l : SL) :
    ∃ l', fX2_noteBlock n w l fw (pu_I b) n2 x9 = some l' ∧ (∀ r, r ≠ 4 → r ≠ 5 → l' r = l r) ∧ (∀ b' h, b' ≠ b → h < wd * 64 → pg_g l' 4 wd b' h = pg_g l 4 wd b' h ∧ pg_g l' 5 wd b' h = pg_g l 5 wd b' h) ∧
      ∀ h, h < wd * 64 → (pg_g l' 4 wd b h = true ↔ h < H ∧ pu_lv ((qs b).map (pv_S x9)) (pg_E fw b) (pu_I h)) ∧ (pg_g l' 5 wd b h = true ↔ h < H ∧ pg_gv ((qs b).map (pv_S x9)) (pu_I h)) := by
  have hB := hfl.1.2.2
  have hV := hfl.2.1.2.2
  have hle : (b + 1) * wd ≤ B * wd := Nat.mul_le_mul_right wd hb
  have hle2 : b * wd ≤ (b + 1) * wd := Nat.mul_le_mul_right wd (Nat.le_succ b)
  obtain ⟨g1, a1, a2⟩ := pg_fillL (n := n 4) (f := l 4) (v := 0) hle2 (by omega) hn4
  obtain ⟨g2, c1, c2⟩ := pg_fillL (n := n 5) (f := l 5) (v := 0) hle2 (by omega) hn5
  have hrow : ∀ b' h, h < wd * 64 → b' * wd ≤ b' * wd + h / 64 ∧ b' * wd + h / 64 < (b' + 1) * wd := fun b' h hh => by
    rw [Nat.succ_mul]
    omega
  have hin : ∀ b' h, h < wd * 64 → (b * wd ≤ b' * wd + h / 64 ∧ b' * wd + h / 64 < (b + 1) * wd) → b' = b := fun b' h hh hx => by
    obtain ⟨y1, y2⟩ := hrow b' h hh
    rcases Nat.lt_trichotomy b' b with h9 | h9 | h9
    · have := Nat.mul_le_mul_right wd (show b' + 1 ≤ b from h9); omega
    · exact h9
    · have := Nat.mul_le_mul_right wd (show b + 1 ≤ b' from h9); omega
  obtain ⟨l1, hl1⟩ : ∃ l1, l1 = srl (srl l 4 g1) 5 g2 := ⟨_, rfl⟩
  have hI : pg_nI l H wd b [] l1 := by
    refine ⟨fun r r4 r5 => by rw [hl1, pv_srl_n r5, pv_srl_n r4], fun b' h hb' hh => ?_, fun h hh => ?_⟩
    · have hno : ¬ (b * wd ≤ b' * wd + h / 64 ∧ b' * wd + h / 64 < (b + 1) * wd) := fun h9 => hb' (hin b' h hh h9)
      unfold pg_g
      rw [hl1, pv_srl_n (by decide), pv_srl_s, pv_srl_s, a2, c2, if_neg hno, if_neg hno]
      exact ⟨rfl, rfl⟩
    · have hyes := hrow b h hh
      unfold pg_g
      rw [hl1, pv_srl_n (by decide), pv_srl_s, pv_srl_s, a2, c2, if_pos hyes, if_pos hyes, pv_bt_0]
      exact ⟨⟨fun h9 => (by cases h9), fun h9 => absurd h9.2 id⟩, ⟨fun h9 => (by cases h9), fun ⟨_, s, hs, _⟩ => (by cases hs)⟩⟩
  obtain ⟨l2, d1, d2, d3, d4⟩ := pg_note57 hw0 hw2 hH hH2 hfl hb h4 h5 hn4 hn5 hI
  have hnb : nn (pu_I b) = b := pu_nn (by omega)
  have hib : ixb (pu_I b) 60 = true := (pu_ix (by omega)).mpr (by omega)
  obtain ⟨e1, e2, e3, _⟩ := hfl.2.2.2.2.2 b hb
  have hform : fX2_noteBlock n w l fw (pu_I b) n2 x9 = (if fw 9 b < 0 then some l2 else (fX2_noteUse n w l2 (pu_I b) (fw 9 b)).bind fun o => some o) := by
    unfold fX2_noteBlock
    rw [hw2, pv_mul, pu_su, pv_mul, a1, Option.bind_some, show srl l 4 g1 5 = l 5 from pv_srl_n (by decide), c1, Option.bind_some, if_pos hib, hnb, ← hl1, d1, Option.bind_some, if_pos hib, if_pos hib]
    rfl
  rcases e1 with h22 | h23
  · have h9 := e2 h22
    refine ⟨l2, by rw [hform, if_pos h9], d2, d3, fun h hh => ⟨?_, (d4 h hh).2⟩⟩
    rw [(d4 h hh).1, pg_lv_x (X := pg_E fw b)]
    refine and_congr Iff.rfl ⟨Or.inl, fun h8 => h8.elim id fun h8 => ?_⟩
    rcases h8.1.1 with h7 | h7 <;> rw [h22] at h7 <;> exact absurd h7 (by decide)
  · obtain ⟨u, u1, u2⟩ := e3 h23
    refine ⟨pg_nu H wd b u l2, ?_, fun r r4 r5 => by rw [pg_nu_n r4, d2 r r4 r5], fun b' h hb' hh => ?_, fun h hh => ⟨?_, ?_⟩⟩
    · rw [hform, u2, if_neg (pu_ge (by omega)), pg_noteUse hw0 hw2 hH hH2 hb h4 h5 hn4 hn5 (by omega)]
      rfl
    · obtain ⟨j1, j2⟩ := d3 b' h hb' hh
      rw [← j1, ← j2]
      constructor
      · rw [Bool.eq_iff_iff, pg_nu_g hH hh]
        exact ⟨fun h9 => h9.elim id fun h9 => absurd h9.1 hb', Or.inl⟩
      · unfold pg_g
        rw [pg_nu_n (by decide)]
    · rw [pg_nu_g hH hh, (d4 h hh).1, pg_lv_x (X := pg_E fw b)]
      constructor
      · rintro (h9 | ⟨_, h2, h5, h3⟩)
        · exact ⟨h9.1, Or.inl h9.2⟩
        · rw [← h2, (d4 h hh).2] at h3
          exact ⟨by omega, Or.inr ⟨⟨h23, by rw [h2, u2]⟩, fun h9 => h3 ⟨by omega, h9⟩⟩⟩
      · rintro ⟨h5, h9 | ⟨h2, h3⟩⟩
        · exact Or.inl ⟨h5, h9⟩
        · have h7 : h = u := pu_inj (by omega) (by omega) (h2.2.trans u2)
          exact Or.inr ⟨rfl, h7, by omega, by rw [← h7, (d4 h hh).2]; exact fun h9 => h3 h9.2⟩
    · unfold pg_g
      rw [pg_nu_n (by decide)]
      exact (d4 h hh).2
end NT
