/-! pure side, the graph 8: life at a block's end; steps in a row; a meeting -/
section MEF
variable {n n2 : Nat → Nat} {w fw x9 : ST} {l : SL} {B N V H wd : Nat} {LS : Int32 → Prop} {P : List Nat} {qs : Nat → List Nat}
/-- what is live at the beginning of a block, as bits -/
def pg_W (H wd : Nat) (l : SL) (c : Nat) : Int32 → Prop := fun v => ∃ h, h < H ∧ v = pu_I h ∧ pg_g l 6 wd c h = true
theorem pg_addLiveIn (hw2 : w 0 2 = pu_I wd) (hwd : wd < 1000) (hH : H ≤ wd * 64) (hHV : H ≤ V) (hV : V < 1000000) (hB : B ≤ 60) (h7 : wd ≤ n 7) (hn7 : n 7 < 1000000) (h6 : B * wd ≤ n 6) (hn6 : n 6 < 1000000) (hl : pg_lst w l H V wd LS P) {x : Int32} (hx : x < 0 ∨ ∃ c, c < B ∧ x = pu_I c) (hbit : ∀ c h, c < B → h < wd * 64 → pg_g l 6 wd c h = true → h < H) :
    ∃ l', fX2_addLiveIn n w l x = some l' ∧ pg_lst w l' H V wd (fun u => LS u ∨ ∃ c, c < B ∧ x = pu_I c ∧ pg_W H wd l c u) P ∧ (∀ r, r ≠ 7 → l' r = l r) := by
  obtain ⟨g1, g2, g3, g4, g5, g6, g7⟩ := id hl
  rcases hx with hx | ⟨c, hc, rfl⟩
  · refine ⟨l, ?_, pg_lst_cg hl (fun v hv => ⟨fun h => h.elim id fun ⟨c, hc, e, _⟩ => ?_, Or.inl⟩) hHV, fun _ _ => rfl⟩
    · unfold fX2_addLiveIn
      rw [if_pos hx]
      rfl
    · rw [e] at hx
      exact absurd hx (pu_ge (by omega))
  · obtain ⟨t, e1, e2, e3⟩ := pv_for (G := fun k i (t : SL) => fX2_addLiveIn_L6 n w (pu_I c) k i t) (hi := wd)
      (Inv := fun i (t : SL) => (∀ r, r ≠ 7 → t r = l r) ∧ ∀ j, t 7 j = if j < i then l 7 j ||| l 6 (c * wd + j) else l 7 j)
      (Q := fun (t : SL) => (∀ r, r ≠ 7 → t r = l r) ∧ ∀ j, t 7 j = if j < wd then l 7 j ||| l 6 (c * wd + j) else l 7 j)
      (fun k i t hi hI => by
        obtain ⟨i1, i2⟩ := hI
        have hlt : c * wd + i < B * wd := pg_ixlt hc hi
        refine ⟨upl t 7 i (t 7 i ||| t 6 (c * wd + i)), ?_, fun r hr => by rw [pv_upl_n hr, i1 r hr], fun j => ?_⟩
        · show (if (w 0 2) ≤ pu_I i then some t else (if ixb (pu_I i) (n 7) = true then (if ixb ((pu_I c * (w 0 2)) + pu_I i) (n 6) = true then (if ixb (pu_I i) (n 7) = true then (lt9 (upl t 7 (nn (pu_I i)) ((t 7 (nn (pu_I i))) ||| (t 6 (nn ((pu_I c * (w 0 2)) + pu_I i))))) fun (l6 : SL) => ((fX2_addLiveIn_L6 n w (pu_I c) k) (pu_I i + 1) l6)) else none) else none) else none)) = _
          rw [hw2, if_neg (by rw [pu_le (by omega) (by omega)]; omega), pv_mul, pv_add, if_pos ((pu_ix (by omega)).mpr (by omega)), if_pos ((pu_ix (by omega)).mpr (by omega)), if_pos ((pu_ix (by omega)).mpr (by omega)), pu_nn (show i < 2147483648 by omega), pu_nn (show c * wd + i < 2147483648 by omega), pu_su]
          rfl
        · rw [pv_upl]
          by_cases e : j = i
          · rw [if_pos ⟨rfl, e⟩, if_pos (by omega), i2 i, if_neg (Nat.lt_irrefl i), i1 6 (by decide), e]
          · rw [if_neg fun h => e h.2, i2 j]
            by_cases e2 : j < i
            · rw [if_pos e2, if_pos (by omega)]
            · rw [if_neg e2, if_neg (by omega)])
      (fun k t hI => ⟨t, by
        show (if (w 0 2) ≤ pu_I wd then some t else _) = _
        rw [hw2, if_pos (Int32.le_refl _)], hI⟩)
      wd 0 NF l (by omega) (by have := pv_NF; omega) ⟨fun _ _ => rfl, fun j => by rw [if_neg (Nat.not_lt_zero j)]⟩
    refine ⟨t, ?_, ⟨fun h hh => ?_, g2, g3, g4, g5, g6, fun u u1 u2 => ?_⟩, e2⟩
    · unfold fX2_addLiveIn
      rw [if_neg (pu_ge (by omega)), show fX2_addLiveIn_L6 n w (pu_I c) NF 0 l = some t from e1]
      rfl
    · rw [pg_0g, e3, if_pos (show h / 64 < wd by omega), pv_bt_or, Bool.or_eq_true, ← pg_0g l 7 wd h, g1 h hh]
      have h6e : pv_bt (l 6 (c * wd + h / 64)) (h % 64) = pg_g l 6 wd c h := rfl
      rw [h6e]
      constructor
      · rintro (⟨a, b⟩ | b)
        · exact ⟨a, Or.inl b⟩
        · have := hbit c h hc hh b
          exact ⟨this, Or.inr ⟨c, hc, rfl, h, this, rfl, b⟩⟩
      · rintro ⟨a, b | ⟨c', c1, c2, h', h1, h2, h3⟩⟩
        · exact Or.inl ⟨a, b⟩
        · rw [← pu_inj (by omega) (by omega) c2, ← pu_inj (by omega) (by omega) h2] at h3
          exact Or.inr h3
    · rw [← g7 u u1 u2]
      refine ⟨fun h => h.elim id fun ⟨c', c1, c2, h', h1, h2, h3⟩ => ?_, Or.inl⟩
      have := pu_inj (by omega) (by omega) h2
      omega
/-- the steps of a block in a row -/
theorem pg_listSteps (hfl : pg_fl B N V fw x9 n2 qs) {b : Nat} (hb : b < B) (h10 : n 10 ≤ 12770) (w : ST) :
    ∃ w' n', fX2_listSteps n w fw (pu_I b) n2 x9 = some (pu_I (qs b).length, w', n') ∧ (∀ j a, (qs b)[j]? = some a → w' 10 j = pu_I a) ∧ (∀ r, r ≠ 10 → w' r = w r) ∧ (qs b).length ≤ n' 10 ∧ n' 10 ≤ 12770 ∧ (∀ r, r ≠ 10 → n' r = n r) := by
  obtain ⟨⟨hB0, hBp, hB⟩, ⟨⟨r2, r3, r4, r5, r6⟩, hN, hV⟩, hst, hd, hstep, hend⟩ := hfl
  have hlen := pv_len N (qs b) (hd.2.1 b hb) (hd.1 b hb)
  obtain ⟨t, e1, e2⟩ := pv_chl (G := fun k x (t : Int32 × ST × (Nat → Nat)) => fX2_listSteps_L10 n2 x9 k t.1 x t.2.1 t.2.2) (nx := x9 6)
    (Inv := fun done rem t => done ++ rem = qs b ∧ t.1 = pu_I done.length ∧ (∀ j a, done[j]? = some a → t.2.1 10 j = pu_I a) ∧ (∀ r, r ≠ 10 → t.2.1 r = w r) ∧ done.length ≤ t.2.2 10 ∧ t.2.2 10 ≤ 12770 ∧ (∀ r, r ≠ 10 → t.2.2 r = n r))
    (Q := fun t => t.1 = pu_I (qs b).length ∧ (∀ j a, (qs b)[j]? = some a → t.2.1 10 j = pu_I a) ∧ (∀ r, r ≠ 10 → t.2.1 r = w r) ∧ (qs b).length ≤ t.2.2 10 ∧ t.2.2 10 ≤ 12770 ∧ (∀ r, r ≠ 10 → t.2.2 r = n r))
    (fun k a done rem t hI => by
      obtain ⟨i1, i2, i3, i4, i5, i6, i7⟩ := hI
      have haq : a ∈ qs b := by rw [← i1]; exact List.mem_append_right _ List.mem_cons_self
      have haN := hd.1 b hb a haq
      have hdl : done.length + 1 ≤ (qs b).length := by rw [← i1, List.length_append, List.length_cons]; omega
      obtain ⟨m, f', a1, a2, a3⟩ := pv_atLeast (n := t.2.2 10) (k := done.length + 1) (f := t.2.1 10) (by omega) (by omega)
      obtain ⟨wz, hwz⟩ : ∃ wz, wz = upw (srw t.2.1 10 f') 10 done.length (pu_I a) := ⟨_, rfl⟩
      obtain ⟨nz, hnz⟩ : ∃ nz, nz = stn t.2.2 10 m := ⟨_, rfl⟩
      have hnz10 : nz 10 = m := by rw [hnz]; rfl
      refine ⟨(pu_I (done.length + 1), wz, nz), ?_, by rw [List.append_assoc]; exact i1, by rw [List.length_append]; rfl, fun j z hz => ?_, fun r hr => ?_, ?_, ?_, fun r hr => ?_⟩
      · show (if pu_I a < 0 then some (t.1, t.2.1, t.2.2) else ((fX11_atLeast (t.2.2 10) (t.2.1 10) (t.1 + 1)).bind fun (o_3 : Nat × RI) => (lt9 (stn t.2.2 10 (o_3.1)) fun (n4 : Nat → Nat) => (lt9 (srw t.2.1 10 (o_3.2)) fun (w5 : ST) => (fX2_listSteps_G29_8 (fX2_listSteps_L10 n2 x9 k) n2 x9 t.1 (pu_I a) n4 w5))))) = _
        rw [if_neg (pu_ge (by omega)), i2, pu_su, a1, Option.bind_some]
        show fX2_listSteps_G29_8 (fX2_listSteps_L10 n2 x9 k) n2 x9 (pu_I done.length) (pu_I a) (stn t.2.2 10 m) (srw t.2.1 10 f') = _
        unfold fX2_listSteps_G29_8
        rw [← hnz, hnz10, if_pos ((pu_ix (by omega)).mpr (by omega)), pu_nn (show done.length < 2147483648 by omega)]
        simp only [lt9]
        rw [if_pos ((pu_ix (by omega)).mpr (by omega)), pu_su, pu_nn (show a < 2147483648 by omega), ← hwz]
      · show wz 10 j = pu_I z
        rw [hwz, pv_upw]
        by_cases e : j = done.length
        · rw [if_pos ⟨rfl, e⟩]
          rw [e, List.getElem?_append_right (Nat.le_refl _), Nat.sub_self] at hz
          rw [← Option.some.inj hz]
        · rw [if_neg fun h => e h.2, pv_srw_s]
          by_cases e2 : j < done.length
          · rw [List.getElem?_append_left e2] at hz
            rw [a2 j (by omega)]
            exact i3 j z hz
          · rw [List.getElem?_eq_none (by rw [List.length_append]; show done.length + 1 ≤ j; omega)] at hz
            cases hz
      · show wz r = w r
        rw [hwz, pv_upw_n hr, pv_srw_n hr, i4 r hr]
      · show (done ++ [a]).length ≤ nz 10
        rw [hnz10, List.length_append]
        show done.length + 1 ≤ m
        omega
      · show nz 10 ≤ 12770
        rw [hnz10]
        omega
      · show nz r = n r
        rw [hnz, pv_stn, if_neg hr, i7 r hr])
    (fun k x done t hx hI => by
      obtain ⟨i1, i2, i3, i4, i5, i6, i7⟩ := hI
      rw [List.append_nil] at i1
      refine ⟨t, ?_, by rw [← i1]; exact i2, by rw [← i1]; exact i3, i4, by rw [← i1]; exact i5, i6, i7⟩
      show (if x < 0 then some (t.1, t.2.1, t.2.2) else _) = _
      rw [if_pos hx]) (qs b) [] (fw 4 b) NF (0, w, n) (hst.1 b hb) (by have := pv_NF; omega) ⟨rfl, rfl, fun j a h => (by cases h), fun _ _ => rfl, Nat.zero_le _, h10, fun _ _ => rfl⟩
  obtain ⟨f1, f2, f3, f4, f5, f6⟩ := e2
  refine ⟨t.2.1, t.2.2, ?_, f2, f3, f4, f5, f6⟩
  have e1 : fX2_listSteps_L10 n2 x9 NF 0 (fw 4 b) w n = some t := e1
  unfold fX2_listSteps
  rw [if_pos ((pu_ix (by omega)).mpr (by omega)), pu_nn (show b < 2147483648 by omega), e1, Option.bind_some]
  unfold fX2_listSteps_G55_12
  rw [f1]
/-- one guest is met -/
def pg_m1 (H wd a : Nat) (c : Int32) (s : ST × SL) (v : Nat) : ST × SL :=
  if pu_I v = pu_I a ∨ pu_I v = c then s else if H ≤ a then (upw (upw s.1 12 a (pu_I v)) 12 v (pu_I a), s.2) else (s.1, pg_up s.2 11 wd v a)
theorem pg_m1_fr (H wd a : Nat) (c : Int32) (s : ST × SL) (v : Nat) : (∀ r, r ≠ 12 → (pg_m1 H wd a c s v).1 r = s.1 r) ∧ (∀ r, r ≠ 11 → (pg_m1 H wd a c s v).2 r = s.2 r) := by
  unfold pg_m1
  by_cases h : pu_I v = pu_I a ∨ pu_I v = c
  · rw [if_pos h]; exact ⟨fun _ _ => rfl, fun _ _ => rfl⟩
  · rw [if_neg h]
    by_cases h2 : H ≤ a
    · rw [if_pos h2]; exact ⟨fun r hr => by show upw _ 12 v _ r = _; rw [pv_upw_n hr, pv_upw_n hr], fun _ _ => rfl⟩
    · rw [if_neg h2]; exact ⟨fun _ _ => rfl, fun r hr => pg_up_n hr⟩
theorem pg_meet62 (hw0 : w 0 0 = pu_I H) (hw2 : w 0 2 = pu_I wd) (hH : H ≤ wd * 64) (hHV : H ≤ V) (hV : V < 1000000) (h11 : V * wd ≤ n 11) (hn11 : n 11 < 1000000) (h12 : V ≤ n 12) (hw8 : w 0 8 = pu_I P.length) (hP2 : P.length ≤ 2) (h8 : ∀ i v, P[i]? = some v → w 8 i = pu_I v) (hPV : ∀ v, v ∈ P → v < V) {a : Nat} (ha : a < V) (c : Int32) :
    ∀ (m i k : Nat) (s : ST × SL), i + m = P.length → m < k → (∀ r, r ≠ 12 → s.1 r = w r) → fX2_meet_L62 n (pu_I a) c k (pu_I i) s.1 s.2 = some ((P.drop i).foldl (pg_m1 H wd a c) s) := by
  intro m
  induction m with
  | zero =>
    intro i k s hi hk hs
    obtain ⟨k', rfl⟩ : ∃ k', k = k' + 1 := ⟨k - 1, by omega⟩
    rw [List.drop_eq_nil_of_le (by omega)]
    show (if (s.1 0 8) ≤ pu_I i then some (s.1, s.2) else _) = _
    rw [hs 0 (by decide), hw8, if_pos (by rw [pu_le (by omega) (by omega)]; omega)]
    rfl
  | succ m ih =>
    intro i k s hi hk hs
    obtain ⟨k', rfl⟩ : ∃ k', k = k' + 1 := ⟨k - 1, by omega⟩
    obtain ⟨v, hv⟩ : ∃ v, P[i]? = some v := ⟨P[i]'(by omega), List.getElem?_eq_getElem (by omega)⟩
    have hvV := hPV v (List.mem_of_getElem? hv)
    have hdrop : P.drop i = v :: P.drop (i + 1) := by
      rw [List.drop_eq_getElem_cons (by omega)]
      congr 1
      rw [List.getElem?_eq_getElem (by omega)] at hv
      exact Option.some.inj hv
    have h8i : s.1 8 i = pu_I v := by rw [hs 8 (by decide)]; exact h8 i v hv
    have hform : fX2_meet_L62 n (pu_I a) c (k' + 1) (pu_I i) s.1 s.2 = fX2_meet_L62 n (pu_I a) c k' (pu_I (i + 1)) (pg_m1 H wd a c s v).1 (pg_m1 H wd a c s v).2 := by
      show (if (s.1 0 8) ≤ pu_I i then some (s.1, s.2) else (if ixb (pu_I i) 2 = true then (if (s.1 8 (nn (pu_I i))) = pu_I a then (fX2_meet_J128 (fX2_meet_L62 n (pu_I a) c k') (pu_I i) s.1 s.2) else (if (s.1 8 (nn (pu_I i))) = c then (fX2_meet_J128 (fX2_meet_L62 n (pu_I a) c k') (pu_I i) s.1 s.2) else (if (s.1 0 0) ≤ pu_I a then (if ixb (pu_I a) (n 12) = true then (lt9 (upw s.1 12 (nn (pu_I a)) (s.1 8 (nn (pu_I i)))) fun (w16 : ST) => (if ixb (s.1 8 (nn (pu_I i))) (n 12) = true then (lt9 (upw w16 12 (nn (s.1 8 (nn (pu_I i)))) (pu_I a)) fun (w18 : ST) => (fX2_meet_J128 (fX2_meet_L62 n (pu_I a) c k') (pu_I i) w18 s.2)) else none)) else none) else ((fX2_put_a1_p0_10 n s.1 s.2 (s.1 8 (nn (pu_I i))) (pu_I a)).bind fun (o_19 : SL) => (fX2_meet_J128 (fX2_meet_L62 n (pu_I a) c k') (pu_I i) s.1 o_19))))) else none)) = _
      have hJ : ∀ x y, fX2_meet_J128 (fX2_meet_L62 n (pu_I a) c k') (pu_I i) x y = fX2_meet_L62 n (pu_I a) c k' (pu_I (i + 1)) x y := fun x y => by
        unfold fX2_meet_J128
        rw [pu_su]
      rw [hs 0 (by decide), hw8, if_neg (by rw [pu_le (by omega) (by omega)]; omega), if_pos ((pu_ix (by omega)).mpr (by omega)), pu_nn (show i < 2147483648 by omega), h8i, hw0]
      unfold pg_m1
      by_cases e1 : pu_I v = pu_I a
      · rw [if_pos e1, if_pos (Or.inl e1), hJ]
      · rw [if_neg e1]
        by_cases e2 : pu_I v = c
        · rw [if_pos e2, if_pos (Or.inr e2), hJ]
        · rw [if_neg e2, if_neg (show ¬ (pu_I v = pu_I a ∨ pu_I v = c) from fun h => h.elim e1 e2)]
          by_cases e3 : H ≤ a
          · rw [if_pos ((pu_le (by omega) (by omega)).mpr e3), if_pos e3, if_pos ((pu_ix (by omega)).mpr (by omega)), pu_nn (show a < 2147483648 by omega)]
            simp only [lt9]
            rw [if_pos ((pu_ix (by omega)).mpr (by omega)), pu_nn (show v < 2147483648 by omega), hJ]
          · have hlt : v * wd + a / 64 < V * wd := pg_ixlt hvV (by omega)
            rw [if_neg (fun h => e3 ((pu_le (by omega) (by omega)).mp h)), if_neg e3, pg_put10 (by rw [hs 0 (by decide)]; exact hw2) (by omega) (by omega) hn11, Option.bind_some, hJ]
    rw [hform, hdrop, List.foldl_cons]
    exact ih (i + 1) k' _ (by omega) (by omega) fun r hr => by rw [(pg_m1_fr H wd a c s v).1 r hr, hs r hr]
/-- what is new of near ones when a value is given -/
theorem pg_meet (hw0 : w 0 0 = pu_I H) (hw2 : w 0 2 = pu_I wd) (hwd : wd < 1000) (hH : H ≤ wd * 64) (hHV : H ≤ V) (hV : V < 1000000) (h7 : wd ≤ n 7) (hn7 : n 7 < 1000000) (h11 : V * wd ≤ n 11) (hn11 : n 11 < 1000000) (h12 : V ≤ n 12) (hl : pg_lst w l H V wd LS P) {a : Nat} (ha : a < V) {c : Int32} (hc : c = -1 ∨ ∃ u, u < V ∧ c = pu_I u) :
    ∃ w' l', fX2_meet n w l (pu_I a) c = some (w', l') ∧ (∀ r, r ≠ 12 → w' r = w r) ∧ (∀ r, r ≠ 11 → l' r = l r) ∧
      (∀ v h, v < V → h < wd * 64 → (pg_g l' 11 wd v h = true ↔ pg_g l 11 wd v h = true ∨ (v = a ∧ h < H ∧ LS (pu_I h) ∧ h ≠ a ∧ pu_I h ≠ c) ∨ (a < H ∧ h = a ∧ v ∈ P ∧ pu_I v ≠ c))) ∧
      (a < H → w' = w) ∧ (H ≤ a → ∀ R, R = P.filter (fun v => decide (v ≠ a ∧ pu_I v ≠ c)) → (R = [] → w' = w) ∧ ∀ p, R = [p] → w' = upw (upw w 12 a (pu_I p)) 12 p (pu_I a)) := by
  obtain ⟨g1, g2, g3, g4, g5, g6, g7⟩ := id hl
  -- bits of homes
  have hbit : ∀ (x : Int32) (i : Nat), (x = -1 ∨ ∃ u, u < V ∧ x = pu_I u) → i < wd → ∃ y, fX2_bitIn w (pu_I i) x = some y ∧ ∀ j, j < 64 → (pv_bt y j = true ↔ i * 64 + j < H ∧ x = pu_I (i * 64 + j)) := by
    intro x i hx hi
    unfold fX2_bitIn
    rcases hx with rfl | ⟨u, u1, rfl⟩
    · refine ⟨0, by rw [if_pos (by decide)]; rfl, fun j hj => ?_⟩
      rw [pv_bt_0]
      refine ⟨fun h => (by cases h), fun ⟨h1, h2⟩ => ?_⟩
      have h3 : ¬ ((-1 : Int32) < 0) := by rw [h2]; exact pu_ge (by omega)
      exact absurd (by decide) h3
    · rw [if_neg (pu_ge (by omega)), hw0]
      by_cases e : u < H
      · rw [if_neg (by rw [pu_le (by omega) (by omega)]; omega), pg_sh6 (by omega)]
        by_cases e2 : u / 64 = i
        · rw [e2, if_pos rfl, pg_an63 (by omega)]
          refine ⟨_, rfl, fun j hj => ?_⟩
          rw [pv_bt_1 (by omega), decide_eq_true_iff]
          constructor
          · intro h
            exact ⟨by omega, by rw [show i * 64 + j = u by omega]⟩
          · rintro ⟨_, h⟩
            have := pu_inj (by omega) (by omega) h
            omega
        · rw [if_neg fun h => e2 (pu_inj (by omega) (by omega) h)]
          refine ⟨0, rfl, fun j hj => ?_⟩
          rw [pv_bt_0]
          refine ⟨fun h => (by cases h), fun ⟨h1, h2⟩ => ?_⟩
          have := pu_inj (by omega) (by omega) h2
          omega
      · rw [if_pos (by rw [pu_le (by omega) (by omega)]; omega)]
        refine ⟨0, rfl, fun j hj => ?_⟩
        rw [pv_bt_0]
        refine ⟨fun h => (by cases h), fun ⟨h1, h2⟩ => ?_⟩
        have := pu_inj (by omega) (by omega) h2
        omega
  obtain ⟨t, e1, e2, e3⟩ := pv_for (G := fun k i (t : SL) => fX2_meet_L2 n w (pu_I a) c k i t) (hi := wd)
    (Inv := fun i (t : SL) => (∀ r, r ≠ 11 → t r = l r) ∧ ∀ v j b, v < V → j < wd → b < 64 → (pv_bt (t 11 (v * wd + j)) b = true ↔ pv_bt (l 11 (v * wd + j)) b = true ∨ (v = a ∧ j < i ∧ pv_bt (l 7 j) b = true ∧ j * 64 + b ≠ a ∧ pu_I (j * 64 + b) ≠ c)))
    (Q := fun (t : SL) => (∀ r, r ≠ 11 → t r = l r) ∧ ∀ v j b, v < V → j < wd → b < 64 → (pv_bt (t 11 (v * wd + j)) b = true ↔ pv_bt (l 11 (v * wd + j)) b = true ∨ (v = a ∧ j < wd ∧ pv_bt (l 7 j) b = true ∧ j * 64 + b ≠ a ∧ pu_I (j * 64 + b) ≠ c)))
    (fun k i t hi hI => by
      obtain ⟨i1, i2⟩ := hI
      have hlt : a * wd + i < V * wd := pg_ixlt ha hi
      obtain ⟨y1, y2, y3⟩ := hbit (pu_I a) i (Or.inr ⟨a, ha, rfl⟩) hi
      obtain ⟨z1, z2, z3⟩ := hbit c i hc hi
      refine ⟨upl t 11 (a * wd + i) (t 11 (a * wd + i) ||| ((t 7 i &&& (y1 ^^^ ((-1) : Int64))) &&& (z1 ^^^ ((-1) : Int64)))), ?_, fun r hr => by rw [pv_upl_n hr, i1 r hr], fun v j b hv hj hb => ?_⟩
      · show (if (w 0 2) ≤ pu_I i then some t else (if ixb ((pu_I a * (w 0 2)) + pu_I i) (n 11) = true then (if ixb (pu_I i) (n 7) = true then ((fX2_bitIn w (pu_I i) (pu_I a)).bind fun (o_4 : Int64) => ((fX2_bitIn w (pu_I i) c).bind fun (o_6 : Int64) => (if ixb ((pu_I a * (w 0 2)) + pu_I i) (n 11) = true then (lt9 (upl t 11 (nn ((pu_I a * (w 0 2)) + pu_I i)) ((t 11 (nn ((pu_I a * (w 0 2)) + pu_I i))) ||| (((t 7 (nn (pu_I i))) &&& (o_4 ^^^ ((-1) : Int64))) &&& (o_6 ^^^ ((-1) : Int64))))) fun (l9 : SL) => ((fX2_meet_L2 n w (pu_I a) c k) (pu_I i + 1) l9)) else none))) else none) else none)) = _
        rw [hw2, if_neg (by rw [pu_le (by omega) (by omega)]; omega), pv_mul, pv_add, if_pos ((pu_ix (by omega)).mpr (by omega)), if_pos ((pu_ix (by omega)).mpr (by omega)), y2, Option.bind_some, z2, Option.bind_some, if_pos ((pu_ix (by omega)).mpr (by omega)), pu_nn (show i < 2147483648 by omega), pu_nn (show a * wd + i < 2147483648 by omega), pu_su]
        rfl
      · rw [pv_upl]
        by_cases e : v * wd + j = a * wd + i
        · obtain ⟨ea, ei⟩ := pg_ix hj hi e
          subst ea
          subst ei
          rw [if_pos ⟨rfl, e⟩, pv_bt_or, pv_bt_and, pv_bt_and, pg_bt_not _ hb, pg_bt_not _ hb, i1 7 (by decide), Bool.or_eq_true, Bool.and_eq_true, Bool.and_eq_true, i2 v j b hv hj hb]
          have hy : ((!pv_bt y1 b) = true) ↔ ¬ pv_bt y1 b = true := by cases pv_bt y1 b <;> simp
          have hz : ((!pv_bt z1 b) = true) ↔ ¬ pv_bt z1 b = true := by cases pv_bt z1 b <;> simp
          rw [hy, hz, y3 b hb, z3 b hb]
          constructor
          · rintro ((q | q) | ⟨⟨q1, q2⟩, q3⟩)
            · exact Or.inl q
            · omega
            · have hbH : j * 64 + b < H := by
                have h9 := (g1 (j * 64 + b) (by omega)).mp (by
                  rw [pg_0g, show (j * 64 + b) / 64 = j by omega, show (j * 64 + b) % 64 = b by omega]
                  exact q1)
                exact h9.1
              exact Or.inr ⟨rfl, Nat.lt_succ_self j, q1, fun h => q2 ⟨hbH, by rw [h]⟩, fun h => q3 ⟨hbH, h.symm⟩⟩
          · rintro (q | ⟨_, _, q1, q2, q3⟩)
            · exact Or.inl (Or.inl q)
            · exact Or.inr ⟨⟨q1, fun h => q2 (pu_inj (by omega) (by omega) h.2).symm⟩, fun h => q3 h.2.symm⟩
        · rw [if_neg fun h => e h.2, i2 v j b hv hj hb]
          constructor
          · rintro (q | ⟨q1, q2, q3⟩)
            · exact Or.inl q
            · exact Or.inr ⟨q1, by omega, q3⟩
          · rintro (q | ⟨q1, q2, q3⟩)
            · exact Or.inl q
            · by_cases e2 : j = i
              · exact absurd (by rw [q1, e2]) e
              · exact Or.inr ⟨q1, by omega, q3⟩)
    (fun k t hI => ⟨t, by
      show (if (w 0 2) ≤ pu_I wd then some t else _) = _
      rw [hw2, if_pos (Int32.le_refl _)], hI⟩)
    wd 0 NF l (by omega) (by have := pv_NF; omega) ⟨fun _ _ => rfl, fun v j b _ _ _ => ⟨Or.inl, fun h => h.elim id fun h => by omega⟩⟩
  have h62 := pg_meet62 hw0 hw2 hH hHV hV h11 hn11 h12 g2 g3 g4 (fun v hv => (g6 v hv).2) ha c P.length 0 NF (w, t) (by omega) (by have := pv_NF; omega) (fun _ _ => rfl)
  have hrun : fX2_meet n w l (pu_I a) c = some (P.foldl (pg_m1 H wd a c) (w, t)) := by
    unfold fX2_meet
    rw [show fX2_meet_L2 n w (pu_I a) c NF 0 l = some t from e1, Option.bind_some]
    rw [show fX2_meet_L62 n (pu_I a) c NF 0 w t = some (P.foldl (pg_m1 H wd a c) (w, t)) from h62]
    rfl
  have hfr : ∀ (Q : List Nat) (s : ST × SL), (∀ r, r ≠ 12 → (Q.foldl (pg_m1 H wd a c) s).1 r = s.1 r) ∧ (∀ r, r ≠ 11 → (Q.foldl (pg_m1 H wd a c) s).2 r = s.2 r) := by
    intro Q
    induction Q with
    | nil => intro s; exact ⟨fun _ _ => rfl, fun _ _ => rfl⟩
    | cons q Q ih =>
      intro s
      rw [List.foldl_cons]
      obtain ⟨f1, f2⟩ := ih (pg_m1 H wd a c s q)
      obtain ⟨f3, f4⟩ := pg_m1_fr H wd a c s q
      exact ⟨fun r hr => by rw [f1 r hr, f3 r hr], fun r hr => by rw [f2 r hr, f4 r hr]⟩
  have hnear : ∀ (Q : List Nat) (s : ST × SL), (∀ q, q ∈ Q → H ≤ q) → ∀ v h, h < wd * 64 → (pg_g (Q.foldl (pg_m1 H wd a c) s).2 11 wd v h = true ↔ pg_g s.2 11 wd v h = true ∨ (a < H ∧ h = a ∧ v ∈ Q ∧ pu_I v ≠ pu_I a ∧ pu_I v ≠ c)) := by
    intro Q
    induction Q with
    | nil => intro s _ v h hh; exact ⟨Or.inl, fun h => h.elim id fun h => (by cases h.2.2.1)⟩
    | cons q Q ih =>
      intro s hQ v h hh
      rw [List.foldl_cons, ih _ (fun x hx => hQ x (List.mem_cons_of_mem _ hx)) v h hh]
      have h1 : pg_g (pg_m1 H wd a c s q).2 11 wd v h = true ↔ pg_g s.2 11 wd v h = true ∨ (a < H ∧ h = a ∧ v = q ∧ pu_I q ≠ pu_I a ∧ pu_I q ≠ c) := by
        unfold pg_m1
        by_cases e1 : pu_I q = pu_I a ∨ pu_I q = c
        · rw [if_pos e1]
          refine ⟨Or.inl, fun h9 => h9.elim id fun ⟨_, _, _, q1, q2⟩ => ?_⟩
          exact absurd e1 (fun h8 => h8.elim q1 q2)
        · rw [if_neg e1]
          have e2 : pu_I q ≠ pu_I a ∧ pu_I q ≠ c := ⟨fun h8 => e1 (Or.inl h8), fun h8 => e1 (Or.inr h8)⟩
          by_cases e3 : H ≤ a
          · rw [if_pos e3]
            exact ⟨Or.inl, fun h9 => h9.elim id fun h9 => absurd h9.1 (by omega)⟩
          · rw [if_neg e3]
            show pg_g (pg_up s.2 11 wd q a) 11 wd v h = true ↔ _
            rw [pg_up_g s.2 11 wd q a (by omega) (by omega), Bool.or_eq_true, decide_eq_true_iff]
            exact ⟨fun h9 => h9.imp id fun h9 => ⟨by omega, h9.2, h9.1, e2⟩, fun h9 => h9.imp id fun h9 => ⟨h9.2.2.1, h9.2.1⟩⟩
      rw [h1, List.mem_cons]
      constructor
      · rintro ((h9 | ⟨a1, a2, a3, a4, a5⟩) | ⟨a1, a2, a3, a4⟩)
        · exact Or.inl h9
        · exact Or.inr ⟨a1, a2, Or.inl a3, by rw [a3]; exact a4, by rw [a3]; exact a5⟩
        · exact Or.inr ⟨a1, a2, Or.inr a3, a4⟩
      · rintro (h9 | ⟨a1, a2, a3 | a3, a4, a5⟩)
        · exact Or.inl (Or.inl h9)
        · exact Or.inl (Or.inr ⟨a1, a2, a3, by rw [← a3]; exact a4, by rw [← a3]; exact a5⟩)
        · exact Or.inr ⟨a1, a2, a3, a4, a5⟩
  have hmate0 : a < H → ∀ (Q : List Nat) (s : ST × SL), (Q.foldl (pg_m1 H wd a c) s).1 = s.1 := by
    intro haH Q
    induction Q with
    | nil => intro s; rfl
    | cons q Q ih =>
      intro s
      rw [List.foldl_cons, ih]
      unfold pg_m1
      by_cases e1 : pu_I q = pu_I a ∨ pu_I q = c
      · rw [if_pos e1]
      · rw [if_neg e1, if_neg (by omega)]
  have hmate1 : H ≤ a → ∀ (Q : List Nat) (s : ST × SL), (∀ q, q ∈ Q → q < V) → (Q.foldl (pg_m1 H wd a c) s).1 = (Q.filter (fun v => decide (v ≠ a ∧ pu_I v ≠ c))).foldl (fun x v => upw (upw x 12 a (pu_I v)) 12 v (pu_I a)) s.1 := by
    intro haH Q
    induction Q with
    | nil => intro s _; rfl
    | cons q Q ih =>
      intro s hQ
      rw [List.foldl_cons, ih _ fun x hx => hQ x (List.mem_cons_of_mem _ hx), List.filter_cons]
      have hq := hQ q List.mem_cons_self
      unfold pg_m1
      by_cases e1 : pu_I q = pu_I a ∨ pu_I q = c
      · rw [if_pos e1, if_neg]
        rw [decide_eq_true_iff]
        rintro ⟨q1, q2⟩
        exact e1.elim (fun h => q1 (pu_inj (by omega) (by omega) h)) q2
      · rw [if_neg e1, if_pos haH, if_pos]
        · rfl
        · rw [decide_eq_true_iff]
          exact ⟨fun h => e1 (Or.inl (by rw [h])), fun h => e1 (Or.inr h)⟩
  refine ⟨(P.foldl (pg_m1 H wd a c) (w, t)).1, (P.foldl (pg_m1 H wd a c) (w, t)).2, hrun, fun r hr => (hfr P (w, t)).1 r hr, fun r hr => by rw [(hfr P (w, t)).2 r hr]; exact e2 r hr, fun v h hv hh => ?_, fun haH => hmate0 haH P (w, t), fun haH R hR => ⟨fun hR0 => ?_, fun p hRp => ?_⟩⟩
  · rw [hnear P (w, t) (fun q hq => (g6 q hq).1) v h hh]
    have h3 : pg_g t 11 wd v h = true ↔ pg_g l 11 wd v h = true ∨ (v = a ∧ h < H ∧ LS (pu_I h) ∧ h ≠ a ∧ pu_I h ≠ c) := by
      have h4 := e3 v (h / 64) (h % 64) hv (by omega) (by omega)
      rw [show h / 64 * 64 + h % 64 = h by omega] at h4
      show pv_bt (t 11 (v * wd + h / 64)) (h % 64) = true ↔ _
      rw [h4]
      have h5 : pv_bt (l 7 (h / 64)) (h % 64) = true ↔ h < H ∧ LS (pu_I h) := by
        rw [← pg_0g l 7 wd h]
        exact g1 h hh
      rw [h5]
      constructor
      · rintro (q | ⟨q1, _, ⟨q2, q3⟩, q4, q5⟩)
        · exact Or.inl q
        · exact Or.inr ⟨q1, q2, q3, q4, q5⟩
      · rintro (q | ⟨q1, q2, q3, q4, q5⟩)
        · exact Or.inl q
        · exact Or.inr ⟨q1, by omega, ⟨q2, q3⟩, q4, q5⟩
    show (pg_g t 11 wd v h = true ∨ _) ↔ _
    rw [h3]
    constructor
    · rintro ((q | q) | ⟨q1, q2, q3, _, q5⟩)
      · exact Or.inl q
      · exact Or.inr (Or.inl q)
      · exact Or.inr (Or.inr ⟨q1, q2, q3, q5⟩)
    · rintro (q | q | ⟨q1, q2, q3, q5⟩)
      · exact Or.inl (Or.inl q)
      · exact Or.inl (Or.inr q)
      · refine Or.inr ⟨q1, q2, q3, fun h9 => ?_, q5⟩
        have := pu_inj (by omega) (by omega) h9
        have := (g6 v q3).1
        omega
  · rw [hmate1 haH P (w, t) (fun q hq => (g6 q hq).2), ← hR, hR0]
    rfl
  · rw [hmate1 haH P (w, t) (fun q hq => (g6 q hq).2), ← hR, hRp]
    rfl
end MEF
