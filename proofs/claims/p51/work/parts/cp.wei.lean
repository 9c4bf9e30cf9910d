/-! pure side, the graph 19: who gives values, and how often -/
section WEI
variable {n n2 : Nat → Nat} {w fw x9 : ST} {l : SL} {B N V H wd : Nat} {qs : Nat → List Nat}
/-- how often steps give a value -/
def pg_ct (x9 : ST) (v : Nat) (d : List Nat) : Nat := d.countP (fun a => decide (x9 3 a = pu_I v))
def pg_wi (w0 : ST) (l0 : SL) (x9 : ST) (V : Nat) (d : List Nat) (s : ST × SL) : Prop :=
  (∀ r, r ≠ 15 → r ≠ 16 → s.1 r = w0 r) ∧ (∀ r, r ≠ 14 → s.2 r = l0 r) ∧ ∀ v, v < V → s.1 15 v = pu_I (pg_ct x9 v d) ∧ (pg_ct x9 v d ≠ 0 → ∃ a, a ∈ d ∧ x9 3 a = pu_I v ∧ s.1 16 v = pu_I a)
theorem pg_wi_l {w0 : ST} {l0 : SL} {d : List Nat} {s : ST × SL} (h : pg_wi w0 l0 x9 V d s) (v : Nat) (x : Int64) : pg_wi w0 l0 x9 V d (s.1, upl s.2 14 v x) :=
  ⟨h.1, fun r hr => by show upl s.2 14 v x r = _; rw [pv_upl_n hr, h.2.1 r hr], h.2.2⟩
theorem pg_wei65 (hfl : pg_fl B N V fw x9 n2 qs) (h14 : V ≤ n 14) (h15 : V ≤ n 15) (h16 : V ≤ n 16) {b : Nat} (hb : b < B) {w0 : ST} {l0 : SL} {d0 : List Nat} {s : ST × SL} (hI : pg_wi w0 l0 x9 V d0 s) :
    ∃ s', fX2_weigh_L65 n fw n2 x9 (pu_I b) NF (fw 4 b) s.1 s.2 = some s' ∧ pg_wi w0 l0 x9 V (d0 ++ qs b) s' := by
  obtain ⟨⟨hB0, hBp, hB⟩, ⟨⟨r2, r3, r4, r5, r6⟩, hN, hV⟩, hst, hd, hstep, hend⟩ := hfl
  refine pv_chl (σ := ST × SL) (G := fun k x (s : ST × SL) => fX2_weigh_L65 n fw n2 x9 (pu_I b) k x s.1 s.2) (nx := x9 6)
    (Inv := fun done rem s => qs b = done ++ rem ∧ pg_wi w0 l0 x9 V (d0 ++ done) s) (Q := fun s => pg_wi w0 l0 x9 V (d0 ++ qs b) s)
    (fun k a done rem s hI => ?_) (fun k x done s hx hI => ⟨s, ?_, ?_⟩) (qs b) [] (fw 4 b) NF s (hst.1 b hb) (by have := pv_len N (qs b) (hd.2.1 b hb) (hd.1 b hb); have := pv_NF; omega) ⟨rfl, by rw [List.append_nil]; exact hI⟩
  · obtain ⟨i1, i2⟩ := hI
    have haq : a ∈ qs b := by rw [i1]; exact List.mem_append_right _ List.mem_cons_self
    have haN := hd.1 b hb a haq
    obtain ⟨_, s1, s2, s3, s4⟩ := hstep b hb a haq
    have hn2 : ixb (pu_I a) (n2 2) = true := (pu_ix (by omega)).mpr (by omega)
    have hn3 : ixb (pu_I a) (n2 3) = true := (pu_ix (by omega)).mpr (by omega)
    have hn4 : ixb (pu_I a) (n2 4) = true := (pu_ix (by omega)).mpr (by omega)
    have hn5 : ixb (pu_I a) (n2 5) = true := (pu_ix (by omega)).mpr (by omega)
    have hn6 : ixb (pu_I a) (n2 6) = true := (pu_ix (by omega)).mpr (by omega)
    have hi4 : ∀ u, u < V → ixb (pu_I u) (n 14) = true := fun u hu => (pu_ix (by omega)).mpr (by omega)
    have hi5 : ∀ u, u < V → ixb (pu_I u) (n 15) = true := fun u hu => (pu_ix (by omega)).mpr (by omega)
    have hi6 : ∀ u, u < V → ixb (pu_I u) (n 16) = true := fun u hu => (pu_ix (by omega)).mpr (by omega)
    have e208 : ∀ (y : ST) (z : SL), fX2_weigh_J208 (fX2_weigh_L65 n fw n2 x9 (pu_I b) k) n2 x9 (pu_I a) y z = fX2_weigh_L65 n fw n2 x9 (pu_I b) k (x9 6 a) y z := fun y z => by
      unfold fX2_weigh_J208
      rw [if_pos hn6, pu_nn (by omega)]
    have e151 : ∀ (y : SL), pg_wi w0 l0 x9 V (d0 ++ done) (s.1, y) → ∃ s', fX2_weigh_J151 (fX2_weigh_L65 n fw n2 x9 (pu_I b) k) n fw n2 x9 (pu_I b) (pu_I a) s.1 y = fX2_weigh_L65 n fw n2 x9 (pu_I b) k (x9 6 a) s'.1 s'.2 ∧ pg_wi w0 l0 x9 V (d0 ++ (done ++ [a])) s' := fun y hy => by
      by_cases hg : pu_gw (x9 2 a) = true
      · obtain ⟨u, hu, eu⟩ := s1 hg
        refine ⟨(upw (upw s.1 15 u (s.1 15 u + 1)) 16 u (pu_I a), upl y 14 u (y 14 u + (((1 : Int64) <<< (((3 * (if (4 : Int32) < (fw 13 (nn (pu_I b))) then 4 else (fw 13 (nn (pu_I b))))) : Int32).toInt64 &&& 63))))), ?_, fun r h1 h2 => ?_, fun r hr => ?_, fun v hv => ?_⟩
        · unfold fX2_weigh_J151
          rw [if_pos hn3, pu_nn (show a < 2147483648 by omega), eu, if_neg (pu_ge (by omega)), if_pos hn3, if_pos (hi4 u hu), if_pos (hi4 u hu), pu_nn (show u < 2147483648 by omega)]
          unfold lt9
          dsimp only
          rw [if_pos hn3, if_pos (hi5 u hu), if_pos (hi5 u hu), if_pos hn3, if_pos (hi6 u hu), e208]
        · show upw (upw s.1 15 u (s.1 15 u + 1)) 16 u (pu_I a) r = _
          rw [pv_upw_n h2, pv_upw_n h1, hy.1 r h1 h2]
        · show upl y 14 u _ r = _
          rw [pv_upl_n hr]; exact hy.2.1 r hr
        · obtain ⟨j1, j2⟩ := hy.2.2 v hv
          have hc : pg_ct x9 v (d0 ++ (done ++ [a])) = pg_ct x9 v (d0 ++ done) + (if u = v then 1 else 0) := by
            unfold pg_ct
            rw [← List.append_assoc, List.countP_append, List.countP_singleton, eu]
            congr 1
            by_cases q : u = v
            · rw [q, if_pos (decide_eq_true rfl), if_pos rfl]
            · rw [if_neg (fun h => q (pu_inj (by omega) (by omega) (of_decide_eq_true h))), if_neg q]
          show upw (upw s.1 15 u (s.1 15 u + 1)) 16 u (pu_I a) 15 v = _ ∧ (_ → ∃ a9, a9 ∈ _ ∧ _ ∧ upw (upw s.1 15 u (s.1 15 u + 1)) 16 u (pu_I a) 16 v = pu_I a9)
          rw [hc]
          by_cases q : u = v
          · subst q
            rw [if_pos rfl]
            refine ⟨?_, fun _ => ⟨a, List.mem_append_right _ (List.mem_append_right _ List.mem_cons_self), eu, by rw [pv_upw, if_pos ⟨rfl, rfl⟩]⟩⟩
            rw [pv_upw, if_neg (fun h => absurd h.1 (by decide)), pv_upw, if_pos ⟨rfl, rfl⟩, show s.1 15 u = _ from j1, pu_su]
          · rw [if_neg q, Nat.add_zero]
            refine ⟨?_, fun h => ?_⟩
            · rw [pv_upw, if_neg (fun h => absurd h.1 (by decide)), pv_upw, if_neg (fun h => q h.2.symm)]
              exact j1
            · obtain ⟨a9, g1, g2, g3⟩ := j2 h
              refine ⟨a9, ?_, g2, ?_⟩
              · rw [← List.append_assoc]
                exact List.mem_append_left _ g1
              · rw [pv_upw, if_neg (fun h => q h.2.symm), pv_upw, if_neg (fun h => absurd h.1 (by decide))]
                exact g3
      · have hg : pu_gw (x9 2 a) = false := by simpa using hg
        refine ⟨(s.1, y), ?_, hy.1, hy.2.1, fun v hv => ?_⟩
        · unfold fX2_weigh_J151
          rw [if_pos hn3, pu_nn (show a < 2147483648 by omega), s2 hg, if_pos (by decide), e208]
        · obtain ⟨j1, j2⟩ := hy.2.2 v hv
          have hc : pg_ct x9 v (d0 ++ (done ++ [a])) = pg_ct x9 v (d0 ++ done) := by
            unfold pg_ct
            rw [← List.append_assoc, List.countP_append, List.countP_singleton, s2 hg, if_neg (fun h => pg_In1 (by omega) (of_decide_eq_true h).symm), Nat.add_zero]
          rw [hc]
          refine ⟨j1, fun h => ?_⟩
          obtain ⟨a9, g1, g2⟩ := j2 h
          exact ⟨a9, by rw [← List.append_assoc]; exact List.mem_append_left _ g1, g2⟩
    have e104 : ∀ (y : SL), pg_wi w0 l0 x9 V (d0 ++ done) (s.1, y) → ∃ s', fX2_weigh_J104 (fX2_weigh_L65 n fw n2 x9 (pu_I b) k) n fw n2 x9 (pu_I b) (pu_I a) s.1 y = fX2_weigh_L65 n fw n2 x9 (pu_I b) k (x9 6 a) s'.1 s'.2 ∧ pg_wi w0 l0 x9 V (d0 ++ (done ++ [a])) s' := fun y hy => by
      unfold fX2_weigh_J104
      rw [if_pos hn2, pu_nn (show a < 2147483648 by omega), pv_ur, Option.bind_some]
      cases hu : pu_ur (x9 2 a) with
      | false =>
        obtain ⟨s', q1, q2⟩ := e151 y hy
        exact ⟨s', by rw [← q1]; rfl, q2⟩
      | true =>
        obtain ⟨u, hu, eu⟩ := s4 hu
        obtain ⟨s', q1, q2⟩ := e151 _ (pg_wi_l hy u (y 14 u + (((1 : Int64) <<< (((3 * (if (4 : Int32) < (fw 13 (nn (pu_I b))) then 4 else (fw 13 (nn (pu_I b))))) : Int32).toInt64 &&& 63)))))
        obtain ⟨s2', q3, q4⟩ := e151 y hy
        rw [if_neg (show ¬ pv_b true = 0 by decide), if_pos hn5, if_pos hn4, if_pos hn5, eu, if_pos (hi4 u hu), if_pos (hi4 u hu), pu_nn (show u < 2147483648 by omega)]
        by_cases q : pu_I u = x9 4 a
        · rw [if_pos q]
          exact ⟨s2', q3, q4⟩
        · rw [if_neg q]
          exact ⟨s', q1, q2⟩
    have main : ∃ s', fX2_weigh_L65 n fw n2 x9 (pu_I b) (k + 1) (pu_I a) s.1 s.2 = fX2_weigh_L65 n fw n2 x9 (pu_I b) k (x9 6 a) s'.1 s'.2 ∧ pg_wi w0 l0 x9 V (d0 ++ (done ++ [a])) s' := by
      have hgo : fX2_weigh_L65 n fw n2 x9 (pu_I b) (k + 1) (pu_I a) s.1 s.2 = (if pv_b (pu_ul (x9 2 a)) = 0 then (fX2_weigh_J104 (fX2_weigh_L65 n fw n2 x9 (pu_I b) k) n fw n2 x9 (pu_I b) (pu_I a) s.1 s.2) else (if ixb (x9 4 a) (n 14) = true then (if ixb (x9 4 a) (n 14) = true then (fX2_weigh_J104 (fX2_weigh_L65 n fw n2 x9 (pu_I b) k) n fw n2 x9 (pu_I b) (pu_I a) s.1 (upl s.2 14 (nn (x9 4 a)) ((s.2 14 (nn (x9 4 a))) + (((1 : Int64) <<< (((3 * (if (4 : Int32) < (fw 13 (nn (pu_I b))) then 4 else (fw 13 (nn (pu_I b))))) : Int32).toInt64 &&& 63)))))) else none) else none)) := by
        show (if pu_I a < 0 then some (s.1, s.2) else (if ixb (pu_I a) (n2 2) = true then ((fX11_usesLeft (x9 2 (nn (pu_I a)))).bind fun (o_8 : Int32) => (if o_8 = 0 then _ else (if ixb (pu_I a) (n2 4) = true then _ else none))) else none)) = _
        rw [if_neg (pu_ge (by omega)), if_pos hn2, pu_nn (show a < 2147483648 by omega), pv_ul, Option.bind_some, if_pos hn4]
        rfl
      rw [hgo]
      cases hu : pu_ul (x9 2 a) with
      | false =>
        obtain ⟨s', q1, q2⟩ := e104 s.2 i2
        exact ⟨s', by rw [← q1]; rfl, q2⟩
      | true =>
        obtain ⟨u, hu, eu⟩ := s3 hu
        obtain ⟨s', q1, q2⟩ := e104 _ (pg_wi_l i2 u (s.2 14 u + (((1 : Int64) <<< (((3 * (if (4 : Int32) < (fw 13 (nn (pu_I b))) then 4 else (fw 13 (nn (pu_I b))))) : Int32).toInt64 &&& 63)))))
        rw [if_neg (show ¬ pv_b true = 0 by decide), eu, if_pos (hi4 u hu), if_pos (hi4 u hu), pu_nn (show u < 2147483648 by omega)]
        exact ⟨s', q1, q2⟩
    obtain ⟨s', m1, m2⟩ := main
    exact ⟨s', m1, by rw [i1, List.append_assoc]; rfl, m2⟩
  · show (if x < 0 then some (s.1, s.2) else _) = _
    rw [if_pos hx]
  · have h1 := hI.1
    rw [List.append_nil] at h1
    rw [h1]
    exact hI.2
theorem pg_weigh (hsh : pg_shp n w l H V wd) (hfl : pg_fl B N V fw x9 n2 qs) (hc : pg_cap n) :
    ∃ w' l', fX2_weigh n w l fw n2 x9 = some (w', l') ∧ (∀ r, r ≠ 15 → r ≠ 16 → w' r = w r) ∧ (∀ r, r ≠ 14 → l' r = l r) ∧
      ∀ v, v < V → w' 15 v = pu_I (pg_ct x9 v ((List.range B).flatMap qs)) ∧ (pg_ct x9 v ((List.range B).flatMap qs) ≠ 0 → ∃ a, a ∈ (List.range B).flatMap qs ∧ x9 3 a = pu_I v ∧ w' 16 v = pu_I a) := by
  obtain ⟨⟨a0, a1, a2⟩, ⟨b1, b2, b3, b4⟩, ⟨c1, c2⟩, ⟨d12, d13, d14, d15, d16, d17, d18, d19⟩, hcol, hmt⟩ := id hsh
  obtain ⟨_, _, _, _, _, _, _, _, q14, q15, q16, _⟩ := hc
  obtain ⟨⟨hB0, hBp, hB⟩, ⟨⟨r2, r3, r4, r5, r6⟩, hN, hV⟩, hst, hd, hstep, hend⟩ := id hfl
  obtain ⟨g1, f1, f2⟩ := pg_fillL (n := n 14) (lo := 0) (hi := V) (f := l 14) (v := 0) (by omega) d14 (by omega)
  obtain ⟨g2, f3, f4⟩ := pg_fillI (n := n 15) (hi := V) (f := w 15) (v := 0) d15 (by omega)
  obtain ⟨w0, hw0⟩ : ∃ w0, w0 = srw w 15 g2 := ⟨_, rfl⟩
  obtain ⟨l0, hl0⟩ : ∃ l0, l0 = srl l 14 g1 := ⟨_, rfl⟩
  obtain ⟨t, e1, e2⟩ := pv_for (σ := ST × SL) (G := fun k i (s : ST × SL) => fX2_weigh_L33 n fw n2 x9 k i s.1 s.2) (hi := B)
    (Inv := fun i (s : ST × SL) => pg_wi w0 l0 x9 V ((List.range i).flatMap qs) s) (Q := fun s => pg_wi w0 l0 x9 V ((List.range B).flatMap qs) s)
    (fun k i s hi hI => by
      obtain ⟨s', h1, h2⟩ := pg_wei65 (n := n) hfl d14 d15 d16 hi hI
      have hib : ixb (pu_I i) 60 = true := (pu_ix (by omega)).mpr (by omega)
      rw [show (List.range (i + 1)).flatMap qs = (List.range i).flatMap qs ++ qs i by rw [List.range_succ, List.flatMap_append]; simp]
      have hJ : ∀ z, fX2_weigh_J245 (fX2_weigh_L33 n fw n2 x9 k) (pu_I i) s' z = fX2_weigh_L33 n fw n2 x9 k (pu_I (i + 1)) s'.1 z := fun z => by
        unfold fX2_weigh_J245
        rw [pu_su]
      have hgo : fX2_weigh_L33 n fw n2 x9 (k + 1) (pu_I i) s.1 s.2 = (if (fw 9 i) < 0 then fX2_weigh_L33 n fw n2 x9 k (pu_I (i + 1)) s'.1 s'.2 else (if ixb (fw 9 i) (n 14) = true then (if ixb (fw 9 i) (n 14) = true then fX2_weigh_L33 n fw n2 x9 k (pu_I (i + 1)) s'.1 (upl s'.2 14 (nn (fw 9 i)) (((s'.2 14) (nn (fw 9 i))) + (((1 : Int64) <<< (((3 * (if (4 : Int32) < (fw 13 (nn (pu_I i))) then 4 else (fw 13 (nn (pu_I i))))) : Int32).toInt64 &&& 63))))) else none) else none)) := by
        show (if (fw 0 0) ≤ pu_I i then some (s.1, s.2) else (if ixb (pu_I i) 60 = true then (if ixb (pu_I i) 60 = true then ((fX2_weigh_L65 n fw n2 x9 (pu_I i) NF (fw 4 (nn (pu_I i))) s.1 s.2).bind fun (o65 : ST × SL) => _) else none) else none)) = _
        rw [hB0, if_neg (by rw [pu_le (by omega) (by omega)]; omega), if_pos hib, if_pos hib, pu_nn (show i < 2147483648 by omega), h1, Option.bind_some, if_pos hib, hJ, if_pos hib]
        unfold lt9
        simp only [hJ]
      rcases (hend i hi).1 with q | q
      · refine ⟨s', ?_, h2⟩
        show fX2_weigh_L33 n fw n2 x9 (k + 1) (pu_I i) s.1 s.2 = _
        rw [hgo, if_pos ((hend i hi).2.1 q)]
      · obtain ⟨u, hu, eu⟩ := (hend i hi).2.2.1 q
        refine ⟨_, ?_, pg_wi_l h2 u (s'.2 14 u + (((1 : Int64) <<< (((3 * (if (4 : Int32) < (fw 13 (nn (pu_I i))) then 4 else (fw 13 (nn (pu_I i))))) : Int32).toInt64 &&& 63))))⟩
        show fX2_weigh_L33 n fw n2 x9 (k + 1) (pu_I i) s.1 s.2 = _
        rw [hgo, eu, if_neg (pu_ge (by omega)), if_pos ((pu_ix (by omega)).mpr (by omega)), if_pos ((pu_ix (by omega)).mpr (by omega)), pu_nn (show u < 2147483648 by omega)])
    (fun k s hI => ⟨s, by
      show (if (fw 0 0) ≤ pu_I B then some (s.1, s.2) else _) = _
      rw [hB0, if_pos (Int32.le_refl _)], hI⟩)
    B 0 NF (w0, l0) (by omega) (by have := pv_NF; omega) ⟨fun _ _ _ => rfl, fun _ _ => rfl, fun v hv => ⟨by
      show w0 15 v = pu_I 0
      rw [hw0, pv_srw_s, f4, if_pos hv]
      rfl, fun h => absurd rfl h⟩⟩
  refine ⟨t.1, t.2, ?_, fun r h1 h2 => by rw [e2.1 r h1 h2, hw0, pv_srw_n h1], fun r hr => by rw [e2.2.1 r hr, hl0, pv_srl_n hr], e2.2.2⟩
  unfold fX2_weigh
  rw [a1, show fJ7_fill_bad5a (n 14) (l 14) 0 (pu_I V) 0 = some g1 from f1, Option.bind_some, f3, Option.bind_some, ← hw0, ← hl0, show fX2_weigh_L33 n fw n2 x9 NF 0 w0 l0 = some t from e1]
  rfl
end WEI
