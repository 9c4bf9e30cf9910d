/-! pure side, the graph 7: what lives together meets -/
theorem pg_nd1 (v : Nat) : [v].Nodup := List.nodup_cons.mpr ⟨fun h => (by cases h), List.nodup_nil⟩
section MEE
variable {n : Nat → Nat} {w : ST} {l : SL} {B V H wd : Nat} {LS : Int32 → Prop} {P : List Nat}
theorem pg_0g (l : SL) (r wd h : Nat) : pg_g l r wd 0 h = pv_bt (l r (h / 64)) (h % 64) := by
  unfold pg_g
  rw [Nat.zero_mul, Nat.zero_add]
/-- what is live: homes as bits, guests in a list -/
def pg_lst (w : ST) (l : SL) (H V wd : Nat) (LS : Int32 → Prop) (P : List Nat) : Prop :=
  (∀ h, h < wd * 64 → (pg_g l 7 wd 0 h = true ↔ h < H ∧ LS (pu_I h))) ∧ w 0 8 = pu_I P.length ∧ P.length ≤ 2 ∧ (∀ i v, P[i]? = some v → w 8 i = pu_I v) ∧ P.Nodup ∧ (∀ v, v ∈ P → H ≤ v ∧ v < V) ∧ ∀ v, H ≤ v → v < V → (LS (pu_I v) ↔ v ∈ P)
theorem pg_lst_cg {LS2 : Int32 → Prop} (h : pg_lst w l H V wd LS P) (he : ∀ v, v < V → (LS2 (pu_I v) ↔ LS (pu_I v))) (hHV : H ≤ V) : pg_lst w l H V wd LS2 P := by
  obtain ⟨h1, h2, h3, h4, h5, h6, h7⟩ := h
  refine ⟨fun i hi => (h1 i hi).trans ⟨fun ⟨a, b⟩ => ⟨a, (he i (by omega)).mpr b⟩, fun ⟨a, b⟩ => ⟨a, (he i (by omega)).mp b⟩⟩, h2, h3, h4, h5, h6, fun v v1 v2 => (he v v2).trans (h7 v v1 v2)⟩
/-- a search in the list of guests -/
theorem pg_find (hl : pg_lst w l H V wd LS P) (hV : V < 1000000) {v : Nat} (hv : v < V) : ∀ (m i k : Nat), i + m = P.length → m < k → (∀ j, j < i → P[j]? ≠ some v) →
    (v ∈ P ∧ fX2_addLive_L21 w l (pu_I v) k (pu_I i) = some (Sum.inl (w, l))) ∨ (v ∉ P ∧ fX2_addLive_L21 w l (pu_I v) k (pu_I i) = some (Sum.inr ())) := by
  obtain ⟨_, h2, h3, h4, h5, h6, _⟩ := hl
  intro m
  induction m with
  | zero =>
    intro i k hi hk hno
    obtain ⟨k', rfl⟩ : ∃ k', k = k' + 1 := ⟨k - 1, by omega⟩
    refine Or.inr ⟨fun hm => ?_, ?_⟩
    · obtain ⟨j, hj⟩ := List.mem_iff_getElem?.mp hm
      by_cases e : j < i
      · exact hno j e hj
      · rw [List.getElem?_eq_none (by omega)] at hj
        cases hj
    · show (if (w 0 8) ≤ pu_I i then some (Sum.inr ()) else _) = _
      rw [h2, if_pos (by rw [pu_le (by omega) (by omega)]; omega)]
  | succ m ih =>
    intro i k hi hk hno
    obtain ⟨k', rfl⟩ : ∃ k', k = k' + 1 := ⟨k - 1, by omega⟩
    obtain ⟨u, hu⟩ : ∃ u, P[i]? = some u := ⟨P[i]'(by omega), List.getElem?_eq_getElem (by omega)⟩
    have hu6 := h6 u (List.mem_of_getElem? hu)
    have hform : fX2_addLive_L21 w l (pu_I v) (k' + 1) (pu_I i) = (if pu_I u = pu_I v then some (Sum.inl (w, l)) else fX2_addLive_L21 w l (pu_I v) k' (pu_I (i + 1))) := by
      show (if (w 0 8) ≤ pu_I i then some (Sum.inr ()) else (if ixb (pu_I i) 2 = true then (if (w 8 (nn (pu_I i))) = pu_I v then some (Sum.inl (w, l)) else ((fX2_addLive_L21 w l (pu_I v) k') (pu_I i + 1))) else none)) = _
      rw [h2, if_neg (by rw [pu_le (by omega) (by omega)]; omega), if_pos ((pu_ix (by omega)).mpr (by omega)), pu_nn (show i < 2147483648 by omega), h4 i u hu, pu_su]
    rw [hform]
    by_cases e : u = v
    · subst e
      rw [if_pos rfl]
      exact Or.inl ⟨List.mem_of_getElem? hu, rfl⟩
    · rw [if_neg fun h => e (pu_inj (by omega) (by omega) h)]
      refine ih (i + 1) k' (by omega) (by omega) fun j hj => ?_
      by_cases e2 : j = i
      · rw [e2, hu]
        exact fun h => e (Option.some.inj h)
      · exact hno j (by omega)
theorem pg_addLive (hw0 : w 0 0 = pu_I H) (hw2 : w 0 2 = pu_I wd) (hH : H ≤ wd * 64) (hHV : H ≤ V) (hV : V < 1000000) (h7 : wd ≤ n 7) (hn7 : n 7 < 1000000) (hl : pg_lst w l H V wd LS P) {v : Nat} (hv : v < V) (hP : H ≤ v → P.length ≤ 1) :
    ∃ w' l' P', fX2_addLive n w l (pu_I v) = some (w', l') ∧ pg_lst w' l' H V wd (fun u => u = pu_I v ∨ LS u) P' ∧ (v < H → P' = P) ∧ P'.length ≤ P.length + 1 ∧ (∀ r, r ≠ 7 → l' r = l r) ∧ (∀ r, r ≠ 0 → r ≠ 8 → w' r = w r) ∧ (∀ i, i ≠ 8 → w' 0 i = w 0 i) := by
  obtain ⟨g1, g2, g3, g4, g5, g6, g7⟩ := id hl
  by_cases h : v < H
  · refine ⟨w, pg_up l 7 wd 0 v, P, ?_, ⟨fun i hi => ?_, g2, g3, g4, g5, g6, fun u u1 u2 => ?_⟩, fun _ => rfl, Nat.le_succ _, fun r hr => pg_up_n hr, fun _ _ _ => rfl, fun _ _ => rfl⟩
    · unfold fX2_addLive
      rw [hw0, if_neg (by rw [pu_le (by omega) (by omega)]; omega), show (0 : Int32) = pu_I 0 from rfl, pg_put6 hw2 (by omega) (by rw [Nat.zero_mul, Nat.zero_add]; omega) hn7, Option.bind_some]
    · rw [pg_up_g l 7 wd 0 v (by omega) (by omega), Bool.or_eq_true, decide_eq_true_iff, g1 i hi]
      constructor
      · rintro (⟨a, b⟩ | ⟨_, rfl⟩)
        · exact ⟨a, Or.inr b⟩
        · exact ⟨h, Or.inl rfl⟩
      · rintro ⟨a, b | b⟩
        · exact Or.inr ⟨rfl, pu_inj (by omega) (by omega) b⟩
        · exact Or.inl ⟨a, b⟩
    · rw [← g7 u u1 u2]
      exact ⟨fun h9 => h9.elim (fun e => absurd (pu_inj (by omega) (by omega) e) (by omega)) id, Or.inr⟩
  · have hP1 := hP (by omega)
    have hle : (w 0 0) ≤ pu_I v := by rw [hw0, pu_le (by omega) (by omega)]; omega
    rcases pg_find hl hV hv P.length 0 NF (by omega) (by have := pv_NF; omega) (fun j hj => by omega) with ⟨a1, a2⟩ | ⟨a1, a2⟩
    · refine ⟨w, l, P, ?_, pg_lst_cg hl (fun u hu => ?_) hHV, fun _ => rfl, Nat.le_succ _, fun _ _ => rfl, fun _ _ _ => rfl, fun _ _ => rfl⟩
      · unfold fX2_addLive
        rw [if_pos hle, show fX2_addLive_L21 w l (pu_I v) NF 0 = some (Sum.inl (w, l)) from a2, Option.bind_some]
        rfl
      · refine ⟨fun h9 => h9.elim (fun e => ?_) id, Or.inr⟩
        have := pu_inj (by omega) (by omega) e
        rw [this]
        exact (g7 v (by omega) hv).mpr a1
    · obtain ⟨w', hw'⟩ : ∃ w', w' = upw (upw w 8 P.length (pu_I v)) 0 8 (pu_I (P.length + 1)) := ⟨_, rfl⟩
      have hlen : (P ++ [v]).length = P.length + 1 := List.length_append
      have hw'8 : ∀ i, w' 8 i = if i = P.length then pu_I v else w 8 i := fun i => by
        rw [hw', pv_upw_n (by decide), pv_upw]
        by_cases e : i = P.length
        · rw [if_pos ⟨rfl, e⟩, if_pos e]
        · rw [if_neg fun h => e h.2, if_neg e]
      refine ⟨w', l, P ++ [v], ?_, ⟨fun i hi => ?_, ?_, by omega, fun i u hu => ?_, ?_, fun u hu => ?_, fun u u1 u2 => ?_⟩, fun h9 => absurd h9 h, by omega, fun _ _ => rfl, fun r r0 r8 => by rw [hw', pv_upw_n r0, pv_upw_n r8], fun i hi => by rw [hw', pv_upw, if_neg fun h => hi h.2, pv_upw_n (by decide)]⟩
      · unfold fX2_addLive
        rw [if_pos hle, show fX2_addLive_L21 w l (pu_I v) NF 0 = some (Sum.inr ()) from a2, Option.bind_some]
        show (if 2 ≤ (w 0 8) then (fX2_addLive_J78 l w) else (if ixb (w 0 8) 2 = true then (lt9 (upw w 8 (nn (w 0 8)) (pu_I v)) fun (w7 : ST) => (lt9 (upw w7 0 8 ((w7 0 8) + 1)) fun (w8 : ST) => (fX2_addLive_J78 l w8))) else none)) = _
        rw [g2, if_neg (show ¬ (2 : Int32) ≤ pu_I P.length from fun h9 => by have := (pu_le (a := 2) (by decide) (by omega)).mp h9; omega), if_pos ((pu_ix (by omega)).mpr (by omega)), pu_nn (show P.length < 2147483648 by omega)]
        simp only [lt9]
        rw [pv_upw_n (show (0 : Nat) ≠ 8 by decide), g2, pu_su, ← hw']
        rfl
      · rw [g1 i hi]
        refine ⟨fun ⟨a, b⟩ => ⟨a, Or.inr b⟩, fun ⟨a, b⟩ => ⟨a, b.elim (fun e => ?_) id⟩⟩
        exact absurd (pu_inj (by omega) (by omega) e) (by omega)
      · rw [hw', pv_upw, if_pos ⟨rfl, rfl⟩, hlen]
      · rw [hw'8]
        by_cases e : i < P.length
        · rw [List.getElem?_append_left e] at hu
          rw [if_neg (by omega)]
          exact g4 i u hu
        · by_cases e2 : i = P.length
          · rw [if_pos e2]
            rw [List.getElem?_append_right (by omega), e2, Nat.sub_self] at hu
            rw [← Option.some.inj hu]
          · rw [List.getElem?_eq_none (by omega)] at hu
            cases hu
      · refine List.nodup_append.mpr ⟨g5, pg_nd1 v, fun x hx y hy e => ?_⟩
        rw [e, List.mem_singleton.mp hy] at hx
        exact a1 hx
      · rcases List.mem_append.mp hu with hu | hu
        · exact g6 u hu
        · rw [List.mem_singleton.mp hu]
          exact ⟨by omega, hv⟩
      · rw [List.mem_append, List.mem_singleton, ← g7 u u1 u2]
        refine ⟨fun h9 => h9.elim (fun e => Or.inr (pu_inj (by omega) (by omega) e)) Or.inl, fun h9 => h9.elim Or.inr fun e => Or.inl (by rw [e])⟩
/-- one is taken out of the list of guests -/
theorem pg_out (hl : pg_lst w l H V wd LS P) (hV : V < 1000000) {v : Nat} (hv : v < V) : ∀ (m i k : Nat), i + m = P.length → m < k → (∀ j, j < i → P[j]? ≠ some v) →
    (∃ w', fX2_removeLive_L33 w l (pu_I v) k (pu_I i) = some (Sum.inl (w', l)) ∧ v ∈ P ∧ (∃ i0, i0 < P.length ∧ P[i0]? = some v ∧ w' = upw (upw w 0 8 (pu_I (P.length - 1))) 8 i0 (w 8 (P.length - 1)))) ∨ (v ∉ P ∧ fX2_removeLive_L33 w l (pu_I v) k (pu_I i) = some (Sum.inr ())) := by
  obtain ⟨_, h2, h3, h4, h5, h6, _⟩ := hl
  intro m
  induction m with
  | zero =>
    intro i k hi hk hno
    obtain ⟨k', rfl⟩ : ∃ k', k = k' + 1 := ⟨k - 1, by omega⟩
    refine Or.inr ⟨fun hm => ?_, ?_⟩
    · obtain ⟨j, hj⟩ := List.mem_iff_getElem?.mp hm
      by_cases e : j < i
      · exact hno j e hj
      · rw [List.getElem?_eq_none (by omega)] at hj
        cases hj
    · show (if (w 0 8) ≤ pu_I i then some (Sum.inr ()) else _) = _
      rw [h2, if_pos (by rw [pu_le (by omega) (by omega)]; omega)]
  | succ m ih =>
    intro i k hi hk hno
    obtain ⟨k', rfl⟩ : ∃ k', k = k' + 1 := ⟨k - 1, by omega⟩
    obtain ⟨u, hu⟩ : ∃ u, P[i]? = some u := ⟨P[i]'(by omega), List.getElem?_eq_getElem (by omega)⟩
    have hu6 := h6 u (List.mem_of_getElem? hu)
    have hsub : pu_I P.length - 1 = pu_I (P.length - 1) := by
      rw [show (1 : Int32) = pu_I 1 from rfl, pv_sub (by omega)]
    have hform : fX2_removeLive_L33 w l (pu_I v) (k' + 1) (pu_I i) = (if pu_I u = pu_I v then some (Sum.inl (upw (upw w 0 8 (pu_I (P.length - 1))) 8 i (w 8 (P.length - 1)), l)) else fX2_removeLive_L33 w l (pu_I v) k' (pu_I (i + 1))) := by
      show (if (w 0 8) ≤ pu_I i then some (Sum.inr ()) else (if ixb (pu_I i) 2 = true then (if (w 8 (nn (pu_I i))) = pu_I v then (lt9 (upw w 0 8 ((w 0 8) - 1)) fun (w5 : ST) => (if ixb (w5 0 8) 2 = true then (if ixb (pu_I i) 2 = true then (lt9 (upw w5 8 (nn (pu_I i)) (w5 8 (nn (w5 0 8)))) fun (w8 : ST) => some (Sum.inl (w8, l))) else none) else none)) else ((fX2_removeLive_L33 w l (pu_I v) k') (pu_I i + 1))) else none)) = _
      have hix : ixb (pu_I i) 2 = true := (pu_ix (by omega)).mpr (by omega)
      rw [h2, if_neg (by rw [pu_le (by omega) (by omega)]; omega), if_pos hix, pu_nn (show i < 2147483648 by omega), h4 i u hu, hsub]
      simp only [lt9]
      rw [show upw w 0 8 (pu_I (P.length - 1)) 0 8 = pu_I (P.length - 1) by rw [pv_upw, if_pos ⟨rfl, rfl⟩], if_pos ((pu_ix (by omega)).mpr (by omega)), if_pos hix, pu_nn (show P.length - 1 < 2147483648 by omega), pv_upw_n (show (8 : Nat) ≠ 0 by decide), pu_su]
    rw [hform]
    by_cases e : u = v
    · subst e
      rw [if_pos rfl]
      exact Or.inl ⟨_, rfl, List.mem_of_getElem? hu, i, by omega, hu, rfl⟩
    · rw [if_neg fun h => e (pu_inj (by omega) (by omega) h)]
      refine ih (i + 1) k' (by omega) (by omega) fun j hj => ?_
      by_cases e2 : j = i
      · rw [e2, hu]
        exact fun h => e (Option.some.inj h)
      · exact hno j (by omega)
theorem pg_removeLive (hw0 : w 0 0 = pu_I H) (hH : H ≤ wd * 64) (hHV : H ≤ V) (hV : V < 1000000) (h7 : wd ≤ n 7) (hn7 : n 7 < 1000000) (hl : pg_lst w l H V wd LS P) {v : Nat} (hv : v < V) :
    ∃ w' l' P', fX2_removeLive n w l (pu_I v) = some (w', l') ∧ pg_lst w' l' H V wd (fun u => LS u ∧ u ≠ pu_I v) P' ∧ (∀ r, r ≠ 7 → l' r = l r) ∧ (∀ r, r ≠ 0 → r ≠ 8 → w' r = w r) ∧ (∀ i, i ≠ 8 → w' 0 i = w 0 i) := by
  obtain ⟨g1, g2, g3, g4, g5, g6, g7⟩ := id hl
  by_cases h : v < H
  · obtain ⟨l', hl'⟩ : ∃ l', l' = upl l 7 (v / 64) (l 7 (v / 64) &&& (((1 : Int64) <<< ((pu_I (v % 64)).toInt64 &&& 63)) ^^^ ((-1) : Int64))) := ⟨_, rfl⟩
    refine ⟨w, l', P, ?_, ⟨fun i hi => ?_, g2, g3, g4, g5, g6, fun u u1 u2 => ?_⟩, fun r hr => by rw [hl', pv_upl_n hr], fun _ _ _ => rfl, fun _ _ => rfl⟩
    · unfold fX2_removeLive
      rw [hw0, if_neg (by rw [pu_le (by omega) (by omega)]; omega), pg_sh6 (by omega), if_pos ((pu_ix (by omega)).mpr (by omega)), if_pos ((pu_ix (by omega)).mpr (by omega)), pu_nn (show v / 64 < 2147483648 by omega), pg_an63 (by omega)]
      simp only [lt9]
      rw [hl']
    · have h9 : pg_g l' 7 wd 0 i = (pg_g l 7 wd 0 i && decide (i ≠ v)) := by
        rw [pg_0g, pg_0g, hl', pv_upl]
        by_cases e : i / 64 = v / 64
        · rw [if_pos ⟨rfl, e⟩, pv_bt_and, pg_bt_not _ (by omega), pv_bt_1 (by omega), e]
          congr 1
          by_cases e2 : i % 64 = v % 64
          · rw [decide_eq_true e2, decide_eq_false (show ¬ i ≠ v from fun h => h (by omega))]; rfl
          · rw [decide_eq_false e2, decide_eq_true (show i ≠ v from fun h => e2 (by rw [h]))]; rfl
        · rw [if_neg fun h => e h.2, decide_eq_true (show i ≠ v from fun h => e (by rw [h])), Bool.and_true]
      rw [h9, Bool.and_eq_true, decide_eq_true_iff, g1 i hi]
      exact ⟨fun ⟨⟨a, b⟩, c⟩ => ⟨a, b, fun e => c (pu_inj (by omega) (by omega) e)⟩, fun ⟨a, b, c⟩ => ⟨⟨a, b⟩, fun e => c (by rw [e])⟩⟩
    · rw [← g7 u u1 u2]
      exact ⟨And.left, fun h9 => ⟨h9, fun e => absurd (pu_inj (by omega) (by omega) e) (by omega)⟩⟩
  · have hle : (w 0 0) ≤ pu_I v := by rw [hw0, pu_le (by omega) (by omega)]; omega
    have hlow : ∀ i, i < wd * 64 → (h9 : i < H) → pu_I i ≠ pu_I v := fun i _ h9 e => absurd (pu_inj (by omega) (by omega) e) (by omega)
    rcases pg_out hl hV hv P.length 0 NF (by omega) (by have := pv_NF; omega) (fun j hj => by omega) with ⟨w', a1, a2, i0, a3, a4, a5⟩ | ⟨a1, a2⟩
    · -- it was the first or the second one
      have hrun : fX2_removeLive n w l (pu_I v) = some (w', l) := by
        unfold fX2_removeLive
        rw [if_pos hle, show fX2_removeLive_L33 w l (pu_I v) NF 0 = some (Sum.inl (w', l)) from a1, Option.bind_some]
        rfl
      have h01 : w' 0 8 = pu_I (P.length - 1) := by rw [a5, pv_upw_n (by decide), pv_upw, if_pos ⟨rfl, rfl⟩]
      have hfr : (∀ r, r ≠ 0 → r ≠ 8 → w' r = w r) ∧ (∀ i, i ≠ 8 → w' 0 i = w 0 i) := ⟨fun r r0 r8 => by rw [a5, pv_upw_n r8, pv_upw_n r0], fun i hi => by rw [a5, pv_upw_n (by decide), pv_upw, if_neg fun h => hi h.2]⟩
      have hb : ∀ i, i < wd * 64 → (pg_g l 7 wd 0 i = true ↔ i < H ∧ (LS (pu_I i) ∧ pu_I i ≠ pu_I v)) := fun i hi => by
        rw [g1 i hi]
        exact ⟨fun ⟨a, b⟩ => ⟨a, b, hlow i hi a⟩, fun ⟨a, b, _⟩ => ⟨a, b⟩⟩
      match P, hl, g2, g3, g4, g5, g6, g7, a3, a4, a5, h01 with
      | [p], _, g2, g3, g4, g5, g6, g7, a3, a4, a5, h01 =>
        obtain rfl : i0 = 0 := by have : i0 < 1 := a3; omega
        obtain rfl : p = v := Option.some.inj a4
        refine ⟨w', l, [], hrun, ⟨hb, h01, by decide, fun i u hu => (by cases hu), List.nodup_nil, fun u hu => (by cases hu), fun u u1 u2 => ?_⟩, fun _ _ => rfl, hfr.1, hfr.2⟩
        refine ⟨fun ⟨q1, q2⟩ => ?_, fun hu => (by cases hu)⟩
        have := List.mem_singleton.mp ((g7 u u1 u2).mp q1)
        exact absurd (by rw [this]) q2
      | [p, q], _, g2, g3, g4, g5, g6, g7, a3, a4, a5, h01 =>
        have hpq : p ≠ q := fun e => (List.nodup_cons.mp g5).1 (by rw [e]; exact List.mem_singleton.mpr rfl)
        have ha3 : i0 = 0 ∨ i0 = 1 := by have : i0 < 2 := a3; omega
        rcases ha3 with rfl | rfl
        · obtain rfl : p = v := Option.some.inj a4
          have h8 : w' 8 0 = pu_I q := by
            rw [a5, pv_upw, if_pos ⟨rfl, rfl⟩]
            exact g4 1 q rfl
          refine ⟨w', l, [q], hrun, ⟨hb, h01, (by show 1 ≤ 2; decide), fun i u hu => ?_, pg_nd1 q, fun u hu => g6 u (List.mem_cons_of_mem _ hu), fun u u1 u2 => ?_⟩, fun _ _ => rfl, hfr.1, hfr.2⟩
          · match i, hu with
            | 0, hu => rw [← Option.some.inj hu]; exact h8
          · show (LS (pu_I u) ∧ pu_I u ≠ pu_I p) ↔ u ∈ [q]
            rw [g7 u u1 u2]
            constructor
            · rintro ⟨q1, q2⟩
              rcases List.mem_cons.mp q1 with rfl | q1
              · exact absurd rfl q2
              · exact q1
            · intro q1
              refine ⟨List.mem_cons_of_mem _ q1, fun e => hpq ?_⟩
              rw [← List.mem_singleton.mp q1]
              exact (pu_inj (by omega) (by omega) e).symm
        · obtain rfl : q = v := Option.some.inj a4
          have h8 : w' 8 0 = pu_I p := by
            rw [a5, pv_upw, if_neg (fun h => by cases h.2), pv_upw_n (by decide)]
            exact g4 0 p rfl
          refine ⟨w', l, [p], hrun, ⟨hb, h01, (by show 1 ≤ 2; decide), fun i u hu => ?_, pg_nd1 p, fun u hu => g6 u (by rw [List.mem_singleton.mp hu]; exact List.mem_cons_self), fun u u1 u2 => ?_⟩, fun _ _ => rfl, hfr.1, hfr.2⟩
          · match i, hu with
            | 0, hu => rw [← Option.some.inj hu]; exact h8
          · show (LS (pu_I u) ∧ pu_I u ≠ pu_I q) ↔ u ∈ [p]
            rw [g7 u u1 u2]
            constructor
            · rintro ⟨q1, q2⟩
              rcases List.mem_cons.mp q1 with rfl | q1
              · exact List.mem_singleton.mpr rfl
              · exact absurd (by rw [List.mem_singleton.mp q1]) q2
            · intro q1
              refine ⟨by rw [List.mem_singleton.mp q1]; exact List.mem_cons_self, fun e => hpq ?_⟩
              rw [← List.mem_singleton.mp q1]
              exact pu_inj (by omega) (by omega) e
    · refine ⟨w, l, P, ?_, ⟨fun i hi => ?_, g2, g3, g4, g5, g6, fun u u1 u2 => ?_⟩, fun _ _ => rfl, fun _ _ _ => rfl, fun _ _ => rfl⟩
      · unfold fX2_removeLive
        rw [if_pos hle, show fX2_removeLive_L33 w l (pu_I v) NF 0 = some (Sum.inr ()) from a2, Option.bind_some]
        rfl
      · rw [g1 i hi]
        exact ⟨fun ⟨a, b⟩ => ⟨a, b, hlow i hi a⟩, fun ⟨a, b, _⟩ => ⟨a, b⟩⟩
      · rw [← g7 u u1 u2]
        refine ⟨And.left, fun h9 => ⟨h9, fun e => a1 ?_⟩⟩
        rw [← pu_inj (by omega) (by omega) e]
        exact (g7 u u1 u2).mp h9
end MEE
