/-! pure side, stores 17: the standing-in values are used -/
def pv_ui (g w s : ST) (K : Nat → Prop) : Prop := ∀ x, (K x → s 21 x = pv_sg g (w 21 x)) ∧ (¬ K x → s 21 x = w 21 x)
def pv_f4 (g w2 : ST) (a : Nat) : Int32 := if pu_ul (w2 2 a) = true then pv_sg g (w2 4 a) else w2 4 a
def pv_f5 (g w2 : ST) (a : Nat) : Int32 := if pu_ur (w2 2 a) = true then pv_sg g (w2 5 a) else w2 5 a
def pv_us (g w2 z : ST) (K : Nat → Prop) : Prop := (∀ r, r ≠ 4 → r ≠ 5 → z r = w2 r) ∧ ∀ a, (K a → z 4 a = pv_f4 g w2 a ∧ z 5 a = pv_f5 g w2 a) ∧ (¬ K a → z 4 a = w2 4 a ∧ z 5 a = w2 5 a)
theorem pv_ui_cg {g w s : ST} {K K' : Nat → Prop} (h : ∀ x, K x ↔ K' x) (hu : pv_ui g w s K) : pv_ui g w s K' := fun x => ⟨fun k => (hu x).1 ((h x).mpr k), fun k => (hu x).2 fun c => k ((h x).mp c)⟩
theorem pv_us_cg {g w2 z : ST} {K K' : Nat → Prop} (h : ∀ x, K x ↔ K' x) (hu : pv_us g w2 z K) : pv_us g w2 z K' := ⟨hu.1, fun x => ⟨fun k => (hu.2 x).1 ((h x).mpr k), fun k => (hu.2 x).2 fun c => k ((h x).mp c)⟩⟩
theorem pv_ui_step {g w s : ST} {K : Nat → Prop} (hk : pv_sk g) (hu : pv_ui g w s K) {x0 : Nat} (hx : ixb (w 21 x0) 250 = true) : ixb (s 21 x0) 250 = true ∧ pv_ui g w (upw s 21 x0 (pv_sg g (s 21 x0))) (fun x => K x ∨ x = x0) := by
  have h1 : ixb (s 21 x0) 250 = true ∧ pv_sg g (s 21 x0) = pv_sg g (w 21 x0) := by
    by_cases h : K x0
    · rw [(hu x0).1 h]; exact ⟨(pv_sg_root hk hx).1, pv_sg_i hk hx⟩
    · rw [(hu x0).2 h]; exact ⟨hx, rfl⟩
  refine ⟨h1.1, fun x => ⟨fun hK => ?_, fun hK => ?_⟩⟩
  · rw [pv_upw]
    by_cases h : x = x0
    · rw [if_pos ⟨rfl, h⟩, h1.2, h]
    · rw [if_neg fun c => h c.2]
      exact (hu x).1 (hK.resolve_right h)
  · rw [pv_upw, if_neg fun c => hK (Or.inr c.2)]
    exact (hu x).2 fun c => hK (Or.inl c)
section US
variable {n n2 : Nat → Nat} {B N M : Nat} {g w w2 : ST} {ch ph : Nat → List Nat} {wb : Nat → Nat}
theorem pv_us31 (hk : pv_sk g) (hB : B ≤ 60) (hM21 : M * 60 ≤ n 21) (hM : M < 50000) (hw : pv_wys B w wb) {b a : Nat} (hb : b < B) (ha : a < M) (htk : ∀ j, wb b ≤ j → j < wb (b + 1) → ixb (w 21 (a * 60 + nn (w 15 j))) 250 = true) {s : ST} {K : Nat → Prop} (hs : ∀ r, r ≠ 9 → r ≠ 21 → s r = w r) (hu : pv_ui g w s K) :
    ∃ s', fX5_useStandIns_L31 g n (pu_I b) (pu_I a) NF 0 s = some s' ∧ (∀ r, r ≠ 21 → s' r = s r) ∧ pv_ui g w s' (fun x => K x ∨ ∃ j, wb b ≤ j ∧ j < wb (b + 1) ∧ x = a * 60 + nn (w 15 j)) := by
  have hm := hw.2.1 b hb
  have h120 := hw.2.2.1 (b + 1) (by omega)
  have hwy : ∀ t : ST, (∀ r, r ≠ 21 → t r = s r) → pv_wys B t wb := by
    intro t ht
    unfold pv_wys
    rw [ht 14 (by decide), ht 15 (by decide), ht 10 (by decide), ht 11 (by decide), hs 14 (by decide) (by decide), hs 15 (by decide) (by decide), hs 10 (by decide) (by decide), hs 11 (by decide) (by decide)]
    exact hw
  obtain ⟨t, h1, h2, h3⟩ := pv_for (G := fun k i (t : ST) => fX5_useStandIns_L31 g n (pu_I b) (pu_I a) k i t) (hi := wb (b + 1) - wb b)
    (Inv := fun i (t : ST) => (∀ r, r ≠ 21 → t r = s r) ∧ pv_ui g w t (fun x => K x ∨ ∃ j, wb b ≤ j ∧ j < wb b + i ∧ x = a * 60 + nn (w 15 j)))
    (Q := fun (t : ST) => (∀ r, r ≠ 21 → t r = s r) ∧ pv_ui g w t (fun x => K x ∨ ∃ j, wb b ≤ j ∧ j < wb (b + 1) ∧ x = a * 60 + nn (w 15 j)))
    (fun k i t hi hI => by
      obtain ⟨i1, i2⟩ := hI
      obtain ⟨p, hp, hp2, _⟩ := hw.2.2.2.1 b (wb b + i) hb (by omega) (by omega)
      have hx := htk (wb b + i) (by omega) (by omega)
      rw [hp2, pu_nn (by omega)] at hx
      have h9 := pv_ui_step hk i2 hx
      have hwt := hwy t i1
      have hpt : t 15 (wb b + i) = pu_I p := by rw [i1 15 (by decide), hs 15 (by decide) (by decide)]; exact hp2
      have hpos : a * 60 + p < n 21 := by omega
      refine ⟨upw t 21 (a * 60 + p) (pv_sg g (t 21 (a * 60 + p))), ?_, fun r hr => by rw [pv_upw_n hr, i1 r hr], pv_ui_cg (fun x => ?_) h9.2⟩
      · show ((fX1_waysTo t (pu_I b)).bind fun (o_4 : Int32) => (if o_4 ≤ pu_I i then some t else ((fX1_wayFrom t (pu_I b) (pu_I i)).bind fun (o_7 : Int32) => ((fX1_take n t (pu_I a) o_7).bind fun (o_9 : Int32) => ((fX5_standInOf g o_9).bind fun (o_11 : Int32) => ((fX1_setTake n t (pu_I a) o_7 o_11).bind fun (o_13 : ST) => ((fX5_useStandIns_L31 g n (pu_I b) (pu_I a) k) (pu_I i + 1) o_13))))))) = _
        rw [pv_waysTo hB hwt hb, Option.bind_some, if_neg (by rw [pu_le (by omega) (by omega)]; omega), pv_wayFrom hB hwt hb (by omega), Option.bind_some, hpt, pv_take hpos (by omega), Option.bind_some, pv_standInOf hk h9.1, Option.bind_some]
        unfold fX1_setTake
        rw [show (60 : Int32) = pu_I 60 from rfl, pv_mul, pv_add, if_pos ((pu_ix (by omega)).mpr hpos), pu_nn (by omega)]
        simp only [lt9]
        rw [Option.bind_some, pu_su]
      · constructor
        · rintro ((h | ⟨j, j1, j2, j3⟩) | h)
          · exact Or.inl h
          · exact Or.inr ⟨j, j1, by omega, j3⟩
          · exact Or.inr ⟨wb b + i, by omega, by omega, by rw [hp2, pu_nn (by omega)]; exact h⟩
        · rintro (h | ⟨j, j1, j2, j3⟩)
          · exact Or.inl (Or.inl h)
          · by_cases hj : j = wb b + i
            · rw [hj, hp2, pu_nn (by omega)] at j3
              exact Or.inr j3
            · exact Or.inl (Or.inr ⟨j, j1, by omega, j3⟩))
    (fun k t hI => ⟨t, by
      show ((fX1_waysTo t (pu_I b)).bind fun (o_4 : Int32) => (if o_4 ≤ pu_I (wb (b + 1) - wb b) then some t else _)) = _
      rw [pv_waysTo hB (hwy t hI.1) hb, Option.bind_some, if_pos (Int32.le_refl _)], hI.1, pv_ui_cg (fun x => by rw [show wb b + (wb (b + 1) - wb b) = wb (b + 1) by omega]) hI.2⟩)
    (wb (b + 1) - wb b) 0 NF s (by omega) (by have := pv_NF; omega) ⟨fun _ _ => rfl, pv_ui_cg (fun x => ⟨Or.inl, fun h => h.elim id fun ⟨j, j1, j2, _⟩ => by omega⟩) hu⟩
  exact ⟨t, h1, h2, h3⟩
theorem pv_us96 (hk : pv_sk g) (hN2 : N ≤ n2 2) (hN4 : N ≤ n2 4) (hN5 : N ≤ n2 5) (hN6 : N ≤ n2 6) (hN : N < 50000) {l : List Nat} {x : Int32} (hch : pv_ch (w2 6) x l) (hl : ∀ a ∈ l, a < N) (hlen : l.length ≤ N) (hrg : ∀ a ∈ l, (pu_ul (w2 2 a) = true → ixb (w2 4 a) 250 = true) ∧ (pu_ur (w2 2 a) = true → ixb (w2 5 a) 250 = true)) {z : ST} {K : Nat → Prop} (hu : pv_us g w2 z K) :
    ∃ z', fX5_useStandIns_L96 g n2 NF x z = some z' ∧ pv_us g w2 z' (fun a => K a ∨ a ∈ l) := by
  obtain ⟨t, h1, h2⟩ := pv_chl (G := fun k x (s : ST) => fX5_useStandIns_L96 g n2 k x s) (nx := w2 6)
    (Inv := fun done rem (s : ST) => (∀ a, a ∈ done ∨ a ∈ rem ↔ a ∈ l) ∧ pv_us g w2 s (fun a => K a ∨ a ∈ done)) (Q := fun (s : ST) => pv_us g w2 s (fun a => K a ∨ a ∈ l))
    (fun k a done rem s hI => by
      obtain ⟨i1, i2, i3⟩ := hI
      have hal : a ∈ l := (i1 a).mp (Or.inr List.mem_cons_self)
      have haN := hl a hal
      have ha31 : a < 2147483648 := by omega
      have hr := hrg a hal
      have c4 : (pu_ul (w2 2 a) = true → ixb (s 4 a) 250 = true ∧ pv_sg g (s 4 a) = pv_sg g (w2 4 a)) := fun h => by
        by_cases hK : K a ∨ a ∈ done
        · rw [((i3 a).1 hK).1]
          unfold pv_f4
          rw [if_pos h]
          exact ⟨(pv_sg_root hk (hr.1 h)).1, pv_sg_i hk (hr.1 h)⟩
        · rw [((i3 a).2 hK).1]
          exact ⟨hr.1 h, rfl⟩
      have c5 : (pu_ur (w2 2 a) = true → ixb (s 5 a) 250 = true ∧ pv_sg g (s 5 a) = pv_sg g (w2 5 a)) := fun h => by
        by_cases hK : K a ∨ a ∈ done
        · rw [((i3 a).1 hK).2]
          unfold pv_f5
          rw [if_pos h]
          exact ⟨(pv_sg_root hk (hr.2 h)).1, pv_sg_i hk (hr.2 h)⟩
        · rw [((i3 a).2 hK).2]
          exact ⟨hr.2 h, rfl⟩
      have d4 : pu_ul (w2 2 a) = false → s 4 a = pv_f4 g w2 a := fun h => by
        have e : pv_f4 g w2 a = w2 4 a := by unfold pv_f4; rw [if_neg (by rw [h]; decide)]
        by_cases hK : K a ∨ a ∈ done
        · exact ((i3 a).1 hK).1
        · rw [((i3 a).2 hK).1, e]
      have d5 : pu_ur (w2 2 a) = false → s 5 a = pv_f5 g w2 a := fun h => by
        have e : pv_f5 g w2 a = w2 5 a := by unfold pv_f5; rw [if_neg (by rw [h]; decide)]
        by_cases hK : K a ∨ a ∈ done
        · exact ((i3 a).1 hK).2
        · rw [((i3 a).2 hK).2, e]
      have hx2 : ixb (pu_I a) (n2 2) = true := (pu_ix ha31).mpr (by omega)
      have hx4 : ixb (pu_I a) (n2 4) = true := (pu_ix ha31).mpr (by omega)
      have hx5 : ixb (pu_I a) (n2 5) = true := (pu_ix ha31).mpr (by omega)
      have hx6 : ixb (pu_I a) (n2 6) = true := (pu_ix ha31).mpr (by omega)
      have h132 : ∀ s1 : ST, (∀ r, r ≠ 4 → s1 r = s r) → fX5_useStandIns_J132 (fX5_useStandIns_L96 g n2 k) g n2 (pu_I a) s1 = fX5_useStandIns_L96 g n2 k (w2 6 a) (if pu_ur (w2 2 a) = true then upw s1 5 a (pv_f5 g w2 a) else s1) := by
        intro s1 hs1
        have e2 : s1 2 = w2 2 := by rw [hs1 2 (by decide), i2 2 (by decide) (by decide)]
        have e6 : s1 6 = w2 6 := by rw [hs1 6 (by decide), i2 6 (by decide) (by decide)]
        have e5 : s1 5 = s 5 := hs1 5 (by decide)
        unfold fX5_useStandIns_J132 fX5_useStandIns_J163
        rw [if_pos hx2, pu_nn ha31, e2, pv_ur, Option.bind_some]
        by_cases h : pu_ur (w2 2 a) = true
        · rw [h, if_neg (by decide), if_pos hx5, e5, pv_standInOf hk (c5 h).1, Option.bind_some, if_pos hx5, if_pos rfl]
          simp only [lt9]
          rw [if_pos hx6, pv_upw_n (q := 6) (r := 5) (by decide), e6, (c5 h).2]
          unfold pv_f5
          rw [if_pos h]
        · have h : pu_ur (w2 2 a) = false := by simpa using h
          rw [h, if_pos (by decide), if_pos hx6, e6, if_neg (by decide)]
      have hrun : fX5_useStandIns_L96 g n2 (k + 1) (pu_I a) s = fX5_useStandIns_L96 g n2 k (w2 6 a) (if pu_ur (w2 2 a) = true then upw (if pu_ul (w2 2 a) = true then upw s 4 a (pv_f4 g w2 a) else s) 5 a (pv_f5 g w2 a) else (if pu_ul (w2 2 a) = true then upw s 4 a (pv_f4 g w2 a) else s)) := by
        show (if pu_I a < 0 then some s else (if ixb (pu_I a) (n2 2) = true then ((fX11_usesLeft (s 2 (nn (pu_I a)))).bind fun (o_18 : Int32) => (if o_18 = 0 then (fX5_useStandIns_J132 (fX5_useStandIns_L96 g n2 k) g n2 (pu_I a) s) else (if ixb (pu_I a) (n2 4) = true then ((fX5_standInOf g (s 4 (nn (pu_I a)))).bind fun (o_32 : Int32) => (if ixb (pu_I a) (n2 4) = true then (lt9 (upw s 4 (nn (pu_I a)) o_32) fun (w35 : ST) => (fX5_useStandIns_J132 (fX5_useStandIns_L96 g n2 k) g n2 (pu_I a) w35)) else none)) else none))) else none)) = _
        rw [if_neg (pu_ge ha31), if_pos hx2, pu_nn ha31, i2 2 (by decide) (by decide), pv_ul, Option.bind_some]
        by_cases h : pu_ul (w2 2 a) = true
        · rw [h, if_neg (by decide), if_pos hx4, pv_standInOf hk (c4 h).1, Option.bind_some, if_pos hx4, if_pos rfl]
          simp only [lt9]
          rw [h132 _ (fun r hr => pv_upw_n hr), (c4 h).2]
          unfold pv_f4
          rw [if_pos h]
        · have h : pu_ul (w2 2 a) = false := by simpa using h
          rw [h, if_pos (by decide), h132 s (fun _ _ => rfl), if_neg (show ¬ (false = true) by decide)]
      refine ⟨_, hrun, fun y => by rw [← i1 y, List.mem_append, List.mem_singleton, List.mem_cons, or_assoc], ?_, ?_⟩
      · intro r h4 h5
        have e1 : ∀ s1 : ST, (if pu_ur (w2 2 a) = true then upw s1 5 a (pv_f5 g w2 a) else s1) r = s1 r := fun s1 => by
          by_cases h : pu_ur (w2 2 a) = true
          · rw [if_pos h, pv_upw_n h5]
          · rw [if_neg h]
        have e2 : (if pu_ul (w2 2 a) = true then upw s 4 a (pv_f4 g w2 a) else s) r = s r := by
          by_cases h : pu_ul (w2 2 a) = true
          · rw [if_pos h, pv_upw_n h4]
          · rw [if_neg h]
        rw [e1, e2, i2 r h4 h5]
      · have e4 : ∀ y, (if pu_ur (w2 2 a) = true then upw (if pu_ul (w2 2 a) = true then upw s 4 a (pv_f4 g w2 a) else s) 5 a (pv_f5 g w2 a) else (if pu_ul (w2 2 a) = true then upw s 4 a (pv_f4 g w2 a) else s)) 4 y = if y = a then pv_f4 g w2 a else s 4 y := by
          intro y
          have e1 : ∀ s1 : ST, (if pu_ur (w2 2 a) = true then upw s1 5 a (pv_f5 g w2 a) else s1) 4 y = s1 4 y := fun s1 => by
            by_cases h : pu_ur (w2 2 a) = true
            · rw [if_pos h, pv_upw_n (q := 4) (r := 5) (by decide)]
            · rw [if_neg h]
          rw [e1]
          by_cases h : pu_ul (w2 2 a) = true
          · rw [if_pos h, pv_upw]
            by_cases hy : y = a
            · rw [if_pos ⟨rfl, hy⟩, if_pos hy]
            · rw [if_neg fun c => hy c.2, if_neg hy]
          · rw [if_neg h]
            by_cases hy : y = a
            · rw [if_pos hy, hy]
              exact d4 (by simpa using h)
            · rw [if_neg hy]
        have e5 : ∀ y, (if pu_ur (w2 2 a) = true then upw (if pu_ul (w2 2 a) = true then upw s 4 a (pv_f4 g w2 a) else s) 5 a (pv_f5 g w2 a) else (if pu_ul (w2 2 a) = true then upw s 4 a (pv_f4 g w2 a) else s)) 5 y = if y = a then pv_f5 g w2 a else s 5 y := by
          intro y
          have e2 : (if pu_ul (w2 2 a) = true then upw s 4 a (pv_f4 g w2 a) else s) 5 y = s 5 y := by
            by_cases h : pu_ul (w2 2 a) = true
            · rw [if_pos h, pv_upw_n (q := 5) (r := 4) (by decide)]
            · rw [if_neg h]
          by_cases h : pu_ur (w2 2 a) = true
          · rw [if_pos h, pv_upw]
            by_cases hy : y = a
            · rw [if_pos ⟨rfl, hy⟩, if_pos hy]
            · rw [if_neg fun c => hy c.2, if_neg hy, e2]
          · rw [if_neg h, e2]
            by_cases hy : y = a
            · rw [if_pos hy, hy]
              exact d5 (by simpa using h)
            · rw [if_neg hy]
        intro y
        rw [e4, e5]
        by_cases hy : y = a
        · rw [if_pos hy, if_pos hy, hy]
          exact ⟨fun _ => ⟨rfl, rfl⟩, fun c => absurd (Or.inr (List.mem_append_right _ (List.mem_singleton.mpr rfl))) c⟩
        · rw [if_neg hy, if_neg hy]
          refine ⟨fun h => (i3 y).1 (h.imp_right fun h => (List.mem_append.mp h).resolve_right fun c => hy (List.mem_singleton.mp c)), fun h => (i3 y).2 fun c => h (c.imp_right (List.mem_append_left _))⟩)
    (fun k x done s hx hI => ⟨s, by
      show (if x < 0 then some s else _) = _
      rw [if_pos hx], pv_us_cg (fun a => by
        have := hI.1 a
        simp only [List.not_mem_nil, or_false] at this
        rw [this]) hI.2⟩) l [] x NF z hch (by have := pv_NF; omega) ⟨fun a => by simp, pv_us_cg (fun a => by simp) hu⟩
  exact ⟨t, h1, h2⟩
end US
