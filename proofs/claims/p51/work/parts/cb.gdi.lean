/-! pure side, the graph 9: guests; a step that is gone through from behind -/
/-- guests that are pending ahead of steps: a fetch brings one more, the step behind uses all -/
def pg_gd (H V : Nat) (E : Int32 → Prop) : List pu_Stp → List Nat → Prop
  | [], P => ∀ u, H ≤ u → u < V → (E (pu_I u) ↔ u ∈ P)
  | s :: l, P => (∃ g, (pu_ul s.1 = false ∧ pu_ur s.1 = false ∧ pu_gw s.1 = true) ∧ s.2.1 = pu_I g ∧ (H ≤ g ∧ g < V) ∧ g ∉ P ∧ P.length ≤ 1 ∧ pg_gd H V E l (P ++ [g])) ∨
      ((∀ u, H ≤ u → u < V → (((pu_ul s.1 = true ∧ pu_I u = s.2.2.1) ∨ (pu_ur s.1 = true ∧ pu_I u = s.2.2.2)) ↔ u ∈ P)) ∧
        ((∃ g, pu_gw s.1 = true ∧ s.2.1 = pu_I g ∧ (H ≤ g ∧ g < V) ∧ pg_gd H V E l [g]) ∨ ((∀ g, H ≤ g → g < V → pu_gw s.1 = true → s.2.1 ≠ pu_I g) ∧ pg_gd H V E l [])))
section GDI
variable {H V wd : Nat} {E X : Int32 → Prop}
theorem pg_gd_lv (hV : V < 1000000) (hXE : ∀ u, H ≤ u → u < V → (X (pu_I u) ↔ E (pu_I u))) : ∀ (l : List pu_Stp) (P : List Nat), pg_gd H V E l P → ∀ u, H ≤ u → u < V → (pu_lv l X (pu_I u) ↔ u ∈ P) := by
  intro l
  induction l with
  | nil => intro P h u u1 u2; exact (hXE u u1 u2).trans (h u u1 u2)
  | cons s l ih =>
    intro P h u u1 u2
    show ((pu_ul s.1 = true ∧ pu_I u = s.2.2.1) ∨ (pu_ur s.1 = true ∧ pu_I u = s.2.2.2) ∨ (pu_lv l X (pu_I u) ∧ ¬ (pu_gw s.1 = true ∧ pu_I u = s.2.1))) ↔ u ∈ P
    rcases h with ⟨g, ⟨h1, h2, h3⟩, h4, h5, h6, h7, h8⟩ | ⟨h1, ⟨g, h2, h3, h4, h5⟩ | ⟨h2, h3⟩⟩
    · rw [ih _ h8 u u1 u2, h1, h2, h4, List.mem_append, List.mem_singleton]
      constructor
      · rintro (⟨q, _⟩ | ⟨q, _⟩ | ⟨q | q, q2⟩)
        · cases q
        · cases q
        · exact q
        · exact absurd ⟨h3, by rw [q]⟩ q2
      · intro q
        refine Or.inr (Or.inr ⟨Or.inl q, fun q2 => h6 ?_⟩)
        rw [← pu_inj (by omega) (by omega) q2.2]
        exact q
    · rw [← or_assoc, h1 u u1 u2, ih _ h5 u u1 u2, h3, List.mem_singleton]
      refine ⟨fun q => q.elim id fun ⟨q1, q2⟩ => absurd ⟨h2, by rw [q1]⟩ q2, Or.inl⟩
    · rw [← or_assoc, h1 u u1 u2, ih _ h3 u u1 u2]
      exact ⟨fun q => q.elim id fun q => (by cases q.1), Or.inl⟩
theorem pg_gd_at : ∀ (l1 : List pu_Stp) (P0 : List Nat) (l2 : List pu_Stp), pg_gd H V E (l1 ++ l2) P0 → P0.Nodup → P0.length ≤ 2 → (∀ u, u ∈ P0 → H ≤ u ∧ u < V) →
    ∃ P, pg_gd H V E l2 P ∧ P.Nodup ∧ P.length ≤ 2 ∧ (∀ u, u ∈ P → H ≤ u ∧ u < V) ∧ ∀ u, u ∈ P → u ∈ P0 ∨ pg_gv l1 (pu_I u) := by
  intro l1
  induction l1 with
  | nil => intro P0 l2 h h1 h2 h3; exact ⟨P0, h, h1, h2, h3, fun u hu => Or.inl hu⟩
  | cons s l1 ih =>
    intro P0 l2 h h1 h2 h3
    have up : ∀ (P1 : List Nat) (hg : ∀ u, u ∈ P1 → u ∈ P0 ∨ (pu_gw s.1 = true ∧ s.2.1 = pu_I u)) (P : List Nat), (∀ u, u ∈ P → u ∈ P1 ∨ pg_gv l1 (pu_I u)) → ∀ u, u ∈ P → u ∈ P0 ∨ pg_gv (s :: l1) (pu_I u) := by
      intro P1 hg P hP u hu
      rcases hP u hu with q | ⟨t, t1, t2, t3⟩
      · rcases hg u q with q | q
        · exact Or.inl q
        · exact Or.inr ⟨s, List.mem_cons_self, q.1, q.2⟩
      · exact Or.inr ⟨t, List.mem_cons_of_mem _ t1, t2, t3⟩
    rcases h with ⟨g, ⟨a1, a2, a3⟩, a4, a5, a6, a7, a8⟩ | ⟨a1, ⟨g, a2, a3, a4, a5⟩ | ⟨a2, a3⟩⟩
    · obtain ⟨P, b1, b2, b3, b4, b5⟩ := ih (P0 ++ [g]) l2 a8 (List.nodup_append.mpr ⟨h1, pg_nd1 g, fun x hx y hy e => a6 (by rw [← List.mem_singleton.mp hy, ← e]; exact hx)⟩) (by rw [List.length_append]; show P0.length + 1 ≤ 2; omega) (fun u hu => by
        rcases List.mem_append.mp hu with hu | hu
        · exact h3 u hu
        · rw [List.mem_singleton.mp hu]; exact a5)
      refine ⟨P, b1, b2, b3, b4, up _ (fun u hu => ?_) P b5⟩
      rcases List.mem_append.mp hu with hu | hu
      · exact Or.inl hu
      · rw [List.mem_singleton.mp hu]; exact Or.inr ⟨a3, a4⟩
    · obtain ⟨P, b1, b2, b3, b4, b5⟩ := ih [g] l2 a5 (pg_nd1 g) (by show 1 ≤ 2; decide) (fun u hu => by rw [List.mem_singleton.mp hu]; exact a4)
      refine ⟨P, b1, b2, b3, b4, up _ (fun u hu => ?_) P b5⟩
      rw [List.mem_singleton.mp hu]; exact Or.inr ⟨a2, a3⟩
    · obtain ⟨P, b1, b2, b3, b4, b5⟩ := ih [] l2 a3 List.nodup_nil (by show 0 ≤ 2; decide) (fun u hu => by cases hu)
      exact ⟨P, b1, b2, b3, b4, up _ (fun u hu => by cases hu) P b5⟩
end GDI
section MST
variable {n n2 : Nat → Nat} {w fw x9 : ST} {l : SL} {B N V H wd : Nat} {P Q : List Nat} {qs : Nat → List Nat} {E X : Int32 → Prop}
/-- what a copy copies -/
def pg_co (s : pu_Stp) : Int32 := if s.1 = 25 then s.2.2.1 else -1
/-- what a meeting leaves -/
def pg_nw (H V wd : Nat) (s : pu_Stp) (LS : Int32 → Prop) (P Q : List Nat) (w : ST) (l : SL) (w' : ST) (l' : SL) : Prop :=
  (∀ v h, v < V → h < wd * 64 → (pg_g l' 11 wd v h = true ↔ pg_g l 11 wd v h = true ∨ (pu_gw s.1 = true ∧ ∃ a, a < V ∧ s.2.1 = pu_I a ∧ ((v = a ∧ h < H ∧ LS (pu_I h) ∧ h ≠ a ∧ pu_I h ≠ pg_co s) ∨ (a < H ∧ h = a ∧ v ∈ Q ∧ pu_I v ≠ pg_co s))))) ∧
  ((∃ g p, pu_gw s.1 = true ∧ s.2.1 = pu_I g ∧ (H ≤ g ∧ g < V) ∧ P = [p] ∧ p ≠ g ∧ LS (pu_I p) ∧ ∀ z, w' 12 z = if z = p then pu_I g else if z = g then pu_I p else w 12 z) ∨
    (w' 12 = w 12 ∧ ∀ g v, pu_gw s.1 = true → s.2.1 = pu_I g → H ≤ g → g < V → H ≤ v → v < V → LS (pu_I v) → v ≠ g → False))
/-- one step of a block, gone through from behind -/
theorem pg_mstep (hw0 : w 0 0 = pu_I H) (hw2 : w 0 2 = pu_I wd) (hwd : wd < 1000) (hH : H ≤ wd * 64) (hHV : H ≤ V) (h7 : wd ≤ n 7) (hn7 : n 7 < 1000000) (h11 : V * wd ≤ n 11) (hn11 : n 11 < 1000000) (h12 : V ≤ n 12) (hfl : pg_fl B N V fw x9 n2 qs) {b : Nat} (hb : b < B) {a : Nat} (ha : a ∈ qs b) {o8 : Int32 × ST × (Nat → Nat)} (ho : o8.2.2 = n) {j : Nat} (hj : j < n 10) (hn10 : n 10 < 1000000) (h10 : w 10 j = pu_I a) (k : Nat)
    {l2 : List pu_Stp} (hgd : pg_gd H V E (pv_S x9 a :: l2) P) (hPn : P.Nodup) (hPg : ∀ u, u ∈ P → H ≤ u ∧ u < V) (hXE : ∀ u, H ≤ u → u < V → (X (pu_I u) ↔ E (pu_I u))) (hl : pg_lst w l H V wd (pu_lv l2 X) Q) :
    ∃ w' l' Q', fX2_meetInBlock_L67 n2 x9 o8 (k + 1) (pu_I j) w l = fX2_meetInBlock_L67 n2 x9 o8 k (pu_I j + (-1)) w' l' ∧ pg_lst w' l' H V wd (pu_lv (pv_S x9 a :: l2) X) Q' ∧ (∀ r, r ≠ 0 → r ≠ 8 → r ≠ 12 → w' r = w r) ∧ (∀ i, i ≠ 8 → w' 0 i = w 0 i) ∧ (∀ r, r ≠ 7 → r ≠ 11 → l' r = l r) ∧ pg_nw H V wd (pv_S x9 a) (pu_lv l2 X) P Q w l w' l' := by
  obtain ⟨⟨hB0, hBp, hB⟩, ⟨⟨r2, r3, r4, r5, r6⟩, hN, hV⟩, hst, hd, hstep, hend⟩ := id hfl
  have haN := hd.1 b hb a ha
  obtain ⟨k1, k2, k3, k4, k5⟩ := hstep b hb a ha
  have hV9 : V < 1000000 := by omega
  have hi : ∀ y, N ≤ y → ixb (pu_I a) y = true := fun y hy => (pu_ix (by omega)).mpr (by omega)
  have hna : nn (pu_I a) = a := pu_nn (by omega)
  obtain ⟨g1, g2, g3, g4, g5, g6, g7⟩ := id hl
  -- the first part: given
  have hA : ∃ w1 l1 Q1, pg_lst w1 l1 H V wd (fun u => pu_lv l2 X u ∧ ¬ (pu_gw (x9 2 a) = true ∧ u = x9 3 a)) Q1 ∧ (∀ r, r ≠ 0 → r ≠ 8 → r ≠ 12 → w1 r = w r) ∧ (∀ i, i ≠ 8 → w1 0 i = w 0 i) ∧ (∀ r, r ≠ 7 → r ≠ 11 → l1 r = l r) ∧ pg_nw H V wd (pv_S x9 a) (pu_lv l2 X) P Q w l w1 l1 ∧
      fX2_meetInBlock_L67 n2 x9 o8 (k + 1) (pu_I j) w l = fX2_meetInBlock_J140 (fX2_meetInBlock_L67 n2 x9 o8 k) n2 x9 o8 (pu_I j) w w1 l1 := by
    have hform : fX2_meetInBlock_L67 n2 x9 o8 (k + 1) (pu_I j) w l = (if (x9 3 a) < 0 then (fX2_meetInBlock_J140 (fX2_meetInBlock_L67 n2 x9 o8 k) n2 x9 o8 (pu_I j) w w l) else (if (x9 2 a) = 25 then (fX2_meetInBlock_J126 (fX2_meetInBlock_L67 n2 x9 o8 k) n2 x9 o8 (pu_I j) w l (x9 4 a) (x9 3 a)) else (fX2_meetInBlock_J126 (fX2_meetInBlock_L67 n2 x9 o8 k) n2 x9 o8 (pu_I j) w l (-1) (x9 3 a)))) := by
      show (if pu_I j < 0 then some (w, l) else (if ixb (pu_I j) ((o8.2.2) 10) = true then (if ixb (w 10 (nn (pu_I j))) (n2 2) = true then (if ixb (w 10 (nn (pu_I j))) (n2 3) = true then (if (x9 3 (nn (w 10 (nn (pu_I j))))) < 0 then (fX2_meetInBlock_J140 (fX2_meetInBlock_L67 n2 x9 o8 k) n2 x9 o8 (pu_I j) w w l) else (if ixb (w 10 (nn (pu_I j))) (n2 3) = true then (if (x9 2 (nn (w 10 (nn (pu_I j))))) = 25 then (if ixb (w 10 (nn (pu_I j))) (n2 4) = true then (fX2_meetInBlock_J126 (fX2_meetInBlock_L67 n2 x9 o8 k) n2 x9 o8 (pu_I j) w l (x9 4 (nn (w 10 (nn (pu_I j))))) (x9 3 (nn (w 10 (nn (pu_I j)))))) else none) else (fX2_meetInBlock_J126 (fX2_meetInBlock_L67 n2 x9 o8 k) n2 x9 o8 (pu_I j) w l (-1) (x9 3 (nn (w 10 (nn (pu_I j))))))) else none)) else none) else none) else none)) = _
      rw [if_neg (pu_ge (by omega)), ho, if_pos ((pu_ix (by omega)).mpr (by omega)), pu_nn (show j < 2147483648 by omega), h10, if_pos (hi _ r2), if_pos (hi _ r3), hna, if_pos (hi _ r3), if_pos (hi _ r4)]
    cases hgw : pu_gw (x9 2 a) with
    | false =>
      refine ⟨w, l, Q, pg_lst_cg hl (fun v _ => ⟨fun h => h.1, fun h => ⟨h, fun h2 => by cases h2.1⟩⟩) hHV, fun _ _ _ _ => rfl, fun _ _ => rfl, fun _ _ _ => rfl, ⟨fun v h _ _ => ⟨Or.inl, fun h9 => h9.elim id fun h9 => ?_⟩, Or.inr ⟨rfl, fun g v h9 => ?_⟩⟩, ?_⟩
      · have h8 : pu_gw (x9 2 a) = true := h9.1
        rw [hgw] at h8; cases h8
      · have h8 : pu_gw (x9 2 a) = true := h9
        rw [hgw] at h8; cases h8
      · rw [hform, k3 hgw, if_pos (by decide)]
    | true =>
      obtain ⟨g, gV, hg3⟩ := k2 hgw
      have hco : pg_co (pv_S x9 a) = (if x9 2 a = 25 then x9 4 a else -1) := rfl
      have hc : pg_co (pv_S x9 a) = -1 ∨ ∃ u, u < V ∧ pg_co (pv_S x9 a) = pu_I u := by
        rw [hco]
        by_cases e : x9 2 a = 25
        · rw [if_pos e]
          exact Or.inr (k4 (by rw [e]; decide))
        · rw [if_neg e]
          exact Or.inl rfl
      obtain ⟨w1, l1, m1, m2, m3, m4, m5, m6⟩ := pg_meet (n := n) hw0 hw2 hwd hH hHV hV9 h7 hn7 h11 hn11 h12 hl gV hc
      have hl1 : pg_lst w1 l1 H V wd (pu_lv l2 X) Q := ⟨fun h hh => by rw [pg_g_r (m3 7 (by decide))]; exact g1 h hh, by rw [m2 0 (by decide)]; exact g2, g3, fun i v hv => by rw [m2 8 (by decide)]; exact g4 i v hv, g5, g6, g7⟩
      obtain ⟨w2, l3, Q1, n1, n3, n4, n5, n6⟩ := pg_removeLive (n := n) (by rw [m2 0 (by decide)]; exact hw0) hH hHV hV9 h7 hn7 hl1 gV
      refine ⟨w2, l3, Q1, pg_lst_cg n3 (fun v _ => ?_) hHV, fun r r0 r8 r12 => by rw [n5 r r0 r8, m2 r r12], fun i hi8 => by rw [n6 i hi8, m2 0 (by decide)], fun r r7 r11 => by rw [n4 r r7, m3 r r11], ⟨fun v h hv hh => ?_, ?_⟩, ?_⟩
      · rw [hg3]
        exact ⟨fun h => ⟨h.1, fun h2 => h.2 ⟨rfl, h2⟩⟩, fun h => ⟨h.1, fun h2 => h.2 h2.2⟩⟩
      · rw [pg_g_r (n4 11 (by decide)), m4 v h hv hh]
        refine or_congr Iff.rfl ⟨fun h9 => ⟨hgw, g, gV, hg3, h9⟩, fun ⟨_, g', g'V, h8, h9⟩ => ?_⟩
        have h8 : x9 3 a = pu_I g' := h8
        rw [hg3] at h8
        rw [pu_inj (by omega) (by omega) h8]
        exact h9
      · have h12e : w2 12 = w1 12 := n5 12 (by decide) (by decide)
        rw [h12e]
        by_cases hgH : g < H
        · refine Or.inr ⟨by rw [m5 hgH], fun g' v _ h8 h9 h91 _ _ _ _ => ?_⟩
          have h8 : x9 3 a = pu_I g' := h8
          rw [hg3] at h8
          have := pu_inj (by omega) (by omega) h8
          omega
        · obtain ⟨mR0, mR1⟩ := m6 (by omega) _ rfl
          rcases hgd with ⟨g', ⟨c1, c2, c3⟩, c4, c5, c6, c7, c8⟩ | ⟨c1, ⟨g', c2, c3, c4, c5⟩ | ⟨c2, c3⟩⟩
          · have c4 : x9 3 a = pu_I g' := c4
            rw [hg3] at c4
            obtain rfl : g = g' := pu_inj (by omega) (by omega) c4
            have hQ : ∀ u, u ∈ Q ↔ u ∈ P ++ [g] := fun u => by
              constructor
              · intro hu
                obtain ⟨u1, u2⟩ := g6 u hu
                exact (pg_gd_lv hV9 hXE l2 _ c8 u u1 u2).mp ((g7 u u1 u2).mpr hu)
              · intro hu
                have hu2 : H ≤ u ∧ u < V := by
                  rcases List.mem_append.mp hu with h | h
                  · exact hPg u h
                  · rw [List.mem_singleton.mp h]; exact c5
                exact (g7 u hu2.1 hu2.2).mp ((pg_gd_lv hV9 hXE l2 _ c8 u hu2.1 hu2.2).mpr hu)
            have hco1 : pg_co (pv_S x9 a) = -1 := by
              rw [hco, if_neg]
              intro e
              have c1 : pu_ul (x9 2 a) = false := c1
              rw [e] at c1
              exact absurd c1 (by decide)
            match P, hPn, hPg, c6, c7, c8, hQ with
            | [], _, _, _, _, c8, hQ =>
              have hR : Q.filter (fun v => decide (v ≠ g ∧ pu_I v ≠ pg_co (pv_S x9 a))) = [] := by
                refine List.filter_eq_nil_iff.mpr fun v hv h9 => ?_
                rw [decide_eq_true_iff] at h9
                have := List.mem_singleton.mp ((hQ v).mp hv)
                exact h9.1 this
              refine Or.inr ⟨by rw [mR0 hR], fun g' v _ h8 _ h92 v1 v2 hv hne => ?_⟩
              have h8 : x9 3 a = pu_I g' := h8
              rw [hg3] at h8
              have e9 := pu_inj (by omega) (by omega) h8
              have h7 := (pg_gd_lv hV9 hXE l2 _ c8 v v1 v2).mp hv
              have := List.mem_singleton.mp h7
              omega
            | [p], hPn, hPg, c6, _, c8, hQ =>
              have hpg : p ≠ g := fun e => c6 (by rw [e]; exact List.mem_singleton.mpr rfl)
              obtain ⟨hp1, hp2⟩ := hPg p (List.mem_singleton.mpr rfl)
              have hR : Q.filter (fun v => decide (v ≠ g ∧ pu_I v ≠ pg_co (pv_S x9 a))) = [p] := by
                have hmem : ∀ v, v ∈ Q.filter (fun v => decide (v ≠ g ∧ pu_I v ≠ pg_co (pv_S x9 a))) ↔ v = p := fun v => by
                  rw [List.mem_filter, decide_eq_true_iff, hQ v, hco1]
                  constructor
                  · rintro ⟨q1, q2, _⟩
                    rcases List.mem_cons.mp q1 with q | q
                    · exact q
                    · exact absurd (List.mem_singleton.mp q) q2
                  · intro q
                    rw [q]
                    refine ⟨List.mem_cons_self, hpg, fun e => ?_⟩
                    have h9 : ¬ pu_I p < 0 := pu_ge (by omega)
                    rw [e] at h9
                    exact h9 (by decide)
                have hnd : (Q.filter (fun v => decide (v ≠ g ∧ pu_I v ≠ pg_co (pv_S x9 a)))).Nodup := List.Nodup.sublist List.filter_sublist g5
                match hq : Q.filter (fun v => decide (v ≠ g ∧ pu_I v ≠ pg_co (pv_S x9 a))), hmem, hnd with
                | [], hmem, _ => exact absurd ((hmem p).mpr rfl) (fun h => by cases h)
                | [x], hmem, _ => rw [(hmem x).mp List.mem_cons_self]
                | x :: y :: r, hmem, hnd =>
                  have e1 := (hmem x).mp List.mem_cons_self
                  have e2 := (hmem y).mp (List.mem_cons_of_mem _ List.mem_cons_self)
                  exact absurd (by rw [e1, e2]; exact List.mem_cons_self) (List.nodup_cons.mp hnd).1
              refine Or.inl ⟨g, p, hgw, hg3, c5, rfl, hpg, (pg_gd_lv hV9 hXE l2 _ c8 p hp1 hp2).mpr List.mem_cons_self, fun z => ?_⟩
              rw [mR1 p hR, pv_upw]
              by_cases e1 : z = p
              · rw [if_pos ⟨rfl, e1⟩, if_pos e1]
              · rw [if_neg fun h => e1 h.2, if_neg e1, pv_upw]
                by_cases e2 : z = g
                · rw [if_pos ⟨rfl, e2⟩, if_pos e2]
                · rw [if_neg fun h => e2 h.2, if_neg e2]
            | p :: q :: r, _, _, _, c7, _, _ => exact absurd c7 (by rw [List.length_cons, List.length_cons]; omega)
          · have c3 : x9 3 a = pu_I g' := c3
            rw [hg3] at c3
            obtain rfl : g = g' := pu_inj (by omega) (by omega) c3
            have hR : Q.filter (fun v => decide (v ≠ g ∧ pu_I v ≠ pg_co (pv_S x9 a))) = [] := by
              refine List.filter_eq_nil_iff.mpr fun v hv h9 => ?_
              rw [decide_eq_true_iff] at h9
              obtain ⟨v1, v2⟩ := g6 v hv
              have := List.mem_singleton.mp ((pg_gd_lv hV9 hXE l2 _ c5 v v1 v2).mp ((g7 v v1 v2).mpr hv))
              exact h9.1 this
            refine Or.inr ⟨by rw [mR0 hR], fun g' v _ h8 _ h92 v1 v2 hv hne => ?_⟩
            have h8 : x9 3 a = pu_I g' := h8
            rw [hg3] at h8
            have e9 := pu_inj (by omega) (by omega) h8
            have := List.mem_singleton.mp ((pg_gd_lv hV9 hXE l2 _ c5 v v1 v2).mp hv)
            omega
          · exact absurd hg3 (c2 g (by omega) gV hgw)
      · rw [hform, hg3, if_neg (pu_ge (by omega))]
        have hJ : ∀ c : Int32, c = pg_co (pv_S x9 a) → fX2_meetInBlock_J126 (fX2_meetInBlock_L67 n2 x9 o8 k) n2 x9 o8 (pu_I j) w l c (pu_I g) = fX2_meetInBlock_J140 (fX2_meetInBlock_L67 n2 x9 o8 k) n2 x9 o8 (pu_I j) w w2 l3 := fun c hc9 => by
          unfold fX2_meetInBlock_J126
          rw [hc9, ho, m1, Option.bind_some, pu_nn (show j < 2147483648 by omega), h10, if_pos (hi _ r3), hna, hg3, n1, Option.bind_some]
        by_cases e : x9 2 a = 25
        · rw [if_pos e]
          exact hJ _ (by rw [hco, if_pos e])
        · rw [if_neg e]
          exact hJ _ (by rw [hco, if_neg e])
  obtain ⟨w1, l1, Q1, a1, a2, a3, a4, a5, a6⟩ := hA
  -- guests that are used: none lives behind
  have hmain : (pu_ul (x9 2 a) = true ∨ pu_ur (x9 2 a) = true) → Q1 = [] := by
    intro hu
    cases hQ1 : Q1 with
    | nil => rfl
    | cons q r =>
      exfalso
      obtain ⟨_, _, _, _, _, b6, b7⟩ := a1
      have hq : q ∈ Q1 := by rw [hQ1]; exact List.mem_cons_self
      obtain ⟨q1, q2⟩ := b6 q hq
      obtain ⟨d1, d2⟩ := (b7 q q1 q2).mpr hq
      rcases hgd with ⟨g', ⟨c1, c2, c3⟩, _⟩ | ⟨c1, ⟨g', c2, c3, c4, c5⟩ | ⟨c2, c3⟩⟩
      · have c1 : pu_ul (x9 2 a) = false := c1
        have c2 : pu_ur (x9 2 a) = false := c2
        rw [c1, c2] at hu
        rcases hu with hu | hu <;> cases hu
      · have := List.mem_singleton.mp ((pg_gd_lv hV9 hXE l2 _ c5 q q1 q2).mp d1)
        exact d2 ⟨c2, by rw [this]; exact c3.symm⟩
      · have := (pg_gd_lv hV9 hXE l2 _ c3 q q1 q2).mp d1
        cases this
  have hw01 : w1 0 0 = pu_I H := by rw [a3 0 (by decide)]; exact hw0
  have hw21 : w1 0 2 = pu_I wd := by rw [a3 2 (by decide)]; exact hw2
  -- the left one
  have hBl : ∃ w2 l3 Q2, pg_lst w2 l3 H V wd (fun u => (pu_ul (x9 2 a) = true ∧ u = x9 4 a) ∨ (pu_lv l2 X u ∧ ¬ (pu_gw (x9 2 a) = true ∧ u = x9 3 a))) Q2 ∧ (pu_ur (x9 2 a) = true → Q2.length ≤ 1) ∧ (∀ r, r ≠ 0 → r ≠ 8 → w2 r = w1 r) ∧ (∀ i, i ≠ 8 → w2 0 i = w1 0 i) ∧ (∀ r, r ≠ 7 → l3 r = l1 r) ∧
      fX2_meetInBlock_J140 (fX2_meetInBlock_L67 n2 x9 o8 k) n2 x9 o8 (pu_I j) w w1 l1 = fX2_meetInBlock_J159 (fX2_meetInBlock_L67 n2 x9 o8 k) n2 x9 o8 (pu_I j) w w2 l3 := by
    have hform : fX2_meetInBlock_J140 (fX2_meetInBlock_L67 n2 x9 o8 k) n2 x9 o8 (pu_I j) w w1 l1 = (if pv_b (pu_ul (x9 2 a)) = 0 then (fX2_meetInBlock_J159 (fX2_meetInBlock_L67 n2 x9 o8 k) n2 x9 o8 (pu_I j) w w1 l1) else ((fX2_addLive n w1 l1 (x9 4 a)).bind fun (o_52 : ST × SL) => (fX2_meetInBlock_J159 (fX2_meetInBlock_L67 n2 x9 o8 k) n2 x9 o8 (pu_I j) w (o_52.1) (o_52.2)))) := by
      unfold fX2_meetInBlock_J140
      rw [ho, pu_nn (show j < 2147483648 by omega), h10, hna, pv_ul, Option.bind_some, if_pos (hi _ r4)]
    cases hu : pu_ul (x9 2 a) with
    | false =>
      refine ⟨w1, l1, Q1, pg_lst_cg a1 (fun v _ => ⟨fun h => h.elim (fun h => by cases h.1) id, Or.inr⟩) hHV, fun h => by rw [hmain (Or.inr h)]; exact Nat.zero_le _, fun _ _ _ => rfl, fun _ _ => rfl, fun _ _ => rfl, ?_⟩
      rw [hform, hu, if_pos (show pv_b false = 0 from rfl)]
    | true =>
      obtain ⟨u, u1, u2⟩ := k4 hu
      obtain ⟨w2, l3, Q2, b1, b2, b3, b4, b5, b6, b7⟩ := pg_addLive (n := n) hw01 hw21 hH hHV hV9 h7 hn7 a1 u1 (fun _ => by rw [hmain (Or.inl hu)]; exact Nat.zero_le _)
      refine ⟨w2, l3, Q2, pg_lst_cg b2 (fun v _ => ?_) hHV, fun h => by rw [hmain (Or.inr h)] at b4; exact b4, b6, b7, b5, ?_⟩
      · rw [u2]
        exact ⟨fun h => h.imp And.right id, fun h => h.imp (fun h => ⟨rfl, h⟩) id⟩
      · rw [hform, hu, if_neg (show ¬ pv_b true = 0 by decide), u2, b1, Option.bind_some]
  obtain ⟨w2, l3, Q2, b1, b2, b3, b4, b5, b6⟩ := hBl
  have hw02 : w2 0 0 = pu_I H := by rw [b4 0 (by decide)]; exact hw01
  have hw22 : w2 0 2 = pu_I wd := by rw [b4 2 (by decide)]; exact hw21
  have hC : ∃ w3 l4 Q3, pg_lst w3 l4 H V wd (pu_lv (pv_S x9 a :: l2) X) Q3 ∧ (∀ r, r ≠ 0 → r ≠ 8 → w3 r = w2 r) ∧ (∀ i, i ≠ 8 → w3 0 i = w2 0 i) ∧ (∀ r, r ≠ 7 → l4 r = l3 r) ∧
      fX2_meetInBlock_J159 (fX2_meetInBlock_L67 n2 x9 o8 k) n2 x9 o8 (pu_I j) w w2 l3 = fX2_meetInBlock_L67 n2 x9 o8 k (pu_I j + (-1)) w3 l4 := by
    have hform : fX2_meetInBlock_J159 (fX2_meetInBlock_L67 n2 x9 o8 k) n2 x9 o8 (pu_I j) w w2 l3 = (if pv_b (pu_ur (x9 2 a)) = 0 then (fX2_meetInBlock_L67 n2 x9 o8 k (pu_I j + (-1)) w2 l3) else ((fX2_addLive n w2 l3 (x9 5 a)).bind fun (o_49 : ST × SL) => (fX2_meetInBlock_L67 n2 x9 o8 k (pu_I j + (-1)) (o_49.1) (o_49.2)))) := by
      unfold fX2_meetInBlock_J159
      rw [ho, pu_nn (show j < 2147483648 by omega), h10, hna, pv_ur, Option.bind_some, if_pos (hi _ r5)]
      rfl
    have hlv : ∀ u, pu_lv (pv_S x9 a :: l2) X u ↔ ((pu_ul (x9 2 a) = true ∧ u = x9 4 a) ∨ (pu_ur (x9 2 a) = true ∧ u = x9 5 a) ∨ (pu_lv l2 X u ∧ ¬ (pu_gw (x9 2 a) = true ∧ u = x9 3 a))) := fun u => Iff.rfl
    cases hu : pu_ur (x9 2 a) with
    | false =>
      refine ⟨w2, l3, Q2, pg_lst_cg b1 (fun v _ => ?_) hHV, fun _ _ _ => rfl, fun _ _ => rfl, fun _ _ => rfl, ?_⟩
      · rw [hlv, hu]
        exact ⟨fun h => h.elim Or.inl fun h => h.elim (fun h => by cases h.1) Or.inr, fun h => h.imp id Or.inr⟩
      · rw [hform, hu, if_pos (show pv_b false = 0 from rfl)]
    | true =>
      obtain ⟨u, u1, u2⟩ := k5 hu
      obtain ⟨w3, l4, Q3, d1, d2, d3, d4, d5, d6, d7⟩ := pg_addLive (n := n) hw02 hw22 hH hHV hV9 h7 hn7 b1 u1 (fun _ => b2 hu)
      refine ⟨w3, l4, Q3, pg_lst_cg d2 (fun v _ => ?_) hHV, d6, d7, d5, ?_⟩
      · rw [hlv, hu, u2]
        constructor
        · rintro (h | h | h)
          · exact Or.inr (Or.inl h)
          · exact Or.inl h.2
          · exact Or.inr (Or.inr h)
        · rintro (h | h | h)
          · exact Or.inr (Or.inl ⟨rfl, h⟩)
          · exact Or.inl h
          · exact Or.inr (Or.inr h)
      · rw [hform, hu, if_neg (show ¬ pv_b true = 0 by decide), u2, d1, Option.bind_some]
  obtain ⟨w3, l4, Q3, d1, d2, d3, d4, d5⟩ := hC
  refine ⟨w3, l4, Q3, by rw [a6, b6, d5], d1, fun r r0 r8 r12 => by rw [d2 r r0 r8, b3 r r0 r8, a2 r r0 r8 r12], fun i hi8 => by rw [d3 i hi8, b4 i hi8, a3 i hi8], fun r r7 r11 => by rw [d4 r r7, b5 r r7, a4 r r7 r11], ?_⟩
  obtain ⟨p1, p2⟩ := a5
  have h12 : w3 12 = w1 12 := by rw [d2 12 (by decide) (by decide), b3 12 (by decide) (by decide)]
  have h11e : l4 11 = l1 11 := by rw [d4 11 (by decide), b5 11 (by decide)]
  refine ⟨fun v h hv hh => by rw [pg_g_r h11e]; exact p1 v h hv hh, ?_⟩
  rw [h12]
  exact p2
end MST
