/-! pure side, the allocator 2: copies are put, one behind the other -/
section CPB
variable {B b : Nat}
theorem pa_l_len (w : ST) (n : Nat) : (pa_l w n).length = n := by
  unfold pa_l
  rw [List.length_map, List.length_range]
theorem pa_l_get (w : ST) {n j : Nat} (hj : j < n) : (pa_l w n)[j]? = some (w 15 j, w 16 j) := by
  unfold pa_l
  rw [List.getElem?_map, List.getElem?_range hj]
  rfl
theorem pa_l_mem {w : ST} {n : Nat} {y : Int32 × Int32} (h : y ∈ pa_l w n) : ∃ j, j < n ∧ y = (w 15 j, w 16 j) := by
  obtain ⟨j, j1, j2⟩ := List.mem_map.mp h
  exact ⟨j, List.mem_range.mp j1, j2.symm⟩
theorem pa_l_out {w w' : ST} {n q : Nat} (hq : q ≤ n) (h1 : ∀ j, j < q → w' 15 j = w 15 j ∧ w' 16 j = w 16 j) (h2 : ∀ j, q ≤ j → j < n → w' 15 j = w 15 (j + 1) ∧ w' 16 j = w 16 (j + 1)) :
    ∃ a c, pa_l w (n + 1) = a ++ (w 15 q, w 16 q) :: c ∧ pa_l w' n = a ++ c := by
  refine ⟨(pa_l w (n + 1)).take q, (pa_l w (n + 1)).drop (q + 1), ?_, ?_⟩
  · have hl : q < (pa_l w (n + 1)).length := by rw [pa_l_len]; omega
    have hx : (pa_l w (n + 1))[q] = (w 15 q, w 16 q) := by
      have h9 := pa_l_get w (n := n + 1) (j := q) (by omega)
      rw [List.getElem?_eq_getElem hl] at h9
      exact Option.some.inj h9
    rw [← hx, ← List.drop_eq_getElem_cons hl, List.take_append_drop]
  · refine List.ext_getElem? fun j => ?_
    have hlt : ((pa_l w (n + 1)).take q).length = q := by rw [List.length_take, pa_l_len]; omega
    by_cases hj : j < n
    · rw [pa_l_get w' hj]
      by_cases e : j < q
      · rw [List.getElem?_append_left (by omega), List.getElem?_take, if_pos e, pa_l_get w (by omega), (h1 j e).1, (h1 j e).2]
      · rw [List.getElem?_append_right (by omega), hlt, List.getElem?_drop, show q + 1 + (j - q) = j + 1 by omega, pa_l_get w (by omega), (h2 j (by omega) hj).1, (h2 j (by omega) hj).2]
    · rw [List.getElem?_eq_none (by rw [pa_l_len]; omega), List.getElem?_eq_none (by rw [List.length_append, hlt, List.length_drop, pa_l_len]; omega)]
/-- steps that were hung on at the end of a block -/
def pa_ad (B b : Nat) (fw x9 : ST) (n2 : Nat → Nat) (ch : Nat → List Nat) (N : Nat) (cs : List pu_Stp) (fw' x9' : ST) (n2' : Nat → Nat) (new : List Nat) (N' : Nat) : Prop :=
  x9' 0 0 = pu_I N' ∧ (∃ R', pv_sR n2' R' ∧ N' ≤ R' ∧ R' ≤ 12770) ∧ pv_stc B fw' x9' (pv_up ch b (ch b ++ new)) ∧ pv_dis B N' (pv_up ch b (ch b ++ new)) ∧ (∀ r i, r ≠ 0 → r ≠ 6 → i < N → x9' r i = x9 r i) ∧ (∀ r, r ≠ 4 → r ≠ 5 → fw' r = fw r) ∧ new.map (pv_S x9') = cs ∧ N ≤ N' ∧ (∀ a, a ∈ new → N ≤ a ∧ a < N')
theorem pa_add {fw x9 : ST} {n2 : Nat → Nat} {ch : Nat → List Nat} {N : Nat} (hB : B ≤ 60) (hb : b < B) (hc : x9 0 0 = pu_I N) (hR : ∃ R, pv_sR n2 R ∧ N ≤ R ∧ R ≤ 12770) (hN : N < 8500) (hst : pv_stc B fw x9 ch) (hd : pv_dis B N ch) (k g l r : Int32) :
    ∃ fw' x9' n2', fX1_addStep fw (pu_I b) k g l r n2 x9 = some (pu_I N, fw', x9', n2') ∧ pa_ad B b fw x9 n2 ch N [(k, g, l, r)] fw' x9' n2' [N] (N + 1) := by
  obtain ⟨R, hR1, hR2, hR3⟩ := hR
  obtain ⟨w', w2', n2', R', e1, e2, e3, e4, e5, e6, e7, e8, e9, e10, e11, e12, e13, e14, e15⟩ := pv_addStep (w := fw) (w2 := x9) hB hc hR1 hR2 (by omega) hst hd hb k g l r
  refine ⟨w', w2', n2', e1, e2, ⟨R', e8, e9, by rcases e10 with h | h <;> omega⟩, e12, e13, e5, e14, ?_, Nat.le_succ N, fun a ha => ?_⟩
  · show [pv_S w2' N] = _
    rw [e4]
  · rw [List.mem_singleton.mp ha]
    exact ⟨Nat.le_refl N, Nat.lt_succ_self N⟩
theorem pa_ad_tr {fw x9 fw1 x91 fw2 x92 : ST} {n2 n21 n22 : Nat → Nat} {ch : Nat → List Nat} {N N1 N2 : Nat} {cs cs2 : List pu_Stp} {new new2 : List Nat}
    (h1 : pa_ad B b fw x9 n2 ch N cs fw1 x91 n21 new N1) (h2 : pa_ad B b fw1 x91 n21 (pv_up ch b (ch b ++ new)) N1 cs2 fw2 x92 n22 new2 N2) : pa_ad B b fw x9 n2 ch N (cs ++ cs2) fw2 x92 n22 (new ++ new2) N2 := by
  obtain ⟨a1, a2, a3, a4, a5, a6, a7, a8, a9⟩ := h1
  obtain ⟨b1, b2, b3, b4, b5, b6, b7, b8, b9⟩ := h2
  rw [pv_up_s, pv_up_up, List.append_assoc] at b3 b4
  refine ⟨b1, b2, b3, b4, fun r i r0 r6 hi => by rw [b5 r i r0 r6 (by omega), a5 r i r0 r6 hi], fun r r4 r5 => by rw [b6 r r4 r5, a6 r r4 r5], ?_, by omega, fun a ha => ?_⟩
  · rw [List.map_append, b7, ← a7]
    congr 1
    refine List.map_congr_left fun a ha => ?_
    have := (a9 a ha).2
    unfold pv_S
    rw [b5 2 a (by decide) (by decide) this, b5 3 a (by decide) (by decide) this, b5 4 a (by decide) (by decide) this, b5 5 a (by decide) (by decide) this]
  · rcases List.mem_append.mp ha with h | h
    · have := a9 a h; omega
    · have := b9 a h; omega
theorem pa_97 (hB : B ≤ 60) (hb : b < B) : ∀ (mes n N V v4 k : Nat) (w fw x9 : ST) (n2 : Nat → Nat) (ch : Nat → List Nat), n ≤ 250 → (n = 0 ∨ 2 * n ≤ mes ∨ (2 * n ≤ mes + 1 ∧ ∃ q, q < n ∧ ∀ j, j < n → w 16 j ≠ w 15 q)) → v4 + mes ≤ 500 → mes < k → w 0 8 = pu_I V → V + mes < 100000 → N + mes < 8500 → (∀ j, j < n → ∃ u, u < V ∧ w 15 j = pu_I u) →
    x9 0 0 = pu_I N → (∃ R, pv_sR n2 R ∧ N ≤ R ∧ R ≤ 12770) → pv_stc B fw x9 ch → pv_dis B N ch →
    ∃ cs V' w' fw' x9' n2' new N', fX0_putCopies_L97 (pu_I b) k (pu_I n) (pu_I v4) w fw x9 n2 = some (w', fw', x9', n2') ∧ pu_pmr cs (pa_l w n) V V' ∧ w' 0 8 = pu_I V' ∧ V' ≤ V + mes ∧ (∀ r, r ≠ 0 → r ≠ 15 → r ≠ 16 → w' r = w r) ∧ (∀ i, i ≠ 8 → w' 0 i = w 0 i) ∧ N' ≤ N + mes ∧ pa_ad B b fw x9 n2 ch N cs fw' x9' n2' new N' := by
  intro mes
  induction mes with
  | zero =>
    intro n N V v4 k w fw x9 n2 ch hn hm hv hk hV hV2 hN hlt hc hR hst hd
    obtain ⟨k', rfl⟩ : ∃ k', k = k' + 1 := ⟨k - 1, by omega⟩
    obtain rfl : n = 0 := by omega
    refine ⟨[], V, w, fw, x9, n2, [], N, ?_, ⟨rfl, rfl⟩, hV, by omega, fun _ _ _ _ => rfl, fun _ _ => rfl, by omega, hc, hR, ?_, ?_, fun _ _ _ _ _ => rfl, fun _ _ _ => rfl, rfl, Nat.le_refl N, fun a ha => by cases ha⟩
    · rfl
    · rw [List.append_nil, pv_up_id rfl]; exact hst
    · rw [List.append_nil, pv_up_id rfl]; exact hd
  | succ mes ih =>
    intro n N V v4 k w fw x9 n2 ch hn hm hv hk hV hV2 hN hlt hc hR hst hd
    obtain ⟨k', rfl⟩ : ∃ k', k = k' + 1 := ⟨k - 1, by omega⟩
    by_cases hn0 : n = 0
    · subst hn0
      refine ⟨[], V, w, fw, x9, n2, [], N, ?_, ⟨rfl, rfl⟩, hV, by omega, fun _ _ _ _ => rfl, fun _ _ => rfl, by omega, hc, hR, ?_, ?_, fun _ _ _ _ _ => rfl, fun _ _ _ => rfl, rfl, Nat.le_refl N, fun a ha => by cases ha⟩
      · rfl
      · rw [List.append_nil, pv_up_id rfl]; exact hst
      · rw [List.append_nil, pv_up_id rfl]; exact hd
    obtain ⟨n', rfl⟩ : ∃ n', n = n' + 1 := ⟨n - 1, by omega⟩
    have hm1 : pu_I (n' + 1) + (-1) = pu_I n' := by
      rw [← pu_su, Int32.add_assoc]
      show pu_I n' + 0 = _
      exact Int32.add_zero _
    obtain ⟨v, v1, v2⟩ := pa_firstFree (w := w) hn
    have hL : fX0_putCopies_L97 (pu_I b) (k' + 1) (pu_I (n' + 1)) (pu_I v4) w fw x9 n2 = (if v < 0 then ((fX0_saveFirst w (pu_I b) (pu_I (n' + 1)) fw n2 x9).bind fun (o_19 : ST × ST × ST × (Nat → Nat)) => (fX0_putCopies_G207_30 (fX0_putCopies_L97 (pu_I b) k') (pu_I (n' + 1)) (pu_I v4) o_19)) else (if ixb v 250 = true then (if ixb v 250 = true then ((fX1_addStep fw (pu_I b) 25 (w 15 (nn v)) (w 16 (nn v)) (-1) n2 x9).bind fun (o_33 : Int32 × ST × ST × (Nat → Nat)) => (fX0_putCopies_G146_45 (fX0_putCopies_L97 (pu_I b) k') (pu_I (n' + 1)) (pu_I v4) w v o_33)) else none) else none)) := by
      show (if pu_I (n' + 1) ≤ 0 then some (w, fw, x9, n2) else (if 500 ≤ pu_I v4 then some (w, fw, x9, n2) else ((fX0_firstFree w (pu_I (n' + 1))).bind fun (o_16 : Int32) => _))) = _
      rw [if_neg (show ¬ pu_I (n' + 1) ≤ (0 : Int32) from fun h9 => by have := (pu_le (b := 0) (by omega) (by decide)).mp h9; omega), if_neg (show ¬ (500 : Int32) ≤ pu_I v4 from fun h9 => by have := (pu_le (a := 500) (by decide) (by omega)).mp h9; omega), v1, Option.bind_some]
    rcases v2 with ⟨q, q1, rfl, q2⟩ | ⟨rfl, hno⟩
    · -- a copy is put
      obtain ⟨fw1, x91, n21, a1, a2⟩ := pa_add hB hb hc hR (by omega) hst hd 25 (w 15 q) (w 16 q) (-1)
      obtain ⟨w1, c1, c2, c3, c4⟩ := pa_out154 (w := w) (n := n') (q := q) (by omega) (by omega)
      obtain ⟨a, c, l1, l2⟩ := pa_l_out (w := w) (w' := w1) (n := n') (q := q) (by omega) c2 c3
      have hw1lt : ∀ j, j < n' → ∃ u, u < V ∧ w1 15 j = pu_I u := fun j hj => by
        by_cases e : j < q
        · rw [(c2 j e).1]; exact hlt j (by omega)
        · rw [(c3 j (by omega) hj).1]; exact hlt (j + 1) (by omega)
      obtain ⟨cs, V', w', fw', x9', n2', new, N', r1, r2, r3, r4, r5, r6, r7, r8⟩ := ih n' (N + 1) V (v4 + 1) k' w1 fw1 x91 n21 (pv_up ch b (ch b ++ [N])) (by omega) (by omega) (by omega) (by omega) (by rw [c4 0 (by decide) (by decide)]; exact hV) (by omega) (by omega) hw1lt a2.1 a2.2.1 a2.2.2.1 a2.2.2.2.1
      refine ⟨(25, w 15 q, w 16 q, -1) :: cs, V', w', fw', x9', n2', N :: new, N', ?_, Or.inl ⟨a, (w 15 q, w 16 q), c, l1, fun y hy => ?_, rfl, ?_⟩, r3, by omega, fun r r0 r15 r16 => by rw [r5 r r0 r15 r16, c4 r r15 r16], fun i hi => by rw [r6 i hi, c4 0 (by decide) (by decide)], by omega, pa_ad_tr a2 r8⟩
      · rw [hL, if_neg (pu_ge (by omega)), if_pos ((pu_ix (by omega)).mpr (by omega)), if_pos ((pu_ix (by omega)).mpr (by omega)), pu_nn (by omega), a1, Option.bind_some]
        unfold fX0_putCopies_G146_45
        rw [c1, Option.bind_some, hm1]
        show fX0_putCopies_L97 (pu_I b) k' (pu_I n') (pu_I v4 + 1) w1 fw1 x91 n21 = _
        rw [pu_su]
        exact r1
      · obtain ⟨j, j1, rfl⟩ := pa_l_mem hy
        exact q2 j j1
      · rw [← l2]
        exact r2
    · -- a value is saved
      obtain ⟨fw1, x91, n21, a1, a2⟩ := pa_add hB hb hc hR (by omega) hst hd 25 (pu_I V) (w 15 0) (-1)
      obtain ⟨w1, c1, c2, c3, c4⟩ := pa_save27 (n := n' + 1) hn (w0 := w) (w := w) hV
      have hnf : ¬ ∃ q, q < n' + 1 ∧ ∀ j, j < n' + 1 → w 16 j ≠ w 15 q := fun ⟨q, q1, q2⟩ => by
        obtain ⟨j, j1, j2⟩ := hno q q1
        exact q2 j j1 j2
      obtain ⟨w2, hw2⟩ : ∃ w2, w2 = upw w1 0 8 (pu_I (V + 1)) := ⟨_, rfl⟩
      have e15 : ∀ j, w2 15 j = w 15 j := fun j => by rw [hw2, pv_upw_n (by decide), c4 15 (by decide)]
      have e16 : ∀ j, w2 16 j = w1 16 j := fun j => by rw [hw2, pv_upw_n (by decide)]
      obtain ⟨u0, u1, u2⟩ := hlt 0 (by omega)
      have hfree : ∀ j, j < n' + 1 → w2 16 j ≠ w2 15 0 := fun j hj => by
        rw [e16, e15, c2 j hj]
        by_cases e : w 16 j = w 15 0
        · rw [if_pos e, u2]
          exact fun h => by have := pu_inj (by omega) (by omega) h; omega
        · rw [if_neg e]; exact e
      obtain ⟨cs, V', w', fw', x9', n2', new, N', r1, r2, r3, r4, r5, r6, r7, r8⟩ := ih (n' + 1) (N + 1) (V + 1) (v4 + 1) k' w2 fw1 x91 n21 (pv_up ch b (ch b ++ [N])) hn (Or.inr (Or.inr ⟨by rcases hm with h | h | h <;> first | omega | exact absurd h.2 hnf, 0, by omega, hfree⟩)) (by omega) (by omega) (by rw [hw2, pv_upw, if_pos ⟨rfl, rfl⟩]) (by omega) (by omega) (fun j hj => by
        obtain ⟨u, h1, h2⟩ := hlt j hj
        exact ⟨u, by omega, by rw [e15]; exact h2⟩) a2.1 a2.2.1 a2.2.2.1 a2.2.2.2.1
      have hlw : pa_l w (n' + 1) = (w 15 0, w 16 0) :: (pa_l w (n' + 1)).drop 1 := by
        have hl : 0 < (pa_l w (n' + 1)).length := by rw [pa_l_len]; omega
        have hx : (pa_l w (n' + 1))[0] = (w 15 0, w 16 0) := by
          have h9 := pa_l_get w (n := n' + 1) (j := 0) (by omega)
          rw [List.getElem?_eq_getElem hl] at h9
          exact Option.some.inj h9
        rw [← hx, ← List.drop_eq_getElem_cons hl]
        rfl
      have hmap : pa_l w2 (n' + 1) = (pa_l w (n' + 1)).map (fun y => if y.2 = w 15 0 then (y.1, pu_I V) else y) := by
        unfold pa_l
        rw [List.map_map]
        refine List.map_congr_left fun j hj => ?_
        have hj := List.mem_range.mp hj
        show (w2 15 j, w2 16 j) = if w 16 j = w 15 0 then (w 15 j, pu_I V) else (w 15 j, w 16 j)
        rw [e15, e16, c2 j hj]
        by_cases e : w 16 j = w 15 0
        · rw [if_pos e, if_pos e]
        · rw [if_neg e, if_neg e]
      obtain ⟨j0, j1, j2⟩ := hno 0 (by omega)
      refine ⟨(25, pu_I V, w 15 0, -1) :: cs, V', w', fw', x9', n2', N :: new, N', ?_, Or.inr ⟨(w 15 0, w 16 0), (pa_l w (n' + 1)).drop 1, hlw, ⟨(w 15 j0, w 16 j0), List.mem_map.mpr ⟨j0, List.mem_range.mpr j1, rfl⟩, j2⟩, rfl, ?_⟩, r3, by omega, fun r r0 r15 r16 => by rw [r5 r r0 r15 r16, hw2, pv_upw_n r0, c4 r r16], fun i hi => by rw [r6 i hi, hw2, pv_upw, if_neg fun h => hi h.2, c4 0 (by decide)], by omega, pa_ad_tr a2 r8⟩
      · rw [hL, if_pos pu_m1]
        have hs : fX0_saveFirst w (pu_I b) (pu_I (n' + 1)) fw n2 x9 = some (w2, fw1, x91, n21) := by
          unfold fX0_saveFirst
          rw [hV, show nn 0 = 0 from rfl, a1, Option.bind_some]
          unfold fX0_saveFirst_G23_13
          rw [c1, Option.bind_some]
          simp only [lt9]
          rw [c4 0 (by decide), hV, pu_su, ← hw2]
        rw [hs, Option.bind_some]
        show fX0_putCopies_L97 (pu_I b) k' (pu_I (n' + 1)) (pu_I v4 + 1) w2 fw1 x91 n21 = _
        rw [pu_su]
        exact r1
      · rw [← hmap]
        exact r2
end CPB
