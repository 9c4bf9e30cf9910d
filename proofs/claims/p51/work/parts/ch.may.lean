/-! pure side, the graph 15: whether two may be united -/
section MAY
variable {n : Nat → Nat} {w : ST} {l : SL} {V H wd : Nat}
theorem pg_may37 (hw2 : w 0 2 = pu_I wd) (hwd : wd < 1000) (hV : V < 1000000) (hH : H ≤ wd * 64) (hHV : H ≤ V) (h11 : V * wd ≤ n 11) (hn11 : n 11 < 1000000) (h13 : V ≤ n 13) (hn13 : n 13 < 1000000) (hcol : ∀ v h, v < V → h < wd * 64 → pg_g l 11 wd v h = true → h < H) {a c : Nat} (ha : a < V) (hc : c < V) (K : Int32) :
    ∃ r, fX2_mayUnite_L37 n w l (pu_I a) (pu_I c) K NF 0 0 = some r := by
  obtain ⟨t, e1, _⟩ := pg_row (wd := wd) (τ := Int32) (G1 := fun k x (s : Int32) => fX2_mayUnite_L37 n w l (pu_I a) (pu_I c) K k s x) (G2 := fun j k x (s : Int32) => fX2_mayUnite_L77 n w K (pu_I j) k s x) (word := fun j => l 11 (a * wd + j) ||| l 11 (c * wd + j)) (Inv := fun _ _ => True) (Q := fun _ => True) hwd
    (fun k j s hj _ => by
      have h1 : a * wd + j < V * wd := pg_ixlt ha hj
      have h2 : c * wd + j < V * wd := pg_ixlt hc hj
      show (if (w 0 2) ≤ pu_I j then some s else (if ixb ((pu_I a * (w 0 2)) + pu_I j) (n 11) = true then (if ixb ((pu_I c * (w 0 2)) + pu_I j) (n 11) = true then ((fX2_mayUnite_L77 n w K (pu_I j) NF s ((l 11 (nn ((pu_I a * (w 0 2)) + pu_I j))) ||| (l 11 (nn ((pu_I c * (w 0 2)) + pu_I j))))).bind fun (o77 : Int32) => ((fX2_mayUnite_L37 n w l (pu_I a) (pu_I c) K k) o77 (pu_I j + 1))) else none) else none)) = _
      rw [hw2, if_neg (by rw [pu_le (by omega) (by omega)]; omega), pv_mul, pv_mul, pv_add, pv_add, if_pos ((pu_ix (by omega)).mpr (by omega)), if_pos ((pu_ix (by omega)).mpr (by omega)), pu_nn (show a * wd + j < 2147483648 by omega), pu_nn (show c * wd + j < 2147483648 by omega), pu_su])
    (fun k s _ => ⟨s, by
      show (if (w 0 2) ≤ pu_I wd then some s else _) = _
      rw [hw2, if_pos (Int32.le_refl _)], trivial⟩)
    (fun j k x i s hj hx hi hb hl _ => by
      have hlt : j * 64 + i < H := by
        rw [pv_bt_or, Bool.or_eq_true] at hb
        have h9 : ∀ v, pv_bt (l 11 (v * wd + j)) i = pg_g l 11 wd v (j * 64 + i) := fun v => by
          unfold pg_g
          rw [show (j * 64 + i) / 64 = j by omega, show (j * 64 + i) % 64 = i by omega]
        rw [h9, h9] at hb
        rcases hb with hb | hb
        · exact hcol a _ ha (by omega) hb
        · exact hcol c _ hc (by omega) hb
      have hform : fX2_mayUnite_L77 n w K (pu_I j) (k + 1) s x = fX2_mayUnite_L77 n w K (pu_I j) k (s + if w 13 (j * 64 + i) < K then 0 else 1) (x &&& (x - (1 : Int64))) := by
        show (if (lg_cmp x (0 : Int64)) = 0 then some s else ((fX11_lowest x).bind fun (o_10 : Int32) => (if ixb ((pu_I j * 64) + o_10) (n 13) = true then (if (w 13 (nn ((pu_I j * 64) + o_10))) < K then (fX2_mayUnite_J111 (fX2_mayUnite_L77 n w K (pu_I j) k) x 0 s) else (fX2_mayUnite_J111 (fX2_mayUnite_L77 n w K (pu_I j) k) x 1 s)) else none))) = _
        rw [if_neg (fun h => hx ((pv_cmp0 _ _).mp h)), hl, Option.bind_some, show (64 : Int32) = pu_I 64 from rfl, pv_mul, pv_add, if_pos ((pu_ix (by omega)).mpr (by omega)), pu_nn (show j * 64 + i < 2147483648 by omega)]
        by_cases h : w 13 (j * 64 + i) < K
        · rw [if_pos h, if_pos h]; rfl
        · rw [if_neg h, if_neg h]; rfl
      exact ⟨_, hform, trivial⟩)
    (fun _ _ _ _ _ _ _ => trivial) (fun j k s => rfl) wd 0 NF 0 (by omega) (by have := pv_NF; omega) trivial
  exact ⟨t, e1⟩
theorem pg_mayUnite (hw0 : w 0 0 = pu_I H) (hw1 : w 0 1 = pu_I V) (hw2 : w 0 2 = pu_I wd) (hwd : wd < 1000) (hV : V < 1000000) (hH : H ≤ wd * 64) (hHV : H ≤ V) (h11 : V * wd ≤ n 11) (hn11 : n 11 < 1000000) (h13 : V ≤ n 13) (hn13 : n 13 < 1000000) (hcol : ∀ v h, v < V → h < wd * 64 → pg_g l 11 wd v h = true → h < H) {a c : Nat} (ha : a < V) (hc : c < V) (K : Int32) :
    ∃ r, fX2_mayUnite n w l (pu_I a) (pu_I c) K = some r ∧ (r = 0 ∨ (r = 1 ∧ a < H ∧ c < H ∧ pg_g l 11 wd a c = false)) := by
  unfold fX2_mayUnite
  rw [hw0]
  by_cases h1 : a < H
  · rw [if_neg (by rw [pu_le (by omega) (by omega)]; omega)]
    by_cases h2 : c < H
    · have hlt : a * wd + c / 64 < V * wd := pg_ixlt ha (by omega)
      rw [if_neg (by rw [pu_le (by omega) (by omega)]; omega), pg_isIn10 hw2 (by omega) (by omega) hn11, Option.bind_some]
      cases hg : pg_g l 11 wd a c with
      | true =>
        rw [if_neg (show ¬ pv_b true = 0 by decide)]
        exact ⟨0, rfl, Or.inl rfl⟩
      | false =>
        rw [if_pos (show pv_b false = 0 from rfl)]
        obtain ⟨r1, e1⟩ := pg_may37 (n := n) hw2 hwd hV hH hHV h11 hn11 h13 hn13 hcol ha hc K
        rw [e1, Option.bind_some]
        have hL : ∃ r2, fX2_mayUnite_L138 n w l (pu_I a) (pu_I c) K NF r1 (pu_I H) = some r2 := by
          obtain ⟨t, f1, _⟩ := pv_for (τ := Int32) (G := fun k i (s : Int32) => fX2_mayUnite_L138 n w l (pu_I a) (pu_I c) K k s i) (hi := V) (Inv := fun i _ => True) (Q := fun _ => True)
            (fun k i s hi _ => by
              have hl1 : i * wd + a / 64 < V * wd := pg_ixlt hi (by omega)
              have hl2 : i * wd + c / 64 < V * wd := pg_ixlt hi (by omega)
              have hform : fX2_mayUnite_L138 n w l (pu_I a) (pu_I c) K (k + 1) s (pu_I i) = fX2_mayUnite_L138 n w l (pu_I a) (pu_I c) K k (if w 13 i < K then s else if pv_b (pg_g l 11 wd i a) = 0 then (if pv_b (pg_g l 11 wd i c) = 0 then s else s + 1) else s + 1) (pu_I (i + 1)) := by
                show (if (w 0 1) ≤ pu_I i then some s else (if ixb (pu_I i) (n 13) = true then (if (w 13 (nn (pu_I i))) < K then (fX2_mayUnite_J189 (fX2_mayUnite_L138 n w l (pu_I a) (pu_I c) K k) (pu_I i) s) else ((fX2_isIn_a1_p0_10 n w l (pu_I i) (pu_I a)).bind fun (o_17 : Int32) => (if o_17 = 0 then ((fX2_isIn_a1_p0_10 n w l (pu_I i) (pu_I c)).bind fun (o_20 : Int32) => (if o_20 = 0 then (fX2_mayUnite_J189 (fX2_mayUnite_L138 n w l (pu_I a) (pu_I c) K k) (pu_I i) s) else (fX2_mayUnite_J186 (fX2_mayUnite_L138 n w l (pu_I a) (pu_I c) K k) s (pu_I i)))) else (fX2_mayUnite_J186 (fX2_mayUnite_L138 n w l (pu_I a) (pu_I c) K k) s (pu_I i))))) else none)) = _
                have hJ : ∀ z, fX2_mayUnite_J189 (fX2_mayUnite_L138 n w l (pu_I a) (pu_I c) K k) (pu_I i) z = fX2_mayUnite_L138 n w l (pu_I a) (pu_I c) K k z (pu_I (i + 1)) := fun z => by
                  unfold fX2_mayUnite_J189
                  rw [pu_su]
                have hJ2 : fX2_mayUnite_J186 (fX2_mayUnite_L138 n w l (pu_I a) (pu_I c) K k) s (pu_I i) = fX2_mayUnite_L138 n w l (pu_I a) (pu_I c) K k (s + 1) (pu_I (i + 1)) := hJ _
                rw [hw1, if_neg (by rw [pu_le (by omega) (by omega)]; omega), if_pos ((pu_ix (by omega)).mpr (by omega)), pu_nn (show i < 2147483648 by omega), pg_isIn10 hw2 (by omega) (by omega) hn11, pg_isIn10 hw2 (by omega) (by omega) hn11, Option.bind_some, Option.bind_some, hJ, hJ2]
                by_cases q1 : w 13 i < K
                · rw [if_pos q1, if_pos q1]
                · rw [if_neg q1, if_neg q1]
                  by_cases q2 : pv_b (pg_g l 11 wd i a) = 0
                  · rw [if_pos q2, if_pos q2]
                    by_cases q3 : pv_b (pg_g l 11 wd i c) = 0
                    · rw [if_pos q3, if_pos q3]
                    · rw [if_neg q3, if_neg q3]
                  · rw [if_neg q2, if_neg q2]
              exact ⟨_, hform, trivial⟩)
            (fun k s _ => ⟨s, by
              show (if (w 0 1) ≤ pu_I V then some s else _) = _
              rw [hw1, if_pos (Int32.le_refl _)], trivial⟩)
            (V - H) H NF r1 (by omega) (by have := pv_NF; omega) trivial
          exact ⟨t, f1⟩
        obtain ⟨r2, e2⟩ := hL
        rw [e2, Option.bind_some]
        by_cases h3 : K ≤ r2
        · rw [if_pos h3]
          exact ⟨0, rfl, Or.inl rfl⟩
        · rw [if_neg h3]
          exact ⟨1, rfl, Or.inr ⟨rfl, h1, h2, rfl⟩⟩
    · rw [if_pos (by rw [pu_le (by omega) (by omega)]; omega)]
      exact ⟨0, rfl, Or.inl rfl⟩
  · rw [if_pos (by rw [pu_le (by omega) (by omega)]; omega)]
    exact ⟨0, rfl, Or.inl rfl⟩
end MAY
