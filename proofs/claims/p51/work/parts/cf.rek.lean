/-! pure side, the graph 13: degrees, and the graph whole -/
theorem pg_sm_1 {x : Nat} : ∀ k, pv_sm (fun i => if i = x then 1 else 0) k = if x < k then 1 else 0 := by
  intro k
  induction k with
  | zero => rfl
  | succ k ih =>
    show pv_sm (fun i => if i = x then 1 else 0) k + (if k = x then 1 else 0) = _
    rw [ih]
    by_cases e : k = x
    · rw [if_pos e, if_neg (by omega), if_pos (by omega)]
    · rw [if_neg e]
      by_cases h : x < k
      · rw [if_pos h, if_pos (by omega)]
      · rw [if_neg h, if_neg (by omega)]
theorem pg_sm_bd {f : Nat → Nat} (h : ∀ i, f i ≤ 1) (k : Nat) : pv_sm f k ≤ k := by
  have := pv_sm_le (c := 1) h k
  omega
theorem pg_if1 (p : Prop) [Decidable p] : (if p then 1 else 0 : Nat) ≤ 1 := by by_cases h : p <;> simp [h]
section DEG
variable {n : Nat → Nat} {w : ST} {l : SL} {V H wd : Nat}
def pg_rw (l : SL) (wd v : Nat) : Nat := pv_sm (fun j => pv_sm (fun b => if pv_bt (l 11 (v * wd + j)) b = true then 1 else 0) 64) wd
def pg_cc (l : SL) (H wd v g0 : Nat) : Nat := pv_sm (fun g => if H ≤ g ∧ pg_g l 11 wd g v = true then 1 else 0) g0
theorem pg_count1 (hw2 : w 0 2 = pu_I wd) (hwd : wd < 1000) (hV : V < 1000000) (h11 : V * wd ≤ n 11) (hn11 : n 11 < 1000000) (h13 : V ≤ n 13) (hn13 : n 13 < 1000000) {v x : Nat} (hv : v < V) (hx : x ≤ 1) (hwx : w 13 v = pu_I x) :
    ∃ w', fX2_countDegrees_L32 n l (pu_I v) NF 0 w = some w' ∧ (∀ r, r ≠ 13 → w' r = w r) ∧ (∀ z, z ≠ v → w' 13 z = w 13 z) ∧ w' 13 v = pu_I (x + pg_rw l wd v) := by
  refine pv_for (G := fun k i (s : ST) => fX2_countDegrees_L32 n l (pu_I v) k i s) (hi := wd)
    (Inv := fun i (s : ST) => (∀ r, r ≠ 13 → s r = w r) ∧ (∀ z, z ≠ v → s 13 z = w 13 z) ∧ s 13 v = pu_I (x + pv_sm (fun j => pv_sm (fun b => if pv_bt (l 11 (v * wd + j)) b = true then 1 else 0) 64) i))
    (Q := fun (s : ST) => (∀ r, r ≠ 13 → s r = w r) ∧ (∀ z, z ≠ v → s 13 z = w 13 z) ∧ s 13 v = pu_I (x + pg_rw l wd v))
    (fun k i s hi hI => by
      obtain ⟨i1, i2, i3⟩ := hI
      have hlt : v * wd + i < V * wd := pg_ixlt hv hi
      refine ⟨upw s 13 v (pu_I (x + pv_sm (fun j => pv_sm (fun b => if pv_bt (l 11 (v * wd + j)) b = true then 1 else 0) 64) (i + 1))), ?_, fun r hr => by rw [pv_upw_n hr, i1 r hr], fun z hz => by rw [pv_upw, if_neg fun h => hz h.2, i2 z hz], by rw [pv_upw, if_pos ⟨rfl, rfl⟩]⟩
      show (if (s 0 2) ≤ pu_I i then some s else (if ixb (pu_I v) (n 13) = true then (if ixb ((pu_I v * (s 0 2)) + pu_I i) (n 11) = true then ((fJ13_bitCount_95d88 (l 11 (nn ((pu_I v * (s 0 2)) + pu_I i)))).bind fun (o_8 : Int32) => (if ixb (pu_I v) (n 13) = true then (lt9 (upw s 13 (nn (pu_I v)) ((s 13 (nn (pu_I v))) + o_8)) fun (w11 : ST) => ((fX2_countDegrees_L32 n l (pu_I v) k) (pu_I i + 1) w11)) else none)) else none) else none)) = _
      rw [i1 0 (by decide), hw2, if_neg (by rw [pu_le (by omega) (by omega)]; omega), pv_mul, pv_add, if_pos ((pu_ix (by omega)).mpr (by omega)), if_pos ((pu_ix (by omega)).mpr (by omega)), pu_nn (show v * wd + i < 2147483648 by omega), pg_bitCount, Option.bind_some, if_pos ((pu_ix (by omega)).mpr (by omega)), pu_nn (show v < 2147483648 by omega), i3, pv_add, pu_su]
      unfold lt9
      rw [Nat.add_assoc]
      rfl)
    (fun k s hI => ⟨s, by
      show (if (s 0 2) ≤ pu_I wd then some s else _) = _
      rw [hI.1 0 (by decide), hw2, if_pos (Int32.le_refl _)], hI⟩)
    wd 0 NF w (by omega) (by have := pv_NF; omega) ⟨fun _ _ => rfl, fun _ _ => rfl, by rw [hwx]; rfl⟩
theorem pg_count2 (hw2 : w 0 2 = pu_I wd) (hwd : wd < 1000) (hV : V < 1000000) (hH : H ≤ wd * 64) (hHV : H ≤ V) (h11 : V * wd ≤ n 11) (hn11 : n 11 < 1000000) (h13 : V ≤ n 13) (hn13 : n 13 < 1000000) (hcol : ∀ v h, v < V → h < wd * 64 → pg_g l 11 wd v h = true → h < H) {g : Nat} (hg : g < V) {D : Nat → Nat} (hD : ∀ v, v < V → w 13 v = pu_I (D v)) :
    ∃ w', fX2_countDegrees_L92 n l (pu_I g) NF 0 w = some w' ∧ (∀ r, r ≠ 13 → w' r = w r) ∧ ∀ v, v < V → w' 13 v = pu_I (D v + if v < wd * 64 ∧ pg_g l 11 wd g v = true then 1 else 0) := by
  obtain ⟨t, e1, e2, e3⟩ := pg_row (wd := wd) (G1 := fun k x (s : ST) => fX2_countDegrees_L92 n l (pu_I g) k x s) (G2 := fun j k x (s : ST) => fX2_countDegrees_L114 n (pu_I j) k x s) (word := fun j => l 11 (g * wd + j))
    (Inv := fun c (s : ST) => (∀ r, r ≠ 13 → s r = w r) ∧ ∀ v, v < V → s 13 v = pu_I (D v + if v < c ∧ pg_g l 11 wd g v = true then 1 else 0))
    (Q := fun (s : ST) => (∀ r, r ≠ 13 → s r = w r) ∧ ∀ v, v < V → s 13 v = pu_I (D v + if v < wd * 64 ∧ pg_g l 11 wd g v = true then 1 else 0)) hwd
    (fun k j s hj hI => by
      have hlt : g * wd + j < V * wd := pg_ixlt hg hj
      show (if (s 0 2) ≤ pu_I j then some s else (if ixb ((pu_I g * (s 0 2)) + pu_I j) (n 11) = true then ((fX2_countDegrees_L114 n (pu_I j) NF (l 11 (nn ((pu_I g * (s 0 2)) + pu_I j))) s).bind fun (o114 : ST) => ((fX2_countDegrees_L92 n l (pu_I g) k) (pu_I j + 1) o114)) else none)) = _
      rw [hI.1 0 (by decide), hw2, if_neg (by rw [pu_le (by omega) (by omega)]; omega), pv_mul, pv_add, if_pos ((pu_ix (by omega)).mpr (by omega)), pu_nn (show g * wd + j < 2147483648 by omega), pu_su])
    (fun k s hI => ⟨s, by
      show (if (s 0 2) ≤ pu_I wd then some s else _) = _
      rw [hI.1 0 (by decide), hw2, if_pos (Int32.le_refl _)], hI⟩)
    (fun j k x c s hj hx hc hb hl hI => by
      have hgg : pg_g l 11 wd g (j * 64 + c) = true := by
        unfold pg_g
        rw [show (j * 64 + c) / 64 = j by omega, show (j * 64 + c) % 64 = c by omega]
        exact hb
      have hcH := hcol g (j * 64 + c) hg (by omega) hgg
      refine ⟨upw s 13 (j * 64 + c) (pu_I (D (j * 64 + c) + 1)), ?_, fun r hr => by rw [pv_upw_n hr, hI.1 r hr], fun v hv => ?_⟩
      · show (if (lg_cmp x (0 : Int64)) = 0 then some s else ((fX11_lowest x).bind fun (o_17 : Int32) => (if ixb ((pu_I j * 64) + o_17) (n 13) = true then (if ixb ((pu_I j * 64) + o_17) (n 13) = true then (lt9 (upw s 13 (nn ((pu_I j * 64) + o_17)) ((s 13 (nn ((pu_I j * 64) + o_17))) + 1)) fun (w21 : ST) => ((fX2_countDegrees_L114 n (pu_I j) k) (x &&& (x - (1 : Int64))) w21)) else none) else none))) = _
        rw [if_neg (fun h => hx ((pv_cmp0 _ _).mp h)), hl, Option.bind_some, show (64 : Int32) = pu_I 64 from rfl, pv_mul, pv_add, if_pos ((pu_ix (by omega)).mpr (by omega)), if_pos ((pu_ix (by omega)).mpr (by omega)), pu_nn (show j * 64 + c < 2147483648 by omega), hI.2 _ (by omega), if_neg (fun h => by omega), pu_su]
        rfl
      · rw [pv_upw]
        by_cases e : v = j * 64 + c
        · rw [if_pos ⟨rfl, e⟩, e, if_pos ⟨by omega, hgg⟩]
        · rw [if_neg fun h => e h.2, hI.2 v hv]
          by_cases h1 : v < j * 64 + c ∧ pg_g l 11 wd g v = true
          · rw [if_pos h1, if_pos ⟨by omega, h1.2⟩]
          · rw [if_neg h1, if_neg fun h => h1 ⟨by omega, h.2⟩])
    (fun j c s hj hc hb hI => ⟨hI.1, fun v hv => by
      rw [hI.2 v hv]
      by_cases h1 : v < j * 64 + c ∧ pg_g l 11 wd g v = true
      · rw [if_pos h1, if_pos ⟨by omega, h1.2⟩]
      · rw [if_neg h1, if_neg]
        rintro ⟨h2, h3⟩
        by_cases e : v = j * 64 + c
        · rw [e] at h3
          unfold pg_g at h3
          rw [show (j * 64 + c) / 64 = j by omega, show (j * 64 + c) % 64 = c by omega] at h3
          have hb : pv_bt (l 11 (g * wd + j)) c = false := hb
          rw [hb] at h3
          cases h3
        · exact h1 ⟨by omega, h3⟩⟩)
    (fun j k s => rfl)
    wd 0 NF w (by omega) (by have := pv_NF; omega) ⟨fun _ _ => rfl, fun v hv => by rw [if_neg (fun h => by omega)]; exact hD v hv⟩
  exact ⟨t, e1, e2, e3⟩
theorem pg_countDegrees (hw0 : w 0 0 = pu_I H) (hw1 : w 0 1 = pu_I V) (hw2 : w 0 2 = pu_I wd) (hwd : wd < 1000) (hV : V < 100000) (hH : H ≤ wd * 64) (hHV : H ≤ V) (h11 : V * wd ≤ n 11) (hn11 : n 11 < 1000000) (h12 : V ≤ n 12) (h13 : V ≤ n 13) (hn13 : n 13 < 1000000) (hin : pg_in w l H V wd) :
    ∃ w', fX2_countDegrees n w l = some w' ∧ (∀ r, r ≠ 13 → w' r = w r) ∧ ∀ v, v < V → w' 13 v = pu_I (pg_dg w l H V wd v) := by
  obtain ⟨hcol, hmt⟩ := hin
  obtain ⟨t, e1, e2, e3⟩ := pv_for (G := fun k i (s : ST) => fX2_countDegrees_L2 n l k i s) (hi := V)
    (Inv := fun i (s : ST) => (∀ r, r ≠ 13 → s r = w r) ∧ ∀ v, v < i → s 13 v = pu_I ((if w 12 v < 0 then 0 else 1) + pg_rw l wd v))
    (Q := fun (s : ST) => (∀ r, r ≠ 13 → s r = w r) ∧ ∀ v, v < V → s 13 v = pu_I ((if w 12 v < 0 then 0 else 1) + pg_rw l wd v))
    (fun k i s hi hI => by
      obtain ⟨i1, i2⟩ := hI
      obtain ⟨y, hy⟩ : ∃ y : Nat, y = if w 12 i < 0 then 0 else 1 := ⟨_, rfl⟩
      have hy1 : y ≤ 1 := by rw [hy]; exact (by by_cases h : w 12 i < 0 <;> simp [h])
      obtain ⟨s', a1, a2, a3, a4⟩ := pg_count1 (n := n) (w := upw s 13 i (pu_I y)) (l := l) (by rw [pv_upw_n (by decide), i1 0 (by decide)]; exact hw2) hwd (by omega) h11 hn11 h13 hn13 hi hy1 (by rw [pv_upw, if_pos ⟨rfl, rfl⟩])
      refine ⟨s', ?_, fun r hr => by rw [a2 r hr, pv_upw_n hr, i1 r hr], fun v hv => ?_⟩
      · have hJ : ∀ z : Int32, z = pu_I y → fX2_countDegrees_J29 (fX2_countDegrees_L2 n l k) n l (pu_I i) s z (pu_I i) = fX2_countDegrees_L2 n l k (pu_I (i + 1)) s' := fun z hz => by
          unfold fX2_countDegrees_J29
          rw [if_pos ((pu_ix (by omega)).mpr (by omega)), pu_nn (show i < 2147483648 by omega), hz]
          unfold lt9
          show (fX2_countDegrees_L32 n l (pu_I i) NF 0 (upw s 13 i (pu_I y))).bind _ = _
          rw [a1, Option.bind_some, pu_su]
        show (if (s 0 1) ≤ pu_I i then some s else (if ixb (pu_I i) (n 12) = true then (if (s 12 (nn (pu_I i))) < 0 then (fX2_countDegrees_J29 (fX2_countDegrees_L2 n l k) n l (pu_I i) s 0 (pu_I i)) else (fX2_countDegrees_J29 (fX2_countDegrees_L2 n l k) n l (pu_I i) s 1 (pu_I i))) else none)) = _
        rw [i1 0 (by decide), hw1, if_neg (by rw [pu_le (by omega) (by omega)]; omega), if_pos ((pu_ix (by omega)).mpr (by omega)), pu_nn (show i < 2147483648 by omega), i1 12 (by decide)]
        by_cases h : w 12 i < 0
        · rw [if_pos h]
          exact hJ 0 (by rw [hy, if_pos h]; rfl)
        · rw [if_neg h]
          exact hJ 1 (by rw [hy, if_neg h]; rfl)
      · by_cases e : v = i
        · rw [e, a4, hy]
        · rw [a3 v e, pv_upw, if_neg fun h => e h.2]
          exact i2 v (by omega))
    (fun k s hI => ⟨s, by
      show (if (s 0 1) ≤ pu_I V then some s else _) = _
      rw [hI.1 0 (by decide), hw1, if_pos (Int32.le_refl _)], hI⟩)
    V 0 NF w (by omega) (by have := pv_NF; omega) ⟨fun _ _ => rfl, fun v hv => by omega⟩
  have hrw : ∀ v, v < V → pg_rw l wd v = pv_sm (fun u => if pg_g l 11 wd v u = true then 1 else 0) H := fun v hv => pg_rowc hH (fun h hh v hv h1 => hcol v h hv hh h1) hv
  obtain ⟨t2, f1, f2, f3⟩ := pv_for (G := fun k i (s : ST) => fX2_countDegrees_L82 n l k i s) (hi := V)
    (Inv := fun i (s : ST) => H ≤ i ∧ (∀ r, r ≠ 13 → s r = w r) ∧ ∀ v, v < V → s 13 v = pu_I ((if w 12 v < 0 then 0 else 1) + pg_rw l wd v + (if v < wd * 64 then pg_cc l H wd v i else 0)))
    (Q := fun (s : ST) => (∀ r, r ≠ 13 → s r = w r) ∧ ∀ v, v < V → s 13 v = pu_I ((if w 12 v < 0 then 0 else 1) + pg_rw l wd v + (if v < wd * 64 then pg_cc l H wd v V else 0)))
    (fun k i s hi hI => by
      obtain ⟨i0, i1, i2⟩ := hI
      obtain ⟨s', a1, a2, a3⟩ := pg_count2 (n := n) (w := s) (l := l) (by rw [i1 0 (by decide)]; exact hw2) hwd (by omega) hH hHV h11 hn11 h13 hn13 hcol hi i2
      refine ⟨s', ?_, by omega, fun r hr => by rw [a2 r hr, i1 r hr], fun v hv => ?_⟩
      · show (if (s 0 1) ≤ pu_I i then some s else ((fX2_countDegrees_L92 n l (pu_I i) NF 0 s).bind fun (o92 : ST) => ((fX2_countDegrees_L82 n l k) (pu_I i + 1) o92))) = _
        rw [i1 0 (by decide), hw1, if_neg (by rw [pu_le (by omega) (by omega)]; omega), a1, Option.bind_some, pu_su]
      · rw [a3 v hv]
        congr 1
        generalize (if w 12 v < 0 then 0 else 1 : Nat) = y
        by_cases e : v < wd * 64
        · rw [if_pos e, if_pos e]
          have h9 : pg_cc l H wd v (i + 1) = pg_cc l H wd v i + (if H ≤ i ∧ pg_g l 11 wd i v = true then 1 else 0) := rfl
          rw [h9]
          by_cases h1 : pg_g l 11 wd i v = true
          · rw [if_pos ⟨e, h1⟩, if_pos ⟨i0, h1⟩]
            omega
          · rw [if_neg fun h => h1 h.2, if_neg fun h => h1 h.2]
            omega
        · rw [if_neg e, if_neg e, if_neg fun h => e h.1])
    (fun k s hI => ⟨s, by
      show (if (s 0 1) ≤ pu_I V then some s else _) = _
      rw [hI.2.1 0 (by decide), hw1, if_pos (Int32.le_refl _)], hI.2⟩)
    (V - H) H NF t (by omega) (by have := pv_NF; omega) ⟨Nat.le_refl H, e2, fun v hv => by
      have h0 : pg_cc l H wd v H = 0 := by
        have h9 := pg_sm_z (f := fun g => if H ≤ g ∧ pg_g l 11 wd g v = true then 1 else 0) (a := 0) H (fun i _ h2 => if_neg (fun h => by omega))
        rw [Nat.zero_add] at h9
        exact h9
      rw [e3 v hv, h0]
      congr 1
      by_cases e : v < wd * 64
      · rw [if_pos e]; rfl
      · rw [if_neg e]; rfl⟩
  refine ⟨t2, ?_, f2, fun v hv => ?_⟩
  · unfold fX2_countDegrees
    rw [show fX2_countDegrees_L2 n l NF 0 w = some t from e1, Option.bind_some, e2 0 (by decide), hw0, show fX2_countDegrees_L82 n l NF (pu_I H) t = some t2 from f1]
    rfl
  · rw [f3 v hv]
    congr 1
    have hsplit : pg_dg w l H V wd v = pv_sm (fun u => if pg_g l 11 wd v u = true then 1 else 0) H + pv_sm (fun i => if pg_ad w l H wd v (H + i) = true then 1 else 0) (V - H) := by
      unfold pg_dg
      rw [show V = H + (V - H) by omega, pv_sm_add]
      rw [show H + (V - H) - H = V - H by omega]
      congr 1
      refine pv_sm_cg H fun u hu => ?_
      show (if pg_ad w l H wd v u = true then 1 else 0) = _
      unfold pg_ad
      rw [if_pos hu]
    rw [hsplit, hrw v hv]
    by_cases hvH : v < H
    · have hm0 : w 12 v = -1 := by
        rcases hmt v hv with h | h
        · exact h
        · exact absurd h.1 (by omega)
      rw [hm0, if_pos (by decide), if_pos (show v < wd * 64 by omega), Nat.zero_add]
      congr 1
      unfold pg_cc
      rw [show V = H + (V - H) by omega, pv_sm_add, show H + (V - H) - H = V - H by omega]
      have h9 := pg_sm_z (f := fun g => if H ≤ g ∧ pg_g l 11 wd g v = true then 1 else 0) (a := 0) H (fun i _ h2 => if_neg (fun h => by omega))
      rw [Nat.zero_add] at h9
      rw [h9]
      show 0 + _ = _
      rw [Nat.zero_add]
      refine pv_sm_cg _ fun i _ => ?_
      show (if H ≤ H + i ∧ pg_g l 11 wd (H + i) v = true then 1 else 0) = (if pg_ad w l H wd v (H + i) = true then 1 else 0)
      unfold pg_ad
      rw [if_neg (show ¬ H + i < H by omega), if_pos hvH]
      by_cases h1 : pg_g l 11 wd (H + i) v = true
      · rw [if_pos ⟨by omega, h1⟩, if_pos h1]
      · rw [if_neg fun h => h1 h.2, if_neg h1]
    · have hz : (if v < wd * 64 then pg_cc l H wd v V else 0) = 0 := by
        by_cases e : v < wd * 64
        · rw [if_pos e]
          have h9 := pg_sm_z (f := fun g => if H ≤ g ∧ pg_g l 11 wd g v = true then 1 else 0) (a := 0) V (fun i _ h2 => if_neg (fun h => by
            have := hcol i v (by omega) e h.2
            omega))
          rw [Nat.zero_add] at h9
          exact h9
        · rw [if_neg e]
      rw [hz, Nat.add_zero, Nat.add_comm]
      congr 1
      have had : ∀ i, pg_ad w l H wd v (H + i) = decide (w 12 v = pu_I (H + i)) := fun i => by
        unfold pg_ad
        rw [if_neg (show ¬ H + i < H by omega), if_neg hvH]
      rcases hmt v hv with h | ⟨_, u, hu, _, h, _⟩
      · rw [h, if_pos (by decide)]
        have h9 := pg_sm_z (f := fun i => if pg_ad w l H wd v (H + i) = true then 1 else 0) (a := 0) (V - H) (fun i _ h2 => if_neg (fun h8 => by
          rw [had, h, decide_eq_true_iff] at h8
          exact pg_In1 (by omega) h8.symm))
        rw [Nat.zero_add] at h9
        exact h9.symm
      · rw [h, if_neg (pu_ge (by omega))]
        have h9 : pv_sm (fun i => if pg_ad w l H wd v (H + i) = true then 1 else 0) (V - H) = pv_sm (fun i => if i = u - H then 1 else 0) (V - H) := pv_sm_cg _ fun i hi => by
          show (if pg_ad w l H wd v (H + i) = true then 1 else 0) = (if i = u - H then 1 else 0)
          rw [had, h]
          by_cases e : i = u - H
          · rw [if_pos e, if_pos]
            rw [decide_eq_true_iff, e, show H + (u - H) = u by omega]
          · rw [if_neg e, if_neg]
            rw [decide_eq_true_iff]
            intro h8
            have := pu_inj (by omega) (by omega) h8
            omega
        rw [h9, pg_sm_1, if_pos (by omega)]
end DEG
