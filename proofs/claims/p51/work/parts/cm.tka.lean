/-! pure side, the graph 16: one is taken away -/
/-- the shape of a graph -/
def pg_shp (n : Nat → Nat) (w : ST) (l : SL) (H V wd : Nat) : Prop :=
  (w 0 0 = pu_I H ∧ w 0 1 = pu_I V ∧ w 0 2 = pu_I wd) ∧ (wd < 1000 ∧ V < 100000 ∧ H ≤ wd * 64 ∧ H ≤ V) ∧ (V * wd ≤ n 11 ∧ n 11 < 1000000) ∧ (V ≤ n 12 ∧ V ≤ n 13 ∧ V ≤ n 14 ∧ V ≤ n 15 ∧ V ≤ n 16 ∧ V ≤ n 17 ∧ V ≤ n 18 ∧ V ≤ n 19) ∧ pg_in w l H V wd
/-- what is left, some neighbours lowered -/
def pg_lo (f : Nat → Int32) (p : Nat → Bool) : Nat → Int32 := fun u => if p u = true ∧ f u ≠ -1 then f u - 1 else f u
def pg_ls (w0 : ST) (V : Nat) (p : Nat → Bool) (s : ST) : Prop := (∀ r, r ≠ 18 → s r = w0 r) ∧ ∀ u, u < V → s 18 u = pg_lo (w0 18) p u
theorem pg_ls_cg {w0 s : ST} {V : Nat} {p p' : Nat → Bool} (h : pg_ls w0 V p s) (he : ∀ u, u < V → p' u = p u) : pg_ls w0 V p' s := by
  refine ⟨h.1, fun u hu => ?_⟩
  rw [h.2 u hu]
  unfold pg_lo
  rw [he u hu]
section TKA
variable {n : Nat → Nat} {w : ST} {l : SL} {V H wd : Nat}
theorem pg_lowerLeft {w0 s : ST} {p p' : Nat → Bool} {x : Nat} (hV : V < 100000) (h18 : V ≤ n 18) (hx : x < V) (h : pg_ls w0 V p s) (hp : p x = false) (hpx : p' x = true) (he : ∀ u, u < V → u ≠ x → p' u = p u) :
    ∃ s', fX2_lowerLeft n s (pu_I x) = some s' ∧ pg_ls w0 V p' s' := by
  have hs := h.2 x hx
  have hs : s 18 x = w0 18 x := by
    rw [hs]
    unfold pg_lo
    rw [if_neg (fun q => by rw [hp] at q; cases q.1)]
  have hi : ixb (pu_I x) (n 18) = true := (pu_ix (by omega)).mpr (by omega)
  by_cases e : w0 18 x = -1
  · refine ⟨s, ?_, h.1, fun u hu => ?_⟩
    · unfold fX2_lowerLeft fX2_lowerLeft_J20
      rw [if_pos hi, pu_nn (by omega), hs, if_pos e]
    · by_cases e2 : u = x
      · rw [e2, hs]
        unfold pg_lo
        rw [if_neg fun q => q.2 e]
      · rw [h.2 u hu]
        unfold pg_lo
        rw [he u hu e2]
  · refine ⟨upw s 18 x (s 18 x - 1), ?_, fun r hr => by rw [pv_upw_n hr, h.1 r hr], fun u hu => ?_⟩
    · unfold fX2_lowerLeft fX2_lowerLeft_J20
      rw [if_pos hi, pu_nn (by omega), if_neg (by rw [hs]; exact e), if_pos hi, if_pos hi]
      rfl
    · by_cases e2 : u = x
      · rw [e2, pv_upw, if_pos ⟨rfl, rfl⟩, hs]
        unfold pg_lo
        rw [if_pos ⟨hpx, e⟩]
      · rw [pv_upw, if_neg fun q => e2 q.2, h.2 u hu]
        unfold pg_lo
        rw [he u hu e2]
theorem pg_tk9 (hsh : pg_shp n w l H V wd) {v : Nat} (hv : v < V) {w0 : ST} (h0 : ∀ r, r ≠ 18 → w0 r = w r) :
    ∃ s', fX2_takeAway_L9 n l (pu_I v) NF 0 w0 = some s' ∧ pg_ls w0 V (fun u => decide (u < H) && pg_ad w l H wd v u) s' := by
  obtain ⟨⟨a0, a1, a2⟩, ⟨b1, b2, b3, b4⟩, ⟨c1, c2⟩, ⟨d12, d13, d14, d15, d16, d17, d18, d19⟩, hcol, hmt⟩ := hsh
  obtain ⟨t, e1, e2⟩ := pg_row (wd := wd) (G1 := fun k x (s : ST) => fX2_takeAway_L9 n l (pu_I v) k x s) (G2 := fun j k x (s : ST) => fX2_takeAway_L31 n (pu_I j) k x s) (word := fun j => l 11 (v * wd + j))
    (Inv := fun c (s : ST) => pg_ls w0 V (fun u => decide (u < c) && (decide (u < wd * 64) && pg_g l 11 wd v u)) s)
    (Q := fun (s : ST) => pg_ls w0 V (fun u => decide (u < H) && pg_ad w l H wd v u) s) b1
    (fun k j s hj hI => by
      have hlt : v * wd + j < V * wd := pg_ixlt hv hj
      show (if (s 0 2) ≤ pu_I j then some s else (if ixb ((pu_I v * (s 0 2)) + pu_I j) (n 11) = true then ((fX2_takeAway_L31 n (pu_I j) NF (l 11 (nn ((pu_I v * (s 0 2)) + pu_I j))) s).bind fun (o31 : ST) => ((fX2_takeAway_L9 n l (pu_I v) k) (pu_I j + 1) o31)) else none)) = _
      rw [hI.1 0 (by decide), h0 0 (by decide), a2, if_neg (by rw [pu_le (by omega) (by omega)]; omega), pv_mul, pv_add, if_pos ((pu_ix (by omega)).mpr (by omega)), pu_nn (show v * wd + j < 2147483648 by omega), pu_su])
    (fun k s hI => ⟨s, by
      show (if (s 0 2) ≤ pu_I wd then some s else _) = _
      rw [hI.1 0 (by decide), h0 0 (by decide), a2, if_pos (Int32.le_refl _)], pg_ls_cg hI fun u hu => by
        unfold pg_ad
        by_cases q : u < wd * 64
        · by_cases q2 : u < H
          · rw [if_pos q2, decide_eq_true q2, decide_eq_true q]; rfl
          · rw [decide_eq_false q2, decide_eq_true q]
            cases q3 : pg_g l 11 wd v u with
            | false => rfl
            | true => exact absurd (hcol v u hv q q3) q2
        · rw [decide_eq_false q, decide_eq_false (show ¬ u < H by omega)]; rfl⟩)
    (fun j k x c s hj hx hc hb hl hI => by
      have hgg : pg_g l 11 wd v (j * 64 + c) = true := by
        unfold pg_g
        rw [show (j * 64 + c) / 64 = j by omega, show (j * 64 + c) % 64 = c by omega]
        exact hb
      have hcH := hcol v (j * 64 + c) hv (by omega) hgg
      obtain ⟨s', f1, f2⟩ := pg_lowerLeft (n := n) (p' := fun u => decide (u < j * 64 + c + 1) && (decide (u < wd * 64) && pg_g l 11 wd v u)) b2 d18 (show j * 64 + c < V by omega) hI (by show (decide (j * 64 + c < j * 64 + c) && _) = false; rw [decide_eq_false (Nat.lt_irrefl _)]; rfl) (by show (decide (j * 64 + c < j * 64 + c + 1) && (decide (j * 64 + c < wd * 64) && pg_g l 11 wd v (j * 64 + c))) = true; rw [hgg, decide_eq_true (Nat.lt_succ_self _), decide_eq_true (show j * 64 + c < wd * 64 by omega)]; rfl) (fun u hu hne => by
        show (decide (u < j * 64 + c + 1) && _) = (decide (u < j * 64 + c) && _)
        rw [show decide (u < j * 64 + c + 1) = decide (u < j * 64 + c) from decide_eq_decide.mpr ⟨fun q => by omega, fun q => by omega⟩])
      refine ⟨s', ?_, f2⟩
      show (if (lg_cmp x (0 : Int64)) = 0 then some s else ((fX11_lowest x).bind fun (o_6 : Int32) => ((fX2_lowerLeft n s ((pu_I j * 64) + o_6)).bind fun (o_8 : ST) => ((fX2_takeAway_L31 n (pu_I j) k) (x &&& (x - (1 : Int64))) o_8)))) = _
      rw [if_neg (fun h => hx ((pv_cmp0 _ _).mp h)), hl, Option.bind_some, show (64 : Int32) = pu_I 64 from rfl, pv_mul, pv_add, f1, Option.bind_some])
    (fun j i s hj hi hb hI => pg_ls_cg hI fun u hu => by
      by_cases e : u = j * 64 + i
      · have hgg : pg_g l 11 wd v u = false := by
          unfold pg_g
          rw [e, show (j * 64 + i) / 64 = j by omega, show (j * 64 + i) % 64 = i by omega]
          exact hb
        show (decide (u < j * 64 + i + 1) && (decide (u < wd * 64) && pg_g l 11 wd v u)) = (decide (u < j * 64 + i) && (decide (u < wd * 64) && pg_g l 11 wd v u))
        rw [hgg, Bool.and_false, Bool.and_false, Bool.and_false]
      · show (decide (u < j * 64 + i + 1) && _) = (decide (u < j * 64 + i) && _)
        rw [show decide (u < j * 64 + i + 1) = decide (u < j * 64 + i) from decide_eq_decide.mpr ⟨fun q => by omega, fun q => by omega⟩])
    (fun j k s => rfl)
    wd 0 NF w0 (by omega) (by have := pv_NF; omega) ⟨fun _ _ => rfl, fun u hu => by
      unfold pg_lo
      rw [if_neg]
      rintro ⟨q, _⟩
      simp at q⟩
  exact ⟨t, e1, e2⟩
theorem pg_takeAway (hsh : pg_shp n w l H V wd) {v : Nat} (hv : v < V) :
    ∃ w', fX2_takeAway n w l (pu_I v) = some w' ∧ (∀ r, r ≠ 18 → w' r = w r) ∧ w' 18 v = -1 ∧ ∀ u, u < V → u ≠ v → w' 18 u = (if pg_ad w l H wd v u = true ∧ w 18 u ≠ -1 then w 18 u - 1 else w 18 u) := by
  obtain ⟨⟨a0, a1, a2⟩, ⟨b1, b2, b3, b4⟩, ⟨c1, c2⟩, ⟨d12, d13, d14, d15, d16, d17, d18, d19⟩, hcol, hmt⟩ := id hsh
  obtain ⟨w0, hw0⟩ : ∃ w0, w0 = upw w 18 v (-1) := ⟨_, rfl⟩
  have h0 : ∀ r, r ≠ 18 → w0 r = w r := fun r hr => by rw [hw0, pv_upw_n hr]
  have i18 : ixb (pu_I v) (n 18) = true := (pu_ix (by omega)).mpr (by omega)
  have i12 : ixb (pu_I v) (n 12) = true := (pu_ix (by omega)).mpr (by omega)
  obtain ⟨s1, e1, e2⟩ := pg_tk9 hsh hv h0
  have s12 : s1 12 v = w 12 v := by rw [e2.1 12 (by decide), h0 12 (by decide)]
  have fin : ∀ s, pg_ls w0 V (fun u => pg_ad w l H wd v u) s → (∀ r, r ≠ 18 → s r = w r) ∧ s 18 v = -1 ∧ ∀ u, u < V → u ≠ v → s 18 u = (if pg_ad w l H wd v u = true ∧ w 18 u ≠ -1 then w 18 u - 1 else w 18 u) := fun s hs => by
    refine ⟨fun r hr => by rw [hs.1 r hr, h0 r hr], ?_, fun u hu hne => ?_⟩
    · rw [hs.2 v hv]
      unfold pg_lo
      rw [if_neg (fun q => q.2 (by rw [hw0, pv_upw, if_pos ⟨rfl, rfl⟩])), hw0, pv_upw, if_pos ⟨rfl, rfl⟩]
    · rw [hs.2 u hu]
      unfold pg_lo
      have q9 : w0 18 u = w 18 u := by rw [hw0, pv_upw, if_neg fun q => hne q.2]
      rw [q9]
  have hgo : fX2_takeAway n w l (pu_I v) = (if (s1 12 v) < 0 then fX2_takeAway_J84 n l (pu_I v) s1 else (fX2_lowerLeft n s1 (s1 12 v)).bind fun o_18 => fX2_takeAway_J84 n l (pu_I v) o_18) := by
    unfold fX2_takeAway
    rw [if_pos i18, pu_nn (by omega)]
    show (fX2_takeAway_L9 n l (pu_I v) NF 0 (upw w 18 v (-1))).bind _ = _
    rw [← hw0, show fX2_takeAway_L9 n l (pu_I v) NF 0 w0 = some s1 from e1, Option.bind_some, if_pos i12, if_pos i12]
  rw [hgo]
  have h84 : ∀ s : ST, s 0 0 = pu_I H → fX2_takeAway_J84 n l (pu_I v) s = (if H ≤ v then some s else (fX2_takeAway_L97 n l (pu_I v) NF (pu_I H) s).bind fun o97 => some o97) := fun s hs => by
    unfold fX2_takeAway_J84
    rw [hs]
    by_cases q : H ≤ v
    · rw [if_pos ((pu_le (by omega) (by omega)).mpr q), if_pos q]; rfl
    · rw [if_neg (fun h => q ((pu_le (by omega) (by omega)).mp h)), if_neg q]; rfl
  have hs00 : ∀ s : ST, (∀ r, r ≠ 18 → s r = w0 r) → s 0 0 = pu_I H := fun s hs => by rw [hs 0 (by decide), h0 0 (by decide), a0]
  by_cases hvH : v < H
  · have hm : w 12 v = -1 := by
      rcases hmt v hv with q | q
      · exact q
      · omega
    rw [s12, hm, if_pos (by decide), h84 s1 (hs00 s1 e2.1), if_neg (by omega)]
    obtain ⟨t, f1, f2⟩ := pv_for (G := fun k i (s : ST) => fX2_takeAway_L97 n l (pu_I v) k i s) (hi := V)
      (Inv := fun i (s : ST) => H ≤ i ∧ pg_ls w0 V (fun u => decide (u < i) && pg_ad w l H wd v u) s)
      (Q := fun (s : ST) => pg_ls w0 V (fun u => pg_ad w l H wd v u) s)
      (fun k i s hi hI => by
        obtain ⟨i1, i2⟩ := hI
        have hadi : pg_ad w l H wd v i = pg_g l 11 wd i v := by
          unfold pg_ad
          rw [if_neg (by omega), if_pos hvH]
        have hin : fX2_isIn_a1_p0_10 n s l (pu_I i) (pu_I v) = some (pv_b (pg_g l 11 wd i v)) := pg_isIn10 (by rw [i2.1 0 (by decide), h0 0 (by decide), a2]) (by omega) (by have := pg_ixlt (wd := wd) hi (show v / 64 < wd by omega); omega) c2
        have hgo2 : fX2_takeAway_L97 n l (pu_I v) (k + 1) (pu_I i) s = (if pv_b (pg_g l 11 wd i v) = 0 then fX2_takeAway_J123 (fX2_takeAway_L97 n l (pu_I v) k) (pu_I i) s else (fX2_lowerLeft n s (pu_I i)).bind fun o_15 => fX2_takeAway_J123 (fX2_takeAway_L97 n l (pu_I v) k) (pu_I i) o_15) := by
          show (if (s 0 1) ≤ pu_I i then some s else ((fX2_isIn_a1_p0_10 n s l (pu_I i) (pu_I v)).bind fun (o_12 : Int32) => _)) = _
          rw [i2.1 0 (by decide), h0 0 (by decide), a1, if_neg (by rw [pu_le (by omega) (by omega)]; omega), hin, Option.bind_some]
        have hJ : ∀ s : ST, fX2_takeAway_J123 (fX2_takeAway_L97 n l (pu_I v) k) (pu_I i) s = fX2_takeAway_L97 n l (pu_I v) k (pu_I (i + 1)) s := fun s => by
          unfold fX2_takeAway_J123
          rw [pu_su]
        cases hg : pg_g l 11 wd i v with
        | false =>
          rw [hg] at hgo2
          refine ⟨s, ?_, by omega, pg_ls_cg i2 fun u hu => ?_⟩
          · show fX2_takeAway_L97 n l (pu_I v) (k + 1) (pu_I i) s = _
            rw [hgo2]
            show fX2_takeAway_J123 _ _ _ = _
            rw [hJ]
          · by_cases e : u = i
            · show (decide (u < i + 1) && pg_ad w l H wd v u) = (decide (u < i) && pg_ad w l H wd v u)
              rw [e, hadi, hg, Bool.and_false, Bool.and_false]
            · show (decide (u < i + 1) && _) = (decide (u < i) && _)
              rw [show decide (u < i + 1) = decide (u < i) from decide_eq_decide.mpr ⟨fun q => by omega, fun q => by omega⟩]
        | true =>
          rw [hg] at hgo2
          obtain ⟨s', g1, g2⟩ := pg_lowerLeft (n := n) (p' := fun u => decide (u < i + 1) && pg_ad w l H wd v u) b2 d18 hi i2 (by show (decide (i < i) && _) = false; rw [decide_eq_false (Nat.lt_irrefl _)]; rfl) (by show (decide (i < i + 1) && pg_ad w l H wd v i) = true; rw [hadi, hg, decide_eq_true (Nat.lt_succ_self _)]; rfl) (fun u hu hne => by
            show (decide (u < i + 1) && _) = (decide (u < i) && _)
            rw [show decide (u < i + 1) = decide (u < i) from decide_eq_decide.mpr ⟨fun q => by omega, fun q => by omega⟩])
          refine ⟨s', ?_, by omega, g2⟩
          show fX2_takeAway_L97 n l (pu_I v) (k + 1) (pu_I i) s = _
          rw [hgo2]
          show (fX2_lowerLeft n s (pu_I i)).bind _ = _
          rw [g1, Option.bind_some, hJ])
      (fun k s hI => ⟨s, by
        show (if (s 0 1) ≤ pu_I V then some s else _) = _
        rw [hI.2.1 0 (by decide), h0 0 (by decide), a1, if_pos (Int32.le_refl _)], pg_ls_cg hI.2 fun u hu => by
          show pg_ad w l H wd v u = (decide (u < V) && pg_ad w l H wd v u)
          rw [decide_eq_true hu]; rfl⟩)
      (V - H) H NF s1 (by omega) (by have := pv_NF; omega) ⟨Nat.le_refl H, e2⟩
    rw [show fX2_takeAway_L97 n l (pu_I v) NF (pu_I H) s1 = some t from f1]
    exact ⟨t, rfl, fin t f2⟩
  · have hvH' : H ≤ v := by omega
    rcases hmt v hv with q | ⟨_, u0, ⟨u1, u2⟩, u3, u4, u5⟩
    · rw [s12, q, if_pos (by decide), h84 s1 (hs00 s1 e2.1), if_pos hvH']
      refine ⟨s1, rfl, fin s1 (pg_ls_cg e2 fun u hu => ?_)⟩
      by_cases h : u < H
      · rw [decide_eq_true h]; rfl
      · rw [decide_eq_false h]
        show pg_ad w l H wd v u = false
        unfold pg_ad
        rw [if_neg h, if_neg hvH, q]
        exact decide_eq_false fun e => pg_In1 (by omega) e.symm
    · rw [s12, u4, if_neg (pu_ge (by omega))]
      have hadu : ∀ u, H ≤ u → pg_ad w l H wd v u = decide (pu_I u0 = pu_I u) := fun u h => by
        unfold pg_ad
        rw [if_neg (by omega), if_neg hvH, u4]
      obtain ⟨s', g1, g2⟩ := pg_lowerLeft (n := n) (p' := fun u => pg_ad w l H wd v u) b2 d18 u2 e2 (by show (decide (u0 < H) && _) = false; rw [decide_eq_false (by omega)]; rfl) (by show pg_ad w l H wd v u0 = true; rw [hadu u0 u1]; exact decide_eq_true rfl) (fun u hu hne => by
        by_cases h : u < H
        · rw [decide_eq_true h]; rfl
        · rw [decide_eq_false h]
          show pg_ad w l H wd v u = false
          rw [hadu u (by omega)]
          exact decide_eq_false fun e => hne (pu_inj (by omega) (by omega) e).symm)
      rw [g1, Option.bind_some, h84 s' (hs00 s' g2.1), if_pos hvH']
      exact ⟨s', rfl, fin s' g2⟩
end TKA
