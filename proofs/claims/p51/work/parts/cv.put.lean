/-! pure side, the allocator 21: putAwayIn -/
section PUI
variable {B b V a N0 k0 : Nat} {w0 fw0 x0 : ST} {n8 n20 : Nat → Nat} {ch : Nat → List Nat}
theorem pa_Sb_u {w : ST} (hV : V < 100000) {u : Nat} (hu : u < V) : pa_Sb w V (pu_I u) = true ↔ w 13 u ≠ -1 := by
  unfold pa_Sb
  rw [decide_eq_true_iff, pu_nn (by omega)]
  exact ⟨fun h => h.2.2, fun h => ⟨pu_ge (by omega), hu, h⟩⟩
/-- what is asked of a step that is gone through -/
def pa_op (V : Nat) (s : pu_Stp) : Prop :=
  (pu_ul s.1 = true → ∃ u, u < V ∧ s.2.2.1 = pu_I u) ∧ (pu_ur s.1 = true → ∃ u, u < V ∧ s.2.2.2 = pu_I u) ∧ (pu_gw s.1 = true → ∃ u, u < V ∧ s.2.1 = pu_I u) ∧ (pu_gw s.1 = false → s.2.1 = -1)
/-- a step was gone through -/
def pa_qd (B b : Nat) (w0 fw0 x0 : ST) (ch : Nat → List Nat) (N0 k0 a : Nat) (cs : List pu_Stp) (w fw x9 : ST) (n2 : Nat → Nat) (new : List Nat) (N k : Nat) : Prop :=
  (x9 0 0 = pu_I N ∧ (∃ R, pv_sR n2 R ∧ N ≤ R ∧ R ≤ 12770)) ∧ (pv_stc B fw x9 (pv_up ch b (ch b ++ new)) ∧ pv_dis B N (pv_up ch b (ch b ++ new))) ∧
  (∀ z, z < N0 → z ≠ a → pv_S x9 z = pv_S x0 z) ∧ (∀ r, r ≠ 4 → r ≠ 5 → fw r = fw0 r) ∧ new.map (pv_S x9) = cs ∧ (∀ z, z ∈ new → z = a ∨ (N0 ≤ z ∧ z < N)) ∧ (k0 ≤ k ∧ N = N0 + (k - k0)) ∧
  (∀ z, z < N0 → z ≠ a → (∀ c, c < B → z ∉ ch c) → x9 6 z = x0 6 z) ∧ (w 0 8 = pu_I k ∧ ∀ r z, ¬ (r = 0 ∧ z = 8) → w r z = w0 r z)
theorem pa_qs_R {cs : List pu_Stp} {sa : pu_Stp} {w fw x9 : ST} {n2 : Nat → Nat} {new : List Nat} {N k : Nat} (haN : a < N0) (h : pa_qs B b w0 fw0 x0 ch N0 k0 a cs sa w fw x9 n2 new N k) :
    ixb (pu_I a) (n2 2) = true ∧ ixb (pu_I a) (n2 3) = true ∧ ixb (pu_I a) (n2 4) = true ∧ ixb (pu_I a) (n2 5) = true ∧ ixb (pu_I a) (n2 6) = true ∧ N0 ≤ N := by
  obtain ⟨⟨_, R, ⟨R2, R3, R4, R5, R6⟩, h2, h3⟩, _, _, _, _, _, ⟨h4, h5⟩, _⟩ := h
  have hx : ∀ m, m = R → ixb (pu_I a) m = true := fun m hm => (pu_ix (by omega)).mpr (by omega)
  exact ⟨hx _ R2, hx _ R3, hx _ R4, hx _ R5, hx _ R6, by omega⟩
/-- the left one -/
theorem pa_pi1 (hB : B ≤ 60) (hb : b < B) (haN : a < N0) (hac : ∀ c, c < B → a ∉ ch c) (h13 : V ≤ n8 13) (h14 : V ≤ n8 14) (hV : V < 100000) (hN : N0 + 3 < 8500) (hop : pa_op V (pv_S x0 a)) (h0 : pa_qs B b w0 fw0 x0 ch N0 k0 a [] (pv_S x0 a) w0 fw0 x0 n20 [] N0 k0) :
    ∃ w1 fw1 x1 n21 new1 N1, fX0_putAwayIn n8 w0 (pu_I b) (pu_I a) (pu_I V) fw0 n20 x0 = fX0_putAwayIn_J100 n8 (pu_I b) (pu_I a) (pu_I V) w1 fw1 x1 n21 ∧
      pa_qs B b w0 fw0 x0 ch N0 k0 a (if pu_fl (pa_Sb w0 V) (pv_S x0 a) = true then [pu_fe (pa_ns w0) (pa_sl w0) (pa_nm w0) (x0 4 a) k0] else []) (x0 2 a, x0 3 a, pu_lf (pa_Sb w0 V) k0 (pv_S x0 a), if pu_sm (pa_Sb w0 V) (pv_S x0 a) = true then pu_I k0 else x0 5 a) w1 fw1 x1 n21 new1 N1 (pu_k1 (pa_Sb w0 V) k0 (pv_S x0 a)) := by
  obtain ⟨i2, i3, i4, i5, i6, _⟩ := pa_qs_R haN h0
  have hna : nn (pu_I a) = a := pu_nn (by omega)
  have hul : pu_ul (pv_S x0 a).1 = pu_ul (x0 2 a) := rfl
  have hgo : fX0_putAwayIn n8 w0 (pu_I b) (pu_I a) (pu_I V) fw0 n20 x0 = (if pv_b (pu_ul (x0 2 a)) = 0 then fX0_putAwayIn_J100 n8 (pu_I b) (pu_I a) (pu_I V) w0 fw0 x0 n20 else (if pu_I V ≤ x0 4 a then fX0_putAwayIn_J100 n8 (pu_I b) (pu_I a) (pu_I V) w0 fw0 x0 n20 else (if ixb (x0 4 a) (n8 13) = true then (if (w0 13 (nn (x0 4 a))) = (-1) then fX0_putAwayIn_J100 n8 (pu_I b) (pu_I a) (pu_I V) w0 fw0 x0 n20 else ((fX0_fetch n8 w0 (pu_I b) (x0 4 a) fw0 n20 x0).bind fun o_54 => fX0_putAwayIn_G55_66 n8 (pu_I b) (pu_I a) (pu_I V) x0 o_54)) else none))) := by
    unfold fX0_putAwayIn
    rw [if_pos i4, if_pos i2, hna, pv_ul, Option.bind_some]
  have hlf : ∀ c, pu_fl (pa_Sb w0 V) (pv_S x0 a) = c → pu_lf (pa_Sb w0 V) k0 (pv_S x0 a) = (if c = true then pu_I k0 else x0 4 a) := fun c hc => by
    unfold pu_lf
    rw [hc]
    rfl
  have hno : pu_fl (pa_Sb w0 V) (pv_S x0 a) = false → fX0_putAwayIn n8 w0 (pu_I b) (pu_I a) (pu_I V) fw0 n20 x0 = fX0_putAwayIn_J100 n8 (pu_I b) (pu_I a) (pu_I V) w0 fw0 x0 n20 → ∃ w1 fw1 x1 n21 new1 N1, fX0_putAwayIn n8 w0 (pu_I b) (pu_I a) (pu_I V) fw0 n20 x0 = fX0_putAwayIn_J100 n8 (pu_I b) (pu_I a) (pu_I V) w1 fw1 x1 n21 ∧
      pa_qs B b w0 fw0 x0 ch N0 k0 a (if pu_fl (pa_Sb w0 V) (pv_S x0 a) = true then [pu_fe (pa_ns w0) (pa_sl w0) (pa_nm w0) (x0 4 a) k0] else []) (x0 2 a, x0 3 a, pu_lf (pa_Sb w0 V) k0 (pv_S x0 a), if pu_sm (pa_Sb w0 V) (pv_S x0 a) = true then pu_I k0 else x0 5 a) w1 fw1 x1 n21 new1 N1 (pu_k1 (pa_Sb w0 V) k0 (pv_S x0 a)) := fun e1 e2 => by
    have hsm : pu_sm (pa_Sb w0 V) (pv_S x0 a) = false := by unfold pu_sm; rw [e1]; simp
    refine ⟨w0, fw0, x0, n20, [], N0, e2, ?_⟩
    rw [hlf _ e1, hsm]
    unfold pu_k1
    rw [e1]
    exact h0
  cases eul : pu_ul (x0 2 a) with
  | false =>
    refine hno ?_ ?_
    · unfold pu_fl; rw [hul, eul]; rfl
    · rw [hgo, eul]; rfl
  | true =>
    obtain ⟨u, hu, eu⟩ := hop.1 (by rw [hul]; exact eul)
    have eu : x0 4 a = pu_I u := eu
    rw [eul, if_neg (show ¬ pv_b true = 0 by decide), eu, if_neg (by rw [pu_le (by omega) (by omega)]; omega), if_pos ((pu_ix (by omega)).mpr (by omega)), pu_nn (show u < 2147483648 by omega)] at hgo
    by_cases e13 : w0 13 u = -1
    · rw [if_pos e13] at hgo
      refine hno ?_ hgo
      unfold pu_fl
      rw [hul, eul, show (pv_S x0 a).2.2.1 = pu_I u from eu]
      cases e : pa_Sb w0 V (pu_I u) with
      | false => rfl
      | true => exact absurd e13 ((pa_Sb_u hV hu).mp e)
    · rw [if_neg e13] at hgo
      have hfl : pu_fl (pa_Sb w0 V) (pv_S x0 a) = true := by
        unfold pu_fl
        rw [hul, eul, show (pv_S x0 a).2.2.1 = pu_I u from eu, (pa_Sb_u hV hu).mpr e13]
        rfl
      obtain ⟨w1, fw1, x1, n21, f1, f2⟩ := pa_fetch hB hb haN h13 h14 hV h0 hac (by omega) hu
      have f3 := pa_qs_w haN hac f2 (r := 4) (by decide) (pu_I k0)
      obtain ⟨j2, j3, j4, j5, j6, _⟩ := pa_qs_R haN f3
      have hS1 : pv_S x1 a = pv_S x0 a := f2.2.2.2.2.1.2
      have x12 : x1 2 a = x0 2 a := congrArg (fun s => s.1) hS1
      have x13 : x1 3 a = x0 3 a := congrArg (fun s => s.2.1) hS1
      have x15 : x1 5 a = x0 5 a := congrArg (fun s => s.2.2.2) hS1
      have hur : pu_ur (pv_S x0 a).1 = pu_ur (x0 2 a) := rfl
      have y2 : upw x1 4 a (pu_I k0) 2 a = x0 2 a := by rw [pv_upw_n (by decide), x12]
      have y3 : upw x1 4 a (pu_I k0) 3 a = x0 3 a := by rw [pv_upw_n (by decide), x13]
      have y4 : upw x1 4 a (pu_I k0) 4 a = pu_I k0 := by rw [pv_upw, if_pos ⟨rfl, rfl⟩]
      have y5 : upw x1 4 a (pu_I k0) 5 a = x0 5 a := by rw [pv_upw_n (by decide), x15]
      have hk1 : pu_k1 (pa_Sb w0 V) k0 (pv_S x0 a) = k0 + 1 := by unfold pu_k1; rw [if_pos hfl]
      have hG : fX0_putAwayIn n8 w0 (pu_I b) (pu_I a) (pu_I V) fw0 n20 x0 = (if pv_b (pu_ur (x0 2 a)) = 0 then fX0_putAwayIn_J100 n8 (pu_I b) (pu_I a) (pu_I V) w1 fw1 (upw x1 4 a (pu_I k0)) n21 else (if x0 5 a = pu_I u then fX0_putAwayIn_J100 n8 (pu_I b) (pu_I a) (pu_I V) w1 fw1 (upw (upw x1 4 a (pu_I k0)) 5 a (pu_I k0)) n21 else fX0_putAwayIn_J100 n8 (pu_I b) (pu_I a) (pu_I V) w1 fw1 (upw x1 4 a (pu_I k0)) n21)) := by
        rw [hgo, f1, Option.bind_some]
        unfold fX0_putAwayIn_G55_66 lt9
        dsimp only
        rw [if_pos j4, hna, if_pos j2, y2, pv_ur, Option.bind_some, if_pos j5, y5, eu, if_pos j5]
      have hcs : (if pu_fl (pa_Sb w0 V) (pv_S x0 a) = true then [pu_fe (pa_ns w0) (pa_sl w0) (pa_nm w0) (x0 4 a) k0] else []) = [] ++ [pu_fe (pa_ns w0) (pa_sl w0) (pa_nm w0) (pu_I u) k0] := by
        rw [if_pos hfl, eu]; rfl
      rw [hcs, hlf _ hfl, if_pos rfl, hk1]
      by_cases esm : pu_sm (pa_Sb w0 V) (pv_S x0 a) = true
      · have hsm2 := esm
        unfold pu_sm at hsm2
        obtain ⟨eur, hsm3⟩ := (Bool.and_eq_true _ _).mp hsm2
        have eq : x0 5 a = x0 4 a := of_decide_eq_true ((Bool.and_eq_true _ _).mp hsm3).2
        have eur : pu_ur (x0 2 a) = true := eur
        rw [eur, if_neg (show ¬ pv_b true = 0 by decide), if_pos (by rw [eq, eu])] at hG
        refine ⟨w1, fw1, _, n21, [] ++ [N0], N0 + 1, hG, ?_⟩
        have f4 := pa_qs_w haN hac f3 (r := 5) (by decide) (pu_I k0)
        rw [if_pos esm]
        have hsa : pv_S (upw (upw x1 4 a (pu_I k0)) 5 a (pu_I k0)) a = (x0 2 a, x0 3 a, pu_I k0, pu_I k0) := by
          unfold pv_S
          rw [pv_upw_n (show (2 : Nat) ≠ 5 by decide), pv_upw_n (show (3 : Nat) ≠ 5 by decide), pv_upw_n (show (4 : Nat) ≠ 5 by decide), y2, y3, y4, pv_upw, if_pos ⟨rfl, rfl⟩]
        rw [hsa] at f4
        exact f4
      · have hJ : fX0_putAwayIn n8 w0 (pu_I b) (pu_I a) (pu_I V) fw0 n20 x0 = fX0_putAwayIn_J100 n8 (pu_I b) (pu_I a) (pu_I V) w1 fw1 (upw x1 4 a (pu_I k0)) n21 := by
          rw [hG]
          by_cases eur : pu_ur (x0 2 a) = true
          · rw [eur, if_neg (show ¬ pv_b true = 0 by decide), if_neg]
            intro e5
            refine esm ?_
            unfold pu_sm
            rw [hfl, hur, eur, show (pv_S x0 a).2.2.2 = x0 5 a from rfl, show (pv_S x0 a).2.2.1 = x0 4 a from rfl, e5, eu, decide_eq_true rfl]
            rfl
          · have eur : pu_ur (x0 2 a) = false := by simpa using eur
            rw [eur]
            rfl
        refine ⟨w1, fw1, _, n21, [] ++ [N0], N0 + 1, hJ, ?_⟩
        rw [if_neg esm]
        have hsa : pv_S (upw x1 4 a (pu_I k0)) a = (x0 2 a, x0 3 a, pu_I k0, x0 5 a) := by
          unfold pv_S
          rw [y2, y3, y4, y5]
        rw [hsa] at f3
        exact f3
/-- the right one -/
theorem pa_pi2 (hB : B ≤ 60) (hb : b < B) (haN : a < N0) (hac : ∀ c, c < B → a ∉ ch c) (h13 : V ≤ n8 13) (h14 : V ≤ n8 14) (hV : V < 100000) (hk0 : V ≤ k0) (hk0' : k0 < 100000) (hop : pa_op V (pv_S x0 a)) {cs1 : List pu_Stp} {w1 fw1 x1 : ST} {n21 : Nat → Nat} {new1 : List Nat} {N1 : Nat} (hN : N1 < 8500)
    (h0 : pa_qs B b w0 fw0 x0 ch N0 k0 a cs1 (x0 2 a, x0 3 a, pu_lf (pa_Sb w0 V) k0 (pv_S x0 a), if pu_sm (pa_Sb w0 V) (pv_S x0 a) = true then pu_I k0 else x0 5 a) w1 fw1 x1 n21 new1 N1 (pu_k1 (pa_Sb w0 V) k0 (pv_S x0 a))) :
    ∃ w2 fw2 x2 n22 new2 N2, fX0_putAwayIn_J100 n8 (pu_I b) (pu_I a) (pu_I V) w1 fw1 x1 n21 = fX0_putAwayIn_J157 n8 (pu_I b) (pu_I a) w2 fw2 x2 n22 ∧
      pa_qs B b w0 fw0 x0 ch N0 k0 a (cs1 ++ (if pu_fr (pa_Sb w0 V) (pv_S x0 a) = true then [pu_fe (pa_ns w0) (pa_sl w0) (pa_nm w0) (x0 5 a) (pu_k1 (pa_Sb w0 V) k0 (pv_S x0 a))] else [])) (x0 2 a, x0 3 a, pu_lf (pa_Sb w0 V) k0 (pv_S x0 a), pu_rt (pa_Sb w0 V) k0 (pv_S x0 a)) w2 fw2 x2 n22 new2 N2 (pu_k2 (pa_Sb w0 V) k0 (pv_S x0 a)) := by
  obtain ⟨i2, i3, i4, i5, i6, _⟩ := pa_qs_R haN h0
  have hna : nn (pu_I a) = a := pu_nn (by omega)
  have hS1 := h0.2.2.2.2.1.2
  have x12 : x1 2 a = x0 2 a := congrArg (fun s => s.1) hS1
  have x13 : x1 3 a = x0 3 a := congrArg (fun s => s.2.1) hS1
  have x14 : x1 4 a = pu_lf (pa_Sb w0 V) k0 (pv_S x0 a) := congrArg (fun s => s.2.2.1) hS1
  have x15 : x1 5 a = (if pu_sm (pa_Sb w0 V) (pv_S x0 a) = true then pu_I k0 else x0 5 a) := congrArg (fun s => s.2.2.2) hS1
  have hur : pu_ur (pv_S x0 a).1 = pu_ur (x0 2 a) := rfl
  obtain ⟨_, hwr⟩ := h0.2.2.2.2.2.2.2.2
  have hgo : fX0_putAwayIn_J100 n8 (pu_I b) (pu_I a) (pu_I V) w1 fw1 x1 n21 = (if pv_b (pu_ur (x0 2 a)) = 0 then fX0_putAwayIn_J157 n8 (pu_I b) (pu_I a) w1 fw1 x1 n21 else (if pu_I V ≤ x1 5 a then fX0_putAwayIn_J157 n8 (pu_I b) (pu_I a) w1 fw1 x1 n21 else (if ixb (x1 5 a) (n8 13) = true then (if (w0 13 (nn (x1 5 a))) = (-1) then fX0_putAwayIn_J157 n8 (pu_I b) (pu_I a) w1 fw1 x1 n21 else ((fX0_fetch n8 w1 (pu_I b) (x1 5 a) fw1 n21 x1).bind fun o_35 => fX0_putAwayIn_G146_47 n8 (pu_I b) (pu_I a) o_35)) else none))) := by
    unfold fX0_putAwayIn_J100
    rw [if_pos i5, if_pos i2, hna, x12, pv_ur, Option.bind_some, hwr 13 _ (by omega)]
  have hno : pu_fr (pa_Sb w0 V) (pv_S x0 a) = false → fX0_putAwayIn_J100 n8 (pu_I b) (pu_I a) (pu_I V) w1 fw1 x1 n21 = fX0_putAwayIn_J157 n8 (pu_I b) (pu_I a) w1 fw1 x1 n21 → ∃ w2 fw2 x2 n22 new2 N2, fX0_putAwayIn_J100 n8 (pu_I b) (pu_I a) (pu_I V) w1 fw1 x1 n21 = fX0_putAwayIn_J157 n8 (pu_I b) (pu_I a) w2 fw2 x2 n22 ∧
      pa_qs B b w0 fw0 x0 ch N0 k0 a (cs1 ++ (if pu_fr (pa_Sb w0 V) (pv_S x0 a) = true then [pu_fe (pa_ns w0) (pa_sl w0) (pa_nm w0) (x0 5 a) (pu_k1 (pa_Sb w0 V) k0 (pv_S x0 a))] else [])) (x0 2 a, x0 3 a, pu_lf (pa_Sb w0 V) k0 (pv_S x0 a), pu_rt (pa_Sb w0 V) k0 (pv_S x0 a)) w2 fw2 x2 n22 new2 N2 (pu_k2 (pa_Sb w0 V) k0 (pv_S x0 a)) := fun e1 e2 => by
    refine ⟨w1, fw1, x1, n21, new1, N1, e2, ?_⟩
    unfold pu_k2 pu_rt
    simp only [e1, Bool.false_eq_true, if_false, List.append_nil]
    exact h0
  by_cases esm : pu_sm (pa_Sb w0 V) (pv_S x0 a) = true
  · refine hno ?_ ?_
    · unfold pu_fr; rw [esm]; simp
    · rw [hgo, x15, if_pos esm, if_pos ((pu_le (by omega) (by omega)).mpr hk0)]
      by_cases q : pv_b (pu_ur (x0 2 a)) = 0
      · rw [if_pos q]
      · rw [if_neg q]
  rw [if_neg esm] at x15
  have esm : pu_sm (pa_Sb w0 V) (pv_S x0 a) = false := by simpa using esm
  cases eur : pu_ur (x0 2 a) with
  | false =>
    refine hno ?_ ?_
    · unfold pu_fr; rw [hur, eur]; rfl
    · rw [hgo, eur]; rfl
  | true =>
    obtain ⟨u, hu, eu⟩ := hop.2.1 (by rw [hur]; exact eur)
    have eu : x0 5 a = pu_I u := eu
    rw [eur, if_neg (show ¬ pv_b true = 0 by decide), x15, eu, if_neg (by rw [pu_le (by omega) (by omega)]; omega), if_pos ((pu_ix (by omega)).mpr (by omega)), pu_nn (show u < 2147483648 by omega)] at hgo
    by_cases e13 : w0 13 u = -1
    · rw [if_pos e13] at hgo
      refine hno ?_ hgo
      unfold pu_fr
      rw [hur, eur, show (pv_S x0 a).2.2.2 = pu_I u from eu]
      cases e : pa_Sb w0 V (pu_I u) with
      | false => rfl
      | true => exact absurd e13 ((pa_Sb_u hV hu).mp e)
    · rw [if_neg e13] at hgo
      have hfr : pu_fr (pa_Sb w0 V) (pv_S x0 a) = true := by
        unfold pu_fr
        rw [hur, eur, show (pv_S x0 a).2.2.2 = pu_I u from eu, (pa_Sb_u hV hu).mpr e13, esm]
        rfl
      obtain ⟨w2, fw2, x2, n22, f1, f2⟩ := pa_fetch hB hb haN h13 h14 hV h0 hac hN hu
      have f3 := pa_qs_w haN hac f2 (r := 5) (by decide) (pu_I (pu_k1 (pa_Sb w0 V) k0 (pv_S x0 a)))
      obtain ⟨j2, j3, j4, j5, j6, _⟩ := pa_qs_R haN f2
      have hS2 := f2.2.2.2.2.1.2
      have hk2 : pu_k2 (pa_Sb w0 V) k0 (pv_S x0 a) = pu_k1 (pa_Sb w0 V) k0 (pv_S x0 a) + 1 := by unfold pu_k2; rw [if_pos hfr]
      have hrt : pu_rt (pa_Sb w0 V) k0 (pv_S x0 a) = pu_I (pu_k1 (pa_Sb w0 V) k0 (pv_S x0 a)) := by
        unfold pu_rt
        rw [esm, if_neg (by decide), if_pos hfr]
      refine ⟨w2, fw2, upw x2 5 a (pu_I (pu_k1 (pa_Sb w0 V) k0 (pv_S x0 a))), n22, new1 ++ [N1], N1 + 1, ?_, ?_⟩
      · rw [hgo, f1, Option.bind_some]
        unfold fX0_putAwayIn_G146_47 lt9
        dsimp only
        rw [if_pos j5, hna]
      · rw [if_pos hfr, eu, hk2, hrt]
        have hsa : pv_S (upw x2 5 a (pu_I (pu_k1 (pa_Sb w0 V) k0 (pv_S x0 a)))) a = (x0 2 a, x0 3 a, pu_lf (pa_Sb w0 V) k0 (pv_S x0 a), pu_I (pu_k1 (pa_Sb w0 V) k0 (pv_S x0 a))) := by
          have y2 : x2 2 a = x0 2 a := congrArg (fun s => s.1) hS2
          have y3 : x2 3 a = x0 3 a := congrArg (fun s => s.2.1) hS2
          have y4 : x2 4 a = pu_lf (pa_Sb w0 V) k0 (pv_S x0 a) := congrArg (fun s => s.2.2.1) hS2
          unfold pv_S
          rw [pv_upw_n (by decide), pv_upw_n (by decide), pv_upw_n (by decide), y2, y3, y4, pv_upw, if_pos ⟨rfl, rfl⟩]
          rfl
        rw [hsa] at f3
        exact f3
/-- what it gives -/
theorem pa_pi3 (hB : B ≤ 60) (hb : b < B) (haN : a < N0) (hac : ∀ c, c < B → a ∉ ch c) (h13 : V ≤ n8 13) (hV : V < 100000) (hop : pa_op V (pv_S x0 a)) {cs2 : List pu_Stp} {lf rt : Int32} {w2 fw2 x2 : ST} {n22 : Nat → Nat} {new2 : List Nat} {N2 : Nat} (hN : N2 < 8500) {k2 : Nat}
    (h0 : pa_qs B b w0 fw0 x0 ch N0 k0 a cs2 (x0 2 a, x0 3 a, lf, rt) w2 fw2 x2 n22 new2 N2 k2) :
    ∃ w3 fw3 x3 n23 new3 N3, fX0_putAwayIn_J157 n8 (pu_I b) (pu_I a) w2 fw2 x2 n22 = some (w3, fw3, x3, n23) ∧
      pa_qd B b w0 fw0 x0 ch N0 k0 a (cs2 ++ (if pu_gw (x0 2 a) = true ∧ pa_Sb w0 V (x0 3 a) = true then (if pa_ns w0 (x0 3 a) = true then [] else [(x0 2 a, pu_I k2, lf, rt), (27, -1, pu_I k2, pa_sl w0 (x0 3 a))]) else [(x0 2 a, x0 3 a, lf, rt)])) w3 fw3 x3 n23 new3 N3 (if pu_gw (x0 2 a) = true ∧ pa_Sb w0 V (x0 3 a) = true ∧ pa_ns w0 (x0 3 a) = false then k2 + 1 else k2) := by
  obtain ⟨i2, i3, i4, i5, i6, hN2⟩ := pa_qs_R haN h0
  have hna : nn (pu_I a) = a := pu_nn (by omega)
  obtain ⟨⟨h1, R, R1, R2, R3⟩, ⟨h3, h4⟩, h5, h6, ⟨h7, h8⟩, h9, ⟨h10, h10'⟩, h11, hw8, hwr⟩ := id h0
  have x23 : x2 3 a = x0 3 a := congrArg (fun s => s.2.1) h8
  have hanew : a ∉ new2 := fun h => by have := (h9 a h).1; omega
  have haup : ∀ c, c < B → a ∉ pv_up ch b (ch b ++ new2) c := fun c hc hin => by
    by_cases e : c = b
    · rw [e, pv_up_s] at hin
      rcases List.mem_append.mp hin with q | q
      · exact hac b hb q
      · exact hanew q
    · rw [pv_up_n e] at hin
      exact hac c hc hin
  -- where nothing is put away
  obtain ⟨fw3, x3, l1, l2, l3, l4, l5, l6, l7⟩ := pv_link (s := a) hB (show N2 ≤ n22 6 by rw [R1.2.2.2.2]; exact R2) (by omega) h3 h4 hb (by omega) haup
  rw [pv_up_s, pv_up_up, List.append_assoc] at l2 l3 l7
  have hS3 : ∀ z, pv_S x3 z = pv_S x2 z := fun z => by
    unfold pv_S
    rw [l6 2 (by decide), l6 3 (by decide), l6 4 (by decide), l6 5 (by decide)]
  have h6free : ∀ z, z < N0 → z ≠ a → (∀ c, c < B → z ∉ ch c) → x3 6 z = x0 6 z := fun z z1 z2 z3 => by
    rw [l7 z (fun c hc hin => ?_), h11 z z1 z3]
    by_cases e : c = b
    · rw [e, pv_up_s] at hin
      rcases List.mem_append.mp hin with q | q
      · exact z3 b hb q
      · rcases List.mem_append.mp q with q | q
        · have := (h9 z q).1; omega
        · exact z2 (List.mem_singleton.mp q)
    · rw [pv_up_n e] at hin
      exact z3 c hc hin
  have hstay : pa_qd B b w0 fw0 x0 ch N0 k0 a (cs2 ++ [(x0 2 a, x0 3 a, lf, rt)]) w2 fw3 x3 n22 (new2 ++ [a]) N2 k2 := by
    refine ⟨⟨by rw [l6 0 (by decide)]; exact h1, R, R1, R2, R3⟩, ⟨l2, l3⟩, fun z z1 z2 => by rw [hS3, h5 z z1 z2], fun r r4 r5 => by rw [l4 r r4 r5, h6 r r4 r5], ?_, fun z hz => ?_, ⟨h10, h10'⟩, h6free, hw8, hwr⟩
    · rw [List.map_append, ← h7]
      congr 1
      · exact List.map_congr_left fun z _ => hS3 z
      · show [pv_S x3 a] = _
        rw [hS3, h8]
    · rcases List.mem_append.mp hz with q | q
      · exact Or.inr (h9 z q)
      · exact Or.inl (List.mem_singleton.mp q)
  have hgo : fX0_putAwayIn_J157 n8 (pu_I b) (pu_I a) w2 fw2 x2 n22 = (if 0 ≤ x0 3 a then (if ixb (x0 3 a) (n8 13) = true then fX0_putAwayIn_J182 (pu_I b) (pu_I a) w2 fw2 x2 n22 (w0 13 (nn (x0 3 a))) else none) else fX0_putAwayIn_J182 (pu_I b) (pu_I a) w2 fw2 x2 n22 (-1)) := by
    unfold fX0_putAwayIn_J157
    rw [if_pos i3, hna, x23, hwr 13 _ (by omega)]
  have hJ : ∀ y : Int32, fX0_putAwayIn_J182 (pu_I b) (pu_I a) w2 fw2 x2 n22 y = (if y = -2 then some (w2, fw2, x2, n22) else (if y = -1 then some (w2, fw3, x3, n22) else ((fX1_addStep fw3 (pu_I b) 27 (-1) (pu_I k2) y n22 (upw x3 3 a (pu_I k2))).bind fun o_15 => fX0_putAwayIn_G235_27 w2 o_15))) := fun y => by
    unfold fX0_putAwayIn_J182 fX0_putAwayIn_J246 lt9
    dsimp only
    rw [l1, Option.bind_some, if_pos i3, hna, hw8]
  cases egw : pu_gw (x0 2 a) with
  | false =>
    have e3 : x0 3 a = -1 := hop.2.2.2 egw
    refine ⟨w2, fw3, x3, n22, new2 ++ [a], N2, ?_, ?_⟩
    · rw [hgo, e3, if_neg (by decide), hJ, if_neg (by decide), if_pos rfl]
    · rw [if_neg (fun h => by cases h.1), if_neg (fun h => by cases h.1)]
      exact hstay
  | true =>
    obtain ⟨u, hu, eu⟩ := hop.2.2.1 egw
    have eu : x0 3 a = pu_I u := eu
    rw [eu, if_pos (show (0 : Int32) ≤ pu_I u from (pu_le (a := 0) (show 0 < 2147483648 by decide) (by omega)).mpr (Nat.zero_le u)), if_pos ((pu_ix (by omega)).mpr (by omega)), pu_nn (show u < 2147483648 by omega), hJ] at hgo
    have hns : pa_ns w0 (pu_I u) = decide (w0 13 u = -2) := by unfold pa_ns; rw [pu_nn (by omega)]
    have hsl : pa_sl w0 (pu_I u) = w0 13 u := by unfold pa_sl; rw [pu_nn (by omega)]
    rw [eu] at hstay ⊢
    by_cases e1 : w0 13 u = -1
    · have hSf : ¬ pa_Sb w0 V (pu_I u) = true := fun h => (pa_Sb_u hV hu).mp h e1
      refine ⟨w2, fw3, x3, n22, new2 ++ [a], N2, ?_, ?_⟩
      · rw [hgo, e1, if_neg (by decide), if_pos rfl]
      · rw [if_neg (fun h => hSf h.2), if_neg (fun h => hSf h.2.1)]
        exact hstay
    · have hSt : pa_Sb w0 V (pu_I u) = true := (pa_Sb_u hV hu).mpr e1
      by_cases eq2 : w0 13 u = -2
      · refine ⟨w2, fw2, x2, n22, new2, N2, ?_, ?_⟩
        · rw [hgo, if_pos eq2]
        · rw [if_pos ⟨rfl, hSt⟩, hns, if_pos (decide_eq_true eq2), if_neg (fun h => by rw [decide_eq_true eq2] at h; cases h.2.2), List.append_nil]
          exact ⟨⟨h1, R, R1, R2, R3⟩, ⟨h3, h4⟩, h5, h6, h7, fun z hz => Or.inr (h9 z hz), ⟨h10, h10'⟩, fun z z1 _ z3 => h11 z z1 z3, hw8, hwr⟩
      · rw [if_neg eq2, if_neg e1] at hgo
        obtain ⟨x4, hx4⟩ : ∃ x4, x4 = upw x3 3 a (pu_I k2) := ⟨_, rfl⟩
        rw [← hx4] at hgo
        have x4z : ∀ z, z ≠ a → pv_S x4 z = pv_S x3 z := fun z hz => by
          rw [hx4]
          unfold pv_S
          rw [pv_upw_n (by decide), pv_upw, if_neg fun q => hz q.2, pv_upw_n (by decide), pv_upw_n (by decide)]
        have x4a : pv_S x4 a = (x0 2 a, pu_I k2, lf, rt) := by
          have y := hS3 a
          rw [h8] at y
          have y2 : x3 2 a = x0 2 a := congrArg (fun s => s.1) y
          have y4 : x3 4 a = lf := congrArg (fun s => s.2.2.1) y
          have y5 : x3 5 a = rt := congrArg (fun s => s.2.2.2) y
          rw [hx4]
          unfold pv_S
          rw [pv_upw_n (by decide), pv_upw, if_pos ⟨rfl, rfl⟩, pv_upw_n (by decide), pv_upw_n (by decide), y2, y4, y5]
        have hst4 : pv_stc B fw3 x4 (pv_up ch b (ch b ++ (new2 ++ [a]))) := by
          unfold pv_stc
          rw [hx4, pv_upw_n (by decide)]
          exact l2
        obtain ⟨fw', x9', n2', R', e1, e2, e3, e4, e5, e6, e7, e8, e9, e10, e11, e12, e13, e14, e15⟩ := pv_addStep (w := fw3) (w2 := x4) hB (show x4 0 0 = pu_I N2 by rw [hx4, pv_upw_n (by decide), l6 0 (by decide)]; exact h1) R1 R2 (by omega) hst4 l3 hb 27 (-1) (pu_I k2) (w0 13 u)
        rw [pv_up_s, pv_up_up, List.append_assoc, List.append_assoc] at e12 e13
        have hz : ∀ z, z < N2 → pv_S x9' z = pv_S x4 z := fun z hz => by
          unfold pv_S
          rw [e5 2 z (by decide) (by decide) hz, e5 3 z (by decide) (by decide) hz, e5 4 z (by decide) (by decide) hz, e5 5 z (by decide) (by decide) hz]
        refine ⟨upw w2 0 8 (w2 0 8 + 1), fw', x9', n2', new2 ++ ([a] ++ [N2]), N2 + 1, ?_, ?_⟩
        · rw [hgo, e1, Option.bind_some]
          rfl
        · rw [if_pos ⟨rfl, hSt⟩, hns, if_neg (fun h => eq2 (of_decide_eq_true h)), if_pos ⟨rfl, hSt, decide_eq_false eq2⟩]
          refine ⟨⟨e2, R', e8, e9, by rcases e10 with h | h <;> omega⟩, ⟨by rw [← List.append_assoc] at e12 ⊢; exact e12, by rw [← List.append_assoc] at e13 ⊢; exact e13⟩, fun z z1 z2 => by rw [hz z (by omega), x4z z z2, hS3, h5 z z1 z2], fun r r4 r5 => by rw [e14 r r4 r5, l4 r r4 r5, h6 r r4 r5], ?_, fun z hzn => ?_, ⟨by omega, by omega⟩, fun z z1 z2 z3 => ?_, by rw [pv_upw, if_pos ⟨rfl, rfl⟩, hw8, pu_su], fun r z hrz => by rw [pv_upw, if_neg hrz, hwr r z hrz]⟩
          · rw [List.map_append, ← h7]
            congr 1
            · exact List.map_congr_left fun z hzn => by rw [hz z (h9 z hzn).2, x4z z (fun e => hanew (by rw [← e]; exact hzn)), hS3]
            · show [pv_S x9' a, pv_S x9' N2] = _
              rw [hz a (by omega), x4a, e4, hsl]
          · rcases List.mem_append.mp hzn with q | q
            · have := h9 z q; exact Or.inr (by omega)
            · rcases List.mem_cons.mp q with q | q
              · exact Or.inl q
              · rw [List.mem_singleton.mp q]; exact Or.inr (by omega)
          · rw [e7 z (by omega) (fun c hc hin => ?_), hx4, pv_upw_n (by decide), h6free z z1 z2 z3]
            by_cases e : c = b
            · rw [e, pv_up_s] at hin
              rcases List.mem_append.mp hin with q | q
              · exact z3 b hb q
              · rcases List.mem_append.mp q with q | q
                · have := (h9 z q).1; omega
                · exact z2 (List.mem_singleton.mp q)
            · rw [pv_up_n e] at hin
              exact z3 c hc hin
end PUI
