/-! pure side, the allocator 16: two become one, in all blocks -/
section UNW
variable {n2 : Nat → Nat} {B N V H : Nat} {st go : Int32} {fw x9 : ST} {qs : Nat → List Nat}
/-- no copy copies a value to itself -/
def pa_nc (B : Nat) (x9 : ST) (qs : Nat → List Nat) : Prop := ∀ b, b < B → ∀ a, a ∈ qs b → x9 2 a = 25 → x9 3 a ≠ x9 4 a
theorem pa_unite11 (hfl : pg_fl B N V fw x9 n2 qs) (hgo : go ≠ -1) (hgo2 : ¬ go < 0) :
    ∀ (m i k : Nat) (fw1 x1 : ST), i + m = B → m < k → (∀ r, r ≠ 4 → r ≠ 5 → r ≠ 9 → fw1 r = fw r) → (∀ b, b < B → fw1 9 b = if b < i then pa_ro st go (fw 9 b) else fw 9 b) →
      pv_stc B fw1 x1 (pv_fst i (fun b => (qs b).filter (pa_kp st go x9)) qs) → pv_dis B N (pv_fst i (fun b => (qs b).filter (pa_kp st go x9)) qs) → (∀ b z, b < B → z ∈ qs b → pv_S x1 z = if b < i then pu_rns (pa_ro st go) (pv_S x9 z) else pv_S x9 z) →
      ∃ fw' x9', fX0_unite_L11 st go n2 k (pu_I i) fw1 x1 = some (fw', x9') ∧ (∀ r, r ≠ 4 → r ≠ 5 → r ≠ 9 → fw' r = fw r) ∧ (∀ b, b < B → fw' 9 b = pa_ro st go (fw 9 b)) ∧ pv_stc B fw' x9' (fun b => (qs b).filter (pa_kp st go x9)) ∧ pv_dis B N (fun b => (qs b).filter (pa_kp st go x9)) ∧ (∀ b z, b < B → z ∈ qs b → pv_S x9' z = pu_rns (pa_ro st go) (pv_S x9 z)) ∧ x9' 0 = x1 0 := by
  obtain ⟨⟨hB0, hBp, hB⟩, ⟨⟨r2, r3, r4, r5, r6⟩, hN, hV⟩, hst, hd, hstep, hend⟩ := hfl
  intro m
  induction m with
  | zero =>
    intro i k fw1 x1 hi hk hr h9 hst1 hd1 hS
    obtain ⟨k', rfl⟩ : ∃ k', k = k' + 1 := ⟨k - 1, by omega⟩
    obtain rfl : i = B := by omega
    have hst2 : pv_stc i fw1 x1 (fun b => (qs b).filter (pa_kp st go x9)) := by
      refine ⟨fun b hb => ?_, fun b l a hb h => ?_⟩
      · have := hst1.1 b hb
        unfold pv_fst at this
        rw [if_pos hb] at this
        exact this
      · have := hst1.2 b l a hb
        unfold pv_fst at this
        rw [if_pos hb] at this
        exact this h
    have hd2 : pv_dis i N (fun b => (qs b).filter (pa_kp st go x9)) := pv_dis_all hd fun b => List.filter_sublist
    refine ⟨fw1, x1, ?_, hr, fun b hb => by rw [h9 b hb, if_pos hb], hst2, hd2, fun b z hb hz => by rw [hS b z hb hz, if_pos hb], rfl⟩
    show (if (fw1 0 0) ≤ pu_I i then some (fw1, x1) else _) = _
    rw [hr 0 (by decide) (by decide) (by decide), hB0, if_pos (Int32.le_refl _)]
  | succ m ih =>
    intro i k fw1 x1 hi hk hr h9 hst1 hd1 hS
    obtain ⟨k', rfl⟩ : ∃ k', k = k' + 1 := ⟨k - 1, by omega⟩
    have hiB : i < B := by omega
    have hfk : pv_fst i (fun b => (qs b).filter (pa_kp st go x9)) qs i = qs i := pv_fst_k
    obtain ⟨fw2, t1, t2, t3, t4⟩ := pv_takeSteps hB hiB hst1
    have hd2 : pv_dis B N (pv_up (pv_fst i (fun b => (qs b).filter (pa_kp st go x9)) qs) i []) := pv_dis_sub hd1 fun _ => List.nil_sublist _
    have hch := hst1.1 i hiB
    rw [hfk] at hch
    have hno : ∀ a, a ∈ qs i → a < N ∧ ∀ c, c < B → a ∉ pv_up (pv_fst i (fun b => (qs b).filter (pa_kp st go x9)) qs) i [] c := fun a ha => by
      refine ⟨hd.1 i hiB a ha, fun c hc hin => ?_⟩
      by_cases e : c = i
      · rw [e, pv_up_s] at hin; cases hin
      · rw [pv_up_n e] at hin
        have hq : a ∈ qs c := by
          unfold pv_fst at hin
          by_cases e2 : c < i
          · rw [if_pos e2] at hin
            exact (List.mem_filter.mp hin).1
          · rw [if_neg e2] at hin
            exact hin
        exact e (hd.2.2 c i a hc hiB hq ha)
    have hSi : ∀ z, z ∈ qs i → pv_S x1 z = pv_S x9 z := fun z hz => by rw [hS i z hiB hz, if_neg (Nat.lt_irrefl i)]
    obtain ⟨fw3, x3, a1, a2, a3, a4, a5, a6, a7, a8⟩ := pa_un34 (st := st) (go := go) hB r2 r3 r4 r5 r6 (by omega) hiB (qs i) _ fw2 x1 NF (fw1 4 i) (by have := pv_len N (qs i) (hd.2.1 i hiB) (hd.1 i hiB); have := pv_NF; omega) t2 hd2 hch hno (hd.2.1 i hiB) (fun a ha hg => by
      have e2 := congrArg (fun s => s.1) (hSi a ha)
      have e3 := congrArg (fun s => s.2.1) (hSi a ha)
      have e2 : x1 2 a = x9 2 a := e2
      have e3 : x1 3 a = x9 3 a := e3
      rw [e2] at hg
      rw [e3, (hstep i hiB a ha).2.2.1 hg]
      exact fun h => hgo h.symm)
    have hkp : (qs i).filter (pa_kp st go x1) = (qs i).filter (pa_kp st go x9) := List.filter_congr fun z hz => by
      unfold pa_kp
      rw [hSi z hz]
    have hup : pv_up (pv_up (pv_fst i (fun b => (qs b).filter (pa_kp st go x9)) qs) i []) i (pv_up (pv_fst i (fun b => (qs b).filter (pa_kp st go x9)) qs) i [] i ++ (qs i).filter (pa_kp st go x1)) = pv_fst (i + 1) (fun b => (qs b).filter (pa_kp st go x9)) qs := by
      rw [pv_up_up, pv_up_s, List.nil_append, hkp]
      exact pv_fst_su
    rw [hup] at a2 a3
    obtain ⟨fw4, hfw4⟩ : ∃ fw4, fw4 = if fw 9 i = go then upw fw3 9 i st else fw3 := ⟨_, rfl⟩
    have hf4r : ∀ r, r ≠ 9 → fw4 r = fw3 r := fun r hr9 => by
      rw [hfw4]
      by_cases e : fw 9 i = go
      · rw [if_pos e, pv_upw_n hr9]
      · rw [if_neg e]
    have hf3 : ∀ r, r ≠ 4 → r ≠ 5 → fw3 r = fw1 r := fun r h4 h5 => by rw [a4 r h4 h5, t3 r h4 h5]
    have hf39 : fw3 9 i = fw 9 i := by rw [hf3 9 (by decide) (by decide), h9 i hiB, if_neg (Nat.lt_irrefl i)]
    have hst4 : pv_stc B fw4 x3 (pv_fst (i + 1) (fun b => (qs b).filter (pa_kp st go x9)) qs) := by
      unfold pv_stc
      rw [hf4r 4 (by decide), hf4r 5 (by decide)]
      exact a2
    obtain ⟨fw', x9', b1, b2, b3, b4, b5, b6, b7⟩ := ih (i + 1) k' fw4 x3 (by omega) (by omega) (fun r h4 h5 h99 => by rw [hf4r r h99, hf3 r h4 h5, hr r h4 h5 h99]) (fun b hb => by
      by_cases e : b = i
      · rw [e, if_pos (Nat.lt_succ_self i), hfw4]
        unfold pa_ro
        by_cases e2 : fw 9 i = go
        · rw [if_pos e2, if_pos e2, pv_upw, if_pos ⟨rfl, rfl⟩]
        · rw [if_neg e2, if_neg e2]; exact hf39
      · have h8 : fw4 9 b = fw1 9 b := by
          rw [hfw4]
          by_cases e2 : fw 9 i = go
          · rw [if_pos e2, pv_upw, if_neg fun h => e h.2, hf3 9 (by decide) (by decide)]
          · rw [if_neg e2, hf3 9 (by decide) (by decide)]
        rw [h8, h9 b hb]
        by_cases e2 : b < i
        · rw [if_pos e2, if_pos (by omega)]
        · rw [if_neg e2, if_neg (by omega)]) hst4 a3 (fun b z hb hz => by
      by_cases e : b = i
      · rw [e] at hz ⊢
        rw [if_pos (Nat.lt_succ_self i), a5 z hz, hSi z hz]
      · have hnz : z ∉ qs i := fun h => e (hd.2.2 b i z hb hiB hz h)
        rw [a6 z hnz, hS b z hb hz]
        by_cases e2 : b < i
        · rw [if_pos e2, if_pos (by omega)]
        · rw [if_neg e2, if_neg (by omega)])
    refine ⟨fw', x9', ?_, b2, b3, b4, b5, b6, by rw [b7, a7.2]⟩
    have hib : ixb (pu_I i) 60 = true := (pu_ix (by omega)).mpr (by omega)
    show (if (fw1 0 0) ≤ pu_I i then some (fw1, x1) else ((fX1_takeSteps fw1 (pu_I i)).bind fun (o_2 : Int32 × ST) => ((fX0_unite_L34 st go n2 (pu_I i) NF (o_2.1) (o_2.2) x1).bind fun (o34 : ST × ST) => (if ixb (pu_I i) 60 = true then (if (((o34.1) 9) (nn (pu_I i))) = go then (if ixb (pu_I i) 60 = true then (lt9 (upw (o34.1) 9 (nn (pu_I i)) st) fun (w35 : ST) => (fX0_unite_J203 (fX0_unite_L11 st go n2 k') (pu_I i) o34 w35)) else none) else (fX0_unite_J203 (fX0_unite_L11 st go n2 k') (pu_I i) o34 (o34.1))) else none)))) = _
    rw [hr 0 (by decide) (by decide) (by decide), hB0, if_neg (by rw [pu_le (by omega) (by omega)]; omega), t1, Option.bind_some, a1, Option.bind_some, if_pos hib, pu_nn (show i < 2147483648 by omega), if_pos hib]
    show (if fw3 9 i = go then fX0_unite_J203 (fX0_unite_L11 st go n2 k') (pu_I i) (fw3, x3) (upw fw3 9 i st) else fX0_unite_J203 (fX0_unite_L11 st go n2 k') (pu_I i) (fw3, x3) fw3) = _
    have hJ : ∀ y : ST, fX0_unite_J203 (fX0_unite_L11 st go n2 k') (pu_I i) (fw3, x3) y = fX0_unite_L11 st go n2 k' (pu_I (i + 1)) y x3 := fun y => by
      unfold fX0_unite_J203
      rw [pu_su]
    rw [hJ, hJ, hf39]
    by_cases e : fw 9 i = go
    · rw [if_pos e]
      rw [hfw4, if_pos e] at b1
      exact b1
    · rw [if_neg e]
      rw [hfw4, if_neg e] at b1
      exact b1
/-- two become one -/
theorem pa_unite (hfl : pg_fl B N V fw x9 n2 qs) {s g : Nat} (hs : s < V) (hg : g < V) :
    ∃ fw' x9' qs', fX0_unite (pu_I s) (pu_I g) fw n2 x9 = some (fw', x9') ∧ pg_fl B N V fw' x9' n2 qs' ∧ (∀ b, b < B → pg_F fw' x9' qs' b = pu_roF (pg_F fw x9 qs) (pa_ro (pu_I s) (pu_I g)) b) ∧ (∀ b, b < B → List.Sublist (qs' b) (qs b)) ∧ (∀ b z, b < B → z ∈ qs b → pv_S x9' z = pu_rns (pa_ro (pu_I s) (pu_I g)) (pv_S x9 z)) ∧ (∀ b z, b < B → (z ∈ qs' b ↔ z ∈ qs b ∧ pa_kp (pu_I s) (pu_I g) x9 z = true)) ∧ (∀ r, r ≠ 4 → r ≠ 5 → r ≠ 9 → fw' r = fw r) ∧ (∀ b, b < B → fw' 9 b = pa_ro (pu_I s) (pu_I g) (fw 9 b)) ∧ x9' 0 = x9 0 := by
  obtain ⟨⟨hB0, hBp, hB⟩, ⟨⟨r2, r3, r4, r5, r6⟩, hN, hV⟩, hst, hd, hstep, hend⟩ := id hfl
  have hge : ¬ pu_I g < 0 := pu_ge (by omega)
  have hf0 : ∀ f : Nat → List Nat, pv_fst 0 f qs = qs := fun f => by
    funext c
    unfold pv_fst
    rw [if_neg (Nat.not_lt_zero c)]
  obtain ⟨fw', x9', e1, e2, e3, e4, e5, e6, e7⟩ := pa_unite11 (st := pu_I s) (go := pu_I g) hfl (pg_In1 (by omega)) hge B 0 NF fw x9 (by omega) (by have := pv_NF; omega) (fun _ _ _ _ => rfl) (fun b hb => by rw [if_neg (Nat.not_lt_zero b)]) (by rw [hf0]; exact hst) (by rw [hf0]; exact hd) (fun b z _ _ => by rw [if_neg (Nat.not_lt_zero b)])
  have hro : ∀ x : Int32, (∃ u, u < V ∧ x = pu_I u) → ∃ u, u < V ∧ pa_ro (pu_I s) (pu_I g) x = pu_I u := fun x hx => by
    unfold pa_ro
    by_cases e : x = pu_I g
    · rw [if_pos e]; exact ⟨s, hs, rfl⟩
    · rw [if_neg e]; exact hx
  have hron : ∀ x : Int32, x < 0 → pa_ro (pu_I s) (pu_I g) x = x := fun x hx => if_neg fun e => by rw [e] at hx; exact hge hx
  have hmem : ∀ b z, b < B → (z ∈ (qs b).filter (pa_kp (pu_I s) (pu_I g) x9) ↔ z ∈ qs b ∧ pa_kp (pu_I s) (pu_I g) x9 z = true) := fun b z _ => List.mem_filter
  refine ⟨fw', x9', fun b => (qs b).filter (pa_kp (pu_I s) (pu_I g) x9), ?_, ⟨⟨by rw [e2 0 (by decide) (by decide) (by decide)]; exact hB0, hBp, hB⟩, ⟨⟨r2, r3, r4, r5, r6⟩, hN, hV⟩, e4, e5, fun b hb a ha => ?_, fun b hb => ?_⟩, fun b hb => ?_, fun b _ => List.filter_sublist, e6, hmem, e2, e3, e7⟩
  · unfold fX0_unite
    rw [show fX0_unite_L11 (pu_I s) (pu_I g) n2 NF 0 fw x9 = some (fw', x9') from e1]
    rfl
  · have haq := ((hmem b a hb).mp ha).1
    have h9 := e6 b a hb haq
    obtain ⟨k1, k2, k3, k4, k5⟩ := hstep b hb a haq
    have q2 : x9' 2 a = x9 2 a := congrArg (fun s => s.1) h9
    have q3 : x9' 3 a = (if pu_gw (x9 2 a) = true then pa_ro (pu_I s) (pu_I g) (x9 3 a) else x9 3 a) := congrArg (fun s => s.2.1) h9
    have q4 : x9' 4 a = (if pu_ul (x9 2 a) = true then pa_ro (pu_I s) (pu_I g) (x9 4 a) else x9 4 a) := congrArg (fun s => s.2.2.1) h9
    have q5 : x9' 5 a = (if pu_ur (x9 2 a) = true then pa_ro (pu_I s) (pu_I g) (x9 5 a) else x9 5 a) := congrArg (fun s => s.2.2.2) h9
    rw [q2]
    refine ⟨k1, fun h => ?_, fun h => ?_, fun h => ?_, fun h => ?_⟩
    · rw [q3, if_pos h]; exact hro _ (k2 h)
    · rw [q3, if_neg (by rw [h]; decide)]; exact k3 h
    · rw [q4, if_pos h]; exact hro _ (k4 h)
    · rw [q5, if_pos h]; exact hro _ (k5 h)
  · obtain ⟨q1, q2, q3, q4⟩ := hend b hb
    rw [e2 8 (by decide) (by decide) (by decide), e2 10 (by decide) (by decide) (by decide), e2 11 (by decide) (by decide) (by decide), e3 b hb]
    exact ⟨q1, fun h => by rw [hron _ (q2 h)]; exact q2 h, fun h => hro _ (q3 h), q4⟩
  · show (([] : List pu_Phi), ((qs b).filter (pa_kp (pu_I s) (pu_I g) x9)).map (pv_S x9'), (fw' 8 b, fw' 9 b, fw' 10 b, fw' 11 b)) = ([], (((qs b).map (pv_S x9)).filter (fun t => !pu_idl (pa_ro (pu_I s) (pu_I g)) t)).map (pu_rns (pa_ro (pu_I s) (pu_I g))), (fw 8 b, pa_ro (pu_I s) (pu_I g) (fw 9 b), fw 10 b, fw 11 b))
    rw [e2 8 (by decide) (by decide) (by decide), e2 10 (by decide) (by decide) (by decide), e2 11 (by decide) (by decide) (by decide), e3 b hb, List.filter_map, List.map_map]
    congr 2
    refine List.map_congr_left fun a ha => ?_
    exact e6 b a hb ((hmem b a hb).mp ha).1
end UNW
