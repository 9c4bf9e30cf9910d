/-! pure side, stores 53: merge: what the methods do to the rows -/
theorem pv_waysTo_e {w w' : ST} (h : w' 14 = w 14) (x : Int32) : fX1_waysTo w' x = fX1_waysTo w x := by
  unfold fX1_waysTo
  rw [h]
theorem pv_wayFrom_e {w w' : ST} (h : w' 14 = w 14) (h2 : w' 15 = w 15) (x y : Int32) : fX1_wayFrom w' x y = fX1_wayFrom w x y := by
  unfold fX1_wayFrom
  rw [h, h2]
section MW
variable {B N M : Nat} {n n2 : Nat → Nat} {wb : Nat → Nat}
theorem pv_mergeable {w0 w : ST} {l : SL} (hB : B ≤ 60) (hw0 : w 0 0 = pu_I B) (hw : pv_wys B w0 wb) (h14 : w 14 = w0 14) (hek : pv_ek B w) (hsv : pv_sv B w) :
    ∃ o, fX5_mergeable l w = some o ∧ (o < 0 ∨ ∃ b c, b < B ∧ c < B ∧ o = pu_I b ∧ pv_bt (l 0 7) b = true ∧ w 8 b = 22 ∧ w 10 b = pu_I c ∧ c ≠ b ∧ wb (c + 1) = wb c + 1) := by
  have hrun : ∀ (m i k : Nat), i + m = B → m < k → ∃ t, fX5_mergeable_L2 l w k (pu_I i) = some t ∧ (t = Sum.inr () ∨ ∃ b c, b < B ∧ c < B ∧ t = Sum.inl (pu_I b) ∧ pv_bt (l 0 7) b = true ∧ w 8 b = 22 ∧ w 10 b = pu_I c ∧ c ≠ b ∧ wb (c + 1) = wb c + 1) := by
    intro m
    induction m with
    | zero =>
      intro i k hi hk
      obtain ⟨k', rfl⟩ : ∃ k', k = k' + 1 := ⟨k - 1, by omega⟩
      have hi : i = B := by omega
      subst hi
      refine ⟨Sum.inr (), ?_, Or.inl rfl⟩
      show (if (w 0 0) ≤ pu_I i then some (Sum.inr ()) else _) = _
      rw [hw0, if_pos (Int32.le_refl _)]
    | succ m ih =>
      intro i k hi hk
      obtain ⟨k', rfl⟩ : ∃ k', k = k' + 1 := ⟨k - 1, by omega⟩
      have h60 : ixb (pu_I i) 60 = true := (pu_ix (by omega)).mpr (by omega)
      have hnext := ih (i + 1) k' (by omega) (by omega)
      have hform : fX5_mergeable_L2 l w (k' + 1) (pu_I i) = (if pv_b (pv_bt (l 0 7) i) = 0 then fX5_mergeable_L2 l w k' (pu_I (i + 1)) else (if w 8 i = 22 then (if w 10 i = pu_I i then fX5_mergeable_L2 l w k' (pu_I (i + 1)) else ((fX1_waysTo w (w 10 i)).bind fun (o_9 : Int32) => (if o_9 = 1 then some (Sum.inl (pu_I i)) else fX5_mergeable_L2 l w k' (pu_I (i + 1))))) else fX5_mergeable_L2 l w k' (pu_I (i + 1)))) := by
        show (if (w 0 0) ≤ pu_I i then some (Sum.inr ()) else ((fX11_holds (l 0 7) (pu_I i)).bind fun (o_2 : Int32) => (if o_2 = 0 then (fX5_mergeable_J55 (fX5_mergeable_L2 l w k') (pu_I i)) else (if ixb (pu_I i) 60 = true then (if (w 8 (nn (pu_I i))) = 22 then (if ixb (pu_I i) 60 = true then (if (w 10 (nn (pu_I i))) = pu_I i then (fX5_mergeable_J55 (fX5_mergeable_L2 l w k') (pu_I i)) else ((fX1_waysTo w (w 10 (nn (pu_I i)))).bind fun (o_9 : Int32) => (if o_9 = 1 then some (Sum.inl (pu_I i)) else (fX5_mergeable_J55 (fX5_mergeable_L2 l w k') (pu_I i))))) else none) else (fX5_mergeable_J55 (fX5_mergeable_L2 l w k') (pu_I i))) else none)))) = _
        unfold fX5_mergeable_J55
        rw [hw0, if_neg (by rw [pu_le (by omega) (by omega)]; omega), pv_holds (by omega), Option.bind_some, if_pos h60, pu_nn (by omega), if_pos h60, pu_su]
      rw [hform]
      cases hb : pv_bt (l 0 7) i with
      | false => rw [if_pos (by decide)]; exact hnext
      | true =>
        rw [if_neg (by decide)]
        by_cases h22 : w 8 i = 22
        · rw [if_pos h22]
          obtain ⟨c, c1, c2⟩ := (hsv i (by omega)).1.resolve_left ((hek i (by omega)).2.1 h22).1
          by_cases hci : w 10 i = pu_I i
          · rw [if_pos hci]; exact hnext
          · have h120 := hw.2.2.1 (c + 1) (by omega)
            have hmo := hw.2.1 c c1
            rw [if_neg hci, c2, pv_waysTo_e h14, pv_waysTo hB hw c1, Option.bind_some]
            by_cases h1 : pu_I (wb (c + 1) - wb c) = 1
            · rw [if_pos h1]
              have := pu_inj (b := 1) (by omega) (by decide) h1
              exact ⟨_, rfl, Or.inr ⟨i, c, by omega, c1, rfl, hb, h22, c2, fun e => hci (by rw [c2, e]), by omega⟩⟩
            · rw [if_neg h1]; exact hnext
        · rw [if_neg h22]; exact hnext
  obtain ⟨t, t1, t2⟩ := hrun B 0 NF (by omega) (by have := pv_NF; omega)
  have t1 : fX5_mergeable_L2 l w NF 0 = some t := t1
  unfold fX5_mergeable
  rw [t1, Option.bind_some]
  rcases t2 with rfl | ⟨b, c, b1, c1, rfl, h⟩
  · exact ⟨-1, rfl, Or.inl (by decide)⟩
  · exact ⟨pu_I b, rfl, Or.inr ⟨b, c, b1, c1, rfl, h⟩⟩
/-- the phis of the block that goes -/
theorem pv_mg15 {L : Nat → Prop} {D : Nat → Nat → Prop} {w w1 w2 : ST} {ch ph : Nat → List Nat} {b gn q : Nat} {x0 : Int32} (h19 : w1 19 = w 19) (h20 : w1 20 = w 20) (h21 : w1 21 = w 21) (hbL : L b) (hgL : L gn) (hsc : pv_rsc w b gn) (hon : ∀ p, L p → pv_rsc w p gn → p = b) (hne : gn ≠ b) (hD : D gn b) (hq : q < 60) (hM19 : M ≤ n 19) (hM20 : M ≤ n 20) (hM21 : M * 60 ≤ n 21) (hM : M < 50000) :
    ∀ (rem : List Nat) (g : ST) (k : Nat) (x : Int32), rem.length < k → pv_ch (w 20) x rem → pv_sk g → pu_ssa (pv_Fs (pv_sgx g) w w2 ch (pv_up ph gn rem)) L D →
      (∀ a ∈ rem, a < M ∧ ixb (w 19 a) 250 = true ∧ w 21 (a * 60 + b) = w 21 (a * 60 + q) ∧ ixb (w 21 (a * 60 + q)) 250 = true ∧ g 6 (nn (w 19 a)) < 0) → (rem.map (fun a => nn (w 19 a))).Nodup →
      ∃ g', fX5_mergeInto_L15 n (pu_I q) (x0, w1) k x g = some g' ∧ pv_sk g' ∧ pu_ssa (pv_Fs (pv_sgx g') w w2 ch (pv_up ph gn [])) L D ∧ (∀ r, r ≠ 6 → g' r = g r) ∧ (∀ v, (∀ a ∈ rem, v ≠ nn (w 19 a)) → g' 6 v = g 6 v) ∧
        (∀ call ar k e m q r, pu_run (pv_Fs (pv_sgx g) w w2 ch (pv_up ph gn rem)) call ar k 0 0 (e, m, q) = some r → pu_run (pv_Fs (pv_sgx g') w w2 ch (pv_up ph gn [])) call ar k 0 0 (e, m, q) = some r) := by
  intro rem
  induction rem with
  | nil =>
    intro g k x hk hx hsk hS _ _
    obtain ⟨k', rfl⟩ : ∃ k', k = k' + 1 := ⟨k - 1, by simp at hk; omega⟩
    have hx0 : x < 0 := pv_n1 hx
    refine ⟨g, ?_, hsk, hS, fun r _ => rfl, fun v _ => rfl, fun _ _ _ _ _ _ _ h => h⟩
    show (if x < 0 then some g else _) = _
    rw [if_pos hx0]
  | cons a rem ih =>
    intro g k x hk hx hsk hS hall hnd
    obtain ⟨k', rfl⟩ : ∃ k', k = k' + 1 := ⟨k - 1, by simp at hk; omega⟩
    obtain ⟨rfl, hx⟩ := hx
    obtain ⟨a1, a2, a3, a4, a5⟩ := hall a List.mem_cons_self
    rw [List.map_cons] at hnd
    have hnd2 := List.nodup_cons.mp hnd
    obtain ⟨q1, q2, q3⟩ := pv_mg_phi (b := b) hsk hS hbL hgL hsc hon hne hD (pv_up_s _ _ _) (t := w 21 (a * 60 + q)) a3 a4 a2 a5
    rw [pv_up_up] at q2 q3
    have hne6 : ∀ z ∈ rem, nn (w 19 z) ≠ nn (w 19 a) := fun z hz e => hnd2.1 (by rw [← e]; exact List.mem_map_of_mem (f := fun a => nn (w 19 a)) hz)
    obtain ⟨g', i1, i2, i3, i4, i5, i6⟩ := ih (upw g 6 (nn (w 19 a)) (w 21 (a * 60 + q))) k' (w 20 a) (by simp at hk; omega) hx q1 q2 (fun z hz => by
      obtain ⟨z1, z2, z3, z4, z5⟩ := hall z (List.mem_cons_of_mem _ hz)
      exact ⟨z1, z2, z3, z4, by rw [pv_upw, if_neg fun c => hne6 z hz c.2]; exact z5⟩) hnd2.2
    refine ⟨g', ?_, i2, i3, fun r hr => by rw [i4 r hr, pv_upw_n hr], fun v hv => by rw [i5 v fun z hz => hv z (List.mem_cons_of_mem _ hz), pv_upw, if_neg fun c => hv a List.mem_cons_self c.2], fun call ar k e m q r h => ?_⟩
    · have h19x : ixb (pu_I a) (n 19) = true := (pu_ix (by omega)).mpr (by omega)
      have h20x : ixb (pu_I a) (n 20) = true := (pu_ix (by omega)).mpr (by omega)
      show (if pu_I a < 0 then some g else (if ixb (pu_I a) (n 19) = true then ((fX1_take n w1 (pu_I a) (pu_I q)).bind fun (o_7 : Int32) => (if ixb ((w1 19) (nn (pu_I a))) 250 = true then (lt9 (upw g 6 (nn ((w1 19) (nn (pu_I a)))) o_7) fun (w10 : ST) => (if ixb (pu_I a) (n 20) = true then ((fX5_mergeInto_L15 n (pu_I q) (x0, w1) k') ((w1 20) (nn (pu_I a))) w10) else none)) else none)) else none)) = _
      rw [if_neg (pu_ge (by omega)), if_pos h19x, pv_take (by omega) (by omega), Option.bind_some, pu_nn (show a < 2147483648 by omega), h19, h20, h21, if_pos a2]
      simp only [lt9]
      rw [if_pos h20x, i1]
    · have h9 := q3 call ar k e m q r h
      exact i6 call ar k e m q r h9
/-- the steps come behind those of the block that stays -/
theorem pv_mg59 (hB : B ≤ 60) {b : Nat} (hb : b < B) (hN6 : N ≤ n2 6) (hN : N < 100000) {ch : Nat → List Nat} :
    ∀ (rem lst : List Nat) (w w2 : ST) (k : Nat) (x : Int32), rem.length < k → pv_ch (w2 6) x rem → pv_stc B w w2 (pv_up ch b lst) → pv_dis B N (pv_up ch b lst) → (∀ a ∈ rem, a < N ∧ ∀ c, c < B → a ∉ pv_up ch b lst c) → rem.Nodup →
      ∃ w' w2', fX5_mergeInto_L59 (pu_I b) n2 k x w w2 = some (w', w2') ∧ pv_stc B w' w2' (pv_up ch b (lst ++ rem)) ∧ pv_dis B N (pv_up ch b (lst ++ rem)) ∧ (∀ r, r ≠ 4 → r ≠ 5 → w' r = w r) ∧ (∀ r, r ≠ 6 → w2' r = w2 r) := by
  intro rem
  induction rem with
  | nil =>
    intro lst w w2 k x hk hx hst hd _ _
    obtain ⟨k', rfl⟩ : ∃ k', k = k' + 1 := ⟨k - 1, by simp at hk; omega⟩
    have hx0 : x < 0 := pv_n1 hx
    refine ⟨w, w2, ?_, by rw [List.append_nil]; exact hst, by rw [List.append_nil]; exact hd, fun r _ _ => rfl, fun r _ => rfl⟩
    show (if x < 0 then some (w, w2) else _) = _
    rw [if_pos hx0]
  | cons a rem ih =>
    intro lst w w2 k x hk hx hst hd hrem hnd
    obtain ⟨k', rfl⟩ : ∃ k', k = k' + 1 := ⟨k - 1, by simp at hk; omega⟩
    obtain ⟨rfl, hx⟩ := hx
    have haN := (hrem a List.mem_cons_self).1
    have hanew := (hrem a List.mem_cons_self).2
    have hnd2 := List.nodup_cons.mp hnd
    obtain ⟨w', w3, f1, f2, f3, f4, f5, f6, f7⟩ := pv_link (n2 := n2) (s := a) hB hN6 (by omega) hst hd hb haN hanew
    rw [pv_up_s, pv_up_up] at f2 f3
    have hnin : ∀ z, z ∈ rem → ∀ c, c < B → z ∉ pv_up ch b (lst ++ [a]) c := by
      intro z hz c hcB h
      by_cases e : c = b
      · rw [e, pv_up_s] at h
        rcases List.mem_append.mp h with h | h
        · exact (hrem z (List.mem_cons_of_mem _ hz)).2 b hb (by rw [pv_up_s]; exact h)
        · rw [List.mem_singleton.mp h] at hz
          exact hnd2.1 hz
      · rw [pv_up_n e] at h
        exact (hrem z (List.mem_cons_of_mem _ hz)).2 c hcB (by rw [pv_up_n e]; exact h)
    obtain ⟨w5, w6, g1, g2, g3, g4, g5⟩ := ih (lst ++ [a]) w' w3 k' (w2 6 a) (by simp at hk; omega)
      (pv_ch_fr rem _ (fun z hz9 => f7 z (fun c hcB h => hnin z hz9 c hcB (by rw [pv_up_s, pv_up_up] at h; exact h))) hx) f2 f3 (fun z hz9 => ⟨(hrem z (List.mem_cons_of_mem _ hz9)).1, hnin z hz9⟩) hnd2.2
    have hlist : lst ++ a :: rem = lst ++ [a] ++ rem := by simp
    refine ⟨w5, w6, ?_, by rw [hlist]; exact g2, by rw [hlist]; exact g3, fun r r4 r5 => by rw [g4 r r4 r5, f4 r r4 r5], fun r hr => by rw [g5 r hr, f6 r hr]⟩
    show (if pu_I a < 0 then some (w, w2) else (if ixb (pu_I a) (n2 6) = true then ((fX1_link w (pu_I b) (pu_I a) n2 w2).bind fun (o_16 : ST × ST) => ((fX5_mergeInto_L59 (pu_I b) n2 k') (w2 6 (nn (pu_I a))) (o_16.1) (o_16.2))) else none)) = _
    rw [if_neg (pu_ge (by omega)), if_pos ((pu_ix (by omega)).mpr (by omega)), f1, Option.bind_some, pu_nn (by omega), g1]
/-- what the block behind takes comes from the block that stays -/
theorem pv_takeFrom (hB : B ≤ 60) (hM20 : M ≤ n 20) (hM21 : M * 60 ≤ n 21) (hM : M < 50000) {b gn : Nat} (hb : b < B) (hg : gn < B) (hne : gn ≠ b) {w : ST} {ph : Nat → List Nat} (hph : pv_phc B w ph) (hdp : pv_dis B M ph) {x : Int32} (hx : x < 0 ∨ ∃ c, c < B ∧ x = pu_I c) :
    ∃ w', fX5_takeFrom n w x (pu_I gn) (pu_I b) = some w' ∧ (∀ r, r ≠ 21 → w' r = w r) ∧ (∀ c, c < B → x = pu_I c → ∀ a ∈ ph c, w' 21 (a * 60 + b) = w 21 (a * 60 + gn)) ∧ (∀ y, (∀ c, c < B → x = pu_I c → ∀ a ∈ ph c, y ≠ a * 60 + b) → w' 21 y = w 21 y) := by
  by_cases h0 : x < 0
  · refine ⟨w, ?_, fun r _ => rfl, fun c hc e => absurd h0 (by rw [e]; exact pu_ge (by omega)), fun y _ => rfl⟩
    unfold fX5_takeFrom fX5_takeFrom_J43
    rw [if_pos h0]
  · obtain ⟨c, hc, rfl⟩ := hx.resolve_left h0
    obtain ⟨t, e1, h1, h2, h3⟩ := pv_chl (G := fun k x (t : ST) => fX5_takeFrom_L12 n (pu_I gn) (pu_I b) k x t) (nx := w 20)
      (Inv := fun done rem t => done ++ rem = ph c ∧ (∀ r, r ≠ 21 → t r = w r) ∧ (∀ a ∈ done, t 21 (a * 60 + b) = w 21 (a * 60 + gn)) ∧ (∀ y, (∀ a ∈ done, y ≠ a * 60 + b) → t 21 y = w 21 y))
      (Q := fun t => (∀ r, r ≠ 21 → t r = w r) ∧ (∀ a ∈ ph c, t 21 (a * 60 + b) = w 21 (a * 60 + gn)) ∧ (∀ y, (∀ a ∈ ph c, y ≠ a * 60 + b) → t 21 y = w 21 y))
      (fun k a done rem t hI => by
        obtain ⟨i0, i1, i2, i3⟩ := hI
        have ha : a ∈ ph c := by rw [← i0]; exact List.mem_append_right _ List.mem_cons_self
        have haM := hdp.1 c hc a ha
        have hm : pu_I a * 60 + pu_I b = pu_I (a * 60 + b) := by rw [show (60 : Int32) = pu_I 60 from rfl, pv_mul, pv_add]
        have hrd : t 21 (a * 60 + gn) = w 21 (a * 60 + gn) := i3 _ fun z _ e => by omega
        refine ⟨upw t 21 (a * 60 + b) (w 21 (a * 60 + gn)), ?_, by rw [← i0]; simp, fun r hr => by rw [pv_upw_n hr, i1 r hr], fun z hz => ?_, fun y hy => ?_⟩
        · show (if pu_I a < 0 then some t else ((fX1_take n t (pu_I a) (pu_I gn)).bind fun (o_4 : Int32) => ((fX1_setTake n t (pu_I a) (pu_I b) o_4).bind fun (o_6 : ST) => (if ixb (pu_I a) (n 20) = true then ((fX5_takeFrom_L12 n (pu_I gn) (pu_I b) k) (o_6 20 (nn (pu_I a))) o_6) else none)))) = _
          rw [if_neg (pu_ge (by omega)), pv_take (by omega) (by omega), Option.bind_some]
          unfold fX1_setTake
          rw [hm, if_pos ((pu_ix (by omega)).mpr (by omega)), pu_nn (show a * 60 + b < 2147483648 by omega)]
          simp only [lt9]
          rw [Option.bind_some, if_pos ((pu_ix (by omega)).mpr (by omega)), pu_nn (show a < 2147483648 by omega), pv_upw_n (by decide), i1 20 (by decide), hrd]
        · rw [pv_upw]
          by_cases e : z = a
          · rw [if_pos ⟨rfl, by rw [e]⟩, e]
          · rw [if_neg fun q => e (by omega)]
            rcases List.mem_append.mp hz with h | h
            · exact i2 z h
            · exact absurd (List.mem_singleton.mp h) e
        · rw [pv_upw, if_neg fun q => hy a (List.mem_append_right _ (List.mem_singleton.mpr rfl)) q.2]
          exact i3 y fun z hz => hy z (List.mem_append_left _ hz))
      (fun k x done t hx hI => ⟨t, by
        show (if x < 0 then some t else _) = _
        rw [if_pos hx], by
        obtain ⟨i0, i1, i2, i3⟩ := hI
        rw [List.append_nil] at i0
        rw [← i0]
        exact ⟨i1, i2, i3⟩⟩)
      (ph c) [] (w 6 c) NF w (hph.1 c hc) (by have := pv_len M (ph c) (hdp.2.1 c hc) (hdp.1 c hc); have := pv_NF; omega) ⟨rfl, fun r _ => rfl, fun a ha => (by cases ha), fun y _ => rfl⟩
    refine ⟨t, ?_, h1, fun c' hc' e a ha => ?_, fun y hy => h3 y fun a ha => hy c hc rfl a ha⟩
    · unfold fX5_takeFrom fX5_takeFrom_J43
      rw [if_neg h0, if_pos ((pu_ix (by omega)).mpr (by omega)), pu_nn (by omega), e1, Option.bind_some]
    · have := pu_inj (by omega) (by omega) e
      rw [← this] at ha
      exact h2 a ha
end MW
