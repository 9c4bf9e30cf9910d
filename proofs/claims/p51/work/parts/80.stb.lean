/-! pure side, stores 11: a block's steps are lifted -/
theorem pv_lop_eq {w w' w2 w2' : ST} {c c' p p' : Nat → List Nat} {B h : Nat} {D : Nat → Nat → Prop} {Lp : Nat → Prop} (h8 : w' 8 = w 8) (h10 : w' 10 = w 10) (h11 : w' 11 = w 11) (hl : pu_lop (pv_F w w2 c p) B D h Lp) : pu_lop (pv_F w' w2' c' p') B D h Lp := by
  unfold pu_lop pu_sc pv_F at hl ⊢
  simp only [h8, h10, h11]
  exact hl
theorem pv_dom_eq {w w' w2 w2' : ST} {c c' p p' : Nat → List Nat} {B : Nat} {D : Nat → Nat → Prop} (h8 : w' 8 = w 8) (h10 : w' 10 = w 10) (h11 : w' 11 = w 11) (hl : pu_dom (pv_F w w2 c p) B D) : pu_dom (pv_F w' w2' c' p') B D := by
  unfold pu_dom pu_sc pv_F at hl ⊢
  simp only [h8, h10, h11]
  exact hl
def pv_inv (B N : Nat) (D : Nat → Nat → Prop) (w w2 : ST) (ch ph : Nat → List Nat) (g : ST) : Prop :=
  pv_dis B N ch ∧ pv_rg w2 B ch ∧ pv_gks w2 B ch ∧ pv_giv w2 B ch g ∧ pv_hom w w2 B ch ph g ∧ pu_ssa (pv_F w w2 ch ph) (fun b => b < B) D ∧ pu_dom (pv_F w w2 ch ph) B D ∧ (∀ b, b < B → ∀ a ∈ ch b, w2 3 a < 0 ∨ ixb (w2 3 a) 250 = true)
section LB
variable {n2 : Nat → Nat} {B N : Nat} {ph : Nat → List Nat} {D : Nat → Nat → Prop}
theorem pv_home_of {w w2 g : ST} {ch : Nat → List Nat} (hgk : pv_gks w2 B ch) (hh : pv_hom w w2 B ch ph g) {d : Nat} (hd : d < B) {v : Int32} (hv : v ∈ pu_bl (pv_F w w2 ch ph) d) : g 3 (nn v) = pu_I d := by
  rcases List.mem_append.mp hv with h | h
  · obtain ⟨z, hz, rfl⟩ := List.mem_map.mp h
    obtain ⟨a, ha, rfl⟩ := List.mem_map.mp hz
    exact hh.1 d hd a ha
  · obtain ⟨s, hs, hg, rfl⟩ := pu_gvs_get h
    obtain ⟨a, ha, rfl⟩ := List.mem_map.mp hs
    exact (hh.2 d hd a ha ((hgk d hd a ha).mp hg)).1
/-- where a step's operands have their homes -/
theorem pv_home_use {w w2 g : ST} {ch : Nat → List Nat} (hB : B ≤ 60) (hgk : pv_gks w2 B ch) (hh : pv_hom w w2 B ch ph g) (hS : pu_ssa (pv_F w w2 ch ph) (fun b => b < B) D) {b a : Nat} (hb : b < B) (ha : a ∈ ch b) :
    (pu_ul (w2 2 a) = true → ∃ h, h < 60 ∧ g 3 (nn (w2 4 a)) = pu_I h) ∧ (pu_ur (w2 2 a) = true → ∃ h, h < 60 ∧ g 3 (nn (w2 5 a)) = pu_I h) := by
  obtain ⟨l1, l2, hl⟩ := List.append_of_mem ha
  have hs : (pv_F w w2 ch ph b).2.1 = l1.map (pv_S w2) ++ pv_S w2 a :: l2.map (pv_S w2) := by
    show (ch b).map (pv_S w2) = _
    rw [hl, List.map_append, List.map_cons]
  have hu := hS.2.2.2.2.2.1 b _ _ _ hb hs
  have key : ∀ v, pu_av (pv_F w w2 ch ph) D b (l1.map (pv_S w2)) v → ∃ h, h < 60 ∧ g 3 (nn v) = pu_I h := by
    intro v hv
    rcases pu_av_bl hs hv with h | ⟨d, _, h2, h3⟩
    · exact ⟨b, by omega, pv_home_of hgk hh hb h⟩
    · have hdB : d < B := pu_dlt hS hb h2
      exact ⟨d, by omega, pv_home_of hgk hh hdB h3⟩
  exact ⟨fun h => key _ (hu.1 h), fun h => key _ (hu.2 h)⟩
theorem pv_lb (hB : B ≤ 60) (hN2 : N ≤ n2 2) (hN3 : N ≤ n2 3) (hN4 : N ≤ n2 4) (hN5 : N ≤ n2 5) (hN6 : N ≤ n2 6) (hN : N < 50000) {X : Int64} {h P b : Nat} (hP : P < B) (hb : b < B) (hbX : pv_bt X b = true) (hnP : pv_bt X P = false) {w0 : ST} (hix : ∀ b, b < B → ∀ a ∈ ph b, ixb (w0 19 a) 250 = true) :
    ∀ (rem : List Nat) (ck : Nat → List Nat) (g w w2 : ST) (k mv : Nat) (x : Int32), rem.length < k → w 19 = w0 19 → pv_stc B w w2 ck → pv_dis B N ck → pv_ch (w2 6) x rem → (∀ a ∈ rem, a < N ∧ ∀ c, c < B → a ∉ ck c) → rem.Nodup → pv_inv B N D w w2 (pv_up ck b (ck b ++ rem)) ph g →
      pu_lop (pv_F w w2 (pv_up ck b (ck b ++ rem)) ph) B D h (fun c => pv_bt X c = true) → pu_sc (pv_F w w2 (pv_up ck b (ck b ++ rem)) ph) P h → (∀ p, p < B → pu_sc (pv_F w w2 (pv_up ck b (ck b ++ rem)) ph) p h → ¬ pv_bt X p = true → p = P) →
      ∃ g' w' w2' ck' mv', fX5_liftBlock_L10 (pu_I b) X (pu_I P) n2 k (pu_I mv) x g w w2 = some (pu_I mv', g', w', w2') ∧ mv ≤ mv' ∧ mv' ≤ mv + rem.length ∧ pv_stc B w' w2' ck' ∧ pv_inv B N D w' w2' ck' ph g' ∧ (∀ r, r ≠ 4 → r ≠ 5 → w' r = w r) ∧ (∀ r, r ≠ 6 → w2' r = w2 r) ∧ (∀ r, r ≠ 3 → g' r = g r) ∧
        (∀ z, (∃ c, c < B ∧ z ∈ ck' c) ↔ ∃ c, c < B ∧ z ∈ pv_up ck b (ck b ++ rem) c) ∧ (∀ call ar j e m q r, pu_run (pv_F w w2 (pv_up ck b (ck b ++ rem)) ph) call ar j 0 0 (e, m, q) = some r → pu_run (pv_F w' w2' ck' ph) call ar j 0 0 (e, m, q) = some r) ∧ (∀ c, c ≠ b → c ≠ P → ck' c = ck c) := by
  intro rem
  induction rem with
  | nil =>
    intro ck g w w2 k mv x hk _ hst hd hch _ _ hinv _ _ _
    obtain ⟨k', rfl⟩ : ∃ k', k = k' + 1 := ⟨k - 1, by simp at hk; omega⟩
    have hid : pv_up ck b (ck b ++ []) = ck := pv_up_id (by simp)
    rw [hid] at hinv ⊢
    refine ⟨g, w, w2, ck, mv, ?_, Nat.le_refl _, by simp, hst, hinv, fun _ _ _ => rfl, fun _ _ => rfl, fun _ _ => rfl, fun z => Iff.rfl, fun _ _ _ _ _ _ _ h => h, fun _ _ _ => rfl⟩
    show (if x < 0 then some (pu_I mv, g, w, w2) else _) = _
    rw [if_pos (pv_n1 hch)]
  | cons a rem ih =>
    intro ck g w w2 k mv x hk h19 hst hd hch hrem hnd hinv hl hsP hon
    obtain ⟨k', rfl⟩ : ∃ k', k = k' + 1 := ⟨k - 1, by simp at hk; omega⟩
    obtain ⟨rfl, hch⟩ := hch
    have hklen := hk
    have ha := hrem a List.mem_cons_self
    have ha31 : a < 2147483648 := by omega
    have hnd2 := List.nodup_cons.mp hnd
    obtain ⟨v1, v2, v3, v4, v5, v6, v7, v8⟩ := id hinv
    have hab : a ∈ pv_up ck b (ck b ++ a :: rem) b := by rw [pv_up_s]; exact List.mem_append_right _ List.mem_cons_self
    have hgN : ∀ v, v < 250 → ¬ g 2 v < 0 → ∃ z, z < N ∧ g 2 v = pu_I z := by
      intro v hv h0
      obtain ⟨b5, a5, q1, q2, q3, _⟩ := v4 v hv h0
      exact ⟨a5, v1.1 b5 q1 a5 q2, q3⟩
    have hml := pv_mayLift (n2 := n2) (x := X) hN2 hN4 hN5 hN ha.1 (v2 b hb a hab) hgN (pv_home_use hB v3 v5 v6 hb hab)
    have hrun : fX5_liftBlock_L10 (pu_I b) X (pu_I P) n2 (k' + 1) (pu_I mv) (pu_I a) g w w2 = (if pv_ml g w2 X a = true then ((fX1_link w (pu_I P) (pu_I a) n2 w2).bind fun (o_9 : ST × ST) => (if ixb (pu_I a) (n2 3) = true then (if ixb (((o_9.2) 3) (nn (pu_I a))) 250 = true then (lt9 (upw g 3 (nn (((o_9.2) 3) (nn (pu_I a)))) (pu_I P)) fun (w12 : ST) => fX5_liftBlock_L10 (pu_I b) X (pu_I P) n2 k' (pu_I (mv + 1)) (w2 6 a) w12 (o_9.1) (o_9.2)) else none) else none)) else ((fX1_link w (pu_I b) (pu_I a) n2 w2).bind fun (o_8 : ST × ST) => fX5_liftBlock_L10 (pu_I b) X (pu_I P) n2 k' (pu_I mv) (w2 6 a) g (o_8.1) (o_8.2))) := by
      show (if pu_I a < 0 then some (pu_I mv, g, w, w2) else (if ixb (pu_I a) (n2 6) = true then ((fX5_mayLift g (pu_I a) X n2 w2).bind fun (o_5 : Int32) => (if o_5 = 0 then ((fX1_link w (pu_I b) (pu_I a) n2 w2).bind fun (o_8 : ST × ST) => (fX5_liftBlock_J76 (fX5_liftBlock_L10 (pu_I b) X (pu_I P) n2 k') (pu_I a) w2 (pu_I mv) g (o_8.1) (o_8.2))) else ((fX1_link w (pu_I P) (pu_I a) n2 w2).bind fun (o_9 : ST × ST) => (if ixb (pu_I a) (n2 3) = true then (if ixb (((o_9.2) 3) (nn (pu_I a))) 250 = true then (lt9 (upw g 3 (nn (((o_9.2) 3) (nn (pu_I a)))) (pu_I P)) fun (w12 : ST) => (fX5_liftBlock_J76 (fX5_liftBlock_L10 (pu_I b) X (pu_I P) n2 k') (pu_I a) w2 (pu_I mv + 1) w12 (o_9.1) (o_9.2))) else none) else none)))) else none)) = _
      rw [if_neg (pu_ge ha31), if_pos ((pu_ix ha31).mpr (by omega)), hml, Option.bind_some]
      unfold fX5_liftBlock_J76
      rw [pu_su, pu_nn ha31]
      by_cases hm : pv_ml g w2 X a = true
      · rw [hm, if_neg (by decide), if_pos rfl]
      · have hm : pv_ml g w2 X a = false := by simpa using hm
        rw [hm, if_pos (by decide), if_neg (by decide)]
    rw [hrun]
    by_cases hm : pv_ml g w2 X a = true
    · -- moved
      rw [if_pos hm]
      obtain ⟨w1, w3, c1, c2, c3, c4, c5, c6, c7⟩ := pv_link hB hN6 (by omega) hst hd hP ha.1 ha.2
      have hPb : P ≠ b := fun e => by rw [e, hbX] at hnP; cases hnP
      have hk : w2 2 a = 0 ∨ pu_isop (w2 2 a) = true := by
        unfold pv_ml at hm
        by_cases h0 : w2 2 a = 0
        · exact Or.inl h0
        · simp [h0] at hm
          exact Or.inr hm.1
      have hgk9 : pu_gk (pv_S w2 a).1 = true := (pu_zop (k := w2 2 a) hk).1
      have h0a : ¬ w2 3 a < 0 := (v3 b hb a hab).mp hgk9
      have hxg : ixb (w2 3 a) 250 = true := (v8 b hb a hab).resolve_left h0a
      have r33 : w3 3 = w2 3 := c6 3 (by decide)
      rw [c1, Option.bind_some, if_pos ((pu_ix ha31).mpr (by omega)), pu_nn ha31]
      show ∃ g' w' w2' ck' mv', (if ixb (w3 3 a) 250 = true then lt9 (upw g 3 (nn (w3 3 a)) (pu_I P)) (fun (w12 : ST) => fX5_liftBlock_L10 (pu_I b) X (pu_I P) n2 k' (pu_I (mv + 1)) (w2 6 a) w12 w1 w3) else none) = _ ∧ _
      rw [r33, if_pos hxg]
      simp only [lt9]
      have hck1b : pv_up ck P (ck P ++ [a]) b = ck b := pv_up_n (fun e => hPb e.symm)
      have hanew : ∀ c, c < B → a ∉ ck c := ha.2
      have m1 : ∀ c z, c < B → z ∈ pv_up (pv_up ck P (ck P ++ [a])) b (pv_up ck P (ck P ++ [a]) b ++ rem) c → (z ∈ pv_up ck b (ck b ++ a :: rem) c ∧ z ≠ a) ∨ (z = a ∧ c = P) := by
        intro c z hc hz
        by_cases h1 : c = b
        · subst h1
          rw [pv_up_s, hck1b] at hz
          rw [pv_up_s]
          rcases List.mem_append.mp hz with h | h
          · exact Or.inl ⟨List.mem_append_left _ h, fun e => hanew c hc (e ▸ h)⟩
          · exact Or.inl ⟨List.mem_append_right _ (List.mem_cons_of_mem _ h), fun e => hnd2.1 (e ▸ h)⟩
        · rw [pv_up_n h1] at hz
          by_cases h2 : c = P
          · subst h2
            rw [pv_up_s] at hz
            rcases List.mem_append.mp hz with h | h
            · exact Or.inl ⟨by rw [pv_up_n h1]; exact h, fun e => hanew c hc (e ▸ h)⟩
            · exact Or.inr ⟨List.mem_singleton.mp h, rfl⟩
          · rw [pv_up_n h2] at hz
            exact Or.inl ⟨by rw [pv_up_n h1]; exact hz, fun e => hanew c hc (e ▸ hz)⟩
      have aP : a ∈ pv_up (pv_up ck P (ck P ++ [a])) b (pv_up ck P (ck P ++ [a]) b ++ rem) P := by
        rw [pv_up_n hPb, pv_up_s]
        exact List.mem_append_right _ List.mem_cons_self
      have m2 : ∀ c z, c < B → z ∈ pv_up ck b (ck b ++ a :: rem) c → z ∈ pv_up (pv_up ck P (ck P ++ [a])) b (pv_up ck P (ck P ++ [a]) b ++ rem) c ∨ z = a := by
        intro c z hc hz
        by_cases h1 : c = b
        · subst h1
          rw [pv_up_s] at hz
          rw [pv_up_s, hck1b]
          rcases List.mem_append.mp hz with h | h
          · exact Or.inl (List.mem_append_left _ h)
          · rcases List.mem_cons.mp h with h | h
            · exact Or.inr h
            · exact Or.inl (List.mem_append_right _ h)
        · rw [pv_up_n h1] at hz
          rw [pv_up_n h1]
          by_cases h2 : c = P
          · subst h2
            rw [pv_up_s]
            exact Or.inl (List.mem_append_left _ hz)
          · rw [pv_up_n h2]
            exact Or.inl hz
      -- the flow
      have hsb : (pv_F w w2 (pv_up ck b (ck b ++ a :: rem)) ph b).2.1 = (ck b).map (pv_S w2) ++ pv_S w2 a :: rem.map (pv_S w2) := by
        show (pv_up ck b (ck b ++ a :: rem) b).map (pv_S w2) = _
        rw [pv_up_s, List.map_append, List.map_cons]
      have hFm : pv_F w1 w3 (pv_up (pv_up ck P (ck P ++ [a])) b (pv_up ck P (ck P ++ [a]) b ++ rem)) ph = pu_mvF (pv_F w w2 (pv_up ck b (ck b ++ a :: rem)) ph) P b (pv_S w2 a) ((ck b).map (pv_S w2)) (rem.map (pv_S w2)) := by
        have hSS : pv_S w3 = pv_S w2 := by funext z; unfold pv_S; rw [c6 2 (by decide), c6 3 (by decide), c6 4 (by decide), c6 5 (by decide)]
        have hPP : pv_P w1 = pv_P w := by funext z; unfold pv_P; rw [c4 19 (by decide) (by decide), c4 21 (by decide) (by decide)]
        funext c
        unfold pu_mvF
        by_cases h1 : c = P
        · subst h1
          rw [if_pos rfl]
          unfold pv_F
          rw [hSS, hPP, c4 8 (by decide) (by decide), c4 9 (by decide) (by decide), c4 10 (by decide) (by decide), c4 11 (by decide) (by decide), pv_up_n hPb, pv_up_s, pv_up_n hPb, List.map_append]
          rfl
        · rw [if_neg h1]
          by_cases h2 : c = b
          · subst h2
            rw [if_pos rfl]
            unfold pv_F
            rw [hSS, hPP, c4 8 (by decide) (by decide), c4 9 (by decide) (by decide), c4 10 (by decide) (by decide), c4 11 (by decide) (by decide), pv_up_s, hck1b, List.map_append]
          · rw [if_neg h2]
            unfold pv_F
            rw [hSS, hPP, c4 8 (by decide) (by decide), c4 9 (by decide) (by decide), c4 10 (by decide) (by decide), c4 11 (by decide) (by decide), pv_up_n h2, pv_up_n h1, pv_up_n h2]
      -- what the move asks
      have hB0 : 0 < B := by omega
      have hDhP : D h P := pu_ahead v6.2.1 v7 hB0 hl hP hsP (by rw [hnP]; decide) hon
      have hDb : D b P := v6.2.1.2.2.2.1 b h P hb (hl.2.1 b hbX).2 hDhP
      have hmlo : pu_isop (w2 2 a) = true → pv_mf g w2 a = false ∧ pv_bt X (nn (g 3 (nn (w2 4 a)))) = false ∧ pv_bt X (nn (g 3 (nn (w2 5 a)))) = false := by
        intro ho
        have h9 := hm
        unfold pv_ml at h9
        have hn0 : w2 2 a ≠ 0 := fun e => by rw [e] at ho; exact absurd ho (by decide)
        simp [hn0, ho] at h9
        exact ⟨h9.1, h9.2.1, h9.2.2⟩
      have hsafe : pu_safe (pv_F w w2 (pv_up ck b (ck b ++ a :: rem)) ph) (fun b => b < B) (pv_S w2 a) := by
        intro h45
        have h45 : w2 2 a = 4 ∨ w2 2 a = 5 := h45
        have ho : pu_isop (w2 2 a) = true := by rcases h45 with e | e <;> rw [e] <;> decide
        have hmf := (hmlo ho).1
        unfold pv_mf at hmf
        rw [decide_eq_false_iff_not] at hmf
        have hm2 : ¬ g 2 (nn (w2 5 a)) < 0 ∧ w2 2 (nn (g 2 (nn (w2 5 a)))) = 0 ∧ w2 4 (nn (g 2 (nn (w2 5 a)))) ≠ 0 := Classical.byContradiction fun c => hmf ⟨h45, c⟩
        have hx := (v2 b hb a hab).2 (pv_ur45 h45)
        obtain ⟨b5, a5, q1, q2, q3, q4⟩ := v4 _ (pv_ixn hx).2 hm2.1
        have ha5 := v1.1 b5 q1 a5 q2
        rw [q3, pu_nn (by omega)] at hm2
        refine ⟨b5, pv_S w2 a5, q1, List.mem_map_of_mem q2, hm2.2.1, ?_, hm2.2.2⟩
        show w2 3 a5 = w2 5 a
        rw [q4]
        exact (pu_of (pv_ixn hx).1).symm
      have hus := v6.2.2.2.2.2.1 b _ _ _ hb hsb
      have hout : ∀ v, pv_bt X (nn (g 3 (nn v))) = false → ∀ d, d < B → v ∈ pu_bl (pv_F w w2 (pv_up ck b (ck b ++ a :: rem)) ph) d → ¬ pv_bt X d = true := by
        intro v hv d hdB hin
        rw [pv_home_of v3 v5 hdB hin, pu_nn (by omega)] at hv
        rw [hv]
        decide
      have hu : (pu_ul (pv_S w2 a).1 = true → pu_av (pv_F w w2 (pv_up ck b (ck b ++ a :: rem)) ph) D P (pv_F w w2 (pv_up ck b (ck b ++ a :: rem)) ph P).2.1 (pv_S w2 a).2.2.1) ∧ (pu_ur (pv_S w2 a).1 = true → pu_av (pv_F w w2 (pv_up ck b (ck b ++ a :: rem)) ph) D P (pv_F w w2 (pv_up ck b (ck b ++ a :: rem)) ph P).2.1 (pv_S w2 a).2.2.2) := by
        rcases hk with h0 | ho
        · have e0 : (pv_S w2 a).1 = 0 := h0
          rw [e0]
          exact ⟨fun c => absurd c (by decide), fun c => absurd c (by decide)⟩
        · have h9 := hmlo ho
          exact ⟨fun h => pu_lift_av v6 v7 hl hP hsP hbX hsb (hus.1 h) (hout _ h9.2.1), fun h => pu_lift_av v6 v7 hl hP hsP hbX hsb (hus.2 h) (hout _ h9.2.2)⟩
      have hS' := pu_mv_ssa v6 hP hb hsb hgk9 hPb hDb hu
      rw [← hFm] at hS'
      have r19 : w1 19 = w 19 := c4 19 (by decide) (by decide)
      have hrem2 : ∀ z ∈ rem, z < N ∧ ∀ c, c < B → z ∉ pv_up ck P (ck P ++ [a]) c := by
        intro z hz
        have hz2 := hrem z (List.mem_cons_of_mem _ hz)
        refine ⟨hz2.1, fun c hc hin => ?_⟩
        by_cases hcb : c = P
        · subst hcb
          rw [pv_up_s] at hin
          rcases List.mem_append.mp hin with h | h
          · exact hz2.2 c hc h
          · exact hnd2.1 (List.mem_singleton.mp h ▸ hz)
        · rw [pv_up_n hcb] at hin
          exact hz2.2 c hc hin
      have hg3 : ∀ u, upw g 3 (nn (w2 3 a)) (pu_I P) 3 u = if u = nn (w2 3 a) then pu_I P else g 3 u := by
        intro u
        rw [pv_upw]
        by_cases h9 : u = nn (w2 3 a)
        · rw [if_pos ⟨rfl, h9⟩, if_pos h9]
        · rw [if_neg (fun c => h9 c.2), if_neg h9]
      have hg2 : upw g 3 (nn (w2 3 a)) (pu_I P) 2 = g 2 := pv_upw_n (by decide)
      have hinv' : pv_inv B N D w1 w3 (pv_up (pv_up ck P (ck P ++ [a])) b (pv_up ck P (ck P ++ [a]) b ++ rem)) ph (upw g 3 (nn (w2 3 a)) (pu_I P)) := by
        refine ⟨⟨fun c hc z hz => ?_, fun c hc => ?_, fun c d z hc hd2 h1 h2 => ?_⟩, fun c hc z hz => ?_, fun c hc z hz => ?_, fun v hv h0 => ?_, ⟨fun c hc z hz => ?_, fun c hc z hz h0 => ?_⟩, hS', pv_dom_eq (c4 8 (by decide) (by decide)) (c4 10 (by decide) (by decide)) (c4 11 (by decide) (by decide)) v7, fun c hc z hz => ?_⟩
        · rcases m1 c z hc hz with h | h
          · exact v1.1 c hc z h.1
          · rw [h.1]; exact ha.1
        · by_cases h1 : c = b
          · subst h1
            have h9 := v1.2.1 c hc
            rw [pv_up_s] at h9
            rw [pv_up_s, hck1b]
            exact List.Nodup.sublist (List.Sublist.append_left (List.sublist_cons_self _ _) _) h9
          · rw [pv_up_n h1]
            exact c3.2.1 c hc
        · rcases m1 c z hc h1 with h3 | h3
          · rcases m1 d z hd2 h2 with h4 | h4
            · exact v1.2.2 c d z hc hd2 h3.1 h4.1
            · exact absurd h4.1 h3.2
          · rcases m1 d z hd2 h2 with h4 | h4
            · exact absurd h3.1 h4.2
            · rw [h3.2, h4.2]
        · rw [c6 2 (by decide), c6 4 (by decide), c6 5 (by decide)]
          rcases m1 c z hc hz with h | h
          · exact v2 c hc z h.1
          · rw [h.1]; exact v2 b hb a hab
        · rw [c6 2 (by decide), c6 3 (by decide)]
          rcases m1 c z hc hz with h | h
          · exact v3 c hc z h.1
          · rw [h.1]; exact v3 b hb a hab
        · rw [hg2] at h0 ⊢
          obtain ⟨b5, a5, q1, q2, q3, q4⟩ := v4 v hv h0
          rcases m2 b5 a5 q1 q2 with h | h
          · exact ⟨b5, a5, q1, h, q3, by rw [r33]; exact q4⟩
          · exact ⟨P, a5, hP, by rw [h]; exact aP, q3, by rw [r33]; exact q4⟩
        · rw [r19, hg3]
          by_cases h9 : nn (w 19 z) = nn (w2 3 a)
          · have hix9 := hix c hc z hz
            rw [← h19] at hix9
            exact (pv_uniq_p v6 v3 hc hb hz hab (pv_ixn hix9).1 h0a h9).elim
          · rw [if_neg h9]
            exact v5.1 c hc z hz
        · rw [r33] at h0 ⊢
          rw [hg2, hg3]
          rcases m1 c z hc hz with h | h
          · have hne : nn (w2 3 z) ≠ nn (w2 3 a) := fun e => h.2 (pv_uniq v6 v3 hc hb h.1 hab h0 h0a e)
            rw [if_neg hne]
            exact v5.2 c hc z h.1 h0
          · rw [h.1, h.2, if_pos rfl]
            exact ⟨rfl, (v5.2 b hb a hab h0a).2⟩
        · rw [r33]
          rcases m1 c z hc hz with h | h
          · exact v8 c hc z h.1
          · rw [h.1]; exact v8 b hb a hab
      obtain ⟨g', w', w2', ck', mv', e1, e2, e3, e4, e5, e6, e7, e8, e9, e10, e11⟩ := ih (pv_up ck P (ck P ++ [a])) (upw g 3 (nn (w2 3 a)) (pu_I P)) w1 w3 k' (mv + 1) (w2 6 a) (by simp at hklen; omega) (by rw [r19]; exact h19) c2 c3 (pv_ch_fr _ _ (fun z hz => c7 z (hrem2 z hz).2) hch) hrem2 hnd2.2 hinv'
        (pv_lop_eq (c4 8 (by decide) (by decide)) (c4 10 (by decide) (by decide)) (c4 11 (by decide) (by decide)) hl)
        (by unfold pu_sc pv_F at hsP ⊢; simp only [c4 8 (by decide) (by decide), c4 10 (by decide) (by decide), c4 11 (by decide) (by decide)]; exact hsP)
        (fun p hp hsc hn => hon p hp (by unfold pu_sc pv_F at hsc ⊢; simp only [c4 8 (by decide) (by decide), c4 10 (by decide) (by decide), c4 11 (by decide) (by decide)] at hsc; exact hsc) hn)
      refine ⟨g', w', w2', ck', mv', e1, by omega, by simp at e3 ⊢; omega, e4, e5, fun r r4 r5 => by rw [e6 r r4 r5, c4 r r4 r5], fun r r6 => by rw [e7 r r6, c6 r r6], fun r r3 => by rw [e8 r r3, pv_upw_n r3], fun z => ?_, fun call ar j e m q r hr => ?_, fun c hcb hcP => by rw [e11 c hcb hcP, pv_up_n hcP]⟩
      · rw [e9 z]
        constructor
        · rintro ⟨c, hc, hz⟩
          rcases m1 c z hc hz with h | h
          · exact ⟨c, hc, h.1⟩
          · exact ⟨b, hb, by rw [h.1]; exact hab⟩
        · rintro ⟨c, hc, hz⟩
          rcases m2 c z hc hz with h | h
          · exact ⟨c, hc, h⟩
          · exact ⟨P, hP, by rw [h]; exact aP⟩
      · refine e10 call ar j e m q r ?_
        rw [hFm]
        exact pu_mv_run v6 hP hb hsb hk hsafe hPb hDb hu hr
    · rw [if_neg hm]
      obtain ⟨w1, w3, c1, c2, c3, c4, c5, c6, c7⟩ := pv_link hB hN6 (by omega) hst hd hb ha.1 ha.2
      rw [c1, Option.bind_some]
      have hcx : pv_up (pv_up ck b (ck b ++ [a])) b (pv_up ck b (ck b ++ [a]) b ++ rem) = pv_up ck b (ck b ++ a :: rem) := by
        rw [pv_up_up, pv_up_s]
        simp
      have r33 : w3 3 = w2 3 := c6 3 (by decide)
      have r19 : w1 19 = w 19 := c4 19 (by decide) (by decide)
      have hFm : pv_F w1 w3 (pv_up ck b (ck b ++ a :: rem)) ph = pv_F w w2 (pv_up ck b (ck b ++ a :: rem)) ph := by
        have hSS : pv_S w3 = pv_S w2 := by funext z; unfold pv_S; rw [c6 2 (by decide), c6 3 (by decide), c6 4 (by decide), c6 5 (by decide)]
        have hPP : pv_P w1 = pv_P w := by funext z; unfold pv_P; rw [c4 19 (by decide) (by decide), c4 21 (by decide) (by decide)]
        unfold pv_F
        rw [hSS, hPP, c4 8 (by decide) (by decide), c4 9 (by decide) (by decide), c4 10 (by decide) (by decide), c4 11 (by decide) (by decide)]
      have hrem2 : ∀ z ∈ rem, z < N ∧ ∀ c, c < B → z ∉ pv_up ck b (ck b ++ [a]) c := by
        intro z hz
        have hz2 := hrem z (List.mem_cons_of_mem _ hz)
        refine ⟨hz2.1, fun c hc hin => ?_⟩
        by_cases hcb : c = b
        · subst hcb
          rw [pv_up_s] at hin
          rcases List.mem_append.mp hin with h | h
          · exact hz2.2 c hc h
          · exact hnd2.1 (List.mem_singleton.mp h ▸ hz)
        · rw [pv_up_n hcb] at hin
          exact hz2.2 c hc hin
      have hinv' : pv_inv B N D w1 w3 (pv_up ck b (ck b ++ a :: rem)) ph g := by
        refine ⟨v1, fun c hc z hz => ?_, fun c hc z hz => ?_, fun v hv h0 => ?_, ⟨fun c hc z hz => ?_, fun c hc z hz h0 => ?_⟩, by rw [hFm]; exact v6, by rw [hFm]; exact v7, fun c hc z hz => ?_⟩
        · rw [c6 2 (by decide), c6 4 (by decide), c6 5 (by decide)]; exact v2 c hc z hz
        · rw [c6 2 (by decide), r33]; exact v3 c hc z hz
        · rw [r33]; exact v4 v hv h0
        · rw [r19]; exact v5.1 c hc z hz
        · rw [r33] at h0 ⊢; exact v5.2 c hc z hz h0
        · rw [r33]; exact v8 c hc z hz
      obtain ⟨g', w', w2', ck', mv', e1, e2, e3, e4, e5, e6, e7, e8, e9, e10, e11⟩ := ih (pv_up ck b (ck b ++ [a])) g w1 w3 k' mv (w2 6 a) (by simp at hk; omega) (by rw [r19]; exact h19) c2 c3 (pv_ch_fr _ _ (fun z hz => c7 z (hrem2 z hz).2) hch) hrem2 hnd2.2 (by rw [hcx]; exact hinv') (by rw [hcx, hFm]; exact hl) (by rw [hcx, hFm]; exact hsP) (by rw [hcx, hFm]; exact hon)
      rw [hcx] at e9 e10
      rw [hFm] at e10
      exact ⟨g', w', w2', ck', mv', e1, e2, by simp at e3 ⊢; omega, e4, e5, fun r r4 r5 => by rw [e6 r r4 r5, c4 r r4 r5], fun r r6 => by rw [e7 r r6, c6 r r6], e8, e9, e10, fun c hcb hcP => by rw [e11 c hcb hcP, pv_up_n hcb]⟩
end LB
