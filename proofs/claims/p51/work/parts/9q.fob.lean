/-! pure side, stores 47: fold: one block -/
def pv_stt (g : ST) (v : Int32) : Int32 := if ixb v 250 = true then g 4 (nn v) else 0
def pv_num (g : ST) (v : Int32) : Int32 := g 5 (nn v)
theorem pv_stt_v {g : ST} {v : Int32} (h : ixb v 250 = true) : pv_stt g v = g 4 (nn v) := if_pos h
def pv_kn9 (g w : ST) (a : Nat) : Bool := decide (g 4 (nn (w 19 a)) = 1)
def pv_nu9 (g w : ST) (a : Nat) : pu_Stp := (0, w 19 a, g 5 (nn (w 19 a)), -1)
def pv_tf9 (g w2 : ST) (a : Nat) : Bool := pu_isop (w2 2 a) && decide (g 4 (nn (w2 3 a)) = 1)
section FB
variable {B M : Nat} {g : ST} {n : Nat → Nat} {b : Nat}
theorem pv_fo16 (hB : B ≤ 60) (hM19 : M ≤ n 19) (hM20 : M ≤ n 20) (hM : M < 50000) (hb : b < B) {w0 : ST} (hix : ∀ a, a < M → (∃ c, c < B ∧ True) → True) {ch ph : Nat → List Nat} {L : List Nat} {xL : Int32} :
    ∀ (rem news kept : List Nat) (cnt N R : Nat) (w w2 : ST) (n2 : Nat → Nat) (k : Nat) (x : Int32), rem.length < k → pv_ch (w 20) x rem → w 19 = w0 19 → (∀ a ∈ rem, ixb (w0 19 a) 250 = true) →
      w2 0 0 = pu_I N → pv_sR n2 R → N ≤ R → N + rem.length < 60000 → R < 100000 → pv_stc B w w2 (pv_up ch b news) → pv_dis B N (pv_up ch b news) → pv_phc B w (pv_up ph b kept) → pv_dis B M (pv_up ph b kept) → (∀ a ∈ rem, a < M ∧ ∀ c, c < B → a ∉ pv_up ph b kept c) → rem.Nodup →
      pv_ch (w2 6) xL L → (∀ a ∈ L, a < N ∧ ∀ c, c < B → a ∉ pv_up ch b news c) →
      ∃ w' w2' n2' R' nw, fX5_foldBlock_L16 g n (pu_I b) k (pu_I cnt) x w w2 n2 = some (pu_I (cnt + (rem.filter (pv_kn9 g w0)).length), w', w2', n2') ∧
        w2' 0 0 = pu_I (N + (rem.filter (pv_kn9 g w0)).length) ∧ pv_sR n2' R' ∧ N + (rem.filter (pv_kn9 g w0)).length ≤ R' ∧ (R' = R ∨ R' ≤ N + (rem.filter (pv_kn9 g w0)).length + (N + (rem.filter (pv_kn9 g w0)).length) / 2 + 1) ∧
        pv_stc B w' w2' (pv_up ch b (news ++ nw)) ∧ pv_dis B (N + (rem.filter (pv_kn9 g w0)).length) (pv_up ch b (news ++ nw)) ∧ pv_phc B w' (pv_up ph b (kept ++ rem.filter (fun a => !pv_kn9 g w0 a))) ∧ pv_dis B M (pv_up ph b (kept ++ rem.filter (fun a => !pv_kn9 g w0 a))) ∧
        pv_ch (w2' 6) xL L ∧ (∀ a ∈ L, a < N ∧ ∀ c, c < B → a ∉ pv_up ch b (news ++ nw) c) ∧ nw.map (pv_S w2') = (rem.filter (pv_kn9 g w0)).map (pv_nu9 g w0) ∧
        (∀ r, r ≠ 4 → r ≠ 5 → r ≠ 6 → r ≠ 7 → r ≠ 20 → w' r = w r) ∧ (∀ c, c ≠ b → w' 4 c = w 4 c ∧ w' 5 c = w 5 c ∧ w' 6 c = w 6 c ∧ w' 7 c = w 7 c) ∧ (∀ r i, r ≠ 0 → r ≠ 6 → i < N → w2' r i = w2 r i) ∧ (∀ r, r ≠ 0 → r ≠ 2 → r ≠ 3 → r ≠ 4 → r ≠ 5 → r ≠ 6 → w2' r = w2 r) ∧ (∀ i, i ≠ 0 → w2' 0 i = w2 0 i) ∧ (∀ r, r ≠ 2 → r ≠ 3 → r ≠ 4 → r ≠ 5 → r ≠ 6 → n2' r = n2 r) := by
  intro rem
  induction rem with
  | nil =>
    intro news kept cnt N R w w2 n2 k x hk hx h19 hiv hc hR hNR hN hR2 hst hd hph hdp hrem hnd hL hLn
    obtain ⟨k', rfl⟩ : ∃ k', k = k' + 1 := ⟨k - 1, by simp at hk; omega⟩
    have hx0 : x < 0 := pv_n1 hx
    refine ⟨w, w2, n2, R, [], ?_, hc, hR, hNR, Or.inl rfl, by rw [List.append_nil]; exact hst, by rw [List.append_nil]; exact hd, by rw [List.filter_nil, List.append_nil]; exact hph, by rw [List.filter_nil, List.append_nil]; exact hdp, hL, by rw [List.append_nil]; exact hLn, rfl, fun r _ _ _ _ _ => rfl, fun c _ => ⟨rfl, rfl, rfl, rfl⟩, fun r i _ _ _ => rfl, fun r _ _ _ _ _ _ => rfl, fun i _ => rfl, fun r _ _ _ _ _ => rfl⟩
    show (if x < 0 then some (pu_I cnt, w, w2, n2) else _) = _
    rw [if_pos hx0]
    rfl
  | cons a rem ih =>
    intro news kept cnt N R w w2 n2 k x hk hx h19 hiv hc hR hNR hN hR2 hst hd hph hdp hrem hnd hL hLn
    obtain ⟨k', rfl⟩ : ∃ k', k = k' + 1 := ⟨k - 1, by simp at hk; omega⟩
    obtain ⟨rfl, hx⟩ := hx
    have hN : N + (rem.length + 1) < 60000 := hN
    have haM := (hrem a List.mem_cons_self).1
    have hanew := (hrem a List.mem_cons_self).2
    have hnd2 := List.nodup_cons.mp hnd
    have hiva := hiv a List.mem_cons_self
    have i20 : ixb (pu_I a) (n 20) = true := (pu_ix (by omega)).mpr (by omega)
    have i19 : ixb (pu_I a) (n 19) = true := (pu_ix (by omega)).mpr (by omega)
    have hform : fX5_foldBlock_L16 g n (pu_I b) (k' + 1) (pu_I cnt) (pu_I a) w w2 n2 = (if g 4 (nn (w0 19 a)) = 1 then ((fX1_addStep w (pu_I b) 0 (w0 19 a) (g 5 (nn (w0 19 a))) (-1) n2 w2).bind fun (o_11 : Int32 × ST × ST × (Nat → Nat)) => fX5_foldBlock_L16 g n (pu_I b) k' (pu_I (cnt + 1)) (w 20 a) o_11.2.1 o_11.2.2.1 o_11.2.2.2) else ((fX1_linkPhi n w (pu_I b) (pu_I a)).bind fun (o_24 : ST) => fX5_foldBlock_L16 g n (pu_I b) k' (pu_I cnt) (w 20 a) o_24 w2 n2)) := by
      show (if pu_I a < 0 then some (pu_I cnt, w, w2, n2) else (if ixb (pu_I a) (n 20) = true then (if ixb (pu_I a) (n 19) = true then (if ixb (w 19 (nn (pu_I a))) 250 = true then (if (g 4 (nn (w 19 (nn (pu_I a))))) = 1 then (if ixb (w 19 (nn (pu_I a))) 250 = true then ((fX1_addStep w (pu_I b) 0 (w 19 (nn (pu_I a))) (g 5 (nn (w 19 (nn (pu_I a))))) (-1) n2 w2).bind fun (o_11 : Int32 × ST × ST × (Nat → Nat)) => (fX5_foldBlock_G66_23 (fX5_foldBlock_L16 g n (pu_I b) k') (pu_I cnt) (pu_I a) w o_11)) else none) else ((fX1_linkPhi n w (pu_I b) (pu_I a)).bind fun (o_24 : ST) => (fX5_foldBlock_J80 (fX5_foldBlock_L16 g n (pu_I b) k') (pu_I a) w (pu_I cnt) o_24 w2 n2))) else none) else none) else none)) = _
      unfold fX5_foldBlock_G66_23 fX5_foldBlock_J80
      rw [if_neg (pu_ge (by omega)), if_pos i20, if_pos i19, pu_nn (by omega), h19, if_pos hiva, if_pos hiva, pu_su]
    rw [hform]
    by_cases hkn : g 4 (nn (w0 19 a)) = 1
    · have hkb : pv_kn9 g w0 a = true := decide_eq_true hkn
      obtain ⟨w', w2', n2', R', e1, e2, e3, e4, e5, e6, e7, e8, e9, e10, e11, e12, e13, e14, e15⟩ := pv_addStep hB hc hR hNR hR2 hst hd hb 0 (w0 19 a) (g 5 (nn (w0 19 a))) (-1)
      rw [if_pos hkn, e1, Option.bind_some]
      rw [pv_up_s, pv_up_up] at e12 e13
      have hR'2 : R' < 100000 := by rcases e10 with h | h <;> omega
      obtain ⟨w3, w4, n3, R3, nw, f1, f2, f3, f4, f5, f6, f7, f8, f9, f10, f11, f12, f13, f14, f15, f16, f17, f18⟩ := ih (news ++ [N]) kept (cnt + 1) (N + 1) R' w' w2' n2' k' (w 20 a) (by simp at hk; omega) (by rw [e14 20 (by decide) (by decide)]; exact hx) (by rw [e14 19 (by decide) (by decide)]; exact h19) (fun z hz => hiv z (List.mem_cons_of_mem _ hz))
        e2 e8 e9 (by omega) hR'2 e12 e13 (by unfold pv_phc; rw [e14 6 (by decide) (by decide), e14 7 (by decide) (by decide), e14 20 (by decide) (by decide)]; exact hph) hdp (fun z hz => hrem z (List.mem_cons_of_mem _ hz)) hnd2.2
        (pv_ch_fr L xL (fun z hz => e7 z (hLn z hz).1 (hLn z hz).2) hL) (fun z hz => ⟨by have := (hLn z hz).1; omega, fun c hcB h => by
          by_cases e : c = b
          · rw [e, pv_up_s] at h
            rcases List.mem_append.mp h with h | h
            · exact (hLn z hz).2 b hb (by rw [pv_up_s]; exact h)
            · have := List.mem_singleton.mp h
              have := (hLn z hz).1
              omega
          · rw [pv_up_n e] at h
            exact (hLn z hz).2 c hcB (by rw [pv_up_n e]; exact h)⟩)
      have hlen : ((a :: rem).filter (pv_kn9 g w0)).length = (rem.filter (pv_kn9 g w0)).length + 1 := by rw [List.filter_cons, if_pos hkb]; rfl
      have hkeep : (a :: rem).filter (fun a => !pv_kn9 g w0 a) = rem.filter (fun a => !pv_kn9 g w0 a) := by rw [List.filter_cons, if_neg (by rw [hkb]; decide)]
      have hSN : pv_S w4 N = pv_S w2' N := by
        unfold pv_S
        rw [f15 2 N (by decide) (by decide) (by omega), f15 3 N (by decide) (by decide) (by omega), f15 4 N (by decide) (by decide) (by omega), f15 5 N (by decide) (by decide) (by omega)]
      refine ⟨w3, w4, n3, R3, N :: nw, ?_, ?_, f3, ?_, ?_, ?_, ?_, ?_, ?_, f10, fun z hz => ?_, ?_, fun r r4 r5 r6 r7 r20 => by rw [f13 r r4 r5 r6 r7 r20, e14 r r4 r5], fun c hcb => ?_, fun r i r0 r6 hi => by rw [f15 r i r0 r6 (by omega), e5 r i r0 r6 hi], fun r r0 r2 r3 r4 r5 r6 => by rw [f16 r r0 r2 r3 r4 r5 r6, e6 r r0 r2 r3 r4 r5 r6], fun i hi => by rw [f17 i hi, e3 i hi], fun r r2 r3 r4 r5 r6 => by rw [f18 r r2 r3 r4 r5 r6, e11 r r2 r3 r4 r5 r6]⟩
      · rw [hlen, show cnt + ((rem.filter (pv_kn9 g w0)).length + 1) = cnt + 1 + (rem.filter (pv_kn9 g w0)).length by omega]
        exact f1
      · rw [hlen, show N + ((rem.filter (pv_kn9 g w0)).length + 1) = N + 1 + (rem.filter (pv_kn9 g w0)).length by omega]
        exact f2
      · rw [hlen]; omega
      · rw [hlen]
        rcases f5 with h | h
        · rcases e10 with h9 | h9
          · exact Or.inl (h.trans h9)
          · exact Or.inr (by omega)
        · exact Or.inr (by omega)
      · have : news ++ N :: nw = news ++ [N] ++ nw := by simp
        rw [this]; exact f6
      · rw [hlen, show N + ((rem.filter (pv_kn9 g w0)).length + 1) = N + 1 + (rem.filter (pv_kn9 g w0)).length by omega]
        have : news ++ N :: nw = news ++ [N] ++ nw := by simp
        rw [this]; exact f7
      · rw [hkeep]; exact f8
      · rw [hkeep]; exact f9
      · have : news ++ N :: nw = news ++ [N] ++ nw := by simp
        rw [this]
        exact ⟨(hLn z hz).1, (f11 z hz).2⟩
      · rw [List.map_cons, hSN, e4, f12, List.filter_cons, if_pos hkb, List.map_cons]
        rfl
      · have h1 := f14 c hcb
        have h2 := e15 c hcb
        exact ⟨by rw [h1.1, h2.1], by rw [h1.2.1, h2.2], by rw [h1.2.2.1, e14 6 (by decide) (by decide)], by rw [h1.2.2.2, e14 7 (by decide) (by decide)]⟩
    · have hkb : pv_kn9 g w0 a = false := decide_eq_false hkn
      obtain ⟨w', e1, e2, e3, e4, e5, e6⟩ := pv_linkPhi (s := a) hB hM20 (by omega) hph hdp hb haM hanew
      rw [if_neg hkn, e1, Option.bind_some]
      rw [pv_up_s, pv_up_up] at e2 e3
      have hnin : ∀ z, z ∈ rem → ∀ c, c < B → z ∉ pv_up ph b (kept ++ [a]) c := by
        intro z hz c hcB h
        by_cases e : c = b
        · rw [e, pv_up_s] at h
          rcases List.mem_append.mp h with h | h
          · exact (hrem z (List.mem_cons_of_mem _ hz)).2 b hb (by rw [pv_up_s]; exact h)
          · rw [List.mem_singleton.mp h] at hz
            exact hnd2.1 hz
        · rw [pv_up_n e] at h
          exact (hrem z (List.mem_cons_of_mem _ hz)).2 c hcB (by rw [pv_up_n e]; exact h)
      have hchx : pv_ch (w' 20) (w 20 a) rem := pv_ch_fr rem _ (fun z hz => e6 z (fun c hcB h => hnin z hz c hcB (by rw [pv_up_s, pv_up_up] at h; exact h))) hx
      obtain ⟨w3, w4, n3, R3, nw, f1, f2, f3, f4, f5, f6, f7, f8, f9, f10, f11, f12, f13, f14, f15, f16, f17, f18⟩ := ih news (kept ++ [a]) cnt N R w' w2 n2 k' (w 20 a) (by simp at hk; omega) hchx (by rw [e4 19 (by decide) (by decide) (by decide)]; exact h19) (fun z hz => hiv z (List.mem_cons_of_mem _ hz))
        hc hR hNR (by omega) hR2 (by unfold pv_stc; rw [e4 4 (by decide) (by decide) (by decide), e4 5 (by decide) (by decide) (by decide)]; exact hst) hd e2 e3 (fun z hz => ⟨(hrem z (List.mem_cons_of_mem _ hz)).1, hnin z hz⟩) hnd2.2 hL hLn
      have hfl : (a :: rem).filter (pv_kn9 g w0) = rem.filter (pv_kn9 g w0) := by rw [List.filter_cons, if_neg (by rw [hkb]; decide)]
      have hkeep : kept ++ (a :: rem).filter (fun a => !pv_kn9 g w0 a) = kept ++ [a] ++ rem.filter (fun a => !pv_kn9 g w0 a) := by rw [List.filter_cons, if_pos (by rw [hkb]; rfl)]; simp
      refine ⟨w3, w4, n3, R3, nw, ?_, ?_, f3, ?_, ?_, f6, ?_, ?_, ?_, f10, f11, ?_, fun r r4 r5 r6 r7 r20 => by rw [f13 r r4 r5 r6 r7 r20, e4 r r6 r7 r20], fun c hcb => ?_, f15, f16, f17, f18⟩
      · rw [hfl]; exact f1
      · rw [hfl]; exact f2
      · rw [hfl]; exact f4
      · rw [hfl]; exact f5
      · rw [hfl]; exact f7
      · rw [hkeep]; exact f8
      · rw [hkeep]; exact f9
      · rw [hfl]; exact f12
      · have h1 := f14 c hcb
        have h2 := e5 c hcb
        exact ⟨by rw [h1.1, e4 4 (by decide) (by decide) (by decide)], by rw [h1.2.1, e4 5 (by decide) (by decide) (by decide)], by rw [h1.2.2.1, h2.1], by rw [h1.2.2.2, h2.2]⟩
/-- the block's own steps come behind -/
theorem pv_fo91 (hB : B ≤ 60) (hb : b < B) {o16 : Int32 × ST × ST × (Nat → Nat)} {N : Nat} (hN2 : N ≤ o16.2.2.2 2) (hN3 : N ≤ o16.2.2.2 3) (hN4 : N ≤ o16.2.2.2 4) (hN5 : N ≤ o16.2.2.2 5) (hN6 : N ≤ o16.2.2.2 6) (hN : N < 100000) {ch : Nat → List Nat} {z0 : ST} :
    ∀ (rem lst : List Nat) (cnt : Nat) (w w2 : ST) (k : Nat) (x : Int32), rem.length < k → pv_ch (w2 6) x rem → (∀ a ∈ rem, w2 2 a = z0 2 a ∧ w2 3 a = z0 3 a ∧ w2 4 a = z0 4 a ∧ w2 5 a = z0 5 a ∧ (pu_isop (z0 2 a) = true → ixb (z0 3 a) 250 = true)) →
      pv_stc B w w2 (pv_up ch b lst) → pv_dis B N (pv_up ch b lst) → (∀ a ∈ rem, a < N ∧ ∀ c, c < B → a ∉ pv_up ch b lst c) → rem.Nodup →
      ∃ w' w2', fX5_foldBlock_L91 g (pu_I b) o16 k (pu_I cnt) x w w2 = some (pu_I (cnt + (rem.filter (pv_tf9 g z0)).length), w', w2') ∧ pv_stc B w' w2' (pv_up ch b (lst ++ rem)) ∧ pv_dis B N (pv_up ch b (lst ++ rem)) ∧
        rem.map (pv_S w2') = rem.map (fun a => if pv_tf9 g z0 a = true then ((0, z0 3 a, g 5 (nn (z0 3 a)), -1) : pu_Stp) else pv_S z0 a) ∧ (∀ r, r ≠ 4 → r ≠ 5 → w' r = w r) ∧ (∀ c, c ≠ b → w' 4 c = w 4 c ∧ w' 5 c = w 5 c) ∧ (∀ r i, r ≠ 6 → i ∉ rem → w2' r i = w2 r i) ∧ (∀ r, r ≠ 2 → r ≠ 4 → r ≠ 5 → r ≠ 6 → w2' r = w2 r) := by
  intro rem
  induction rem with
  | nil =>
    intro lst cnt w w2 k x hk hx _ hst hd _ _
    obtain ⟨k', rfl⟩ : ∃ k', k = k' + 1 := ⟨k - 1, by simp at hk; omega⟩
    have hx0 : x < 0 := pv_n1 hx
    refine ⟨w, w2, ?_, by rw [List.append_nil]; exact hst, by rw [List.append_nil]; exact hd, rfl, fun r _ _ => rfl, fun c _ => ⟨rfl, rfl⟩, fun r i _ _ => rfl, fun r _ _ _ _ => rfl⟩
    show (if x < 0 then some (pu_I cnt, w, w2) else _) = _
    rw [if_pos hx0]
    rfl
  | cons a rem ih =>
    intro lst cnt w w2 k x hk hx hz hst hd hrem hnd
    obtain ⟨k', rfl⟩ : ∃ k', k = k' + 1 := ⟨k - 1, by simp at hk; omega⟩
    obtain ⟨rfl, hx⟩ := hx
    have haN := (hrem a List.mem_cons_self).1
    have hanew := (hrem a List.mem_cons_self).2
    have hnd2 := List.nodup_cons.mp hnd
    have ha31 : a < 2147483648 := by omega
    obtain ⟨z2, z3, z4, z5, zop⟩ := hz a List.mem_cons_self
    have i6 : ixb (pu_I a) (o16.2.2.2 6) = true := (pu_ix ha31).mpr (by omega)
    have i2 : ixb (pu_I a) (o16.2.2.2 2) = true := (pu_ix ha31).mpr (by omega)
    have i3 : ixb (pu_I a) (o16.2.2.2 3) = true := (pu_ix ha31).mpr (by omega)
    -- the row that is left of the step
    have hrow : ∃ y2 : ST, fX5_foldBlock_L91 g (pu_I b) o16 (k' + 1) (pu_I cnt) (pu_I a) w w2 = ((fX1_link w (pu_I b) (pu_I a) o16.2.2.2 y2).bind fun (o_31 : ST × ST) => fX5_foldBlock_L91 g (pu_I b) o16 k' (pu_I (cnt + (if pv_tf9 g z0 a = true then 1 else 0))) (w2 6 a) o_31.1 o_31.2) ∧ y2 6 = w2 6 ∧ y2 3 = w2 3 ∧ pv_S y2 a = (if pv_tf9 g z0 a = true then ((0, z0 3 a, g 5 (nn (z0 3 a)), -1) : pu_Stp) else pv_S z0 a) ∧ (∀ r i, i ≠ a → y2 r i = w2 r i) ∧ (∀ r, r ≠ 2 → r ≠ 4 → r ≠ 5 → y2 r = w2 r) := by
      have hform : ∀ kk, kk = fX5_foldBlock_L91 g (pu_I b) o16 (k' + 1) (pu_I cnt) (pu_I a) w w2 → kk = (if pv_b (pu_isop (z0 2 a)) = 0 then ((fX1_link w (pu_I b) (pu_I a) (o16.2.2.2) w2).bind fun (o_31 : ST × ST) => fX5_foldBlock_L91 g (pu_I b) o16 k' (pu_I cnt) (w2 6 a) o_31.1 o_31.2) else (if ixb (z0 3 a) 250 = true then (if g 4 (nn (z0 3 a)) = 1 then ((fX5_becomeNumber (o16.2.2.2) w2 (pu_I a) (g 5 (nn (z0 3 a)))).bind fun (o_38 : ST) => ((fX1_link w (pu_I b) (pu_I a) (o16.2.2.2) o_38).bind fun (o_31 : ST × ST) => fX5_foldBlock_L91 g (pu_I b) o16 k' (pu_I (cnt + 1)) (w2 6 a) o_31.1 o_31.2)) else ((fX1_link w (pu_I b) (pu_I a) (o16.2.2.2) w2).bind fun (o_31 : ST × ST) => fX5_foldBlock_L91 g (pu_I b) o16 k' (pu_I cnt) (w2 6 a) o_31.1 o_31.2)) else none)) := by
        rintro kk rfl
        show (if pu_I a < 0 then some (pu_I cnt, w, w2) else (if ixb (pu_I a) ((o16.2.2.2) 6) = true then (if ixb (pu_I a) ((o16.2.2.2) 2) = true then ((fX11_isOperator (w2 2 (nn (pu_I a)))).bind fun (o_29 : Int32) => (if o_29 = 0 then (fX5_foldBlock_J170 (fX5_foldBlock_L91 g (pu_I b) o16 k') (pu_I b) o16 (pu_I a) w w2 (pu_I cnt) w2) else (if ixb (pu_I a) ((o16.2.2.2) 3) = true then (if ixb (w2 3 (nn (pu_I a))) 250 = true then (if (g 4 (nn (w2 3 (nn (pu_I a))))) = 1 then (if ixb (pu_I a) ((o16.2.2.2) 3) = true then (if ixb (w2 3 (nn (pu_I a))) 250 = true then ((fX5_becomeNumber (o16.2.2.2) w2 (pu_I a) (g 5 (nn (w2 3 (nn (pu_I a)))))).bind fun (o_38 : ST) => (fX5_foldBlock_J170 (fX5_foldBlock_L91 g (pu_I b) o16 k') (pu_I b) o16 (pu_I a) w w2 (pu_I cnt + 1) o_38)) else none) else none) else (fX5_foldBlock_J170 (fX5_foldBlock_L91 g (pu_I b) o16 k') (pu_I b) o16 (pu_I a) w w2 (pu_I cnt) w2)) else none) else none))) else none) else none)) = _
        unfold fX5_foldBlock_J170
        rw [if_neg (pu_ge ha31), if_pos i6, if_pos i2, pu_nn ha31, z2, pv_isop, Option.bind_some, if_pos i3, z3, if_pos i3, pu_su]
        by_cases c0 : pv_b (pu_isop (z0 2 a)) = 0
        · rw [if_pos c0, if_pos c0]
        · rw [if_neg c0, if_neg c0]
          by_cases c1 : ixb (z0 3 a) 250 = true
          · rw [if_pos c1, if_pos c1, if_pos c1]
          · rw [if_neg c1, if_neg c1]
      rw [hform _ rfl]
      unfold pv_tf9
      cases hop : pu_isop (z0 2 a) with
      | false =>
        rw [if_pos (by decide)]
        refine ⟨w2, ?_, rfl, rfl, ?_, fun r i _ => rfl, fun r _ _ _ => rfl⟩
        · rw [Bool.false_and, if_neg (by decide)]
          rfl
        · rw [Bool.false_and, if_neg (by decide)]
          unfold pv_S
          rw [z2, z3, z4, z5]
      | true =>
        rw [if_neg (by decide), if_pos (zop hop), Bool.true_and]
        by_cases hk1 : g 4 (nn (z0 3 a)) = 1
        · rw [if_pos hk1, decide_eq_true hk1, pv_become (by omega) (by omega) (by omega) ha31, Option.bind_some]
          refine ⟨_, rfl, ?_, ?_, ?_, fun r i hi => ?_, fun r r2 r4 r5 => ?_⟩
          · rw [pv_upw_n (by decide), pv_upw_n (by decide), pv_upw_n (by decide)]
          · rw [pv_upw_n (by decide), pv_upw_n (by decide), pv_upw_n (by decide)]
          · rw [if_pos rfl]
            unfold pv_S
            rw [pv_upw_n (q := 2) (by decide), pv_upw_n (q := 2) (by decide), pv_upw, if_pos ⟨rfl, rfl⟩, pv_upw_n (q := 3) (by decide), pv_upw_n (q := 3) (by decide), pv_upw_n (q := 3) (by decide), pv_upw_n (q := 4) (by decide), pv_upw, if_pos ⟨rfl, rfl⟩, pv_upw, if_pos ⟨rfl, rfl⟩, z3]
          · rw [pv_upw, if_neg fun c => hi c.2, pv_upw, if_neg fun c => hi c.2, pv_upw, if_neg fun c => hi c.2]
          · rw [pv_upw_n r5, pv_upw_n r4, pv_upw_n r2]
        · rw [if_neg hk1, decide_eq_false hk1]
          refine ⟨w2, ?_, rfl, rfl, ?_, fun r i _ => rfl, fun r _ _ _ => rfl⟩
          · rw [if_neg (by decide)]
            rfl
          · rw [if_neg (by decide)]
            unfold pv_S
            rw [z2, z3, z4, z5]
    obtain ⟨y2, e1, y6, y3, yS, yo, yr⟩ := hrow
    have hsty : pv_stc B w y2 (pv_up ch b lst) := by
      unfold pv_stc
      rw [y6]
      exact hst
    obtain ⟨w', w3, f1, f2, f3, f4, f5, f6, f7⟩ := pv_link (n2 := o16.2.2.2) (s := a) hB hN6 (by omega) hsty hd hb haN hanew
    rw [pv_up_s, pv_up_up] at f2 f3
    rw [e1, f1, Option.bind_some]
    have hnin : ∀ z, z ∈ rem → ∀ c, c < B → z ∉ pv_up ch b (lst ++ [a]) c := by
      intro z hz c hcB h
      by_cases e : c = b
      · rw [e, pv_up_s] at h
        rcases List.mem_append.mp h with h | h
        · exact (hrem z (List.mem_cons_of_mem _ hz)).2 b hb (by rw [pv_up_s]; exact h)
        · rw [List.mem_singleton.mp h] at hz
          exact hnd2.1 hz
      · rw [pv_up_n e] at h
        exact (hrem z (List.mem_cons_of_mem _ hz)).2 c hcB (by rw [pv_up_n e]; exact h)
    have hne : ∀ z ∈ rem, z ≠ a := fun z hz e => hnd2.1 (e ▸ hz)
    obtain ⟨w5, w6, g1, g2, g3, g4, g5, g6, g7, g8⟩ := ih (lst ++ [a]) (cnt + (if pv_tf9 g z0 a = true then 1 else 0)) w' w3 k' (w2 6 a) (by simp at hk; omega)
      (pv_ch_fr rem _ (fun z hz9 => by rw [f7 z (fun c hcB h => hnin z hz9 c hcB (by rw [pv_up_s, pv_up_up] at h; exact h)), y6]) hx)
      (fun z hz9 => by
        have h9 := hz z (List.mem_cons_of_mem _ hz9)
        rw [f6 2 (by decide), f6 3 (by decide), f6 4 (by decide), f6 5 (by decide), yo 2 z (hne z hz9), yo 3 z (hne z hz9), yo 4 z (hne z hz9), yo 5 z (hne z hz9)]
        exact h9) f2 f3 (fun z hz9 => ⟨(hrem z (List.mem_cons_of_mem _ hz9)).1, hnin z hz9⟩) hnd2.2
    have hcntl : cnt + ((a :: rem).filter (pv_tf9 g z0)).length = cnt + (if pv_tf9 g z0 a = true then 1 else 0) + (rem.filter (pv_tf9 g z0)).length := by
      rw [List.filter_cons]
      by_cases e : pv_tf9 g z0 a = true
      · rw [if_pos e, if_pos e]
        show cnt + ((rem.filter (pv_tf9 g z0)).length + 1) = _
        omega
      · rw [if_neg e, if_neg e]
        omega
    have hlist : lst ++ a :: rem = lst ++ [a] ++ rem := by simp
    refine ⟨w5, w6, ?_, by rw [hlist]; exact g2, by rw [hlist]; exact g3, ?_, fun r r4 r5 => by rw [g5 r r4 r5, f4 r r4 r5], fun c hcb => ⟨by rw [(g6 c hcb).1, (f5 c hcb).1], by rw [(g6 c hcb).2, (f5 c hcb).2]⟩, fun r i r6 hi => ?_, fun r r2 r4 r5 r6 => by rw [g8 r r2 r4 r5 r6, f6 r r6, yr r r2 r4 r5]⟩
    · rw [hcntl]; exact g1
    · rw [List.map_cons, List.map_cons, g4]
      have : pv_S w6 a = (if pv_tf9 g z0 a = true then ((0, z0 3 a, g 5 (nn (z0 3 a)), -1) : pu_Stp) else pv_S z0 a) := by
        rw [← yS]
        unfold pv_S
        rw [g7 2 a (by decide) hnd2.1, g7 3 a (by decide) hnd2.1, g7 4 a (by decide) hnd2.1, g7 5 a (by decide) hnd2.1, f6 2 (by decide), f6 3 (by decide), f6 4 (by decide), f6 5 (by decide)]
      rw [this]
    · have hia : i ≠ a := fun e => hi (by rw [e]; exact List.mem_cons_self)
      have hir : i ∉ rem := fun h => hi (List.mem_cons_of_mem _ h)
      rw [g7 r i r6 hir, f6 r r6, yo r i hia]
theorem pv_foldEnd (hB : B ≤ 60) (hb : b < B) {w : ST} (hev : w 8 b = 23 → ixb (w 9 b) 250 = true) :
    ∃ w', fX5_foldEnd g w (pu_I b) = some (pu_I (if w 8 b = 23 ∧ g 4 (nn (w 9 b)) = 1 then 1 else 0), w') ∧ (∀ r, r ≠ 8 → r ≠ 9 → r ≠ 10 → r ≠ 11 → w' r = w r) ∧ (∀ c, c ≠ b → w' 8 c = w 8 c ∧ w' 9 c = w 9 c ∧ w' 10 c = w 10 c ∧ w' 11 c = w 11 c) ∧ (w' 8 b, w' 9 b, w' 10 b, w' 11 b) = pu_fen (pv_stt g) (pv_num g) (w 8 b, w 9 b, w 10 b, w 11 b) := by
  have h60 : ixb (pu_I b) 60 = true := (pu_ix (by omega)).mpr (by omega)
  have hnb : nn (pu_I b) = b := pu_nn (by omega)
  unfold fX5_foldEnd fX5_foldEnd_J26 fX5_foldEnd_J70 pu_fen
  rw [if_pos h60, hnb]
  by_cases h23 : w 8 b = 23
  · have hv := hev h23
    rw [if_pos h23, if_pos h60, if_pos hv]
    by_cases h1 : g 4 (nn (w 9 b)) = 1
    · have hst : pv_stt g (w 9 b) = 1 := by rw [pv_stt_v hv]; exact h1
      rw [if_pos h1, if_pos h60, if_pos ⟨h23, h1⟩]
      simp only [lt9, if_pos h60]
      rw [pv_upw_n (q := 9) (by decide), if_pos hv, pv_upw_n (q := 11) (by decide), pv_upw_n (q := 10) (by decide)]
      have hpick : (if g 5 (nn (w 9 b)) = 0 then some ((1 : Int32), upw (upw (upw (upw w 8 b 22) 10 b (w 11 b)) 11 b (-1)) 9 b (-1)) else some ((1 : Int32), upw (upw (upw (upw w 8 b 22) 10 b (w 10 b)) 11 b (-1)) 9 b (-1))) = some (1, upw (upw (upw (upw w 8 b 22) 10 b (if g 5 (nn (w 9 b)) = 0 then w 11 b else w 10 b)) 11 b (-1)) 9 b (-1)) := by
        by_cases h0 : g 5 (nn (w 9 b)) = 0
        · rw [if_pos h0, if_pos h0]
        · rw [if_neg h0, if_neg h0]
      rw [hpick]
      refine ⟨_, rfl, fun r r8 r9 r10 r11 => by rw [pv_upw_n r9, pv_upw_n r11, pv_upw_n r10, pv_upw_n r8], fun c hc => ⟨?_, ?_, ?_, ?_⟩, ?_⟩
      · rw [pv_upw_n (by decide), pv_upw_n (by decide), pv_upw_n (by decide), pv_upw, if_neg fun q => hc q.2]
      · rw [pv_upw, if_neg fun q => hc q.2, pv_upw_n (by decide), pv_upw_n (by decide), pv_upw_n (by decide)]
      · rw [pv_upw_n (by decide), pv_upw_n (by decide), pv_upw, if_neg fun q => hc q.2, pv_upw_n (by decide)]
      · rw [pv_upw_n (by decide), pv_upw, if_neg fun q => hc q.2, pv_upw_n (by decide), pv_upw_n (by decide)]
      · have hcond : (w 8 b, w 9 b, w 10 b, w 11 b).1 = 23 ∧ pv_stt g (w 8 b, w 9 b, w 10 b, w 11 b).2.1 = 1 := ⟨h23, hst⟩
        rw [if_pos hcond]
        have q8 : upw (upw (upw (upw w 8 b 22) 10 b (if g 5 (nn (w 9 b)) = 0 then w 11 b else w 10 b)) 11 b (-1)) 9 b (-1) 8 b = 22 := by rw [pv_upw_n (by decide), pv_upw_n (by decide), pv_upw_n (by decide), pv_upw, if_pos ⟨rfl, rfl⟩]
        have q9 : upw (upw (upw (upw w 8 b 22) 10 b (if g 5 (nn (w 9 b)) = 0 then w 11 b else w 10 b)) 11 b (-1)) 9 b (-1) 9 b = -1 := by rw [pv_upw, if_pos ⟨rfl, rfl⟩]
        have q10 : upw (upw (upw (upw w 8 b 22) 10 b (if g 5 (nn (w 9 b)) = 0 then w 11 b else w 10 b)) 11 b (-1)) 9 b (-1) 10 b = (if g 5 (nn (w 9 b)) = 0 then w 11 b else w 10 b) := by rw [pv_upw_n (by decide), pv_upw_n (by decide), pv_upw, if_pos ⟨rfl, rfl⟩]
        have q11 : upw (upw (upw (upw w 8 b 22) 10 b (if g 5 (nn (w 9 b)) = 0 then w 11 b else w 10 b)) 11 b (-1)) 9 b (-1) 11 b = -1 := by rw [pv_upw_n (by decide), pv_upw, if_pos ⟨rfl, rfl⟩]
        rw [q8, q9, q10, q11]
        rfl
    · rw [if_neg h1, if_neg fun c => h1 c.2]
      refine ⟨w, rfl, fun r _ _ _ _ => rfl, fun c _ => ⟨rfl, rfl, rfl, rfl⟩, ?_⟩
      rw [if_neg fun c => h1 (by have := c.2; rw [show (w 8 b, w 9 b, w 10 b, w 11 b).2.1 = w 9 b from rfl, pv_stt_v hv] at this; exact this)]
  · rw [if_neg h23, if_neg fun c => h23 c.1]
    refine ⟨w, rfl, fun r _ _ _ _ => rfl, fun c _ => ⟨rfl, rfl, rfl, rfl⟩, ?_⟩
    rw [if_neg fun c => h23 c.1]
end FB
