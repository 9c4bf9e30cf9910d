/-! pure side, stores 3: leaving out, all blocks -/
theorem pv_len : ∀ (N : Nat) (l : List Nat), l.Nodup → (∀ a ∈ l, a < N) → l.length ≤ N := by
  intro N
  induction N with
  | zero =>
    intro l _ h
    cases l with
    | nil => exact Nat.le_refl _
    | cons a l => exact absurd (h a List.mem_cons_self) (Nat.not_lt_zero _)
  | succ N ih =>
    intro l hn h
    by_cases hm : N ∈ l
    · have h1 := ih (l.erase N) (hn.erase N) (fun a ha => by
        have h2 := (hn.mem_erase_iff).mp ha
        have h3 := h a h2.2
        have h4 := h2.1
        omega)
      rw [List.length_erase_of_mem hm] at h1
      omega
    · have h1 := ih l hn (fun a ha => by
        have h3 := h a ha
        have h4 : a ≠ N := fun e => hm (e ▸ ha)
        omega)
      omega
theorem pv_takePhis {B : Nat} {w : ST} {ph : Nat → List Nat} {b : Nat} (hB : B ≤ 60) (hb : b < B) (hph : pv_phc B w ph) :
    ∃ w', fX1_takePhis w (pu_I b) = some (w 6 b, w') ∧ pv_phc B w' (pv_up ph b []) ∧ (∀ r, r ≠ 6 → r ≠ 7 → w' r = w r) ∧ (∀ c, c ≠ b → w' 6 c = w 6 c ∧ w' 7 c = w 7 c) := by
  have hb31 : b < 2147483648 := by omega
  have hib : ixb (pu_I b) 60 = true := (pu_ix hb31).mpr (by omega)
  refine ⟨upw (upw w 6 b (-1)) 7 b (-1), ?_, ⟨fun c hc => ?_, fun c l a hc hl => ?_⟩, fun r h1 h2 => by rw [pv_upw_n h2, pv_upw_n h1], fun c hc => ?_⟩
  · simp only [fX1_takePhis, lt9, pu_nn hb31, hib, if_true]
  · by_cases h : c = b
    · subst h
      rw [pv_up_s, pv_upw_n (q := 6) (r := 7) (by decide)]
      show upw w 6 c (-1) 6 c = -1
      rw [pv_upw]; simp
    · rw [pv_up_n h, pv_upw_n (q := 20) (r := 7) (by decide), pv_upw_n (q := 20) (r := 6) (by decide), pv_upw_n (q := 6) (r := 7) (by decide), pv_upw, if_neg (fun x => h x.2)]
      exact hph.1 c hc
  · by_cases h : c = b
    · subst h
      rw [pv_up_s] at hl
      cases l <;> cases hl
    · rw [pv_up_n h] at hl
      rw [pv_upw, if_neg (fun x => h x.2), pv_upw_n (q := 7) (r := 6) (by decide)]
      exact hph.2 c l a hc hl
  · rw [pv_upw_n (q := 6) (r := 7) (by decide), pv_upw, if_neg (fun x => hc x.2), pv_upw, if_neg (fun x => hc x.2), pv_upw_n (q := 7) (r := 6) (by decide)]
    exact ⟨rfl, rfl⟩
theorem pv_takeSteps {B : Nat} {w w2 : ST} {ch : Nat → List Nat} {b : Nat} (hB : B ≤ 60) (hb : b < B) (hst : pv_stc B w w2 ch) :
    ∃ w', fX1_takeSteps w (pu_I b) = some (w 4 b, w') ∧ pv_stc B w' w2 (pv_up ch b []) ∧ (∀ r, r ≠ 4 → r ≠ 5 → w' r = w r) ∧ (∀ c, c ≠ b → w' 4 c = w 4 c ∧ w' 5 c = w 5 c) := by
  have hb31 : b < 2147483648 := by omega
  have hib : ixb (pu_I b) 60 = true := (pu_ix hb31).mpr (by omega)
  refine ⟨upw (upw w 4 b (-1)) 5 b (-1), ?_, ⟨fun c hc => ?_, fun c l a hc hl => ?_⟩, fun r h1 h2 => by rw [pv_upw_n h2, pv_upw_n h1], fun c hc => ?_⟩
  · simp only [fX1_takeSteps, lt9, pu_nn hb31, hib, if_true]
  · by_cases h : c = b
    · subst h
      rw [pv_up_s, pv_upw_n (q := 4) (r := 5) (by decide)]
      show upw w 4 c (-1) 4 c = -1
      rw [pv_upw]; simp
    · rw [pv_up_n h, pv_upw_n (q := 4) (r := 5) (by decide), pv_upw, if_neg (fun x => h x.2)]
      exact hst.1 c hc
  · by_cases h : c = b
    · subst h
      rw [pv_up_s] at hl
      cases l <;> cases hl
    · rw [pv_up_n h] at hl
      rw [pv_upw, if_neg (fun x => h x.2), pv_upw_n (q := 5) (r := 4) (by decide)]
      exact hst.2 c l a hc hl
  · rw [pv_upw_n (q := 4) (r := 5) (by decide), pv_upw, if_neg (fun x => hc x.2), pv_upw, if_neg (fun x => hc x.2), pv_upw_n (q := 5) (r := 4) (by decide)]
    exact ⟨rfl, rfl⟩
def pv_kp (f : RI) (w : ST) (a : Nat) : Bool := decide (f (nn (w 19 a)) = 0)
/-- the lists of the first k blocks are changed -/
def pv_fst (k : Nat) (g ch : Nat → List Nat) : Nat → List Nat := fun c => if c < k then g c else ch c
theorem pv_fst_su {k : Nat} {g ch : Nat → List Nat} : pv_up (pv_fst k g ch) k (g k) = pv_fst (k + 1) g ch := by
  funext c
  unfold pv_up pv_fst
  by_cases h : c = k
  · subst h
    rw [if_pos rfl, if_pos (Nat.lt_succ_self _)]
  · rw [if_neg h]
    by_cases h2 : c < k
    · rw [if_pos h2, if_pos (by omega)]
    · rw [if_neg h2, if_neg (by omega)]
theorem pv_fst_k {k : Nat} {g ch : Nat → List Nat} : pv_fst k g ch k = ch k := if_neg (Nat.lt_irrefl _)
theorem pv_fst_sub {k c : Nat} {g ch : Nat → List Nat} (h : ∀ c, List.Sublist (g c) (ch c)) : List.Sublist (pv_fst k g ch c) (ch c) := by
  unfold pv_fst
  by_cases h2 : c < k
  · rw [if_pos h2]; exact h c
  · rw [if_neg h2]; exact List.Sublist.refl _
theorem pv_dis_all {B N : Nat} {ch g : Nat → List Nat} (hd : pv_dis B N ch) (h : ∀ c, List.Sublist (g c) (ch c)) : pv_dis B N g :=
  ⟨fun c hc a ha => hd.1 c hc a ((h c).subset ha), fun c hc => List.Nodup.sublist (h c) (hd.2.1 c hc), fun c d a hc hd2 h1 h2 => hd.2.2 c d a hc hd2 ((h c).subset h1) ((h d).subset h2)⟩
theorem pv_leaveOut {B N M : Nat} {w w2 : ST} {n n2 : Nat → Nat} {ch ph : Nat → List Nat} {m : Nat} {f : RI} (hB : B ≤ 60) (hw0 : w 0 0 = pu_I B) (hN6 : N ≤ n2 6) (hN3 : N ≤ n2 3) (hM20 : M ≤ n 20) (hM19 : M ≤ n 19) (hN : N < 50000) (hM : M < 50000)
    (hst : pv_stc B w w2 ch) (hd : pv_dis B N ch) (hph : pv_phc B w ph) (hdp : pv_dis B M ph) (hix : ∀ b, b < B → ∀ a ∈ ph b, ixb (w 19 a) m = true) (hix2 : ∀ b, b < B → ∀ a ∈ ch b, w2 3 a < 0 ∨ ixb (w2 3 a) m = true) :
    ∃ w' w2', fX1_leaveOut n w m f n2 w2 = some (w', w2') ∧ pv_stc B w' w2' (fun b => (ch b).filter (pv_ks f w2)) ∧ pv_phc B w' (fun b => (ph b).filter (pv_kp f w)) ∧ (∀ r, r ≠ 4 → r ≠ 5 → r ≠ 6 → r ≠ 7 → r ≠ 20 → w' r = w r) ∧ (∀ r, r ≠ 6 → w2' r = w2 r) := by
  have hsubc : ∀ c, List.Sublist ((fun b => (ch b).filter (pv_ks f w2)) c) (ch c) := fun c => List.filter_sublist
  have hsubp : ∀ c, List.Sublist ((fun b => (ph b).filter (pv_kp f w)) c) (ph c) := fun c => List.filter_sublist
  have hrun := pv_for (G := fun k i (s : ST × ST) => fX1_leaveOut_L2 n m f n2 k i s.1 s.2) (hi := B)
    (Inv := fun k (s : ST × ST) => pv_stc B s.1 s.2 (pv_fst k (fun b => (ch b).filter (pv_ks f w2)) ch) ∧ pv_phc B s.1 (pv_fst k (fun b => (ph b).filter (pv_kp f w)) ph) ∧ (∀ r, r ≠ 4 → r ≠ 5 → r ≠ 6 → r ≠ 7 → r ≠ 20 → s.1 r = w r) ∧ (∀ r, r ≠ 6 → s.2 r = w2 r))
    (Q := fun (s : ST × ST) => pv_stc B s.1 s.2 (fun b => (ch b).filter (pv_ks f w2)) ∧ pv_phc B s.1 (fun b => (ph b).filter (pv_kp f w)) ∧ (∀ r, r ≠ 4 → r ≠ 5 → r ≠ 6 → r ≠ 7 → r ≠ 20 → s.1 r = w r) ∧ (∀ r, r ≠ 6 → s.2 r = w2 r))
    ?_ ?_ B 0 NF (w, w2) (by omega) (by have := pv_NF; omega) ⟨?_, ?_, fun _ _ _ _ _ _ => rfl, fun _ _ => rfl⟩
  · obtain ⟨t, h1, h2⟩ := hrun
    refine ⟨t.1, t.2, ?_, h2⟩
    have h1 : fX1_leaveOut_L2 n m f n2 NF 0 w w2 = some t := h1
    unfold fX1_leaveOut
    rw [h1]
    rfl
  · rintro k i ⟨w1, w3⟩ hi ⟨hs1, hs2, hr, hr2⟩
    have hs1 : pv_stc B w1 w3 (pv_fst i (fun b => (ch b).filter (pv_ks f w2)) ch) := hs1
    have hs2 : pv_phc B w1 (pv_fst i (fun b => (ph b).filter (pv_kp f w)) ph) := hs2
    have hr : ∀ r, r ≠ 4 → r ≠ 5 → r ≠ 6 → r ≠ 7 → r ≠ 20 → w1 r = w r := hr
    have hr2 : ∀ r, r ≠ 6 → w3 r = w2 r := hr2
    have hi31 : i < 2147483648 := by omega
    have hd1 : pv_dis B N (pv_fst i (fun b => (ch b).filter (pv_ks f w2)) ch) := pv_dis_all hd fun c => pv_fst_sub hsubc
    have hd2 : pv_dis B M (pv_fst i (fun b => (ph b).filter (pv_kp f w)) ph) := pv_dis_all hdp fun c => pv_fst_sub hsubp
    have h19 : w1 19 = w 19 := hr 19 (by decide) (by decide) (by decide) (by decide) (by decide)
    -- phis
    obtain ⟨w4, a1, a2, a3, a4⟩ := pv_takePhis hB hi hs2
    have hlenp : (ph i).length ≤ M := pv_len M (ph i) (hdp.2.1 i hi) (hdp.1 i hi)
    have hchp := hs2.1 i hi
    rw [pv_fst_k] at hchp
    have h20 : w4 20 = w1 20 := a3 20 (by decide) (by decide)
    have hd3 : pv_dis B M (pv_up (pv_fst i (fun b => (ph b).filter (pv_kp f w)) ph) i []) := pv_dis_sub hd2 fun _ => List.nil_sublist _
    obtain ⟨w5, b1, b2, b3, b4, b5⟩ := pv_lo_phi (N := M) (m := m) (f := f) hB hM20 hM19 (by omega) hi (ph i) _ w4 NF (w1 6 i) (by have := pv_NF; omega) a2 hd3 (by rw [h20]; exact hchp) (fun a ha => ⟨hdp.1 i hi a ha, fun c hc hin => by
        by_cases hci : c = i
        · subst hci; rw [pv_up_s] at hin; cases hin
        · rw [pv_up_n hci] at hin
          exact hci (hdp.2.2 c i a hc hi ((pv_fst_sub hsubp).subset hin) ha)⟩) (hdp.2.1 i hi) (fun a ha => by rw [a3 19 (by decide) (by decide), h19]; exact hix i hi a ha)
    have hfp : (fun a => decide (f (nn (w4 19 a)) = 0)) = pv_kp f w := by
      funext a
      unfold pv_kp
      rw [a3 19 (by decide) (by decide), h19]
    rw [pv_up_up, pv_up_s, List.nil_append, hfp] at b2
    have b2 : pv_phc B w5 (pv_fst (i + 1) (fun b => (ph b).filter (pv_kp f w)) ph) := by rw [← pv_fst_su]; exact b2
    -- steps
    have hs3 : pv_stc B w5 w3 (pv_fst i (fun b => (ch b).filter (pv_ks f w2)) ch) := by
      have e4 : w5 4 = w1 4 := by rw [b4 4 (by decide) (by decide) (by decide), a3 4 (by decide) (by decide)]
      have e5 : w5 5 = w1 5 := by rw [b4 5 (by decide) (by decide) (by decide), a3 5 (by decide) (by decide)]
      unfold pv_stc at hs1 ⊢
      rw [e4, e5]
      exact hs1
    obtain ⟨w6, c1, c2, c3, c4⟩ := pv_takeSteps hB hi hs3
    have hlenc : (ch i).length ≤ N := pv_len N (ch i) (hd.2.1 i hi) (hd.1 i hi)
    have hchc := hs3.1 i hi
    rw [pv_fst_k] at hchc
    have hd4 : pv_dis B N (pv_up (pv_fst i (fun b => (ch b).filter (pv_ks f w2)) ch) i []) := pv_dis_sub hd1 fun _ => List.nil_sublist _
    have h33 : w3 3 = w2 3 := hr2 3 (by decide)
    obtain ⟨w7, w8, d1, d2, d3, d4, d5, d6⟩ := pv_lo_step (N := N) (m := m) (f := f) hB hN6 hN3 (by omega) hi (ch i) _ w6 w3 NF (w5 4 i) (by have := pv_NF; omega) c2 hd4 hchc (fun a ha => ⟨hd.1 i hi a ha, fun c hc hin => by
        by_cases hci : c = i
        · subst hci; rw [pv_up_s] at hin; cases hin
        · rw [pv_up_n hci] at hin
          exact hci (hd.2.2 c i a hc hi ((pv_fst_sub hsubc).subset hin) ha)⟩) (hd.2.1 i hi) (fun a ha => by rw [h33]; exact hix2 i hi a ha)
    have hfc : pv_ks f w3 = pv_ks f w2 := by
      funext a
      unfold pv_ks
      rw [h33]
    rw [pv_up_up, pv_up_s, List.nil_append, hfc] at d2
    have d2 : pv_stc B w7 w8 (pv_fst (i + 1) (fun b => (ch b).filter (pv_ks f w2)) ch) := by rw [← pv_fst_su]; exact d2
    refine ⟨(w7, w8), ?_, d2, ?_, fun r r4 r5 r6 r7 r20 => ?_, fun r r6 => ?_⟩
    · show (if w1 0 0 ≤ pu_I i then some (w1, w3) else _) = _
      have h00 : w1 0 0 = pu_I B := by rw [hr 0 (by decide) (by decide) (by decide) (by decide) (by decide)]; exact hw0
      rw [h00, if_neg (by rw [pu_le (by omega) hi31]; omega)]
      rw [a1]
      show (fX1_leaveOut_L17 n m f (pu_I i) NF (w1 6 i) w4).bind _ = _
      rw [b1]
      show (fX1_takeSteps w5 (pu_I i)).bind _ = _
      rw [c1]
      show (fX1_leaveOut_L62 m f n2 (pu_I i) NF (w5 4 i) w6 w3).bind _ = _
      rw [d1, pu_su]
      rfl
    · have e6 : w7 6 = w5 6 := by rw [d4 6 (by decide) (by decide), c3 6 (by decide) (by decide)]
      have e7 : w7 7 = w5 7 := by rw [d4 7 (by decide) (by decide), c3 7 (by decide) (by decide)]
      have e20 : w7 20 = w5 20 := by rw [d4 20 (by decide) (by decide), c3 20 (by decide) (by decide)]
      show pv_phc B w7 _
      unfold pv_phc at b2 ⊢
      rw [e6, e7, e20]
      exact b2
    · show w7 r = w r
      rw [d4 r r4 r5, c3 r r4 r5, b4 r r6 r7 r20, a3 r r6 r7, hr r r4 r5 r6 r7 r20]
    · show w8 r = w2 r
      rw [d6 r r6, hr2 r r6]
  · rintro k ⟨w1, w3⟩ ⟨hs1, hs2, hr, hr2⟩
    have hr : ∀ r, r ≠ 4 → r ≠ 5 → r ≠ 6 → r ≠ 7 → r ≠ 20 → w1 r = w r := hr
    refine ⟨(w1, w3), ?_, ⟨fun b hb => ?_, fun b l a hb hl => ?_⟩, ⟨fun b hb => ?_, fun b l a hb hl => ?_⟩, hr, hr2⟩
    · show (if w1 0 0 ≤ pu_I B then some (w1, w3) else _) = _
      have h00 : w1 0 0 = pu_I B := by rw [hr 0 (by decide) (by decide) (by decide) (by decide) (by decide)]; exact hw0
      rw [h00, if_pos (Int32.le_refl _)]
    · have h := hs1.1 b hb
      unfold pv_fst at h
      rw [if_pos hb] at h
      exact h
    · refine hs1.2 b l a hb ?_
      unfold pv_fst
      rw [if_pos hb]
      exact hl
    · have h := hs2.1 b hb
      unfold pv_fst at h
      rw [if_pos hb] at h
      exact h
    · refine hs2.2 b l a hb ?_
      unfold pv_fst
      rw [if_pos hb]
      exact hl
  · have : pv_fst 0 (fun b => (ch b).filter (pv_ks f w2)) ch = ch := by
      funext c
      unfold pv_fst
      rw [if_neg (Nat.not_lt_zero _)]
    show pv_stc B w w2 _
    rw [this]
    exact hst
  · have : pv_fst 0 (fun b => (ph b).filter (pv_kp f w)) ph = ph := by
      funext c
      unfold pv_fst
      rw [if_neg (Nat.not_lt_zero _)]
    show pv_phc B w _
    rw [this]
    exact hph
