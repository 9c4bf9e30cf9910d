/-! pure side, stores 2: phis hung on; what is marked is left out -/
theorem pv_dis_app {B N : Nat} {ch : Nat → List Nat} {b s : Nat} (hd : pv_dis B N ch) (hs : s < N) (hnew : ∀ c, c < B → s ∉ ch c) : pv_dis B N (pv_up ch b (ch b ++ [s])) := by
  refine ⟨fun c hc a ha => ?_, fun c hc => ?_, fun c d a hc hd2 h1 h2 => ?_⟩
  · by_cases h : c = b
    · subst h
      rw [pv_up_s] at ha
      rcases List.mem_append.mp ha with h | h
      · exact hd.1 c hc a h
      · rw [List.mem_singleton.mp h]; exact hs
    · rw [pv_up_n h] at ha
      exact hd.1 c hc a ha
  · by_cases h : c = b
    · subst h
      rw [pv_up_s]
      refine List.nodup_append.mpr ⟨hd.2.1 c hc, by simp, fun x hx y hy e => ?_⟩
      rw [List.mem_singleton.mp hy] at e
      exact hnew c hc (e ▸ hx)
    · rw [pv_up_n h]
      exact hd.2.1 c hc
  · have key : ∀ c, c < B → a ∈ pv_up ch b (ch b ++ [s]) c → a ∈ ch c ∨ (c = b ∧ a = s) := by
      intro c hc h
      by_cases h9 : c = b
      · subst h9
        rw [pv_up_s] at h
        rcases List.mem_append.mp h with h | h
        · exact Or.inl h
        · exact Or.inr ⟨rfl, List.mem_singleton.mp h⟩
      · rw [pv_up_n h9] at h
        exact Or.inl h
    rcases key c hc h1 with h3 | ⟨h3, h4⟩
    · rcases key d hd2 h2 with h5 | ⟨h5, h6⟩
      · exact hd.2.2 c d a hc hd2 h3 h5
      · exact absurd (h6 ▸ h3) (hnew c hc)
    · rcases key d hd2 h2 with h5 | ⟨h5, h6⟩
      · exact absurd (h4 ▸ h5) (hnew d hd2)
      · rw [h3, h5]
theorem pv_dis_sub {B N : Nat} {ch : Nat → List Nat} {b : Nat} {l : List Nat} (hd : pv_dis B N ch) (hl : b < B → List.Sublist l (ch b)) : pv_dis B N (pv_up ch b l) := by
  have key : ∀ c a, c < B → a ∈ pv_up ch b l c → a ∈ ch c := by
    intro c a hc h
    by_cases h9 : c = b
    · subst h9
      rw [pv_up_s] at h
      exact (hl hc).subset h
    · rw [pv_up_n h9] at h
      exact h
  refine ⟨fun c hc a ha => hd.1 c hc a (key c a hc ha), fun c hc => ?_, fun c d a hc hd2 h1 h2 => hd.2.2 c d a hc hd2 (key c a hc h1) (key d a hd2 h2)⟩
  by_cases h : c = b
  · subst h
    rw [pv_up_s]
    exact List.Nodup.sublist (hl hc) (hd.2.1 c hc)
  · rw [pv_up_n h]
    exact hd.2.1 c hc
theorem pv_linkPhi {B N : Nat} {w : ST} {n : Nat → Nat} {ph : Nat → List Nat} {b s : Nat} (hB : B ≤ 60) (hN : N ≤ n 20) (hN2 : N < 2147483648) (hst : pv_phc B w ph) (hd : pv_dis B N ph) (hb : b < B) (hs : s < N) (hnew : ∀ c, c < B → s ∉ ph c) :
    ∃ w', fX1_linkPhi n w (pu_I b) (pu_I s) = some w' ∧ pv_phc B w' (pv_up ph b (ph b ++ [s])) ∧ pv_dis B N (pv_up ph b (ph b ++ [s])) ∧ (∀ r, r ≠ 6 → r ≠ 7 → r ≠ 20 → w' r = w r) ∧ (∀ c, c ≠ b → w' 6 c = w 6 c ∧ w' 7 c = w 7 c) ∧ (∀ a, (∀ c, c < B → a ∉ pv_up ph b (ph b ++ [s]) c) → w' 20 a = w 20 a) := by
  have hdis : pv_dis B N (pv_up ph b (ph b ++ [s])) := pv_dis_app hd hs hnew
  have hb31 : b < 2147483648 := by omega
  have hs31 : s < 2147483648 := by omega
  have hib : ixb (pu_I b) 60 = true := (pu_ix hb31).mpr (by omega)
  have his : ixb (pu_I s) (n 20) = true := (pu_ix hs31).mpr (by omega)
  have hch := hst.1 b hb
  have h6 : ∀ v i, upw w 20 i v 6 = w 6 := fun v i => pv_upw_n (by decide)
  have h7 : ∀ v i, upw w 20 i v 7 = w 7 := fun v i => pv_upw_n (by decide)
  rcases List.eq_nil_or_concat (ph b) with he | ⟨l, a, he⟩
  · rw [he] at hch
    have hch : w 6 b < 0 := pv_n1 hch
    refine ⟨upw (upw (upw w 20 s (-1)) 6 b (pu_I s)) 7 b (pu_I s), ?_, ⟨fun c hc => ?_, fun c l a hc hl => ?_⟩, hdis, fun r h1 h2 h3 => ?_, fun c hc => ?_, fun x hx => ?_⟩
    · have hng : ¬ 0 ≤ w 6 b := by rw [Int32.not_le]; exact hch
      simp only [fX1_linkPhi, fX1_linkPhi_J38, lt9, pu_nn hb31, pu_nn hs31, hib, his, if_true, h6, if_neg hng]
    · by_cases h : c = b
      · subst h
        rw [pv_up_s, he]
        refine ⟨?_, ?_⟩
        · rw [pv_upw, pv_upw]; simp
        · show upw (upw (upw w 20 s (-1)) 6 c (pu_I s)) 7 c (pu_I s) 20 s = -1
          rw [pv_upw, pv_upw, pv_upw]; simp
      · rw [pv_up_n h, pv_upw_n (q := 6) (r := 7) (by decide), pv_upw _ 6 b 6 c, if_neg (fun x => h x.2), h6]
        refine pv_ch_fr _ _ (fun x hx => ?_) (hst.1 c hc)
        rw [pv_upw_n (q := 20) (r := 7) (by decide), pv_upw_n (q := 20) (r := 6) (by decide), pv_upw, if_neg (fun (y : 20 = 20 ∧ x = s) => hnew c hc (y.2 ▸ hx))]
    · by_cases h : c = b
      · subst h
        rw [pv_up_s, he] at hl
        have : l = [] ∧ a = s := by
          have h9 : [s] = l ++ [a] := hl
          cases l with
          | nil => simp at h9; exact ⟨rfl, h9.symm⟩
          | cons x y => simp at h9
        rw [this.2, pv_upw]; simp
      · rw [pv_up_n h] at hl
        rw [pv_upw, if_neg (fun x => h x.2), pv_upw_n (q := 7) (r := 6) (by decide), h7]
        exact hst.2 c l a hc hl
    · rw [pv_upw_n h2, pv_upw_n h1, pv_upw_n h3]
    · rw [pv_upw_n (q := 6) (r := 7) (by decide), pv_upw _ 6 b 6 c, if_neg (fun x => hc x.2), h6, pv_upw _ 7 b 7 c, if_neg (fun x => hc x.2), pv_upw_n (q := 7) (r := 6) (by decide), h7]
      exact ⟨rfl, rfl⟩
    · rw [pv_upw_n (q := 20) (r := 7) (by decide), pv_upw_n (q := 20) (r := 6) (by decide), pv_upw, if_neg]
      intro y
      refine hx b hb ?_
      rw [pv_up_s, y.2]
      exact List.mem_append_right _ List.mem_cons_self
  · have he : ph b = l ++ [a] := by rw [he]; simp
    have hlast := hst.2 b l a hb he
    have ha : a ∈ ph b := by rw [he]; exact List.mem_append_right _ List.mem_cons_self
    have haN := hd.1 b hb a ha
    have ha31 : a < 2147483648 := by omega
    have hne : s ≠ a := fun e => hnew b hb (e ▸ ha)
    have hge : 0 ≤ w 6 b := by
      have h9 := hch
      rw [he] at h9
      cases l with
      | nil => rw [h9.1]; exact Int32.not_lt.mp (pu_ge ha31)
      | cons x y =>
        rw [h9.1]
        have := hd.1 b hb x (by rw [he]; exact List.mem_cons_self)
        exact Int32.not_lt.mp (pu_ge (by omega))
    refine ⟨upw (upw (upw w 20 s (-1)) 20 a (pu_I s)) 7 b (pu_I s), ?_, ⟨fun c hc => ?_, fun c l2 a2 hc hl => ?_⟩, hdis, fun r h1 h2 h3 => ?_, fun c hc => ?_, fun x hx => ?_⟩
    · have hia : ixb (pu_I a) (n 20) = true := (pu_ix ha31).mpr (by omega)
      simp only [fX1_linkPhi, fX1_linkPhi_J38, lt9, pu_nn hb31, pu_nn hs31, hib, his, if_true, h6, if_pos hge, h7, hlast, hia, pu_nn ha31]
    · by_cases h : c = b
      · subst h
        rw [pv_up_s, pv_upw_n (q := 6) (r := 7) (by decide), pv_upw_n (q := 6) (r := 20) (by decide), h6, he]
        rw [he] at hch
        refine pv_ch_app l _ a (by rw [← he]; exact hd.2.1 c hc) (by rw [← he]; exact hnew c hc) (fun x hx => ?_) ?_ ?_ hch
        · have hxa : x ≠ a := by
            have hn := hd.2.1 c hc
            rw [he] at hn
            exact fun e => (List.nodup_append.mp hn).2.2 x hx a List.mem_cons_self e
          have hxs : x ≠ s := fun e => hnew c hc (by rw [he, ← e]; exact List.mem_append_left _ hx)
          rw [pv_upw_n (q := 20) (r := 7) (by decide), pv_upw, pv_upw]; simp [hxa, hxs]
        · rw [pv_upw_n (q := 20) (r := 7) (by decide), pv_upw]; simp
        · rw [pv_upw_n (q := 20) (r := 7) (by decide), pv_upw, pv_upw]; simp [hne]
      · rw [pv_up_n h, pv_upw_n (q := 6) (r := 7) (by decide), pv_upw_n (q := 6) (r := 20) (by decide), h6]
        refine pv_ch_fr _ _ (fun x hx => ?_) (hst.1 c hc)
        have hxa : x ≠ a := fun e => h (hd.2.2 c b a hc hb (e ▸ hx) ha)
        have hxs : x ≠ s := fun e => hnew c hc (e ▸ hx)
        rw [pv_upw_n (q := 20) (r := 7) (by decide), pv_upw, pv_upw]; simp [hxa, hxs]
    · by_cases h : c = b
      · subst h
        rw [pv_up_s] at hl
        have : a2 = s := by
          have h9 := congrArg List.getLast? hl
          simp at h9
          exact h9.symm
        rw [this, pv_upw]; simp
      · rw [pv_up_n h] at hl
        rw [pv_upw, if_neg (fun x => h x.2), pv_upw_n (q := 7) (r := 20) (by decide), h7]
        exact hst.2 c l2 a2 hc hl
    · rw [pv_upw_n h2, pv_upw_n h3, pv_upw_n h3]
    · rw [pv_upw_n (q := 6) (r := 7) (by decide), pv_upw_n (q := 6) (r := 20) (by decide), h6, pv_upw, if_neg (fun x => hc x.2), pv_upw_n (q := 7) (r := 20) (by decide), h7]
      exact ⟨rfl, rfl⟩
    · have hxa : x ≠ a := fun e => hx b hb (by rw [pv_up_s, e]; exact List.mem_append_left _ ha)
      have hxs : x ≠ s := fun e => hx b hb (by rw [pv_up_s, e]; exact List.mem_append_right _ List.mem_cons_self)
      rw [pv_upw_n (q := 20) (r := 7) (by decide), pv_upw, pv_upw]; simp [hxa, hxs]
theorem pv_up_up {α : Type} (f : Nat → α) (b : Nat) (x y : α) : pv_up (pv_up f b x) b y = pv_up f b y := by
  funext c
  unfold pv_up
  by_cases h : c = b
  · rw [if_pos h, if_pos h]
  · rw [if_neg h, if_neg h, if_neg h]
theorem pv_up_id {α : Type} {f : Nat → α} {b : Nat} {x : α} (h : x = f b) : pv_up f b x = f := by
  funext c
  unfold pv_up
  by_cases h2 : c = b
  · rw [if_pos h2, h2, h]
  · rw [if_neg h2]
theorem pv_lo_phi {B N : Nat} (hB : B ≤ 60) {n : Nat → Nat} (hN : N ≤ n 20) (hN9 : N ≤ n 19) (hN2 : N < 2147483648) {m : Nat} {f : RI} {b : Nat} (hb : b < B) :
    ∀ (rem : List Nat) (ph : Nat → List Nat) (w : ST) (k : Nat) (x : Int32), rem.length < k → pv_phc B w ph → pv_dis B N ph → pv_ch (w 20) x rem → (∀ a ∈ rem, a < N ∧ ∀ c, c < B → a ∉ ph c) → rem.Nodup → (∀ a ∈ rem, ixb (w 19 a) m = true) →
      ∃ w', fX1_leaveOut_L17 n m f (pu_I b) k x w = some w' ∧ pv_phc B w' (pv_up ph b (ph b ++ rem.filter (fun a => decide (f (nn (w 19 a)) = 0)))) ∧ pv_dis B N (pv_up ph b (ph b ++ rem.filter (fun a => decide (f (nn (w 19 a)) = 0)))) ∧ (∀ r, r ≠ 6 → r ≠ 7 → r ≠ 20 → w' r = w r) ∧ (∀ c, c ≠ b → w' 6 c = w 6 c ∧ w' 7 c = w 7 c) := by
  intro rem
  induction rem with
  | nil =>
    intro ph w k x hk hst hd hch _ _ _
    obtain ⟨k', rfl⟩ : ∃ k', k = k' + 1 := ⟨k - 1, by simp at hk; omega⟩
    have hid : pv_up ph b (ph b ++ ([] : List Nat).filter (fun a => decide (f (nn (w 19 a)) = 0))) = ph := pv_up_id (by simp)
    refine ⟨w, ?_, by rw [hid]; exact hst, by rw [hid]; exact hd, fun _ _ _ _ => rfl, fun _ _ => ⟨rfl, rfl⟩⟩
    show (if x < 0 then some w else _) = _
    rw [if_pos (pv_n1 hch)]
  | cons a rem ih =>
    intro ph w k x hk hst hd hch hrem hnd hix
    obtain ⟨k', rfl⟩ : ∃ k', k = k' + 1 := ⟨k - 1, by simp at hk; omega⟩
    obtain ⟨rfl, hch⟩ := hch
    have ha := hrem a List.mem_cons_self
    have ha31 : a < 2147483648 := by omega
    have hia := hix a List.mem_cons_self
    have hnd2 := List.nodup_cons.mp hnd
    have hrun : fX1_leaveOut_L17 n m f (pu_I b) (k' + 1) (pu_I a) w = (if (f (nn (w 19 a))) = 0 then ((fX1_linkPhi n w (pu_I b) (pu_I a)).bind fun (o_9 : ST) => (fX1_leaveOut_L17 n m f (pu_I b) k') (w 20 a) o_9) else (fX1_leaveOut_L17 n m f (pu_I b) k') (w 20 a) w) := by
      show (if pu_I a < 0 then _ else (if ixb (pu_I a) (n 20) = true then (if ixb (pu_I a) (n 19) = true then (if ixb (w 19 (nn (pu_I a))) m = true then _ else none) else none) else none)) = _
      rw [if_neg (pu_ge ha31), if_pos ((pu_ix ha31).mpr (by omega)), if_pos ((pu_ix ha31).mpr (by omega)), pu_nn ha31, if_pos hia]
      unfold fX1_leaveOut_J49
      rw [pu_nn ha31]
    rw [hrun]
    by_cases hm : f (nn (w 19 a)) = 0
    · rw [if_pos hm]
      obtain ⟨w1, h1, h2, h3, h4, h5, h6⟩ := pv_linkPhi hB hN hN2 hst hd hb ha.1 ha.2
      rw [h1]
      have h19 : w1 19 = w 19 := h4 19 (by decide) (by decide) (by decide)
      have hrem2 : ∀ z ∈ rem, z < N ∧ ∀ c, c < B → z ∉ pv_up ph b (ph b ++ [a]) c := by
        intro z hz
        have hz2 := hrem z (List.mem_cons_of_mem _ hz)
        refine ⟨hz2.1, fun c hc hin => ?_⟩
        by_cases hcb : c = b
        · subst hcb
          rw [pv_up_s] at hin
          rcases List.mem_append.mp hin with h | h
          · exact hz2.2 c hc h
          · exact hnd2.1 (List.mem_singleton.mp h ▸ hz)
        · rw [pv_up_n hcb] at hin
          exact hz2.2 c hc hin
      obtain ⟨w', g1, g2, g3, g4, g5⟩ := ih (pv_up ph b (ph b ++ [a])) w1 k' (w 20 a) (by simp at hk; omega) h2 h3 (pv_ch_fr _ _ (fun z hz => h6 z (hrem2 z hz).2) hch) hrem2 hnd2.2 (fun z hz => by rw [h19]; exact hix z (List.mem_cons_of_mem _ hz))
      have hid : pv_up (pv_up ph b (ph b ++ [a])) b (pv_up ph b (ph b ++ [a]) b ++ rem.filter (fun a => decide (f (nn (w1 19 a)) = 0))) = pv_up ph b (ph b ++ (a :: rem).filter (fun a => decide (f (nn (w 19 a)) = 0))) := by
        rw [pv_up_up, pv_up_s, h19, List.filter_cons, if_pos (by simpa using hm)]
        simp
      rw [hid] at g2 g3
      refine ⟨w', g1, g2, g3, fun r r1 r2 r3 => by rw [g4 r r1 r2 r3, h4 r r1 r2 r3], fun c hc => ?_⟩
      rw [(g5 c hc).1, (g5 c hc).2]
      exact h5 c hc
    · rw [if_neg hm]
      obtain ⟨w', g1, g2, g3, g4, g5⟩ := ih ph w k' (w 20 a) (by simp at hk; omega) hst hd hch (fun z hz => hrem z (List.mem_cons_of_mem _ hz)) hnd2.2 (fun z hz => hix z (List.mem_cons_of_mem _ hz))
      refine ⟨w', g1, ?_, ?_, g4, g5⟩
      · rw [List.filter_cons, if_neg (by simpa using hm)]; exact g2
      · rw [List.filter_cons, if_neg (by simpa using hm)]; exact g3
def pv_ks (f : RI) (w2 : ST) (a : Nat) : Bool := decide (w2 3 a < 0 ∨ f (nn (w2 3 a)) = 0)
theorem pv_lo_step {B N : Nat} (hB : B ≤ 60) {n2 : Nat → Nat} (hN : N ≤ n2 6) (hN3 : N ≤ n2 3) (hN2 : N < 2147483648) {m : Nat} {f : RI} {b : Nat} (hb : b < B) :
    ∀ (rem : List Nat) (ch : Nat → List Nat) (w w2 : ST) (k : Nat) (x : Int32), rem.length < k → pv_stc B w w2 ch → pv_dis B N ch → pv_ch (w2 6) x rem → (∀ a ∈ rem, a < N ∧ ∀ c, c < B → a ∉ ch c) → rem.Nodup → (∀ a ∈ rem, w2 3 a < 0 ∨ ixb (w2 3 a) m = true) →
      ∃ w' w2', fX1_leaveOut_L62 m f n2 (pu_I b) k x w w2 = some (w', w2') ∧ pv_stc B w' w2' (pv_up ch b (ch b ++ rem.filter (pv_ks f w2))) ∧ pv_dis B N (pv_up ch b (ch b ++ rem.filter (pv_ks f w2))) ∧ (∀ r, r ≠ 4 → r ≠ 5 → w' r = w r) ∧ (∀ c, c ≠ b → w' 4 c = w 4 c ∧ w' 5 c = w 5 c) ∧ (∀ r, r ≠ 6 → w2' r = w2 r) := by
  intro rem
  induction rem with
  | nil =>
    intro ch w w2 k x hk hst hd hch _ _ _
    obtain ⟨k', rfl⟩ : ∃ k', k = k' + 1 := ⟨k - 1, by simp at hk; omega⟩
    have hid : pv_up ch b (ch b ++ ([] : List Nat).filter (pv_ks f w2)) = ch := pv_up_id (by simp)
    refine ⟨w, w2, ?_, by rw [hid]; exact hst, by rw [hid]; exact hd, fun _ _ _ => rfl, fun _ _ => ⟨rfl, rfl⟩, fun _ _ => rfl⟩
    show (if x < 0 then some (w, w2) else _) = _
    rw [if_pos (pv_n1 hch)]
  | cons a rem ih =>
    intro ch w w2 k x hk hst hd hch hrem hnd hix
    obtain ⟨k', rfl⟩ : ∃ k', k = k' + 1 := ⟨k - 1, by simp at hk; omega⟩
    obtain ⟨rfl, hch⟩ := hch
    have ha := hrem a List.mem_cons_self
    have ha31 : a < 2147483648 := by omega
    have hia := hix a List.mem_cons_self
    have hnd2 := List.nodup_cons.mp hnd
    have hrun : fX1_leaveOut_L62 m f n2 (pu_I b) (k' + 1) (pu_I a) w w2 = (if pv_ks f w2 a = true then ((fX1_link w (pu_I b) (pu_I a) n2 w2).bind fun (o_15 : ST × ST) => (fX1_leaveOut_L62 m f n2 (pu_I b) k') (w2 6 a) o_15.1 o_15.2) else (fX1_leaveOut_L62 m f n2 (pu_I b) k') (w2 6 a) w w2) := by
      show (if pu_I a < 0 then _ else (if ixb (pu_I a) (n2 6) = true then (if ixb (pu_I a) (n2 3) = true then (if w2 3 (nn (pu_I a)) < 0 then _ else (if ixb (w2 3 (nn (pu_I a))) m = true then _ else none)) else none) else none)) = _
      rw [if_neg (pu_ge ha31), if_pos ((pu_ix ha31).mpr (by omega)), if_pos ((pu_ix ha31).mpr (by omega)), pu_nn ha31]
      unfold fX1_leaveOut_J102 fX1_leaveOut_J109 pv_ks
      rw [pu_nn ha31]
      by_cases h0 : w2 3 a < 0
      · rw [if_pos h0, if_pos (by simp [h0])]
      · rw [if_neg h0, if_pos (hia.resolve_left h0)]
        by_cases hm : f (nn (w2 3 a)) = 0
        · rw [if_pos hm, if_pos (by simp [hm])]
        · rw [if_neg hm, if_neg (by simp [hm, h0])]
    rw [hrun]
    by_cases hm : pv_ks f w2 a = true
    · rw [if_pos hm]
      obtain ⟨w1, w3, h1, h2, h3, h4, h5, h6, h7⟩ := pv_link hB hN hN2 hst hd hb ha.1 ha.2
      rw [h1]
      have h33 : w3 3 = w2 3 := h6 3 (by decide)
      have hks : pv_ks f w3 = pv_ks f w2 := by
        funext z
        unfold pv_ks
        rw [h33]
      have hrem2 : ∀ z ∈ rem, z < N ∧ ∀ c, c < B → z ∉ pv_up ch b (ch b ++ [a]) c := by
        intro z hz
        have hz2 := hrem z (List.mem_cons_of_mem _ hz)
        refine ⟨hz2.1, fun c hc hin => ?_⟩
        by_cases hcb : c = b
        · subst hcb
          rw [pv_up_s] at hin
          rcases List.mem_append.mp hin with h | h
          · exact hz2.2 c hc h
          · exact hnd2.1 (List.mem_singleton.mp h ▸ hz)
        · rw [pv_up_n hcb] at hin
          exact hz2.2 c hc hin
      obtain ⟨w', w2', g1, g2, g3, g4, g5, g6⟩ := ih (pv_up ch b (ch b ++ [a])) w1 w3 k' (w2 6 a) (by simp at hk; omega) h2 h3 (pv_ch_fr _ _ (fun z hz => h7 z (hrem2 z hz).2) hch) hrem2 hnd2.2 (fun z hz => by rw [h33]; exact hix z (List.mem_cons_of_mem _ hz))
      have hid : pv_up (pv_up ch b (ch b ++ [a])) b (pv_up ch b (ch b ++ [a]) b ++ rem.filter (pv_ks f w3)) = pv_up ch b (ch b ++ (a :: rem).filter (pv_ks f w2)) := by
        rw [pv_up_up, pv_up_s, hks, List.filter_cons, if_pos hm]
        simp
      rw [hid] at g2 g3
      refine ⟨w', w2', g1, g2, g3, fun r r1 r2 => by rw [g4 r r1 r2, h4 r r1 r2], fun c hc => ?_, fun r hr => by rw [g6 r hr, h6 r hr]⟩
      rw [(g5 c hc).1, (g5 c hc).2]
      exact h5 c hc
    · rw [if_neg hm]
      obtain ⟨w', w2', g1, g2, g3, g4, g5, g6⟩ := ih ch w w2 k' (w2 6 a) (by simp at hk; omega) hst hd hch (fun z hz => hrem z (List.mem_cons_of_mem _ hz)) hnd2.2 (fun z hz => hix z (List.mem_cons_of_mem _ hz))
      refine ⟨w', w2', g1, ?_, ?_, g4, g5, g6⟩
      · rw [List.filter_cons, if_neg hm]; exact g2
      · rw [List.filter_cons, if_neg hm]; exact g3
