/-! pure side, stores 1: chains, and the flow's own methods -/
theorem pv_upw (w : ST) (r i q j : Nat) (v : Int32) : upw w r i v q j = if q = r ∧ j = i then v else w q j := by
  unfold upw upd
  by_cases h : q = r
  · subst h
    rw [if_pos rfl]
    by_cases h2 : j = i
    · rw [if_pos h2, if_pos ⟨rfl, h2⟩]
    · rw [if_neg h2, if_neg (fun c => h2 c.2)]
  · rw [if_neg h, if_neg (fun c => h c.1)]
theorem pv_upw_n {w : ST} {r i q : Nat} {v : Int32} (h : q ≠ r) : upw w r i v q = w q := by
  unfold upw; rw [if_neg h]
theorem pv_srw_n {w : ST} {r q : Nat} {f : RI} (h : q ≠ r) : srw w r f q = w q := by
  unfold srw; rw [if_neg h]
theorem pv_srw_s {w : ST} {r : Nat} {f : RI} : srw w r f r = f := by
  unfold srw; rw [if_pos rfl]
theorem pv_NF : 1000001 ≤ NF := by unfold NF; omega
/-- a counting loop -/
theorem pv_for {σ τ : Type} {G : Nat → Int32 → σ → Option τ} {hi : Nat} {Inv : Nat → σ → Prop} {Q : τ → Prop}
    (hs : ∀ n k s, k < hi → Inv k s → ∃ s', G (n + 1) (pu_I k) s = G n (pu_I (k + 1)) s' ∧ Inv (k + 1) s')
    (he : ∀ n s, Inv hi s → ∃ t, G (n + 1) (pu_I hi) s = some t ∧ Q t) :
    ∀ (m k n : Nat) (s : σ), k + m = hi → m < n → Inv k s → ∃ t, G n (pu_I k) s = some t ∧ Q t := by
  intro m
  induction m with
  | zero =>
    intro k n s hk hn hI
    obtain ⟨n', rfl⟩ : ∃ n', n = n' + 1 := ⟨n - 1, by omega⟩
    have : k = hi := by omega
    subst this
    exact he n' s hI
  | succ m ih =>
    intro k n s hk hn hI
    obtain ⟨n', rfl⟩ : ∃ n', n = n' + 1 := ⟨n - 1, by omega⟩
    obtain ⟨s', h1, h2⟩ := hs n' k s (by omega) hI
    rw [h1]
    exact ih (k + 1) n' s' (by omega) (by omega) h2
theorem pv_fill {n : Nat} {f : RI} {v : Int32} (hn : n < 1000000) : ∃ g, fJ7_fill_53178 n f v = some g ∧ ∀ i, i < n → g i = v := by
  have h := pv_for (G := fun k i s => fJ7_fill_53178_L5 n v k i s) (hi := n) (Inv := fun k (g : RI) => ∀ i, i < k → g i = v) (Q := fun (g : RI) => ∀ i, i < n → g i = v)
    (fun k i s hi hI => by
      refine ⟨upd s i v, ?_, fun j hj => ?_⟩
      · show fJ7_fill_53178_L5 n v (k + 1) (pu_I i) s = fJ7_fill_53178_L5 n v k (pu_I (i + 1)) (upd s i v)
        have h1 : ¬ Int32.ofNat n ≤ pu_I i := by rw [show Int32.ofNat n = pu_I n from rfl, pu_le (by omega) (by omega)]; omega
        show (if Int32.ofNat n ≤ pu_I i then some s else _) = _
        rw [if_neg h1, if_pos ((pu_ix (by omega)).mpr hi), pu_su]
        unfold lt9
        rw [pu_nn (by omega)]
      · unfold upd
        by_cases hji : j = i
        · rw [if_pos hji]
        · rw [if_neg hji]; exact hI j (by omega))
    (fun k s hI => ⟨s, by
      show (if Int32.ofNat n ≤ pu_I n then some s else _) = _
      rw [if_pos (Int32.le_refl _)], hI⟩) n 0 NF f (by omega) (by have := pv_NF; omega) (fun i hi => absurd hi (Nat.not_lt_zero _))
  obtain ⟨g, h1, h2⟩ := h
  refine ⟨g, ?_, h2⟩
  have h1 : fJ7_fill_53178_L5 n v NF 0 f = some g := h1
  unfold fJ7_fill_53178
  rw [h1]
  rfl
theorem pv_n1 {x : Int32} (h : x = -1) : x < 0 := h ▸ pu_m1
/-- chains -/
def pv_ch (nx : Nat → Int32) : Int32 → List Nat → Prop
  | x, [] => x = -1
  | x, a :: l => x = pu_I a ∧ pv_ch nx (nx a) l
theorem pv_ch_fr {nx nx' : Nat → Int32} : ∀ (l : List Nat) (x : Int32), (∀ a ∈ l, nx' a = nx a) → pv_ch nx x l → pv_ch nx' x l := by
  intro l
  induction l with
  | nil => intro x _ h; exact h
  | cons a l ih =>
    intro x h h2
    refine ⟨h2.1, ?_⟩
    rw [h a List.mem_cons_self]
    exact ih _ (fun b hb => h b (List.mem_cons_of_mem _ hb)) h2.2
theorem pv_ch_app {nx nx' : Nat → Int32} {s : Nat} : ∀ (l : List Nat) (x : Int32) (a : Nat), (l ++ [a]).Nodup → s ∉ l ++ [a] → (∀ b ∈ l, nx' b = nx b) → nx' a = pu_I s → nx' s = -1 → pv_ch nx x (l ++ [a]) → pv_ch nx' x (l ++ [a] ++ [s]) := by
  intro l
  induction l with
  | nil =>
    intro x a _ _ _ h1 h2 h
    exact ⟨h.1, h1, h2⟩
  | cons b l ih =>
    intro x a hn hs hb h1 h2 h
    refine ⟨h.1, ?_⟩
    rw [hb b List.mem_cons_self]
    refine ih _ a (List.nodup_cons.mp hn).2 (fun c => hs (List.mem_cons_of_mem _ c)) (fun c hc => hb c (List.mem_cons_of_mem _ hc)) h1 h2 h.2
/-- the steps of a flow in chains: rows 4, 5 of the flow are the first and the last one, row 6 of the steps the next one -/
def pv_stc (B : Nat) (w w2 : ST) (ch : Nat → List Nat) : Prop :=
  (∀ b, b < B → pv_ch (w2 6) (w 4 b) (ch b)) ∧ (∀ b l a, b < B → ch b = l ++ [a] → w 5 b = pu_I a)
def pv_phc (B : Nat) (w : ST) (ph : Nat → List Nat) : Prop :=
  (∀ b, b < B → pv_ch (w 20) (w 6 b) (ph b)) ∧ (∀ b l a, b < B → ph b = l ++ [a] → w 7 b = pu_I a)
/-- all numbers in the lists are below N, none twice -/
def pv_dis (B N : Nat) (ch : Nat → List Nat) : Prop :=
  (∀ b, b < B → ∀ a ∈ ch b, a < N) ∧ (∀ b, b < B → (ch b).Nodup) ∧ (∀ b c a, b < B → c < B → a ∈ ch b → a ∈ ch c → b = c)
def pv_up {α : Type} (f : Nat → α) (b : Nat) (x : α) : Nat → α := fun c => if c = b then x else f c
theorem pv_up_s {α : Type} (f : Nat → α) (b : Nat) (x : α) : pv_up f b x b = x := if_pos rfl
theorem pv_up_n {α : Type} {f : Nat → α} {b c : Nat} {x : α} (h : c ≠ b) : pv_up f b x c = f c := if_neg h
/-- a step is hung on at the end of a block -/
theorem pv_link {B N : Nat} {w w2 : ST} {n2 : Nat → Nat} {ch : Nat → List Nat} {b s : Nat} (hB : B ≤ 60) (hN : N ≤ n2 6) (hN2 : N < 2147483648) (hst : pv_stc B w w2 ch) (hd : pv_dis B N ch) (hb : b < B) (hs : s < N) (hnew : ∀ c, c < B → s ∉ ch c) :
    ∃ w' w2', fX1_link w (pu_I b) (pu_I s) n2 w2 = some (w', w2') ∧ pv_stc B w' w2' (pv_up ch b (ch b ++ [s])) ∧ pv_dis B N (pv_up ch b (ch b ++ [s])) ∧ (∀ r, r ≠ 4 → r ≠ 5 → w' r = w r) ∧ (∀ c, c ≠ b → w' 4 c = w 4 c ∧ w' 5 c = w 5 c) ∧ (∀ r, r ≠ 6 → w2' r = w2 r) ∧ (∀ a, (∀ c, c < B → a ∉ pv_up ch b (ch b ++ [s]) c) → w2' 6 a = w2 6 a) := by
  have hdis : pv_dis B N (pv_up ch b (ch b ++ [s])) := by
    refine ⟨fun c hc a ha => ?_, fun c hc => ?_, fun c d a hc hd2 h1 h2 => ?_⟩
    · by_cases h : c = b
      · subst h
        rw [pv_up_s] at ha
        rcases List.mem_append.mp ha with h | h
        · exact hd.1 c hc a h
        · rw [List.mem_singleton.mp h]; exact hs
      · rw [pv_up_n h] at ha
        exact hd.1 c hc a ha
    · by_cases h : c = b
      · subst h
        rw [pv_up_s]
        refine List.nodup_append.mpr ⟨hd.2.1 c hc, by simp, fun x hx y hy e => ?_⟩
        rw [List.mem_singleton.mp hy] at e
        exact hnew c hc (e ▸ hx)
      · rw [pv_up_n h]
        exact hd.2.1 c hc
    · have key : ∀ c, c < B → a ∈ pv_up ch b (ch b ++ [s]) c → a ∈ ch c ∨ (c = b ∧ a = s) := by
        intro c hc h
        by_cases h9 : c = b
        · subst h9
          rw [pv_up_s] at h
          rcases List.mem_append.mp h with h | h
          · exact Or.inl h
          · exact Or.inr ⟨rfl, List.mem_singleton.mp h⟩
        · rw [pv_up_n h9] at h
          exact Or.inl h
      rcases key c hc h1 with h3 | ⟨h3, h4⟩
      · rcases key d hd2 h2 with h5 | ⟨h5, h6⟩
        · exact hd.2.2 c d a hc hd2 h3 h5
        · exact absurd (h6 ▸ h3) (hnew c hc)
      · rcases key d hd2 h2 with h5 | ⟨h5, h6⟩
        · exact absurd (h4 ▸ h5) (hnew d hd2)
        · rw [h3, h5]
  have hb31 : b < 2147483648 := by omega
  have hs31 : s < 2147483648 := by omega
  have hib : ixb (pu_I b) 60 = true := (pu_ix hb31).mpr (by omega)
  have his : ixb (pu_I s) (n2 6) = true := (pu_ix hs31).mpr (by omega)
  have hch := hst.1 b hb
  rcases List.eq_nil_or_concat (ch b) with he | ⟨l, a, he⟩
  · -- the first one
    rw [he] at hch
    have hch : w 4 b < 0 := pv_n1 hch
    refine ⟨upw (upw w 4 b (pu_I s)) 5 b (pu_I s), upw w2 6 s (-1), ?_, ⟨fun c hc => ?_, fun c l a hc hl => ?_⟩, hdis, fun r h1 h2 => ?_, fun c hc => ?_, fun r h => pv_upw_n h, fun x hx => ?_⟩
    · have hng : ¬ 0 ≤ w 4 b := by rw [Int32.not_le]; exact hch
      simp only [fX1_link, fX1_link_J44, lt9, pu_nn hb31, pu_nn hs31, hib, his, if_true, if_neg hng]
    · by_cases h : c = b
      · subst h
        rw [pv_up_s, he]
        refine ⟨?_, ?_⟩
        · rw [pv_upw, pv_upw]; simp
        · show upw w2 6 s (-1) 6 s = -1
          rw [pv_upw]; simp
      · rw [pv_up_n h, pv_upw_n (q := 4) (r := 5) (by decide), pv_upw w 4 b 4 c, if_neg (fun x => h x.2)]
        refine pv_ch_fr _ _ (fun x hx => ?_) (hst.1 c hc)
        rw [pv_upw, if_neg (fun (y : 6 = 6 ∧ x = s) => hnew c hc (y.2 ▸ hx))]
    · by_cases h : c = b
      · subst h
        rw [pv_up_s, he] at hl
        have : l = [] ∧ a = s := by
          have h9 : [s] = l ++ [a] := hl
          cases l with
          | nil => simp at h9; exact ⟨rfl, h9.symm⟩
          | cons x y => simp at h9
        rw [this.2, pv_upw]; simp
      · rw [pv_up_n h] at hl
        rw [pv_upw, if_neg (fun x => h x.2), pv_upw_n (q := 5) (r := 4) (by decide)]
        exact hst.2 c l a hc hl
    · rw [pv_upw_n h2, pv_upw_n h1]
    · rw [pv_upw, pv_upw, pv_upw, pv_upw]; simp [hc]
    · rw [pv_upw, if_neg]
      intro y
      refine hx b hb ?_
      rw [pv_up_s, y.2]
      exact List.mem_append_right _ List.mem_cons_self
  · -- behind the last one
    have he : ch b = l ++ [a] := by rw [he]; simp
    have hlast := hst.2 b l a hb he
    have ha : a ∈ ch b := by rw [he]; exact List.mem_append_right _ List.mem_cons_self
    have haN := hd.1 b hb a ha
    have ha31 : a < 2147483648 := by omega
    have hne : s ≠ a := fun e => hnew b hb (e ▸ ha)
    have hge : 0 ≤ w 4 b := by
      have h9 := hch
      rw [he] at h9
      cases l with
      | nil => rw [h9.1]; exact Int32.not_lt.mp (pu_ge ha31)
      | cons x y =>
        rw [h9.1]
        have := hd.1 b hb x (by rw [he]; exact List.mem_cons_self)
        exact Int32.not_lt.mp (pu_ge (by omega))
    refine ⟨upw w 5 b (pu_I s), upw (upw w2 6 s (-1)) 6 a (pu_I s), ?_, ⟨fun c hc => ?_, fun c l2 a2 hc hl => ?_⟩, hdis, fun r h1 h2 => pv_upw_n h2, fun c hc => ?_, fun r h => ?_, fun x hx => ?_⟩
    · have hia : ixb (pu_I a) (n2 6) = true := (pu_ix ha31).mpr (by omega)
      simp only [fX1_link, fX1_link_J44, lt9, pu_nn hb31, pu_nn hs31, hib, his, if_true, if_pos hge, hlast, hia, pu_nn ha31]
    · by_cases h : c = b
      · subst h
        rw [pv_up_s, pv_upw_n (q := 4) (r := 5) (by decide), he]
        rw [he] at hch
        refine pv_ch_app l _ a (by rw [← he]; exact hd.2.1 c hc) (by rw [← he]; exact hnew c hc) (fun x hx => ?_) ?_ ?_ hch
        · have hxa : x ≠ a := by
            have hn := hd.2.1 c hc
            rw [he] at hn
            exact fun e => (List.nodup_append.mp hn).2.2 x hx a List.mem_cons_self e
          have hxs : x ≠ s := fun e => hnew c hc (by rw [he, ← e]; exact List.mem_append_left _ hx)
          rw [pv_upw, pv_upw]; simp [hxa, hxs]
        · rw [pv_upw]; simp
        · rw [pv_upw, pv_upw]; simp [hne]
      · rw [pv_up_n h, pv_upw_n (q := 4) (r := 5) (by decide)]
        refine pv_ch_fr _ _ (fun x hx => ?_) (hst.1 c hc)
        have hxa : x ≠ a := fun e => h (hd.2.2 c b a hc hb (e ▸ hx) ha)
        have hxs : x ≠ s := fun e => hnew c hc (e ▸ hx)
        rw [pv_upw, pv_upw]; simp [hxa, hxs]
    · by_cases h : c = b
      · subst h
        rw [pv_up_s] at hl
        have : a2 = s := by
          have h9 := congrArg List.getLast? hl
          simp at h9
          exact h9.symm
        rw [this, pv_upw]; simp
      · rw [pv_up_n h] at hl
        rw [pv_upw, if_neg (fun x => h x.2)]
        exact hst.2 c l2 a2 hc hl
    · rw [pv_upw, pv_upw]; simp [hc]
    · rw [pv_upw_n h, pv_upw_n h]
    · have hxa : x ≠ a := fun e => hx b hb (by rw [pv_up_s, e]; exact List.mem_append_left _ ha)
      have hxs : x ≠ s := fun e => hx b hb (by rw [pv_up_s, e]; exact List.mem_append_right _ List.mem_cons_self)
      rw [pv_upw, pv_upw]; simp [hxa, hxs]
