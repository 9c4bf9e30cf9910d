/-! pure side, stores 35: numbers of blocks: the walk -/
def pv_eg (w : ST) (p c : Nat) : Prop := w 10 p = pu_I c ∨ w 11 p = pu_I c
def pv_rc (B : Nat) (w : ST) (b : Nat) : Prop := ∀ X : Nat → Prop, X 0 → (∀ p c, p < B → c < B → X p → pv_eg w p c → X c) → X b
/-- where ways lead: to blocks that are there -/
def pv_sv (B : Nat) (w : ST) : Prop := ∀ b, b < B → (w 10 b < 0 ∨ ∃ c, c < B ∧ w 10 b = pu_I c) ∧ (w 11 b < 0 ∨ ∃ c, c < B ∧ w 11 b = pu_I c)
def pv_pt3 (s : ST) : List Nat → Prop
  | [] => True
  | b :: S => s 3 S.length = pu_I b ∧ pv_pt3 s S
theorem pv_pt3_up {s : ST} {m : Nat} {v : Int32} : ∀ (T : List Nat), T.length ≤ m → pv_pt3 s T → pv_pt3 (upw s 3 m v) T := by
  intro T
  induction T with
  | nil => intro _ _; exact trivial
  | cons b T ih =>
    intro hm h
    have hm : T.length + 1 ≤ m := hm
    refine ⟨?_, ih (by omega) h.2⟩
    rw [pv_upw, if_neg fun c => by omega]
    exact h.1
theorem pv_pt3_e {s s' : ST} (he : s' 3 = s 3) : ∀ (T : List Nat), pv_pt3 s T → pv_pt3 s' T := by
  intro T
  induction T with
  | nil => intro _; exact trivial
  | cons b T ih => intro h; exact ⟨by rw [he]; exact h.1, ih h.2⟩
/-- steps that are still to do for the blocks on the path -/
def pv_ws (s : ST) : List Nat → Nat
  | [] => 0
  | b :: P => (3 - nn (s 2 b)) + pv_ws s P
theorem pv_ws_e {s s' : ST} : ∀ (P : List Nat), (∀ b ∈ P, s' 2 b = s 2 b) → pv_ws s' P = pv_ws s P := by
  intro P
  induction P with
  | nil => intro _; rfl
  | cons b P ih =>
    intro h
    show (3 - nn (s' 2 b)) + pv_ws s' P = (3 - nn (s 2 b)) + pv_ws s P
    rw [h b List.mem_cons_self, ih fun c hc => h c (List.mem_cons_of_mem _ hc)]
def pv_wkI (B : Nat) (w s : ST) (P Fi : List Nat) : Prop :=
  ((P ++ Fi).Nodup) ∧
  (∀ b ∈ P, b < B ∧ (s 2 b = 0 ∨ s 2 b = 1 ∨ s 2 b = 2)) ∧ (∀ b ∈ Fi, b < B ∧ s 2 b = 3) ∧ (∀ b, b < B → ¬ s 2 b < 0 → b ∈ P ∨ b ∈ Fi) ∧
  (∀ b, b < B → (s 2 b = 1 ∨ s 2 b = 2 ∨ s 2 b = 3) → ∀ c, c < B → w 11 b = pu_I c → ¬ s 2 c < 0) ∧
  (∀ b, b < B → (s 2 b = 2 ∨ s 2 b = 3) → ∀ c, c < B → w 10 b = pu_I c → ¬ s 2 c < 0) ∧
  (∀ P1 x y P2, P = P1 ++ x :: y :: P2 → pv_eg w y x) ∧ (∀ F1 x F2, Fi = F1 ++ x :: F2 → x ≠ 0 → ∃ p, pv_eg w p x ∧ (p ∈ F2 ∨ p ∈ P)) ∧
  ((P = [] ∧ ∃ F', Fi = F' ++ [0]) ∨ ∃ P', P = P' ++ [0]) ∧ (∀ b, b ∈ P ∨ b ∈ Fi → pv_rc B w b) ∧
  pv_pt3 s P ∧ (∀ i b, Fi[i]? = some b → s 4 i = pu_I b)
theorem pv_01 : (0 : Int32) + 1 = 1 := by decide
theorem pv_12 : (1 : Int32) + 1 = 2 := by decide
theorem pv_23 : (2 : Int32) + 1 = 3 := by decide
section WA
variable {B : Nat} {w : ST}
/-- one block's next way was looked at, and led nowhere new -/
theorem pv_wk_k {s : ST} {P Fi : List Nat} {b : Nat} {k : Int32} (hk : (k = 1 ∧ s 2 b = 0) ∨ (k = 2 ∧ s 2 b = 1)) (hI : pv_wkI B w s (b :: P) Fi)
    (hy : ∀ c, c < B → (if k = 1 then w 11 b else w 10 b) = pu_I c → ¬ upw s 2 b k 2 c < 0) : pv_wkI B w (upw s 2 b k) (b :: P) Fi := by
  obtain ⟨h1, h2, h3, h4, h5, h6, h7, h8, h9, h10, h11, h12⟩ := hI
  have hup : ∀ c, c ≠ b → upw s 2 b k 2 c = s 2 c := fun c hc => by rw [pv_upw, if_neg fun h => hc h.2]
  have hub : upw s 2 b k 2 b = k := by rw [pv_upw, if_pos ⟨rfl, rfl⟩]
  have hbF : b ∉ Fi := fun h => (List.nodup_append.mp h1).2.2 b List.mem_cons_self b h rfl
  have hk0 : ¬ k < 0 := by rcases hk with ⟨rfl, _⟩ | ⟨rfl, _⟩ <;> decide
  have hpos : ∀ c, ¬ s 2 c < 0 → ¬ upw s 2 b k 2 c < 0 := by
    intro c hc
    by_cases e : c = b
    · subst e; rw [hub]; exact hk0
    · rw [hup c e]; exact hc
  refine ⟨h1, fun c hc => ?_, fun c hc => ?_, fun c hc h0 => ?_, fun c hc hs d hd hw => ?_, fun c hc hs d hd hw => ?_, h7, h8, h9, h10, pv_pt3_e (pv_upw_n (by decide)) _ h11, fun i c hi => by rw [pv_upw_n (by decide)]; exact h12 i c hi⟩
  · refine ⟨(h2 c hc).1, ?_⟩
    by_cases e : c = b
    · subst e
      rw [hub]
      rcases hk with ⟨rfl, _⟩ | ⟨rfl, _⟩
      · exact Or.inr (Or.inl rfl)
      · exact Or.inr (Or.inr rfl)
    · rw [hup c e]
      exact (h2 c hc).2
  · have e : c ≠ b := fun e => hbF (e ▸ hc)
    rw [hup c e]
    exact h3 c hc
  · by_cases e : c = b
    · exact Or.inl (by rw [e]; exact List.mem_cons_self)
    · rw [hup c e] at h0
      exact h4 c hc h0
  · by_cases e : c = b
    · subst e
      rcases hk with ⟨rfl, q⟩ | ⟨rfl, q⟩
      · exact hy d hd (by rw [if_pos rfl]; exact hw)
      · exact hpos d (h5 c hc (Or.inl q) d hd hw)
    · rw [hup c e] at hs
      exact hpos d (h5 c hc hs d hd hw)
  · by_cases e : c = b
    · subst e
      rw [hub] at hs
      rcases hk with ⟨rfl, q⟩ | ⟨rfl, q⟩
      · exfalso
        rcases hs with h | h <;> exact absurd h (by decide)
      · exact hy d hd (by rw [if_neg (by decide)]; exact hw)
    · rw [hup c e] at hs
      exact hpos d (h6 c hc hs d hd hw)
/-- a block is come to -/
theorem pv_wk_p (hB : B ≤ 60) {s : ST} {P Fi : List Nat} {b c : Nat} {k : Int32} (hk : (k = 1 ∧ s 2 b = 0) ∨ (k = 2 ∧ s 2 b = 1)) (hI : pv_wkI B w s (b :: P) Fi) (hc : c < B)
    (hw : (if k = 1 then w 11 b else w 10 b) = pu_I c) (hn : upw s 2 b k 2 c < 0) : pv_wkI B w (upw (upw (upw s 2 b k) 2 c 0) 3 (P.length + 1) (pu_I c)) (c :: b :: P) Fi := by
  obtain ⟨h1, h2, h3, h4, h5, h6, h7, h8, h9, h10, h11, h12⟩ := hI
  have hk0 : ¬ k < 0 := by rcases hk with ⟨rfl, _⟩ | ⟨rfl, _⟩ <;> decide
  have hcb : c ≠ b := by
    rintro rfl
    rw [pv_upw, if_pos ⟨rfl, rfl⟩] at hn
    exact hk0 hn
  have hcn : s 2 c < 0 := by
    rw [pv_upw, if_neg fun h => hcb h.2] at hn
    exact hn
  have hcP : c ∉ b :: P := fun h => by
    rcases (h2 c h).2 with e | e | e <;> rw [e] at hcn <;> exact absurd hcn (by decide)
  have hcF : c ∉ Fi := fun h => by
    rw [(h3 c h).2] at hcn
    exact absurd hcn (by decide)
  have hbB := (h2 b List.mem_cons_self).1
  have hbF : b ∉ Fi := fun h => (List.nodup_append.mp h1).2.2 b List.mem_cons_self b h rfl
  have hup : ∀ d, d ≠ b → d ≠ c → upw (upw (upw s 2 b k) 2 c 0) 3 (P.length + 1) (pu_I c) 2 d = s 2 d := fun d hd hd2 => by
    rw [pv_upw_n (by decide), pv_upw, if_neg fun h => hd2 h.2, pv_upw, if_neg fun h => hd h.2]
  have hub : upw (upw (upw s 2 b k) 2 c 0) 3 (P.length + 1) (pu_I c) 2 b = k := by
    rw [pv_upw_n (by decide), pv_upw, if_neg fun h => hcb h.2.symm, pv_upw, if_pos ⟨rfl, rfl⟩]
  have huc : upw (upw (upw s 2 b k) 2 c 0) 3 (P.length + 1) (pu_I c) 2 c = 0 := by
    rw [pv_upw_n (by decide), pv_upw, if_pos ⟨rfl, rfl⟩]
  have hpos : ∀ d, ¬ s 2 d < 0 → ¬ upw (upw (upw s 2 b k) 2 c 0) 3 (P.length + 1) (pu_I c) 2 d < 0 := by
    intro d hd
    by_cases e : d = b
    · subst e; rw [hub]; exact hk0
    · by_cases e2 : d = c
      · subst e2; rw [huc]; decide
      · rw [hup d e e2]; exact hd
  have heg : pv_eg w b c := by
    rcases hk with ⟨rfl, _⟩ | ⟨rfl, _⟩
    · rw [if_pos rfl] at hw
      exact Or.inr hw
    · rw [if_neg (by decide)] at hw
      exact Or.inl hw
  refine ⟨?_, fun d hd => ?_, fun d hd => ?_, fun d hd h0 => ?_, fun d hd hs e he hw2 => ?_, fun d hd hs e he hw2 => ?_, fun P1 x y P2 hP => ?_, fun F1 x F2 hF hx => ?_, ?_, fun d hd => ?_, ?_, fun i d hi => ?_⟩
  · show (c :: ((b :: P) ++ Fi)).Nodup
    refine List.nodup_cons.mpr ⟨fun h => ?_, h1⟩
    rcases List.mem_append.mp h with h | h
    · exact hcP h
    · exact hcF h
  · rcases List.mem_cons.mp hd with rfl | hd
    · exact ⟨hc, Or.inl huc⟩
    · have e2 : d ≠ c := fun e => hcP (e ▸ hd)
      refine ⟨(h2 d hd).1, ?_⟩
      by_cases e : d = b
      · subst e
        rw [hub]
        rcases hk with ⟨rfl, _⟩ | ⟨rfl, _⟩
        · exact Or.inr (Or.inl rfl)
        · exact Or.inr (Or.inr rfl)
      · rw [hup d e e2]
        exact (h2 d hd).2
  · rw [hup d (fun e => hbF (e ▸ hd)) (fun e => hcF (e ▸ hd))]
    exact h3 d hd
  · by_cases e2 : d = c
    · exact Or.inl (by rw [e2]; exact List.mem_cons_self)
    · by_cases e : d = b
      · exact Or.inl (by rw [e]; exact List.mem_cons_of_mem _ List.mem_cons_self)
      · rw [hup d e e2] at h0
        exact (h4 d hd h0).imp (fun h => List.mem_cons_of_mem _ h) id
  · by_cases e2 : d = c
    · subst e2
      rw [huc] at hs
      rcases hs with h | h | h <;> exact absurd h (by decide)
    · by_cases e3 : d = b
      · subst e3
        rcases hk with ⟨rfl, q⟩ | ⟨rfl, q⟩
        · rw [if_pos rfl] at hw
          have : e = c := pu_inj (by omega) (by omega) (by rw [← hw2, hw])
          rw [this, huc]
          decide
        · exact hpos e (h5 d hd (Or.inl q) e he hw2)
      · rw [hup d e3 e2] at hs
        exact hpos e (h5 d hd hs e he hw2)
  · by_cases e2 : d = c
    · subst e2
      rw [huc] at hs
      rcases hs with h | h <;> exact absurd h (by decide)
    · by_cases e3 : d = b
      · subst e3
        rw [hub] at hs
        rcases hk with ⟨rfl, q⟩ | ⟨rfl, q⟩
        · rcases hs with h | h <;> exact absurd h (by decide)
        · rw [if_neg (by decide)] at hw
          have : e = c := pu_inj (by omega) (by omega) (by rw [← hw2, hw])
          rw [this, huc]
          decide
      · rw [hup d e3 e2] at hs
        exact hpos e (h6 d hd hs e he hw2)
  · cases P1 with
    | nil =>
      have h := List.cons.inj hP
      have h' := List.cons.inj h.2
      rw [← h.1, ← h'.1]
      exact heg
    | cons z P1 => exact h7 P1 x y P2 (List.cons.inj hP).2
  · obtain ⟨p, p1, p2⟩ := h8 F1 x F2 hF hx
    exact ⟨p, p1, p2.imp id fun h => List.mem_cons_of_mem _ h⟩
  · rcases h9 with ⟨h, _⟩ | ⟨P', h⟩
    · cases h
    · exact Or.inr ⟨c :: P', by rw [h]; rfl⟩
  · have hrb := h10 b (Or.inl List.mem_cons_self)
    rcases hd with hd | hd
    · rcases List.mem_cons.mp hd with rfl | hd
      · exact fun X h0 hX => hX b d hbB hc (hrb X h0 hX) heg
      · exact h10 d (Or.inl hd)
    · exact h10 d (Or.inr hd)
  · refine ⟨?_, ?_⟩
    · show upw (upw (upw s 2 b k) 2 c 0) 3 (P.length + 1) (pu_I c) 3 (P.length + 1) = pu_I c
      rw [pv_upw, if_pos ⟨rfl, rfl⟩]
    · refine pv_pt3_up (b :: P) (Nat.le_refl _) (pv_pt3_e ?_ _ h11)
      rw [pv_upw_n (by decide), pv_upw_n (by decide)]
  · rw [pv_upw_n (by decide), pv_upw_n (by decide), pv_upw_n (by decide)]
    exact h12 i d hi
/-- a block is finished -/
theorem pv_wk_f {s : ST} {P Fi : List Nat} {b : Nat} (hs2 : s 2 b = 2) (hI : pv_wkI B w s (b :: P) Fi) : pv_wkI B w (upw (upw s 4 Fi.length (pu_I b)) 2 b 3) P (Fi ++ [b]) := by
  obtain ⟨h1, h2, h3, h4, h5, h6, h7, h8, h9, h10, h11, h12⟩ := hI
  have hbF : b ∉ Fi := fun h => (List.nodup_append.mp h1).2.2 b List.mem_cons_self b h rfl
  have hbP : b ∉ P := (List.nodup_cons.mp (List.nodup_append.mp h1).1).1
  have hbB := (h2 b List.mem_cons_self).1
  have hup : ∀ d, d ≠ b → upw (upw s 4 Fi.length (pu_I b)) 2 b 3 2 d = s 2 d := fun d hd => by
    rw [pv_upw, if_neg fun h => hd h.2, pv_upw_n (by decide)]
  have hub : upw (upw s 4 Fi.length (pu_I b)) 2 b 3 2 b = 3 := by rw [pv_upw, if_pos ⟨rfl, rfl⟩]
  have hpos : ∀ d, ¬ s 2 d < 0 → ¬ upw (upw s 4 Fi.length (pu_I b)) 2 b 3 2 d < 0 := by
    intro d hd
    by_cases e : d = b
    · subst e; rw [hub]; decide
    · rw [hup d e]; exact hd
  refine ⟨?_, fun d hd => ?_, fun d hd => ?_, fun d hd h0 => ?_, fun d hd hs e he hw2 => ?_, fun d hd hs e he hw2 => ?_, fun P1 x y P2 hP => h7 (b :: P1) x y P2 (by rw [hP]; rfl), fun F1 x F2 hF hx => ?_, ?_, fun d hd => ?_, ?_, fun i d hi => ?_⟩
  · have h1' : (b :: (P ++ Fi)).Nodup := h1
    have hn := List.nodup_cons.mp h1'
    rw [← List.append_assoc]
    refine List.nodup_append.mpr ⟨hn.2, by simp, fun x hx y hy e => ?_⟩
    rw [List.mem_singleton.mp hy] at e
    exact hn.1 (e ▸ hx)
  · have e : d ≠ b := fun e => hbP (e ▸ hd)
    rw [hup d e]
    exact h2 d (List.mem_cons_of_mem _ hd)
  · rcases List.mem_append.mp hd with hd | hd
    · rw [hup d fun e => hbF (e ▸ hd)]
      exact h3 d hd
    · rw [List.mem_singleton.mp hd, hub]
      exact ⟨hbB, rfl⟩
  · by_cases e : d = b
    · exact Or.inr (List.mem_append_right _ (List.mem_singleton.mpr e))
    · rw [hup d e] at h0
      rcases h4 d hd h0 with h | h
      · exact Or.inl ((List.mem_cons.mp h).resolve_left e)
      · exact Or.inr (List.mem_append_left _ h)
  · by_cases e3 : d = b
    · subst e3
      exact hpos e (h5 d hd (Or.inr (Or.inl hs2)) e he hw2)
    · rw [hup d e3] at hs
      exact hpos e (h5 d hd hs e he hw2)
  · by_cases e3 : d = b
    · subst e3
      exact hpos e (h6 d hd (Or.inl hs2) e he hw2)
    · rw [hup d e3] at hs
      exact hpos e (h6 d hd hs e he hw2)
  · rcases List.append_eq_append_iff.mp hF with ⟨z, e1, e2⟩ | ⟨z, e1, e2⟩
    · -- F1 reaches to the end of the old ones
      cases z with
      | nil =>
        have e2 := List.cons.inj e2
        -- x is the block itself: the one below it on the path
        have hxb : b = x := e2.1
        subst hxb
        cases P with
        | nil =>
          exfalso
          rcases h9 with ⟨h, _⟩ | ⟨P', h⟩
          · cases h
          · cases P' with
            | nil => exact hx (List.cons.inj h).1
            | cons u P' => have := (List.cons.inj h).2; cases P' <;> cases this
        | cons y P => exact ⟨y, h7 [] b y P rfl, Or.inr List.mem_cons_self⟩
      | cons u z =>
        have := (List.cons.inj e2).2
        cases z <;> cases this
    · cases z with
      | nil =>
        have e2 := List.cons.inj e2
        have hxb : x = b := e2.1
        subst hxb
        cases P with
        | nil =>
          exfalso
          rcases h9 with ⟨h, _⟩ | ⟨P', h⟩
          · cases h
          · cases P' with
            | nil => exact hx (List.cons.inj h).1
            | cons u P' => have := (List.cons.inj h).2; cases P' <;> cases this
        | cons y P => exact ⟨y, h7 [] x y P rfl, Or.inr List.mem_cons_self⟩
      | cons u z =>
        have e3 := List.cons.inj e2
        rw [← e3.1] at e1
        obtain ⟨p, p1, p2⟩ := h8 F1 x z e1 hx
        refine ⟨p, p1, ?_⟩
        rcases p2 with h | h
        · exact Or.inl (by rw [e3.2]; exact List.mem_append_left _ h)
        · rcases List.mem_cons.mp h with rfl | h
          · exact Or.inl (by rw [e3.2]; exact List.mem_append_right _ (List.mem_singleton.mpr rfl))
          · exact Or.inr h
  · rcases h9 with ⟨h, _⟩ | ⟨P', h⟩
    · cases h
    · cases P' with
      | nil =>
        have h := List.cons.inj h
        refine Or.inl ⟨h.2, Fi, by rw [h.1]⟩
      | cons u P' => exact Or.inr ⟨P', (List.cons.inj h).2⟩
  · rcases hd with hd | hd
    · exact h10 d (Or.inl (List.mem_cons_of_mem _ hd))
    · rcases List.mem_append.mp hd with hd | hd
      · exact h10 d (Or.inr hd)
      · rw [List.mem_singleton.mp hd]
        exact h10 b (Or.inl List.mem_cons_self)
  · refine pv_pt3_e ?_ _ h11.2
    rw [pv_upw_n (by decide), pv_upw_n (by decide)]
  · rw [pv_upw_n (by decide), pv_upw]
    by_cases e : i = Fi.length
    · rw [if_pos ⟨rfl, e⟩]
      rw [e, List.getElem?_append_right (Nat.le_refl _)] at hi
      simp at hi
      rw [hi]
    · rw [if_neg fun h => e h.2]
      have hlt : i < Fi.length := by
        have h9 : i < (Fi ++ [b]).length := by
          obtain ⟨h9, _⟩ := List.getElem?_eq_some_iff.mp hi
          exact h9
        rw [List.length_append] at h9
        have h9 : i < Fi.length + 1 := h9
        omega
      rw [List.getElem?_append_left hlt] at hi
      exact h12 i d hi
end WA
