/-! pure side, stores 28: one step becomes another that does the same -/
def pu_t1 (g : Int32) (s' : pu_Stp) (t : pu_Stp) : pu_Stp := if pu_gk t.1 = true ∧ t.2.1 = g then s' else t
def pu_r1F (F : pu_Flow) (g : Int32) (s' : pu_Stp) : pu_Flow := fun b => ((F b).1, (F b).2.1.map (pu_t1 g s'), (F b).2.2)
section R1
variable {F : pu_Flow} {L : Nat → Prop} {D : Nat → Nat → Prop} {g : Int32} {s' : pu_Stp} {call : pu_Call} {ar : List Int32}
theorem pu_t1_n {t : pu_Stp} (h : pu_gk t.1 = true → t.2.1 ≠ g) : pu_t1 g s' t = t := if_neg fun c => h c.1 c.2
theorem pu_t1_s {t : pu_Stp} (h : pu_gk t.1 = true) (h2 : t.2.1 = g) : pu_t1 g s' t = s' := if_pos ⟨h, h2⟩
theorem pu_r1_gvs (hg : pu_gk s'.1 = true) (hs : s'.2.1 = g) : ∀ l : List pu_Stp, pu_gvs (l.map (pu_t1 g s')) = pu_gvs l := by
  intro l
  induction l with
  | nil => rfl
  | cons t l ih =>
    rw [List.map_cons]
    by_cases hc : pu_gk t.1 = true ∧ t.2.1 = g
    · rw [pu_t1_s hc.1 hc.2, pu_gvs_c _ hg, pu_gvs_c _ hc.1, ih, hs, hc.2]
    · rw [pu_t1_n fun h e => hc ⟨h, e⟩]
      by_cases hk : pu_gk t.1 = true
      · rw [pu_gvs_c _ hk, pu_gvs_c _ hk, ih]
      · have hk : pu_gk t.1 = false := by simpa using hk
        rw [pu_gvs_n _ hk, pu_gvs_n _ hk, ih]
theorem pu_r1_bl (hg : pu_gk s'.1 = true) (hs : s'.2.1 = g) (b : Nat) : pu_bl (pu_r1F F g s') b = pu_bl F b := by
  show (F b).1.map Prod.fst ++ pu_gvs ((F b).2.1.map (pu_t1 g s')) = _
  rw [pu_r1_gvs hg hs]
  rfl
theorem pu_r1_av (hg : pu_gk s'.1 = true) (hs : s'.2.1 = g) {b : Nat} {a : List pu_Stp} {v : Int32} (h : pu_av F D b a v) : pu_av (pu_r1F F g s') D b (a.map (pu_t1 g s')) v := by
  rcases h with h | h | ⟨d, h1, h2, h3⟩
  · exact Or.inl h
  · exact Or.inr (Or.inl (by rw [pu_r1_gvs hg hs]; exact h))
  · exact Or.inr (Or.inr ⟨d, h1, h2, by rw [pu_r1_bl hg hs]; exact h3⟩)
theorem pu_map_split {f : pu_Stp → pu_Stp} {x : pu_Stp} {c : List pu_Stp} : ∀ (l a : List pu_Stp), l.map f = a ++ x :: c → ∃ l1 s l2, l = l1 ++ s :: l2 ∧ l1.map f = a ∧ f s = x := by
  intro l
  induction l with
  | nil => intro a h; cases a <;> cases h
  | cons s l ih =>
    intro a h
    rw [List.map_cons] at h
    cases a with
    | nil => exact ⟨[], s, l, rfl, rfl, (List.cons.inj h).1⟩
    | cons y a =>
      have h := List.cons.inj h
      obtain ⟨l1, s1, l2, e1, e2, e3⟩ := ih a h.2
      exact ⟨s :: l1, s1, l2, by rw [e1]; rfl, by rw [List.map_cons, e2, h.1], e3⟩
theorem pu_r1_ssa (hS : pu_ssa F L D) (hg : pu_gk s'.1 = true) (hs : s'.2.1 = g)
    (hu : ∀ b l1 s l2, L b → (F b).2.1 = l1 ++ s :: l2 → pu_gk s.1 = true → s.2.1 = g → (pu_ul s'.1 = true → pu_av F D b l1 s'.2.2.1) ∧ (pu_ur s'.1 = true → pu_av F D b l1 s'.2.2.2)) : pu_ssa (pu_r1F F g s') L D := by
  have hU := hS.2.2.2.2.1
  refine ⟨hS.1, hS.2.1, hS.2.2.1, ?_, ⟨?_, ?_⟩, ?_, ?_, ?_⟩
  · intro b hb s h
    have h : s ∈ (F b).2.1.map (pu_t1 g s') := h
    obtain ⟨t, ht, rfl⟩ := List.mem_map.mp h
    by_cases hc : pu_gk t.1 = true ∧ t.2.1 = g
    · rw [pu_t1_s hc.1 hc.2]
      exact Or.inl hg
    · rw [pu_t1_n fun h e => hc ⟨h, e⟩]
      exact hS.2.2.2.1 b hb t ht
  · intro b hb
    rw [pu_r1_bl hg hs]
    exact hU.1 b hb
  · intro b c v hb hc h1 h2
    rw [pu_r1_bl hg hs] at h1 h2
    exact hU.2 b c v hb hc h1 h2
  · intro b l1 s l2 hb hl
    obtain ⟨a, t, c, e1, e2, e3⟩ := pu_map_split (F b).2.1 l1 hl
    rw [← e2, ← e3]
    by_cases hc : pu_gk t.1 = true ∧ t.2.1 = g
    · rw [pu_t1_s hc.1 hc.2]
      have h9 := hu b a t c hb e1 hc.1 hc.2
      exact ⟨fun h => pu_r1_av hg hs (h9.1 h), fun h => pu_r1_av hg hs (h9.2 h)⟩
    · rw [pu_t1_n fun h e => hc ⟨h, e⟩]
      have h9 := hS.2.2.2.2.2.1 b a t c hb e1
      exact ⟨fun h => pu_r1_av hg hs (h9.1 h), fun h => pu_r1_av hg hs (h9.2 h)⟩
  · intro b hb he
    exact pu_r1_av hg hs (hS.2.2.2.2.2.2.1 b hb he)
  · intro b c p hb hsc hp
    exact pu_r1_av hg hs (hS.2.2.2.2.2.2.2 b c p hb hsc hp)
theorem pu_r1_steps (hS : pu_ssa F L D) {b : Nat} (hb : L b)
    (hq : ∀ l1 s l2 e m q, (F b).2.1 = l1 ++ s :: l2 → pu_gk s.1 = true → s.2.1 = g → pu_ei F D b l1 e → pu_stp call ar s'.1 s'.2.1 s'.2.2.1 s'.2.2.2 e m q = pu_stp call ar s.1 s.2.1 s.2.2.1 s.2.2.2 e m q) :
    ∀ (l l1 : List pu_Stp) (σ : pu_S), (F b).2.1 = l1 ++ l → pu_ei F D b l1 σ.1 → pu_steps call ar (l.map (pu_t1 g s')) σ = pu_steps call ar l σ := by
  intro l
  induction l with
  | nil => intro l1 σ _ _; rfl
  | cons s l ih =>
    intro l1 σ hl he
    rw [List.map_cons]
    unfold pu_steps
    have e1 : pu_stp call ar (pu_t1 g s' s).1 (pu_t1 g s' s).2.1 (pu_t1 g s' s).2.2.1 (pu_t1 g s' s).2.2.2 σ.1 σ.2.1 σ.2.2 = pu_stp call ar s.1 s.2.1 s.2.2.1 s.2.2.2 σ.1 σ.2.1 σ.2.2 := by
      by_cases hc : pu_gk s.1 = true ∧ s.2.1 = g
      · rw [pu_t1_s hc.1 hc.2]
        exact hq l1 s l _ _ _ hl hc.1 hc.2 he
      · rw [pu_t1_n fun h e => hc ⟨h, e⟩]
    rw [e1]
    cases ho : pu_stp call ar s.1 s.2.1 s.2.2.1 s.2.2.2 σ.1 σ.2.1 σ.2.2 with
    | none => rfl
    | some o =>
      cases o with
      | inl z => rfl
      | inr τ => exact ih (l1 ++ [s]) τ (by rw [hl]; simp) (pu_ei_stp hS hb hl he ho)
theorem pu_r1_run (hS : pu_ssa F L D)
    (hq : ∀ b l1 s l2 e m q, L b → (F b).2.1 = l1 ++ s :: l2 → pu_gk s.1 = true → s.2.1 = g → pu_ei F D b l1 e → pu_stp call ar s'.1 s'.2.1 s'.2.2.1 s'.2.2.2 e m q = pu_stp call ar s.1 s.2.1 s.2.2.1 s.2.2.2 e m q)
    {n : Nat} {e : pu_E} {m : pu_M} {q : List Int32} {r : pu_Res} (h : pu_run F call ar n 0 0 (e, m, q) = some r) : pu_run (pu_r1F F g s') call ar n 0 0 (e, m, q) = some r := by
  refine pu_sim (F := F) (F' := pu_r1F F g s') (fun b p σ b' p' σ' => b' = b ∧ p' = p ∧ σ' = σ ∧ pu_ar F L D b p σ.1) (fun _ _ _ _ _ _ h => congrArg (fun s => s.2.2) h.2.2.1) ?_ n 0 0 _ 0 0 _ r ⟨rfl, rfl, rfl, pu_ar_0 hS 0 _⟩ h
  rintro b p σ b' p' σ' o ⟨rfl, rfl, rfl, har⟩ ho
  have e1 : pu_blk (pu_r1F F g s') call ar b' p' σ' = pu_blk F call ar b' p' σ' := by
    unfold pu_blk
    show (pu_steps call ar ((F b').2.1.map (pu_t1 g s')) (pu_phs (F b').1 p' σ'.1, σ'.2)).bind _ = _
    rw [pu_r1_steps hS har.1 (fun l1 s l2 e m q h1 h2 h3 h4 => hq b' l1 s l2 e m q har.1 h1 h2 h3 h4) (F b').2.1 [] _ rfl har.2.2]
    rfl
  rw [e1]
  cases o with
  | inl r => exact Or.inl ⟨r, rfl, ho⟩
  | inr x => exact Or.inr ⟨x.1, x.2, x.1, x.2, rfl, ho, rfl, rfl, rfl, pu_ar_next hS har ho⟩
theorem pu_stp_num {k g l r c : Int32} {e : pu_E} {m : pu_M} {q : List Int32} (hop : pu_isop k = true) (h : pu_fail k (e r) = false ∧ pu_cmp k (e l) (e r) = c) : pu_stp call ar 0 g c (-1) e m q = pu_stp call ar k g l r e m q := by
  rw [pu_stp_0, pu_stp_op hop, if_neg (by rw [h.1]; decide), h.2]
theorem pu_stp_swap {k g l r l' r' : Int32} {e : pu_E} {m : pu_M} {q : List Int32} (hop : pu_isop k = true) (h : pu_fail k (e r') = pu_fail k (e r) ∧ pu_cmp k (e l') (e r') = pu_cmp k (e l) (e r)) : pu_stp call ar k g l' r' e m q = pu_stp call ar k g l r e m q := by
  rw [pu_stp_op hop, pu_stp_op hop, h.1, h.2]
end R1
