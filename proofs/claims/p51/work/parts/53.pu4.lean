/-! pure side 4: one step moved to the end of a block that dominates -/
theorem pu_ei_pre {F : pu_Flow} {L : Nat → Prop} {D : Nat → Nat → Prop} (hS : pu_ssa F L D) {b : Nat} (hb : L b) {call : pu_Call} {ar : List Int32} : ∀ (l l1 l2 : List pu_Stp) (σ τ : pu_S), (F b).2.1 = l1 ++ (l ++ l2) → pu_ei F D b l1 σ.1 → pu_steps call ar l σ = some (.inr τ) → pu_ei F D b (l1 ++ l) τ.1 := by
  intro l
  induction l with
  | nil =>
    intro l1 l2 σ τ hl he h
    cases h
    rw [List.append_nil]
    exact he
  | cons s l ih =>
    intro l1 l2 σ τ hl he h
    unfold pu_steps at h
    replace h := bnd9 h
    obtain ⟨o, ho, h⟩ := h
    cases o with
    | inl r => cases h
    | inr ρ =>
      have := ih (l1 ++ [s]) l2 ρ τ (by rw [hl]; simp) (pu_ei_stp hS hb hl he ho) h
      simpa using this
theorem pu_av_edge {F : pu_Flow} {L : Nat → Prop} {D : Nat → Nat → Prop} (hS : pu_ssa F L D) {b c : Nat} (hb : L b) (hsc : pu_sc F b c) {v : Int32} (h : pu_av F D c [] v) : v ∈ (F c).1.map Prod.fst ∨ ((∀ p ∈ (F c).1, p.1 ≠ v) ∧ pu_av F D b (F b).2.1 v) := by
  have hc := hS.2.1.1 b c hb hsc
  rcases h with h | h | ⟨d, h1, h2, h3⟩
  · exact Or.inl h
  · cases h
  · have hD := hS.2.1.2.2.2.2 b c d hb hsc h2 h1
    refine Or.inr ⟨fun p hp e => h1 (hS.2.2.2.2.1.2 d c v (pu_dlt hS hb hD) hc h3 (e ▸ pu_bl_p hp)), ?_⟩
    by_cases hdb : d = b
    · subst hdb
      rcases List.mem_append.mp h3 with h | h
      · exact Or.inl h
      · exact Or.inr (Or.inl h)
    · exact Or.inr (Or.inr ⟨d, hdb, hD, h3⟩)
theorem pu_av_c {F : pu_Flow} {D : Nat → Nat → Prop} {b : Nat} {l1 : List pu_Stp} {s : pu_Stp} {v : Int32} (h : pu_av F D b (l1 ++ [s]) v) : pu_av F D b l1 v ∨ (pu_gk s.1 = true ∧ v = s.2.1) := by
  rcases h with h | h | h
  · exact Or.inl (Or.inl h)
  · rw [pu_gvs_app] at h
    rcases List.mem_append.mp h with h | h
    · exact Or.inl (Or.inr (Or.inl h))
    · by_cases hg : pu_gk s.1 = true
      · rw [pu_gvs_c _ hg] at h
        exact Or.inr ⟨hg, List.mem_singleton.mp h⟩
      · rw [pu_gvs_n _ (by simpa using hg)] at h
        cases h
  · exact Or.inl (Or.inr (Or.inr h))
/-- the same steps over what is alike -/
theorem pu_same_steps {F : pu_Flow} {L : Nat → Prop} {D : Nat → Nat → Prop} (hS : pu_ssa F L D) {b : Nat} (hb : L b) {call : pu_Call} {ar : List Int32} :
    ∀ (l l1 l2 : List pu_Stp) (e e' : pu_E) (m : pu_M) (q : List Int32) (o : Sum pu_Res pu_S), (F b).2.1 = l1 ++ (l ++ l2) → (∀ v, pu_av F D b l1 v → e v = e' v) → pu_steps call ar l (e, m, q) = some o →
      (∃ z, o = .inl z ∧ pu_steps call ar l (e', m, q) = some (.inl z)) ∨ (∃ τ τ', o = .inr τ ∧ pu_steps call ar l (e', m, q) = some (.inr τ') ∧ (∀ v, pu_av F D b (l1 ++ l) v → τ.1 v = τ'.1 v) ∧ τ.2 = τ'.2) := by
  intro l
  induction l with
  | nil =>
    intro l1 l2 e e' m q o _ ha h
    cases h
    exact Or.inr ⟨_, _, rfl, rfl, by rw [List.append_nil]; exact ha, rfl⟩
  | cons s l ih =>
    intro l1 l2 e e' m q o hl ha h
    have hm : s ∈ (F b).2.1 := by rw [hl]; exact List.mem_append_right _ List.mem_cons_self
    have hl2 : (F b).2.1 = (l1 ++ [s]) ++ (l ++ l2) := by rw [hl]; simp
    have hu := hS.2.2.2.2.2.1 b l1 s (l ++ l2) hb hl
    unfold pu_steps at h
    replace h := bnd9 h
    obtain ⟨o1, ho1, h⟩ := h
    rcases pu_stp_cg (g' := s.2.1) (hS.2.2.2.1 b hb s hm) (fun h => ha _ (hu.1 h)) (fun h => ha _ (hu.2 h)) (fun _ => rfl) ho1 with ⟨z, rfl, h2⟩ | ⟨τ, rfl, ⟨_, x, hx, h2⟩ | ⟨hg, hx, h2⟩⟩
    · cases h
      exact Or.inl ⟨z, rfl, by unfold pu_steps; rw [h2]; rfl⟩
    · obtain ⟨e2, m2, q2⟩ := τ
      have hx : e2 = _ := hx
      subst hx
      have h3 := ih (l1 ++ [s]) l2 (pu_set e s.2.1 x) (pu_set e' s.2.1 x) m2 q2 o hl2 (fun v hv => ?_) h
      · unfold pu_steps
        rw [h2]
        simpa using h3
      · by_cases hv9 : v = s.2.1
        · rw [hv9, pu_set_s, pu_set_s]
        · rw [pu_set_n hv9, pu_set_n hv9]
          exact ha v ((pu_av_c hv).resolve_right fun c => hv9 c.2)
    · obtain ⟨e2, m2, q2⟩ := τ
      have hx : e2 = _ := hx
      subst hx
      have h3 := ih (l1 ++ [s]) l2 e2 e' m2 q2 o hl2 (fun v hv => ha v ((pu_av_c hv).resolve_right fun c => by rw [hg] at c; cases c.1)) h
      unfold pu_steps
      rw [h2]
      simpa using h3
def pu_mvF (F : pu_Flow) (P b : Nat) (s : pu_Stp) (l1 l2 : List pu_Stp) : pu_Flow := fun c => if c = P then ((F P).1, (F P).2.1 ++ [s], (F P).2.2) else if c = b then ((F b).1, l1 ++ l2, (F b).2.2) else F c
section MV
variable {F : pu_Flow} {L : Nat → Prop} {D : Nat → Nat → Prop} {P b : Nat} {s : pu_Stp} {l1 l2 : List pu_Stp}
theorem pu_mv_P : pu_mvF F P b s l1 l2 P = ((F P).1, (F P).2.1 ++ [s], (F P).2.2) := if_pos rfl
theorem pu_mv_b (h : P ≠ b) : pu_mvF F P b s l1 l2 b = ((F b).1, l1 ++ l2, (F b).2.2) := by
  unfold pu_mvF; rw [if_neg (fun c => h c.symm), if_pos rfl]
theorem pu_mv_o {c : Nat} (h1 : c ≠ P) (h2 : c ≠ b) : pu_mvF F P b s l1 l2 c = F c := by
  unfold pu_mvF; rw [if_neg h1, if_neg h2]
theorem pu_mv_1 (c : Nat) : (pu_mvF F P b s l1 l2 c).1 = (F c).1 := by
  unfold pu_mvF
  by_cases h1 : c = P
  · rw [if_pos h1, h1]
  · rw [if_neg h1]
    by_cases h2 : c = b
    · rw [if_pos h2, h2]
    · rw [if_neg h2]
theorem pu_mv_3 (c : Nat) : (pu_mvF F P b s l1 l2 c).2.2 = (F c).2.2 := by
  unfold pu_mvF
  by_cases h1 : c = P
  · rw [if_pos h1, h1]
  · rw [if_neg h1]
    by_cases h2 : c = b
    · rw [if_pos h2, h2]
    · rw [if_neg h2]
theorem pu_mv_sc (c d : Nat) : pu_sc (pu_mvF F P b s l1 l2) c d ↔ pu_sc F c d := by
  unfold pu_sc; rw [pu_mv_3]
theorem pu_mv_blP (hg : pu_gk s.1 = true) : pu_bl (pu_mvF F P b s l1 l2) P = pu_bl F P ++ [s.2.1] := by
  unfold pu_bl
  rw [pu_mv_P]
  show (F P).1.map Prod.fst ++ pu_gvs ((F P).2.1 ++ [s]) = _
  rw [pu_gvs_app, pu_gvs_c _ hg, List.append_assoc]
  rfl
theorem pu_mv_blb (hPb : P ≠ b) : pu_bl (pu_mvF F P b s l1 l2) b = (F b).1.map Prod.fst ++ (pu_gvs l1 ++ pu_gvs l2) := by
  unfold pu_bl
  rw [pu_mv_b hPb]
  show (F b).1.map Prod.fst ++ pu_gvs (l1 ++ l2) = _
  rw [pu_gvs_app]
theorem pu_mv_blF (hs : (F b).2.1 = l1 ++ s :: l2) (hg : pu_gk s.1 = true) : pu_bl F b = (F b).1.map Prod.fst ++ (pu_gvs l1 ++ s.2.1 :: pu_gvs l2) := by
  unfold pu_bl
  rw [hs, pu_gvs_app, pu_gvs_c _ hg]
/-- what was given in a block is given there, but for the moved step's -/
theorem pu_mv_in (hs : (F b).2.1 = l1 ++ s :: l2) (hg : pu_gk s.1 = true) (hPb : P ≠ b) {d : Nat} {u : Int32} (h : u ∈ pu_bl F d) : u ∈ pu_bl (pu_mvF F P b s l1 l2) d ∨ (d = b ∧ u = s.2.1) := by
  by_cases h1 : d = P
  · subst h1; rw [pu_mv_blP hg]; exact Or.inl (List.mem_append_left _ h)
  by_cases h2 : d = b
  · subst h2
    rw [pu_mv_blF hs hg] at h
    rw [pu_mv_blb hPb]
    simp only [List.mem_append, List.mem_cons] at h ⊢
    rcases h with h | h | h | h
    · exact Or.inl (Or.inl h)
    · exact Or.inl (Or.inr (Or.inl h))
    · exact Or.inr ⟨by trivial, h⟩
    · exact Or.inl (Or.inr (Or.inr h))
  · unfold pu_bl at h ⊢
    rw [pu_mv_o h1 h2]
    exact Or.inl h
theorem pu_mv_out (hs : (F b).2.1 = l1 ++ s :: l2) (hg : pu_gk s.1 = true) (hPb : P ≠ b) {d : Nat} {u : Int32} (h : u ∈ pu_bl (pu_mvF F P b s l1 l2) d) : u ∈ pu_bl F d ∨ (d = P ∧ u = s.2.1) := by
  by_cases h1 : d = P
  · subst h1; rw [pu_mv_blP hg] at h
    rcases List.mem_append.mp h with h | h
    · exact Or.inl h
    · exact Or.inr ⟨rfl, List.mem_singleton.mp h⟩
  by_cases h2 : d = b
  · subst h2
    rw [pu_mv_blF hs hg]
    rw [pu_mv_blb hPb] at h
    simp only [List.mem_append, List.mem_cons] at h ⊢
    rcases h with h | h | h
    · exact Or.inl (Or.inl h)
    · exact Or.inl (Or.inr (Or.inl h))
    · exact Or.inl (Or.inr (Or.inr (Or.inr h)))
  · unfold pu_bl at h ⊢
    rw [pu_mv_o h1 h2] at h
    exact Or.inl h
theorem pu_mv_av (hS : pu_ssa F L D) (hb : L b) (hs : (F b).2.1 = l1 ++ s :: l2) (hg : pu_gk s.1 = true) (hPb : P ≠ b) (hD : D b P) {c : Nat} (hc : L c) {a a' : List pu_Stp} {u : Int32}
    (h : pu_av F D c a u) (ha : ∀ u, u ∈ pu_gvs a → u ∈ pu_gvs a' ∨ (c = b ∧ u = s.2.1)) : pu_av (pu_mvF F P b s l1 l2) D c a' u := by
  have hnew : s.2.1 ∈ pu_bl (pu_mvF F P b s l1 l2) P := by rw [pu_mv_blP hg]; exact List.mem_append_right _ List.mem_cons_self
  have hto : ∀ d, d ≠ c → D c d → (d = b ∧ u = s.2.1) → pu_av (pu_mvF F P b s l1 l2) D c a' u := by
    rintro d h1 h2 ⟨rfl, rfl⟩
    have h3 := hS.2.1.2.2.2.1 c d P hc h2 hD
    refine Or.inr (Or.inr ⟨P, ?_, h3, hnew⟩)
    intro e
    subst e
    have := (hS.2.1.2.1 _ _ hc h2).1
    have := (hS.2.1.2.1 _ _ hb hD).1
    omega
  rcases h with h | h | ⟨d, h1, h2, h3⟩
  · exact Or.inl (by rw [pu_mv_1]; exact h)
  · rcases ha u h with h | ⟨rfl, rfl⟩
    · exact Or.inr (Or.inl h)
    · exact Or.inr (Or.inr ⟨P, hPb, hD, hnew⟩)
  · rcases pu_mv_in hs hg hPb h3 with h | h
    · exact Or.inr (Or.inr ⟨d, h1, h2, h⟩)
    · exact hto d h1 h2 h
theorem pu_mv_end (hS : pu_ssa F L D) (hb : L b) (hs : (F b).2.1 = l1 ++ s :: l2) (hg : pu_gk s.1 = true) (hPb : P ≠ b) (hD : D b P) {c : Nat} (hc : L c) {u : Int32} (h : pu_av F D c (F c).2.1 u) : pu_av (pu_mvF F P b s l1 l2) D c (pu_mvF F P b s l1 l2 c).2.1 u := by
  refine pu_mv_av hS hb hs hg hPb hD hc h fun v hv => ?_
  by_cases h1 : c = P
  · subst h1; rw [pu_mv_P, pu_gvs_app]; exact Or.inl (List.mem_append_left _ hv)
  by_cases h2 : c = b
  · subst h2
    rw [pu_mv_b hPb]
    rw [hs, pu_gvs_app, pu_gvs_c _ hg] at hv
    rw [pu_gvs_app]
    simp only [List.mem_append, List.mem_cons] at hv ⊢
    rcases hv with h | h | h
    · exact Or.inl (Or.inl h)
    · exact Or.inr ⟨by trivial, h⟩
    · exact Or.inl (Or.inr h)
  · rw [pu_mv_o h1 h2]; exact Or.inl hv
theorem pu_mv_ssa (hS : pu_ssa F L D) (hP : L P) (hb : L b) (hs : (F b).2.1 = l1 ++ s :: l2) (hg : pu_gk s.1 = true) (hPb : P ≠ b) (hD : D b P)
    (hu : (pu_ul s.1 = true → pu_av F D P (F P).2.1 s.2.2.1) ∧ (pu_ur s.1 = true → pu_av F D P (F P).2.1 s.2.2.2)) : pu_ssa (pu_mvF F P b s l1 l2) L D := by
  have hU := hS.2.2.2.2.1
  have hsb : s.2.1 ∈ pu_bl F b := pu_bl_s hs hg
  have hnb : s.2.1 ∉ pu_bl (pu_mvF F P b s l1 l2) b := by
    have hn := hU.1 b hb
    rw [pu_mv_blF hs hg] at hn
    rw [pu_mv_blb hPb]
    intro h
    have h1 := List.nodup_append.mp hn
    have h2 := List.nodup_append.mp h1.2.1
    rcases List.mem_append.mp h with h | h
    · exact h1.2.2 _ h _ (List.mem_append_right _ List.mem_cons_self) rfl
    · rcases List.mem_append.mp h with h | h
      · exact h2.2.2 _ h _ List.mem_cons_self rfl
      · exact (List.nodup_cons.mp h2.2.1).1 h
  refine ⟨hS.1, ?_, by rw [pu_mv_1]; exact hS.2.2.1, ?_, ⟨?_, ?_⟩, ?_, ?_, ?_⟩
  · have hG := hS.2.1
    exact ⟨fun c d hc h => hG.1 c d hc ((pu_mv_sc c d).mp h), hG.2.1, hG.2.2.1, hG.2.2.2.1, fun c d z hc h => hG.2.2.2.2 c d z hc ((pu_mv_sc c d).mp h)⟩
  · intro c hc t ht
    by_cases h1 : c = P
    · subst h1; rw [pu_mv_P] at ht
      rcases List.mem_append.mp ht with h | h
      · exact hS.2.2.2.1 c hc t h
      · rw [List.mem_singleton.mp h]; exact Or.inl hg
    by_cases h2 : c = b
    · subst h2; rw [pu_mv_b hPb] at ht
      refine hS.2.2.2.1 c hc t ?_
      rw [hs]
      rcases List.mem_append.mp ht with h | h
      · exact List.mem_append_left _ h
      · exact List.mem_append_right _ (List.mem_cons_of_mem _ h)
    · rw [pu_mv_o h1 h2] at ht; exact hS.2.2.2.1 c hc t ht
  · intro c hc
    by_cases h1 : c = P
    · subst h1; rw [pu_mv_blP hg]
      refine List.nodup_append.mpr ⟨hU.1 c hc, by simp, fun u hu v hv e => ?_⟩
      rw [List.mem_singleton.mp hv] at e
      exact hPb (hU.2 c b u hc hb hu (e ▸ hsb))
    by_cases h2 : c = b
    · subst h2
      have hn := hU.1 c hc
      rw [pu_mv_blF hs hg] at hn
      rw [pu_mv_blb hPb]
      refine List.Nodup.sublist ?_ hn
      exact List.Sublist.append_left (List.Sublist.append_left (List.sublist_cons_self _ _) _) _
    · have := hU.1 c hc
      unfold pu_bl at this ⊢
      rw [pu_mv_o h1 h2]; exact this
  · intro c d v hc hd h1 h2
    rcases pu_mv_out hs hg hPb h1 with h3 | ⟨h3, h4⟩
    · rcases pu_mv_out hs hg hPb h2 with h5 | ⟨h5, h6⟩
      · exact hU.2 c d v hc hd h3 h5
      · exfalso
        subst h6
        have := hU.2 c b _ hc hb h3 hsb
        subst this
        exact hnb h1
    · rcases pu_mv_out hs hg hPb h2 with h5 | ⟨h5, h6⟩
      · exfalso
        subst h4
        have := hU.2 d b _ hd hb h5 hsb
        subst this
        exact hnb h2
      · rw [h3, h5]
  · intro c a t z hc ht
    by_cases h1 : c = P
    · subst h1
      rw [pu_mv_P] at ht
      have ht : (F c).2.1 ++ [s] = a ++ t :: z := ht
      have keep : ∀ u, pu_av F D c a u → pu_av (pu_mvF F c b s l1 l2) D c a u := fun u h => pu_mv_av hS hb hs hg hPb hD hc h fun _ h => Or.inl h
      rcases List.append_eq_append_iff.mp ht with ⟨y, h2, h3⟩ | ⟨y, h2, h3⟩
      · cases y with
        | nil =>
          rw [List.append_nil] at h2
          rw [List.nil_append] at h3
          cases h3
          rw [h2]
          exact ⟨fun h => pu_mv_av hS hb hs hg hPb hD hc (hu.1 h) fun _ h => Or.inl h, fun h => pu_mv_av hS hb hs hg hPb hD hc (hu.2 h) fun _ h => Or.inl h⟩
        | cons y1 y2 => simp at h3
      · cases y with
        | nil =>
          rw [List.append_nil] at h2
          rw [List.nil_append] at h3
          cases h3
          rw [← h2]
          exact ⟨fun h => pu_mv_av hS hb hs hg hPb hD hc (hu.1 h) fun _ h => Or.inl h, fun h => pu_mv_av hS hb hs hg hPb hD hc (hu.2 h) fun _ h => Or.inl h⟩
        | cons y1 y2 =>
          cases h3
          have h9 := hS.2.2.2.2.2.1 c a t y2 hc h2
          exact ⟨fun h => keep _ (h9.1 h), fun h => keep _ (h9.2 h)⟩
    by_cases h2 : c = b
    · subst h2
      rw [pu_mv_b hPb] at ht
      have ht : l1 ++ l2 = a ++ t :: z := ht
      rcases List.append_eq_append_iff.mp ht with ⟨y, h3, h4⟩ | ⟨y, h3, h4⟩
      · have h9 := hS.2.2.2.2.2.1 c (l1 ++ s :: y) t z hc (by rw [hs, h4]; simp)
        have keep : ∀ u, pu_av F D c (l1 ++ s :: y) u → pu_av (pu_mvF F P c s l1 l2) D c a u := by
          intro u h
          refine pu_mv_av hS hb hs hg hPb hD hc h fun v hv => ?_
          rw [pu_gvs_app, pu_gvs_c _ hg] at hv
          rw [h3, pu_gvs_app]
          simp only [List.mem_append, List.mem_cons] at hv ⊢
          rcases hv with h | h | h
          · exact Or.inl (Or.inl h)
          · exact Or.inr ⟨by trivial, h⟩
          · exact Or.inl (Or.inr h)
        exact ⟨fun h => keep _ (h9.1 h), fun h => keep _ (h9.2 h)⟩
      · cases y with
        | nil =>
          rw [List.append_nil] at h3
          rw [List.nil_append] at h4
          have h9 := hS.2.2.2.2.2.1 c (l1 ++ [s]) t z hc (by rw [hs, ← h4]; simp)
          have keep : ∀ u, pu_av F D c (l1 ++ [s]) u → pu_av (pu_mvF F P c s l1 l2) D c a u := by
            intro u h
            refine pu_mv_av hS hb hs hg hPb hD hc h fun v hv => ?_
            rw [pu_gvs_app, pu_gvs_c _ hg] at hv
            rw [← h3]
            simp only [List.mem_append, List.mem_cons] at hv
            rcases hv with h | h | h
            · exact Or.inl h
            · exact Or.inr ⟨by trivial, h⟩
            · cases h
          exact ⟨fun h => keep _ (h9.1 h), fun h => keep _ (h9.2 h)⟩
        | cons y1 y2 =>
          cases h4
          have h9 := hS.2.2.2.2.2.1 c a t (y2 ++ s :: l2) hc (by rw [hs, h3]; simp)
          have keep : ∀ u, pu_av F D c a u → pu_av (pu_mvF F P c s l1 l2) D c a u := fun u h => pu_mv_av hS hb hs hg hPb hD hc h fun _ h => Or.inl h
          exact ⟨fun h => keep _ (h9.1 h), fun h => keep _ (h9.2 h)⟩
    · rw [pu_mv_o h1 h2] at ht
      have h9 := hS.2.2.2.2.2.1 c a t z hc ht
      have keep : ∀ u, pu_av F D c a u → pu_av (pu_mvF F P b s l1 l2) D c a u := fun u h => pu_mv_av hS hb hs hg hPb hD hc h fun _ h => Or.inl h
      exact ⟨fun h => keep _ (h9.1 h), fun h => keep _ (h9.2 h)⟩
  · intro c hc hk
    rw [pu_mv_3] at hk ⊢
    exact pu_mv_end hS hb hs hg hPb hD hc (hS.2.2.2.2.2.2.1 c hc hk)
  · intro c d p hc hsc hp
    rw [pu_mv_1] at hp
    exact pu_mv_end hS hb hs hg hPb hD hc (hS.2.2.2.2.2.2.2 c d p hc ((pu_mv_sc c d).mp hsc) hp)
end MV
