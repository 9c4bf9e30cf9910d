/-! pure side 2: single assignment, and what it gives -/
theorem pu_stp_env {call : pu_Call} {ar : List Int32} {k g l r : Int32} {e : pu_E} {m : pu_M} {q : List Int32} {τ : pu_S} (hk : pu_gk k = true ∨ k = 18 ∨ k = 19)
    (h : pu_stp call ar k g l r e m q = some (.inr τ)) :
    (pu_gk k = true ∧ ∃ x, τ.1 = pu_set e g x ∧ (k = 0 → x = l) ∧ (pu_isop k = true → x = pu_cmp k (e l) (e r) ∧ pu_fail k (e r) = false)) ∨ (pu_gk k = false ∧ τ.1 = e) := by
  unfold pu_stp at h
  by_cases h0 : k = 0
  · subst h0; rw [if_pos rfl] at h; cases h
    exact Or.inl ⟨by decide, l, rfl, fun _ => rfl, fun c => absurd c (by decide)⟩
  rw [if_neg h0] at h
  by_cases h1 : k = 21
  · subst h1; rw [if_pos rfl] at h; cases h
    exact Or.inl ⟨by decide, _, rfl, fun c => absurd c (by decide), fun c => absurd c (by decide)⟩
  rw [if_neg h1] at h
  by_cases h2 : k = 20
  · subst h2; rw [if_pos rfl] at h
    replace h := bnd9 h
    obtain ⟨o, _, h⟩ := h
    by_cases h3 : o.1 = 0
    · rw [if_pos h3] at h; cases h
      exact Or.inl ⟨by decide, _, rfl, fun c => absurd c (by decide), fun c => absurd c (by decide)⟩
    · rw [if_neg h3] at h; cases h
  rw [if_neg h2] at h
  by_cases h3 : k = 17
  · subst h3; rw [if_pos rfl] at h; cases h
    exact Or.inl ⟨by decide, _, rfl, fun c => absurd c (by decide), fun c => absurd c (by decide)⟩
  rw [if_neg h3] at h
  by_cases h4 : k = 18
  · subst h4; rw [if_pos rfl] at h; cases h
    exact Or.inr ⟨by decide, rfl⟩
  rw [if_neg h4] at h
  by_cases h5 : k = 19
  · subst h5; rw [if_pos rfl] at h; cases h
    exact Or.inr ⟨by decide, rfl⟩
  rw [if_neg h5] at h
  by_cases h6 : pu_fail k (e r) = true
  · rw [if_pos h6] at h; cases h
  rw [if_neg h6] at h; cases h
  refine Or.inl ⟨hk.resolve_right (fun c => c.elim h4 h5), _, rfl, fun c => absurd c h0, fun _ => ⟨rfl, by simpa using h6⟩⟩
theorem pu_ul_op {k : Int32} (h0 : ¬ k = 0) (h1 : ¬ k = 21) (h2 : ¬ k = 20) (hk : pu_gk k = true ∨ k = 18 ∨ k = 19) : pu_ul k = true := by
  unfold pu_gk pu_ul at *
  rw [decide_eq_true_iff] at *
  simp only [Int32.le_iff_toInt_le, ← Int32.toInt_inj] at *
  have e0 : Int32.toInt 0 = 0 := by decide
  have e1 : Int32.toInt 1 = 1 := by decide
  have e17 : Int32.toInt 17 = 17 := by decide
  have e18 : Int32.toInt 18 = 18 := by decide
  have e19 : Int32.toInt 19 = 19 := by decide
  have e20 : Int32.toInt 20 = 20 := by decide
  have e21 : Int32.toInt 21 = 21 := by decide
  have e25 : Int32.toInt 25 = 25 := by decide
  have e27 : Int32.toInt 27 = 27 := by decide
  rw [e0, e17, e18, e19, e20, e21] at hk
  rw [e0] at h0
  rw [e21] at h1
  rw [e20] at h2
  rw [e1, e19, e25, e27]
  omega
theorem pu_ur_op {k : Int32} (h0 : ¬ k = 0) (h1 : ¬ k = 21) (h2 : ¬ k = 20) (h3 : ¬ k = 17) (h5 : ¬ k = 19) (hk : pu_gk k = true ∨ k = 18 ∨ k = 19) : pu_ur k = true := by
  unfold pu_gk pu_ur at *
  rw [decide_eq_true_iff] at *
  simp only [Int32.le_iff_toInt_le, ← Int32.toInt_inj] at *
  have e0 : Int32.toInt 0 = 0 := by decide
  have e1 : Int32.toInt 1 = 1 := by decide
  have e16 : Int32.toInt 16 = 16 := by decide
  have e17 : Int32.toInt 17 = 17 := by decide
  have e18 : Int32.toInt 18 = 18 := by decide
  have e19 : Int32.toInt 19 = 19 := by decide
  have e20 : Int32.toInt 20 = 20 := by decide
  have e21 : Int32.toInt 21 = 21 := by decide
  rw [e0, e17, e18, e19, e20, e21] at hk
  rw [e0] at h0
  rw [e21] at h1
  rw [e20] at h2
  rw [e17] at h3
  rw [e19] at h5
  rw [e1, e16, e18]
  omega
/-- a step over values that are alike does alike -/
theorem pu_stp_cg {call : pu_Call} {ar : List Int32} {k g l r g' l' r' : Int32} {e e' : pu_E} {m : pu_M} {q : List Int32} {o : Sum pu_Res pu_S} (hk : pu_gk k = true ∨ k = 18 ∨ k = 19)
    (hl : pu_ul k = true → e l = e' l') (hr : pu_ur k = true → e r = e' r') (hp : pu_ul k = false → l = l') (h : pu_stp call ar k g l r e m q = some o) :
    (∃ z, o = .inl z ∧ pu_stp call ar k g' l' r' e' m q = some (.inl z)) ∨ (∃ τ, o = .inr τ ∧ ((pu_gk k = true ∧ ∃ x, τ.1 = pu_set e g x ∧ pu_stp call ar k g' l' r' e' m q = some (.inr (pu_set e' g' x, τ.2))) ∨ (pu_gk k = false ∧ τ.1 = e ∧ pu_stp call ar k g' l' r' e' m q = some (.inr (e', τ.2))))) := by
  unfold pu_stp at h ⊢
  by_cases h0 : k = 0
  · subst h0; rw [if_pos rfl] at h ⊢; cases h
    have hp := hp (by decide); subst hp
    exact Or.inr ⟨_, rfl, Or.inl ⟨by decide, _, rfl, rfl⟩⟩
  rw [if_neg h0] at h ⊢
  by_cases h1 : k = 21
  · subst h1; rw [if_pos rfl] at h ⊢; cases h
    have hp := hp (by decide); subst hp
    exact Or.inr ⟨_, rfl, Or.inl ⟨by decide, _, rfl, rfl⟩⟩
  rw [if_neg h1] at h ⊢
  by_cases h2 : k = 20
  · subst h2; rw [if_pos rfl] at h ⊢
    have hp := hp (by decide); subst hp
    replace h := bnd9 h
    obtain ⟨z, hz, h⟩ := h
    rw [hz]
    by_cases h3 : z.1 = 0
    · rw [if_pos h3] at h; cases h
      refine Or.inr ⟨_, rfl, Or.inl ⟨by decide, z.2.1, rfl, ?_⟩⟩
      show (if z.1 = 0 then _ else _) = _
      rw [if_pos h3]
    · rw [if_neg h3] at h; cases h
      refine Or.inl ⟨_, rfl, ?_⟩
      show (if z.1 = 0 then _ else _) = _
      rw [if_neg h3]
  rw [if_neg h2] at h ⊢
  have hL := hl (pu_ul_op h0 h1 h2 hk)
  by_cases h3 : k = 17
  · subst h3; rw [if_pos rfl] at h ⊢; cases h
    rw [hL]
    exact Or.inr ⟨_, rfl, Or.inl ⟨by decide, _, rfl, rfl⟩⟩
  rw [if_neg h3] at h ⊢
  by_cases h5 : k = 19
  · subst h5
    rw [if_neg (by decide), if_pos rfl] at h ⊢; cases h
    rw [hL]
    exact Or.inr ⟨_, rfl, Or.inr ⟨by decide, rfl, rfl⟩⟩
  have hR := hr (pu_ur_op h0 h1 h2 h3 h5 hk)
  by_cases h4 : k = 18
  · subst h4; rw [if_pos rfl] at h ⊢; cases h
    rw [hL, hR]
    exact Or.inr ⟨_, rfl, Or.inr ⟨by decide, rfl, rfl⟩⟩
  rw [if_neg h4] at h ⊢
  rw [if_neg h5] at h ⊢
  rw [← hL, ← hR]
  by_cases h6 : pu_fail k (e r) = true
  · rw [if_pos h6] at h ⊢; cases h
    exact Or.inl ⟨_, rfl, rfl⟩
  rw [if_neg h6] at h ⊢; cases h
  exact Or.inr ⟨_, rfl, Or.inl ⟨hk.resolve_right (fun c => c.elim h4 h5), _, rfl, rfl⟩⟩

def pu_gvs (l : List pu_Stp) : List Int32 := (l.filter (fun s => pu_gk s.1)).map (fun s => s.2.1)
theorem pu_gvs_app (a b : List pu_Stp) : pu_gvs (a ++ b) = pu_gvs a ++ pu_gvs b := by
  unfold pu_gvs; rw [List.filter_append, List.map_append]
theorem pu_gvs_c {s : pu_Stp} (l : List pu_Stp) (h : pu_gk s.1 = true) : pu_gvs (s :: l) = s.2.1 :: pu_gvs l := by
  unfold pu_gvs; rw [List.filter_cons, if_pos h, List.map_cons]
theorem pu_gvs_n {s : pu_Stp} (l : List pu_Stp) (h : pu_gk s.1 = false) : pu_gvs (s :: l) = pu_gvs l := by
  unfold pu_gvs; rw [List.filter_cons, if_neg (by rw [h]; decide)]
theorem pu_gvs_mem {s : pu_Stp} {l : List pu_Stp} (h : s ∈ l) (hg : pu_gk s.1 = true) : s.2.1 ∈ pu_gvs l := List.mem_map_of_mem (List.mem_filter.mpr ⟨h, hg⟩)
theorem pu_gvs_get {v : Int32} {l : List pu_Stp} (h : v ∈ pu_gvs l) : ∃ s, s ∈ l ∧ pu_gk s.1 = true ∧ s.2.1 = v := by
  obtain ⟨s, hs, rfl⟩ := List.mem_map.mp h
  exact ⟨s, (List.mem_filter.mp hs).1, (List.mem_filter.mp hs).2, rfl⟩
def pu_bl (F : pu_Flow) (b : Nat) : List Int32 := (F b).1.map Prod.fst ++ pu_gvs (F b).2.1
/-- given ahead of this place of a block, or in one that dominates it -/
def pu_av (F : pu_Flow) (D : Nat → Nat → Prop) (b : Nat) (l1 : List pu_Stp) (v : Int32) : Prop := v ∈ (F b).1.map Prod.fst ∨ v ∈ pu_gvs l1 ∨ ∃ d, d ≠ b ∧ D b d ∧ v ∈ pu_bl F d
def pu_grf (F : pu_Flow) (L : Nat → Prop) (D : Nat → Nat → Prop) : Prop :=
  (∀ b c, L b → pu_sc F b c → L c) ∧ (∀ b d, L b → D b d → d ≤ b ∧ L d) ∧ (∀ b, L b → D b b) ∧ (∀ b d e, L b → D b d → D d e → D b e) ∧ (∀ b c d, L b → pu_sc F b c → D c d → d ≠ c → D b d)
def pu_kds (F : pu_Flow) (L : Nat → Prop) : Prop := ∀ b, L b → ∀ s ∈ (F b).2.1, pu_gk s.1 = true ∨ s.1 = 18 ∨ s.1 = 19
def pu_unq (F : pu_Flow) (L : Nat → Prop) : Prop := (∀ b, L b → (pu_bl F b).Nodup) ∧ (∀ b c v, L b → L c → v ∈ pu_bl F b → v ∈ pu_bl F c → b = c)
def pu_uss (F : pu_Flow) (L : Nat → Prop) (D : Nat → Nat → Prop) : Prop :=
  (∀ b l1 s l2, L b → (F b).2.1 = l1 ++ s :: l2 → (pu_ul s.1 = true → pu_av F D b l1 s.2.2.1) ∧ (pu_ur s.1 = true → pu_av F D b l1 s.2.2.2)) ∧
  (∀ b, L b → ((F b).2.2.1 = 23 ∨ (F b).2.2.1 = 24) → pu_av F D b (F b).2.1 (F b).2.2.2.1) ∧
  (∀ b c p, L b → pu_sc F b c → p ∈ (F c).1 → pu_av F D b (F b).2.1 (p.2 b))
def pu_ssa (F : pu_Flow) (L : Nat → Prop) (D : Nat → Nat → Prop) : Prop := L 0 ∧ pu_grf F L D ∧ (F 0).1 = [] ∧ pu_kds F L ∧ pu_unq F L ∧ pu_uss F L D
/-- equations of steps -/
def pu_eq (s : pu_Stp) (e : pu_E) : Prop := (s.1 = 0 → e s.2.1 = s.2.2.1) ∧ (pu_isop s.1 = true → e s.2.1 = pu_cmp s.1 (e s.2.2.1) (e s.2.2.2) ∧ pu_fail s.1 (e s.2.2.2) = false)
def pu_ei (F : pu_Flow) (D : Nat → Nat → Prop) (b : Nat) (l1 : List pu_Stp) (e : pu_E) : Prop := (∀ s ∈ l1, pu_eq s e) ∧ ∀ d, d ≠ b → D b d → ∀ s ∈ (F d).2.1, pu_eq s e
theorem pu_op_gk {k : Int32} (h : pu_isop k = true) : pu_gk k = true := by
  unfold pu_isop at h
  unfold pu_gk
  rw [decide_eq_true_iff] at *
  simp only [Int32.le_iff_toInt_le, ← Int32.toInt_inj] at *
  have e0 : Int32.toInt 0 = 0 := by decide
  have e1 : Int32.toInt 1 = 1 := by decide
  have e16 : Int32.toInt 16 = 16 := by decide
  have e17 : Int32.toInt 17 = 17 := by decide
  have e20 : Int32.toInt 20 = 20 := by decide
  have e21 : Int32.toInt 21 = 21 := by decide
  rw [e1, e16] at h
  rw [e0, e17, e20, e21]
  omega
theorem pu_op_u {k : Int32} (h : pu_isop k = true) : pu_ul k = true ∧ pu_ur k = true := by
  unfold pu_isop at h
  unfold pu_ul pu_ur
  rw [decide_eq_true_iff] at *
  rw [decide_eq_true_iff]
  simp only [Int32.le_iff_toInt_le, ← Int32.toInt_inj] at *
  have e1 : Int32.toInt 1 = 1 := by decide
  have e16 : Int32.toInt 16 = 16 := by decide
  have e18 : Int32.toInt 18 = 18 := by decide
  have e19 : Int32.toInt 19 = 19 := by decide
  have e25 : Int32.toInt 25 = 25 := by decide
  have e27 : Int32.toInt 27 = 27 := by decide
  rw [e1, e16] at h
  rw [e1, e16, e18, e19, e25, e27]
  omega
theorem pu_bl_s {F : pu_Flow} {b : Nat} {l1 l2 : List pu_Stp} {s : pu_Stp} (h : (F b).2.1 = l1 ++ s :: l2) (hg : pu_gk s.1 = true) : s.2.1 ∈ pu_bl F b := by
  refine List.mem_append_right _ (pu_gvs_mem ?_ hg)
  rw [h]
  exact List.mem_append_right _ List.mem_cons_self
theorem pu_bl_m {F : pu_Flow} {b : Nat} {s : pu_Stp} (h : s ∈ (F b).2.1) (hg : pu_gk s.1 = true) : s.2.1 ∈ pu_bl F b := List.mem_append_right _ (pu_gvs_mem h hg)
theorem pu_bl_p {F : pu_Flow} {b : Nat} {p : pu_Phi} (h : p ∈ (F b).1) : p.1 ∈ pu_bl F b := List.mem_append_left _ (List.mem_map_of_mem h)
theorem pu_bl_1 {F : pu_Flow} {b : Nat} {l1 l2 : List pu_Stp} {v : Int32} (h : (F b).2.1 = l1 ++ l2) (hv : v ∈ pu_gvs l1) : v ∈ pu_bl F b := by
  refine List.mem_append_right _ ?_
  rw [h, pu_gvs_app]
  exact List.mem_append_left _ hv
/-- of what is given here nothing was given ahead in the block -/
theorem pu_fresh {F : pu_Flow} {L : Nat → Prop} (hU : pu_unq F L) {b : Nat} (hb : L b) {l1 l2 : List pu_Stp} {s : pu_Stp} (h : (F b).2.1 = l1 ++ s :: l2) (hg : pu_gk s.1 = true) {u : Int32} (hu : u ∈ (F b).1.map Prod.fst ∨ u ∈ pu_gvs l1) : u ≠ s.2.1 := by
  have hn := hU.1 b hb
  unfold pu_bl at hn
  rw [h, pu_gvs_app, pu_gvs_c _ hg, ← List.append_assoc] at hn
  exact (List.nodup_append.mp hn).2.2 u (List.mem_append.mpr hu) s.2.1 List.mem_cons_self
/-- where a value that is used by a block's step is given -/
theorem pu_av_bl {F : pu_Flow} {D : Nat → Nat → Prop} {d : Nat} {l1 l2 : List pu_Stp} {u : Int32} (h : (F d).2.1 = l1 ++ l2) (ha : pu_av F D d l1 u) : u ∈ pu_bl F d ∨ ∃ c, c ≠ d ∧ D d c ∧ u ∈ pu_bl F c := by
  rcases ha with ha | ha | ha
  · exact Or.inl (List.mem_append_left _ ha)
  · exact Or.inl (pu_bl_1 h ha)
  · exact Or.inr ha
theorem pu_dlt {F : pu_Flow} {L : Nat → Prop} {D : Nat → Nat → Prop} (hS : pu_ssa F L D) {b d : Nat} (hb : L b) (h : D b d) : L d := (hS.2.1.2.1 b d hb h).2
/-- what a block that dominates uses is not given here -/
theorem pu_av_d {F : pu_Flow} {L : Nat → Prop} {D : Nat → Nat → Prop} (hS : pu_ssa F L D) {b d : Nat} {l1 l2 : List pu_Stp} {u v : Int32} (hb : L b) (hdb : d ≠ b) (hD : D b d) (h : (F d).2.1 = l1 ++ l2) (ha : pu_av F D d l1 u) (hv : v ∈ pu_bl F b) : u ≠ v := by
  intro c
  subst c
  have hd := pu_dlt hS hb hD
  have hU := hS.2.2.2.2.1
  rcases pu_av_bl h ha with h1 | ⟨c, h1, h2, h3⟩
  · exact hdb (hU.2 d b u hd hb h1 hv)
  · have hc := hU.2 c b u (pu_dlt hS hd h2) hb h3 hv
    subst hc
    have := (hS.2.1.2.1 _ _ hd h2).1
    have := (hS.2.1.2.1 _ _ hb hD).1
    omega
theorem pu_eq_set {t : pu_Stp} {e : pu_E} {v x : Int32} (h : pu_eq t e) (h1 : pu_gk t.1 = true → t.2.1 ≠ v) (h2 : pu_ul t.1 = true → t.2.2.1 ≠ v) (h3 : pu_ur t.1 = true → t.2.2.2 ≠ v) : pu_eq t (pu_set e v x) := by
  refine ⟨fun h0 => ?_, fun ho => ?_⟩
  · rw [pu_set_n (h1 (by rw [h0]; decide))]; exact h.1 h0
  · rw [pu_set_n (h1 (pu_op_gk ho)), pu_set_n (h2 (pu_op_u ho).1), pu_set_n (h3 (pu_op_u ho).2)]; exact h.2 ho
theorem pu_ei_stp {F : pu_Flow} {L : Nat → Prop} {D : Nat → Nat → Prop} (hS : pu_ssa F L D) {b : Nat} {l1 l2 : List pu_Stp} {s : pu_Stp} {e : pu_E} (hb : L b) (hs : (F b).2.1 = l1 ++ s :: l2) (he : pu_ei F D b l1 e)
    {call : pu_Call} {ar : List Int32} {m : pu_M} {q : List Int32} {τ : pu_S} (h : pu_stp call ar s.1 s.2.1 s.2.2.1 s.2.2.2 e m q = some (.inr τ)) : pu_ei F D b (l1 ++ [s]) τ.1 := by
  have hk := hS.2.2.2.1 b hb s (by rw [hs]; exact List.mem_append_right _ List.mem_cons_self)
  have hU := hS.2.2.2.2.1
  have hus := hS.2.2.2.2.2.1
  rcases pu_stp_env hk h with ⟨hg, x, hx, hx0, hxo⟩ | ⟨hg, hx⟩
  · rw [hx]
    have hv := pu_bl_s hs hg
    have hown : ∀ u, pu_av F D b l1 u → u ≠ s.2.1 := by
      intro u hu c
      rcases hu with hu | hu | ⟨d, h1, h2, h3⟩
      · exact pu_fresh hU hb hs hg (Or.inl hu) c
      · exact pu_fresh hU hb hs hg (Or.inr hu) c
      · exact h1 (hU.2 d b u (pu_dlt hS hb h2) hb h3 (c ▸ hv))
    refine ⟨fun t ht => ?_, fun d hd hD t ht => ?_⟩
    · rcases List.mem_append.mp ht with ht | ht
      · obtain ⟨a, c, rfl⟩ := List.append_of_mem ht
        have hs2 : (F b).2.1 = a ++ t :: (c ++ s :: l2) := by rw [hs]; simp
        have hu := hus b a t _ hb hs2
        have hsub : ∀ u, pu_av F D b a u → u ≠ s.2.1 := by
          intro u hu
          refine hown u ?_
          rcases hu with hu | hu | hu
          · exact Or.inl hu
          · exact Or.inr (Or.inl (by rw [pu_gvs_app]; exact List.mem_append_left _ hu))
          · exact Or.inr (Or.inr hu)
        exact pu_eq_set (he.1 t ht) (fun hg2 => pu_fresh hU hb hs hg (Or.inr (pu_gvs_mem ht hg2))) (fun h => hsub _ (hu.1 h)) (fun h => hsub _ (hu.2 h))
      · obtain rfl := List.mem_singleton.mp ht
        have hu := hus b l1 t l2 hb hs
        refine ⟨fun h0 => by rw [pu_set_s]; exact hx0 h0, fun ho => ?_⟩
        rw [pu_set_s, pu_set_n (hown _ (hu.1 (pu_op_u ho).1)), pu_set_n (hown _ (hu.2 (pu_op_u ho).2))]
        exact hxo ho
    · have hdB := pu_dlt hS hb hD
      obtain ⟨a, c, hs2⟩ := List.append_of_mem ht
      have hu := hus d a t c hdB hs2
      refine pu_eq_set (he.2 d hd hD t ht) (fun hg2 c9 => ?_) (fun h => pu_av_d hS hb hd hD hs2 (hu.1 h) hv) (fun h => pu_av_d hS hb hd hD hs2 (hu.2 h) hv)
      exact hd (hU.2 d b _ hdB hb (pu_bl_m ht hg2) (c9 ▸ hv))
  · rw [hx]
    refine ⟨fun t ht => ?_, he.2⟩
    rcases List.mem_append.mp ht with ht | ht
    · exact he.1 t ht
    · obtain rfl := List.mem_singleton.mp ht
      refine ⟨fun h0 => ?_, fun ho => ?_⟩
      · rw [h0] at hg; exact absurd hg (by decide)
      · rw [pu_op_gk ho] at hg; cases hg
theorem pu_ei_edge {F : pu_Flow} {L : Nat → Prop} {D : Nat → Nat → Prop} (hS : pu_ssa F L D) {b c : Nat} {e : pu_E} (hb : L b) (hsc : pu_sc F b c) (he : pu_ei F D b (F b).2.1 e) : pu_ei F D c [] (pu_phs (F c).1 b e) := by
  have hG := hS.2.1
  have hc : L c := hG.1 b c hb hsc
  refine ⟨fun t ht => (by cases ht), fun d hdc hD t ht => ?_⟩
  have hDb : D b d := hG.2.2.2.2 b c d hb hsc hD hdc
  have hd : L d := pu_dlt hS hb hDb
  have h9 : pu_eq t e := by
    by_cases h : d = b
    · subst h; exact he.1 t ht
    · exact he.2 d h hDb t ht
  have hne : pu_gk t.1 = true → pu_phs (F c).1 b e t.2.1 = e t.2.1 := by
    intro hg2
    exact pu_phs_n fun p hp h => hdc (hS.2.2.2.2.1.2 d c p.1 hd hc (h ▸ pu_bl_m ht hg2) (pu_bl_p hp))
  obtain ⟨a, z, hs2⟩ := List.append_of_mem ht
  have hnu : ∀ u, pu_av F D d a u → pu_phs (F c).1 b e u = e u := fun u hu => pu_phs_n fun p hp h => pu_av_d hS hc hdc hD hs2 hu (pu_bl_p hp) h.symm
  have hu := hS.2.2.2.2.2.1 d a t z hd hs2
  refine ⟨fun h0 => ?_, fun ho => ?_⟩
  · rw [hne (by rw [h0]; decide)]; exact h9.1 h0
  · rw [hne (pu_op_gk ho), hnu _ (hu.1 (pu_op_u ho).1), hnu _ (hu.2 (pu_op_u ho).2)]; exact h9.2 ho
/-- on the way into a block -/
def pu_ar (F : pu_Flow) (L : Nat → Prop) (D : Nat → Nat → Prop) (b p : Nat) (e : pu_E) : Prop := L b ∧ (b = 0 ∨ (L p ∧ pu_sc F p b)) ∧ pu_ei F D b [] (pu_phs (F b).1 p e)
theorem pu_ar_0 {F : pu_Flow} {L : Nat → Prop} {D : Nat → Nat → Prop} (hS : pu_ssa F L D) (p : Nat) (e : pu_E) : pu_ar F L D 0 p e := by
  refine ⟨hS.1, Or.inl rfl, fun t ht => (by cases ht), fun d h1 h2 => ?_⟩
  have := (hS.2.1.2.1 0 d hS.1 h2).1
  omega
theorem pu_ei_steps {F : pu_Flow} {L : Nat → Prop} {D : Nat → Nat → Prop} (hS : pu_ssa F L D) {b : Nat} (hb : L b) {call : pu_Call} {ar : List Int32} : ∀ (l l1 : List pu_Stp) (σ τ : pu_S), (F b).2.1 = l1 ++ l → pu_ei F D b l1 σ.1 → pu_steps call ar l σ = some (.inr τ) → pu_ei F D b (F b).2.1 τ.1 := by
  intro l
  induction l with
  | nil =>
    intro l1 σ τ hl he h
    cases h
    rw [hl, List.append_nil]
    exact he
  | cons s l ih =>
    intro l1 σ τ hl he h
    unfold pu_steps at h
    replace h := bnd9 h
    obtain ⟨o, ho, h⟩ := h
    cases o with
    | inl r => cases h
    | inr ρ => exact ih (l1 ++ [s]) ρ τ (by rw [hl]; simp) (pu_ei_stp hS hb hl he ho) h
theorem pu_ar_next {F : pu_Flow} {L : Nat → Prop} {D : Nat → Nat → Prop} (hS : pu_ssa F L D) {call : pu_Call} {ar : List Int32} {b p c : Nat} {σ τ : pu_S} (ha : pu_ar F L D b p σ.1) (h : pu_blk F call ar b p σ = some (.inr (c, τ))) : pu_ar F L D c b τ.1 := by
  unfold pu_blk at h
  replace h := bnd9 h
  obtain ⟨o, ho, h⟩ := h
  cases o with
  | inl r => cases h
  | inr ρ =>
    have h1 : pu_end (F b).2.2 ρ = .inr (c, τ) := Option.some.inj h
    obtain ⟨h2, rfl⟩ := pu_end_sc h1
    exact ⟨hS.2.1.1 b c ha.1 h2, Or.inr ⟨ha.1, h2⟩, pu_ei_edge hS ha.1 h2 (pu_ei_steps hS ha.1 _ [] _ _ rfl ha.2.2 ho)⟩
