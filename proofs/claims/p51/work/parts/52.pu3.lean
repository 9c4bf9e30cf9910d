/-! pure side 3: what isn't wanted is left out -/
theorem pu_apart {F : pu_Flow} {L : Nat → Prop} (hU : pu_unq F L) {b : Nat} (hb : L b) {l1 l2 : List pu_Stp} (h : (F b).2.1 = l1 ++ l2) {u v : Int32} (hu : u ∈ (F b).1.map Prod.fst ∨ u ∈ pu_gvs l1) (hv : v ∈ pu_gvs l2) : u ≠ v := by
  have hn := hU.1 b hb
  unfold pu_bl at hn
  rw [h, pu_gvs_app, ← List.append_assoc] at hn
  exact (List.nodup_append.mp hn).2.2 u (List.mem_append.mpr hu) v hv
def pu_safe (F : pu_Flow) (L : Nat → Prop) (s : pu_Stp) : Prop := (s.1 = 4 ∨ s.1 = 5) → ∃ d t, L d ∧ t ∈ (F d).2.1 ∧ t.1 = 0 ∧ t.2.1 = s.2.2.2 ∧ t.2.2.1 ≠ 0
/-- the equation of a number holds where the number may be used -/
theorem pu_num {F : pu_Flow} {L : Nat → Prop} {D : Nat → Nat → Prop} (hS : pu_ssa F L D) {b d : Nat} {l1 l2 : List pu_Stp} {t : pu_Stp} {e : pu_E} (hb : L b) (hs : (F b).2.1 = l1 ++ l2) (he : pu_ei F D b l1 e) (hd : L d) (ht : t ∈ (F d).2.1) (hg : pu_gk t.1 = true) (ha : pu_av F D b l1 t.2.1) : pu_eq t e := by
  have hv := pu_bl_m ht hg
  have hU := hS.2.2.2.2.1
  by_cases hdb : d = b
  · subst hdb
    rw [hs] at ht
    rcases List.mem_append.mp ht with ht | ht
    · exact he.1 t ht
    · exfalso
      have hv2 := pu_gvs_mem ht hg
      rcases ha with h | h | ⟨c, h1, h2, h3⟩
      · exact pu_apart hU hb hs (Or.inl h) hv2 rfl
      · exact pu_apart hU hb hs (Or.inr h) hv2 rfl
      · exact h1 (hU.2 c d _ (pu_dlt hS hb h2) hb h3 hv)
  · rcases ha with h | h | ⟨c, h1, h2, h3⟩
    · exact absurd (hU.2 d b _ hd hb hv (List.mem_append_left _ h)) hdb
    · exact absurd (hU.2 d b _ hd hb hv (pu_bl_1 hs h)) hdb
    · have h4 := hU.2 d c _ hd (pu_dlt hS hb h2) hv h3
      subst h4
      exact he.2 d hdb h2 t ht
theorem pu_safe_nz {F : pu_Flow} {L : Nat → Prop} {D : Nat → Nat → Prop} (hS : pu_ssa F L D) {b : Nat} {l1 l2 : List pu_Stp} {s : pu_Stp} {e : pu_E} (hb : L b) (hs : (F b).2.1 = l1 ++ s :: l2) (he : pu_ei F D b l1 e) (hf : pu_safe F L s) : pu_fail s.1 (e s.2.2.2) = false := by
  unfold pu_fail
  rw [decide_eq_false_iff_not]
  rintro ⟨h45, h0⟩
  obtain ⟨d, t, hd, ht, hk, hg, hn⟩ := hf h45
  have hur : pu_ur s.1 = true := by rcases h45 with h | h <;> rw [h] <;> decide
  have hav := (hS.2.2.2.2.2.1 b l1 s l2 hb hs).2 hur
  have heq := pu_num hS hb hs he hd ht (by rw [hk]; decide) (by rw [hg]; exact hav)
  refine hn ?_
  rw [← heq.1 hk, hg]
  exact h0
theorem pu_stp_pure {call : pu_Call} {ar : List Int32} {k g l r : Int32} {e : pu_E} {m : pu_M} {q : List Int32} (hg : pu_gk k = true) (h20 : k ≠ 20) (hf : pu_fail k (e r) = false) : ∃ x, pu_stp call ar k g l r e m q = some (.inr (pu_set e g x, m, q)) := by
  unfold pu_stp
  by_cases h0 : k = 0
  · rw [if_pos h0]; exact ⟨_, rfl⟩
  rw [if_neg h0]
  by_cases h1 : k = 21
  · rw [if_pos h1]; exact ⟨_, rfl⟩
  rw [if_neg h1, if_neg h20]
  by_cases h3 : k = 17
  · rw [if_pos h3]; exact ⟨_, rfl⟩
  rw [if_neg h3]
  by_cases h4 : k = 18
  · rw [h4] at hg; exact absurd hg (by decide)
  rw [if_neg h4]
  by_cases h5 : k = 19
  · rw [h5] at hg; exact absurd hg (by decide)
  rw [if_neg h5, if_neg (by rw [hf]; decide)]
  exact ⟨_, rfl⟩
theorem pu_end_cg {k v v' f s : Int32} {τ τ' : pu_S} (h : (k = 23 ∨ k = 24) → τ.1 v = τ'.1 v') (hq : τ.2 = τ'.2) :
    (∃ z, pu_end (k, v, f, s) τ = .inl z ∧ pu_end (k, v', f, s) τ' = .inl z) ∨ (∃ c, pu_end (k, v, f, s) τ = .inr (c, τ) ∧ pu_end (k, v', f, s) τ' = .inr (c, τ')) := by
  unfold pu_end
  by_cases h1 : k = 24
  · refine Or.inl ⟨(pu_rq τ.2.2, τ.1 v, τ.2.1), ?_, ?_⟩
    · exact if_pos h1
    · rw [h (Or.inr h1), hq]; exact if_pos h1
  · by_cases h2 : k = 23
    · have h3 := h (Or.inl h2)
      by_cases h4 : τ.1 v = 0
      · refine Or.inr ⟨nn s, ?_, ?_⟩
        · rw [if_neg h1, if_pos ⟨h2, h4⟩]
        · rw [if_neg h1, if_pos ⟨h2, h3 ▸ h4⟩]
      · refine Or.inr ⟨nn f, ?_, ?_⟩
        · rw [if_neg h1, if_neg (fun c => h4 c.2)]
        · rw [if_neg h1, if_neg (fun c => h4 (h3.trans c.2))]
    · refine Or.inr ⟨nn f, ?_, ?_⟩
      · rw [if_neg h1, if_neg (fun c => h2 c.1)]
      · rw [if_neg h1, if_neg (fun c => h2 c.1)]
def pu_kp (W : Int32 → Bool) (s : pu_Stp) : Bool := !pu_gk s.1 || W s.2.1
def pu_dropF (F : pu_Flow) (W : Int32 → Bool) : pu_Flow := fun b => ((F b).1.filter (fun p => W p.1), (F b).2.1.filter (pu_kp W), (F b).2.2)
theorem pu_drop_steps {F : pu_Flow} {L : Nat → Prop} {D : Nat → Nat → Prop} (hS : pu_ssa F L D) {W : Int32 → Bool} {b : Nat} (hb : L b) {call : pu_Call} {ar : List Int32}
    (hU : ∀ s ∈ (F b).2.1, pu_kp W s = true → (pu_ul s.1 = true → W s.2.2.1 = true) ∧ (pu_ur s.1 = true → W s.2.2.2 = true))
    (hD : ∀ s ∈ (F b).2.1, pu_kp W s = false → s.1 ≠ 20 ∧ pu_safe F L s) :
    ∀ (l l1 : List pu_Stp) (e e' : pu_E) (m : pu_M) (q : List Int32) (o : Sum pu_Res pu_S), (F b).2.1 = l1 ++ l → pu_ei F D b l1 e → (∀ v, W v = true → e v = e' v) → pu_steps call ar l (e, m, q) = some o →
      (∃ z, o = .inl z ∧ pu_steps call ar (l.filter (pu_kp W)) (e', m, q) = some (.inl z)) ∨ (∃ τ τ', o = .inr τ ∧ pu_steps call ar (l.filter (pu_kp W)) (e', m, q) = some (.inr τ') ∧ (∀ v, W v = true → τ.1 v = τ'.1 v) ∧ τ.2 = τ'.2) := by
  intro l
  induction l with
  | nil =>
    intro l1 e e' m q o _ _ ha h
    cases h
    exact Or.inr ⟨_, _, rfl, rfl, ha, rfl⟩
  | cons s l ih =>
    intro l1 e e' m q o hl he ha h
    have hm : s ∈ (F b).2.1 := by rw [hl]; exact List.mem_append_right _ List.mem_cons_self
    have hl2 : (F b).2.1 = (l1 ++ [s]) ++ l := by rw [hl]; simp
    unfold pu_steps at h
    replace h := bnd9 h
    obtain ⟨o1, ho1, h⟩ := h
    by_cases hk : pu_kp W s = true
    · rw [List.filter_cons, if_pos hk]
      have hu := hU s hm hk
      rcases pu_stp_cg (g' := s.2.1) (hS.2.2.2.1 b hb s hm) (fun h => ha _ (hu.1 h)) (fun h => ha _ (hu.2 h)) (fun _ => rfl) ho1 with ⟨z, rfl, h2⟩ | ⟨τ, rfl, ⟨_, x, hx, h2⟩ | ⟨_, hx, h2⟩⟩
      · cases h
        exact Or.inl ⟨z, rfl, by unfold pu_steps; rw [h2]; rfl⟩
      · have he2 := pu_ei_stp hS hb hl he ho1
        obtain ⟨e2, m2, q2⟩ := τ
        have hx : e2 = _ := hx
        subst hx
        have h3 := ih (l1 ++ [s]) (pu_set e s.2.1 x) (pu_set e' s.2.1 x) m2 q2 o hl2 he2 (fun v hv => by unfold pu_set; rw [ha v hv]) h
        unfold pu_steps
        rw [h2]
        exact h3
      · have he2 := pu_ei_stp hS hb hl he ho1
        obtain ⟨e2, m2, q2⟩ := τ
        have hx : e2 = _ := hx
        subst hx
        have h3 := ih (l1 ++ [s]) e2 e' m2 q2 o hl2 he2 ha h
        unfold pu_steps
        rw [h2]
        exact h3
    · have hk : pu_kp W s = false := by simpa using hk
      rw [List.filter_cons, if_neg (by rw [hk]; decide)]
      have hd := hD s hm hk
      have hgw : pu_gk s.1 = true ∧ W s.2.1 = false := by
        unfold pu_kp at hk
        simpa using hk
      obtain ⟨x, hx⟩ := pu_stp_pure (call := call) (ar := ar) (g := s.2.1) (l := s.2.2.1) (m := m) (q := q) hgw.1 hd.1 (pu_safe_nz hS hb hl he hd.2)
      have he2 := pu_ei_stp hS hb hl he hx
      rw [hx] at ho1
      cases ho1
      refine ih (l1 ++ [s]) (pu_set e s.2.1 x) e' m q o hl2 he2 (fun v hv => ?_) h
      rw [pu_set_n (fun c => by rw [c, hgw.2] at hv; cases hv)]
      exact ha v hv
theorem pu_nd_phi {F : pu_Flow} {L : Nat → Prop} (hU : pu_unq F L) {b : Nat} (hb : L b) : ((F b).1.map Prod.fst).Nodup := (List.nodup_append.mp (hU.1 b hb)).1
theorem pu_drop_phs {W : Int32 → Bool} {ps : List pu_Phi} {p : Nat} {e e' : pu_E} (hnd : (ps.map Prod.fst).Nodup) (hP : ∀ z ∈ ps, W z.1 = true → W (z.2 p) = true) (ha : ∀ v, W v = true → e v = e' v) :
    ∀ v, W v = true → pu_phs ps p e v = pu_phs (ps.filter (fun z => W z.1)) p e' v := by
  intro v hv
  have hnd2 : ((ps.filter (fun z => W z.1)).map Prod.fst).Nodup := List.Nodup.sublist (List.Sublist.map _ List.filter_sublist) hnd
  by_cases h : ∃ z ∈ ps, z.1 = v
  · obtain ⟨z, hz, rfl⟩ := h
    rw [pu_phs_s hnd hz, pu_phs_s hnd2 (List.mem_filter.mpr ⟨hz, hv⟩)]
    exact ha _ (hP z hz hv)
  · rw [pu_phs_n (fun z hz c => h ⟨z, hz, c⟩), pu_phs_n (fun z hz c => h ⟨z, (List.mem_filter.mp hz).1, c⟩)]
    exact ha v hv
theorem pu_drop_run {F : pu_Flow} {L : Nat → Prop} {D : Nat → Nat → Prop} (hS : pu_ssa F L D) {W : Int32 → Bool} {call : pu_Call} {ar : List Int32}
    (hE : ∀ b, L b → ((F b).2.2.1 = 23 ∨ (F b).2.2.1 = 24) → W (F b).2.2.2.1 = true)
    (hU : ∀ b, L b → ∀ s ∈ (F b).2.1, pu_kp W s = true → (pu_ul s.1 = true → W s.2.2.1 = true) ∧ (pu_ur s.1 = true → W s.2.2.2 = true))
    (hP : ∀ b c z, L b → pu_sc F b c → z ∈ (F c).1 → W z.1 = true → W (z.2 b) = true)
    (hD : ∀ b, L b → ∀ s ∈ (F b).2.1, pu_kp W s = false → s.1 ≠ 20 ∧ pu_safe F L s) {n : Nat} {e : pu_E} {m : pu_M} {q : List Int32} {r : pu_Res} (h : pu_run F call ar n 0 0 (e, m, q) = some r) : pu_run (pu_dropF F W) call ar n 0 0 (e, m, q) = some r := by
  refine pu_sim (F := F) (F' := pu_dropF F W) (fun b p σ b' p' σ' => b' = b ∧ p' = p ∧ pu_ar F L D b p σ.1 ∧ (∀ v, W v = true → σ.1 v = σ'.1 v) ∧ σ.2 = σ'.2) (fun _ _ _ _ _ _ h => congrArg Prod.snd h.2.2.2.2.symm) ?_ n 0 0 _ 0 0 _ r ⟨rfl, rfl, pu_ar_0 hS 0 _, fun _ _ => rfl, rfl⟩ h
  rintro b p ⟨e1, m1, q1⟩ b' p' ⟨e2, m2, q2⟩ o ⟨rfl, rfl, har, hag, hq⟩ ho
  cases hq
  have hb := har.1
  have hph : ∀ v, W v = true → pu_phs (F b').1 p' e1 v = pu_phs ((F b').1.filter (fun z => W z.1)) p' e2 v := by
    rcases har.2.1 with h0 | ⟨h1, h2⟩
    · rw [h0, hS.2.2.1]; exact hag
    · exact pu_drop_phs (pu_nd_phi hS.2.2.2.2.1 hb) (fun z hz hw => hP p' b' z h1 h2 hz hw) hag
  have ho9 := ho
  unfold pu_blk at ho
  replace ho := bnd9 ho
  obtain ⟨o1, ho1, ho⟩ := ho
  rcases pu_drop_steps hS hb (hU b' hb) (hD b' hb) _ [] _ _ _ _ o1 rfl har.2.2 hph ho1 with ⟨z, rfl, h2⟩ | ⟨τ, τ', rfl, h2, h3, h4⟩
  · cases ho
    refine Or.inl ⟨z, rfl, ?_⟩
    unfold pu_blk
    show (pu_steps call ar ((F b').2.1.filter (pu_kp W)) (pu_phs ((F b').1.filter (fun z => W z.1)) p' e2, m1, q1)).bind _ = _
    rw [h2]; rfl
  · have ho : pu_end (F b').2.2 τ = o := Option.some.inj ho
    have hbl : pu_blk (pu_dropF F W) call ar b' p' (e2, m1, q1) = some (pu_end (F b').2.2 τ') := by
      unfold pu_blk
      show (pu_steps call ar ((F b').2.1.filter (pu_kp W)) (pu_phs ((F b').1.filter (fun z => W z.1)) p' e2, m1, q1)).bind _ = _
      rw [h2]; rfl
    rcases pu_end_cg (k := (F b').2.2.1) (v := (F b').2.2.2.1) (v' := (F b').2.2.2.1) (f := (F b').2.2.2.2.1) (s := (F b').2.2.2.2.2) (τ := τ) (τ' := τ') (fun hk => h3 _ (hE b' hb hk)) h4 with ⟨z, h5, h6⟩ | ⟨c, h5, h6⟩
    · refine Or.inl ⟨z, ?_, ?_⟩
      · rw [← ho]; exact h5
      · rw [hbl]; exact congrArg some h6
    · refine Or.inr ⟨c, τ, c, τ', ?_, ?_, rfl, rfl, ?_, h3, h4⟩
      · rw [← ho]; exact h5
      · rw [hbl]; exact congrArg some h6
      · refine pu_ar_next hS har ?_ (call := call) (ar := ar) (σ := (e1, m1, q1))
        rw [ho9, ← ho]
        exact congrArg some h5
