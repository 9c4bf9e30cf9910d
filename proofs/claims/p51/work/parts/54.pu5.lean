/-! pure side 5: a run over a moved step -/
/-- what holds at a block's end holds behind the next one's phis -/
theorem pu_ag_edge {F : pu_Flow} {L : Nat → Prop} {D : Nat → Nat → Prop} (hS : pu_ssa F L D) {b c : Nat} (hb : L b) (hsc : pu_sc F b c) {e e' : pu_E} (ha : ∀ v, pu_av F D b (F b).2.1 v → e v = e' v) : ∀ v, pu_av F D c [] v → pu_phs (F c).1 b e v = pu_phs (F c).1 b e' v := by
  intro v hv
  have hc := hS.2.1.1 b c hb hsc
  rcases pu_av_edge hS hb hsc hv with h | ⟨h1, h2⟩
  · obtain ⟨p, hp, rfl⟩ := List.mem_map.mp h
    rw [pu_phs_s (pu_nd_phi hS.2.2.2.2.1 hc) hp, pu_phs_s (pu_nd_phi hS.2.2.2.2.1 hc) hp]
    exact ha _ (hS.2.2.2.2.2.2.2 b c p hb hsc hp)
  · rw [pu_phs_n h1, pu_phs_n h1]
    exact ha v h2
theorem pu_zop {k : Int32} (h : k = 0 ∨ pu_isop k = true) : pu_gk k = true ∧ k ≠ 20 := by
  rcases h with rfl | h
  · exact ⟨by decide, by decide⟩
  · exact ⟨pu_op_gk h, fun c => by rw [c] at h; exact absurd h (by decide)⟩
section MW
variable {F : pu_Flow} {L : Nat → Prop} {D : Nat → Nat → Prop} {P b : Nat} {s : pu_Stp} {l1 l2 : List pu_Stp} {call : pu_Call} {ar : List Int32}
theorem pu_mv_block (hS : pu_ssa F L D) (hS' : pu_ssa (pu_mvF F P b s l1 l2) L D) (hP : L P) (hb : L b) (hs : (F b).2.1 = l1 ++ s :: l2) (hop : s.1 = 0 ∨ pu_isop s.1 = true) (hf : pu_safe F L s) (hPb : P ≠ b) (hD : D b P)
    (hu : pu_ur s.1 = true → pu_av F D P (F P).2.1 s.2.2.2) {c : Nat} (hc : L c) {e e' : pu_E} {m : pu_M} {q : List Int32} {o : Sum pu_Res pu_S}
    (he : pu_ei F D c [] e) (he' : pu_ei (pu_mvF F P b s l1 l2) D c [] e') (ha : ∀ v, pu_av F D c [] v → e v = e' v) (h : pu_steps call ar (F c).2.1 (e, m, q) = some o) :
    (∃ z, o = .inl z ∧ pu_steps call ar (pu_mvF F P b s l1 l2 c).2.1 (e', m, q) = some (.inl z)) ∨ (∃ τ τ', o = .inr τ ∧ pu_steps call ar (pu_mvF F P b s l1 l2 c).2.1 (e', m, q) = some (.inr τ') ∧ (∀ v, pu_av F D c (F c).2.1 v → τ.1 v = τ'.1 v) ∧ τ.2 = τ'.2) := by
  have hgk := pu_zop hop
  by_cases h1 : c = P
  · subst h1
    rw [pu_mv_P]
    show (∃ z, o = .inl z ∧ pu_steps call ar ((F c).2.1 ++ [s]) (e', m, q) = some (.inl z)) ∨ (∃ τ τ', o = .inr τ ∧ pu_steps call ar ((F c).2.1 ++ [s]) (e', m, q) = some (.inr τ') ∧ (∀ v, pu_av F D c (F c).2.1 v → τ.1 v = τ'.1 v) ∧ τ.2 = τ'.2)
    rw [pu_steps_app]
    rcases pu_same_steps hS hc (F c).2.1 [] [] e e' m q o (by simp) ha h with ⟨z, rfl, h2⟩ | ⟨τ, τ', rfl, h2, h3, h4⟩
    · exact Or.inl ⟨z, rfl, by rw [h2]; rfl⟩
    · rw [List.nil_append] at h3
      have hend := pu_ei_steps hS hc (F c).2.1 [] (e, m, q) τ rfl he h
      have hnf : pu_fail s.1 (τ'.1 s.2.2.2) = false := by
        unfold pu_fail
        rw [decide_eq_false_iff_not]
        rintro ⟨h45, h0⟩
        obtain ⟨d, t, hd, ht, hk, hg, hn⟩ := hf h45
        have hur : pu_ur s.1 = true := by rcases h45 with h | h <;> rw [h] <;> decide
        have heq := pu_num hS hc (l1 := (F c).2.1) (l2 := []) (by simp) hend hd ht (by rw [hk]; decide) (by rw [hg]; exact hu hur)
        refine hn ?_
        rw [← heq.1 hk, hg, h3 _ (hu hur)]
        exact h0
      obtain ⟨x, hx⟩ := pu_stp_pure (call := call) (ar := ar) (g := s.2.1) (l := s.2.2.1) (m := τ'.2.1) (q := τ'.2.2) hgk.1 hgk.2 hnf
      refine Or.inr ⟨τ, (pu_set τ'.1 s.2.1 x, τ'.2.1, τ'.2.2), rfl, ?_, fun v hv => ?_, h4⟩
      · rw [h2]
        show pu_steps call ar [s] τ' = _
        unfold pu_steps
        rw [hx]
        rfl
      · have hne : v ≠ s.2.1 := by
          intro e9
          subst e9
          have hsb := pu_bl_s hs hgk.1
          have hU := hS.2.2.2.2.1
          rcases hv with h | h | ⟨d, h5, h6, h7⟩
          · exact hPb (hU.2 c b _ hc hb (List.mem_append_left _ h) hsb)
          · exact hPb (hU.2 c b _ hc hb (List.mem_append_right _ h) hsb)
          · have h8 := hU.2 d b _ (pu_dlt hS hc h6) hb h7 hsb
            subst h8
            have := (hS.2.1.2.1 _ _ hc h6).1
            have := (hS.2.1.2.1 _ _ hb hD).1
            omega
        show τ.1 v = pu_set τ'.1 s.2.1 x v
        rw [pu_set_n hne]
        exact h3 v hv
  by_cases h2 : c = b
  · subst h2
    rw [pu_mv_b hPb]
    show (∃ z, o = .inl z ∧ pu_steps call ar (l1 ++ l2) (e', m, q) = some (.inl z)) ∨ (∃ τ τ', o = .inr τ ∧ pu_steps call ar (l1 ++ l2) (e', m, q) = some (.inr τ') ∧ (∀ v, pu_av F D c (F c).2.1 v → τ.1 v = τ'.1 v) ∧ τ.2 = τ'.2)
    rw [pu_steps_app]
    rw [hs, pu_steps_app] at h
    replace h := bnd9 h
    obtain ⟨o1, ho1, h⟩ := h
    rcases pu_same_steps hS hc l1 [] (s :: l2) e e' m q o1 (by simpa using hs) ha ho1 with ⟨z, rfl, h3⟩ | ⟨τ, τ', rfl, h3, h4, h5⟩
    · cases h
      exact Or.inl ⟨z, rfl, by rw [h3]; rfl⟩
    · rw [List.nil_append] at h4
      have h : pu_steps call ar (s :: l2) τ = some o := h
      unfold pu_steps at h
      replace h := bnd9 h
      obtain ⟨o2, ho2, h⟩ := h
      have he1 := pu_ei_pre hS hc l1 [] (s :: l2) (e, m, q) τ (by simpa using hs) he ho1
      rw [List.nil_append] at he1
      have he1' := pu_ei_pre hS' hc l1 [] l2 (e', m, q) τ' (by rw [pu_mv_b hPb]; simp) he' h3
      have hnf := pu_safe_nz hS hc hs he1 hf
      obtain ⟨x, hx⟩ := pu_stp_pure (call := call) (ar := ar) (g := s.2.1) (l := s.2.2.1) (m := τ.2.1) (q := τ.2.2) hgk.1 hgk.2 hnf
      have henv := pu_stp_env (Or.inl hgk.1) hx
      rw [hx] at ho2
      cases ho2
      have h : pu_steps call ar l2 (pu_set τ.1 s.2.1 x, τ.2.1, τ.2.2) = some o := h
      have hxs : x = τ'.1 s.2.1 := by
        have heq : pu_eq s τ'.1 := he1'.2 P hPb hD s (by rw [pu_mv_P]; exact List.mem_append_right _ List.mem_cons_self)
        rcases henv with ⟨_, x2, hx2, h0, ho⟩ | ⟨h6, _⟩
        · have hxx : x = x2 := by
            have := congrFun hx2 s.2.1
            rw [pu_set_s] at this
            have h7 : pu_set τ.1 s.2.1 x s.2.1 = x2 := this
            rw [pu_set_s] at h7
            exact h7
          subst hxx
          rcases hop with h6 | h6
          · rw [h0 h6, heq.1 h6]
          · have hus := hS.2.2.2.2.2.1 c l1 s l2 hc hs
            rw [(ho h6).1, (heq.2 h6).1, h4 _ (hus.1 (pu_op_u h6).1), h4 _ (hus.2 (pu_op_u h6).2)]
        · rw [hgk.1] at h6; cases h6
      have hag : ∀ v, pu_av F D c (l1 ++ [s]) v → pu_set τ.1 s.2.1 x v = τ'.1 v := by
        intro v hv
        by_cases hv9 : v = s.2.1
        · rw [hv9, pu_set_s]; exact hxs
        · rw [pu_set_n hv9]
          exact h4 v ((pu_av_c hv).resolve_right fun c => hv9 c.2)
      obtain ⟨e2, m2, q2⟩ := τ'
      have h5 : τ.2 = (m2, q2) := h5
      have h : pu_steps call ar l2 (pu_set τ.1 s.2.1 x, m2, q2) = some o := by
        have h6 : (τ.2.1, τ.2.2) = (m2, q2) := h5
        rw [Prod.mk.injEq] at h6
        rw [← h6.1, ← h6.2]
        exact h
      rcases pu_same_steps hS hc l2 (l1 ++ [s]) [] _ e2 m2 q2 o (by rw [hs]; simp) hag h with ⟨z, rfl, h6⟩ | ⟨ρ, ρ', rfl, h6, h7, h8⟩
      · exact Or.inl ⟨z, rfl, by rw [h3]; exact h6⟩
      · refine Or.inr ⟨ρ, ρ', rfl, by rw [h3]; exact h6, fun v hv => h7 v ?_, h8⟩
        rw [hs] at hv
        simpa using hv
  · rw [pu_mv_o h1 h2]
    have := pu_same_steps hS hc (F c).2.1 [] [] e e' m q o (by simp) ha h
    simpa using this
theorem pu_mv_run (hS : pu_ssa F L D) (hP : L P) (hb : L b) (hs : (F b).2.1 = l1 ++ s :: l2) (hop : s.1 = 0 ∨ pu_isop s.1 = true) (hf : pu_safe F L s) (hPb : P ≠ b) (hD : D b P)
    (hu : (pu_ul s.1 = true → pu_av F D P (F P).2.1 s.2.2.1) ∧ (pu_ur s.1 = true → pu_av F D P (F P).2.1 s.2.2.2)) {n : Nat} {e : pu_E} {m : pu_M} {q : List Int32} {r : pu_Res} (h : pu_run F call ar n 0 0 (e, m, q) = some r) : pu_run (pu_mvF F P b s l1 l2) call ar n 0 0 (e, m, q) = some r := by
  have hS' := pu_mv_ssa hS hP hb hs (pu_zop hop).1 hPb hD hu
  refine pu_sim (F := F) (F' := pu_mvF F P b s l1 l2) (fun b1 p σ b2 p' σ' => b2 = b1 ∧ p' = p ∧ pu_ar F L D b1 p σ.1 ∧ pu_ar (pu_mvF F P b s l1 l2) L D b1 p σ'.1 ∧ (∀ v, pu_av F D b1 [] v → pu_phs (F b1).1 p σ.1 v = pu_phs (F b1).1 p σ'.1 v) ∧ σ.2 = σ'.2) (fun _ _ _ _ _ _ h => congrArg Prod.snd h.2.2.2.2.2.symm) ?_ n 0 0 _ 0 0 _ r ⟨rfl, rfl, pu_ar_0 hS 0 _, pu_ar_0 hS' 0 _, fun _ _ => rfl, rfl⟩ h
  rintro b1 p ⟨e1, m1, q1⟩ b2 p' ⟨e2, m2, q2⟩ o ⟨rfl, rfl, har, har', hag, hq⟩ ho
  cases hq
  have hc := har.1
  have ho9 := ho
  have he' := har'.2.2
  rw [pu_mv_1] at he'
  unfold pu_blk at ho
  replace ho := bnd9 ho
  obtain ⟨o1, ho1, ho⟩ := ho
  have hbk : ∀ x, pu_steps call ar (pu_mvF F P b s l1 l2 b2).2.1 (pu_phs (F b2).1 p' e2, m1, q1) = some x → pu_blk (pu_mvF F P b s l1 l2) call ar b2 p' (e2, m1, q1) = Sum.elim (fun r => some (.inl r)) (fun τ => some (pu_end (F b2).2.2 τ)) x := by
    intro x hx
    unfold pu_blk
    rw [pu_mv_1, pu_mv_3]
    show (pu_steps call ar (pu_mvF F P b s l1 l2 b2).2.1 (pu_phs (F b2).1 p' e2, m1, q1)).bind _ = _
    rw [hx]
    rfl
  rcases pu_mv_block hS hS' hP hb hs hop hf hPb hD hu.2 hc har.2.2 he' hag ho1 with ⟨z, rfl, h2⟩ | ⟨τ, τ', rfl, h2, h3, h4⟩
  · cases ho
    exact Or.inl ⟨z, rfl, hbk _ h2⟩
  · have ho : pu_end (F b2).2.2 τ = o := Option.some.inj ho
    have hbl : pu_blk (pu_mvF F P b s l1 l2) call ar b2 p' (e2, m1, q1) = some (pu_end (F b2).2.2 τ') := hbk _ h2
    rcases pu_end_cg (k := (F b2).2.2.1) (v := (F b2).2.2.2.1) (v' := (F b2).2.2.2.1) (f := (F b2).2.2.2.2.1) (s := (F b2).2.2.2.2.2) (τ := τ) (τ' := τ') (fun hk => h3 _ (hS.2.2.2.2.2.2.1 b2 hc hk)) h4 with ⟨z, h5, h6⟩ | ⟨c, h5, h6⟩
    · refine Or.inl ⟨z, ?_, ?_⟩
      · rw [← ho]; exact h5
      · rw [hbl]; exact congrArg some h6
    · have h5 : pu_end (F b2).2.2 τ = .inr (c, τ) := h5
      have h6 : pu_end (F b2).2.2 τ' = .inr (c, τ') := h6
      have hnx := pu_ar_next hS har (call := call) (ar := ar) (σ := (e1, m1, q1)) (by rw [ho9, ← ho, h5])
      have hnx' := pu_ar_next hS' har' (call := call) (ar := ar) (σ := (e2, m1, q1)) (by rw [hbl, h6])
      refine Or.inr ⟨c, τ, c, τ', ?_, ?_, rfl, rfl, hnx, hnx', ?_, h4⟩
      · rw [← ho]; exact h5
      · rw [hbl, h6]
      · exact pu_ag_edge hS hc (pu_end_sc h5).1 h3
end MW
