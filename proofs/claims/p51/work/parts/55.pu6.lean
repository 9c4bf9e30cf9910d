/-! pure side 6: values for which others stand -/
def pu_jk (del : Int32 → Bool) (s : pu_Stp) : Bool := !pu_gk s.1 || !del s.2.1
def pu_im (del : Int32 → Bool) (tr : pu_Stp → pu_Stp) (l : List pu_Stp) : List pu_Stp := (l.filter (pu_jk del)).map tr
def pu_jnF (F : pu_Flow) (del : Int32 → Bool) (sg : Int32 → Int32) (tr : pu_Stp → pu_Stp) : pu_Flow := fun b =>
  (((F b).1.filter (fun z => !del z.1)).map (fun z => (z.1, fun c => sg (z.2 c))), pu_im del tr (F b).2.1, ((F b).2.2.1, sg (F b).2.2.2.1, (F b).2.2.2.2.1, (F b).2.2.2.2.2))
/-- what a step that stays, or goes, must keep -/
def pu_jst (del : Int32 → Bool) (sg : Int32 → Int32) (tr : pu_Stp → pu_Stp) (s : pu_Stp) (e' : pu_E) : Prop :=
  (pu_isop s.1 = false → pu_jk del s = true → tr s = (s.1, s.2.1, (if pu_ul s.1 = true then sg s.2.2.1 else s.2.2.1), (if pu_ur s.1 = true then sg s.2.2.2 else s.2.2.2))) ∧
  (pu_jk del s = false → s.1 = 0 ∨ pu_isop s.1 = true) ∧
  (s.1 = 0 → pu_jk del s = false → e' (sg s.2.1) = s.2.2.1) ∧
  (pu_isop s.1 = true → pu_jk del s = true → (tr s).2.1 = s.2.1 ∧
    (((tr s).1 = 0 ∧ pu_fail s.1 (e' (sg s.2.2.2)) = false ∧ pu_cmp s.1 (e' (sg s.2.2.1)) (e' (sg s.2.2.2)) = (tr s).2.2.1) ∨
     ((tr s).1 = s.1 ∧ pu_fail s.1 (e' (tr s).2.2.2) = pu_fail s.1 (e' (sg s.2.2.2)) ∧ pu_cmp s.1 (e' (tr s).2.2.1) (e' (tr s).2.2.2) = pu_cmp s.1 (e' (sg s.2.2.1)) (e' (sg s.2.2.2))))) ∧
  (pu_isop s.1 = true → pu_jk del s = false → pu_fail s.1 (e' (sg s.2.2.2)) = false ∧ e' (sg s.2.1) = pu_cmp s.1 (e' (sg s.2.2.1)) (e' (sg s.2.2.2)))
theorem pu_stp_op {call : pu_Call} {ar : List Int32} {k g l r : Int32} {e : pu_E} {m : pu_M} {q : List Int32} (h : pu_isop k = true) : pu_stp call ar k g l r e m q = if pu_fail k (e r) = true then some (.inl (1, 0, m)) else some (.inr (pu_set e g (pu_cmp k (e l) (e r)), m, q)) := by
  have hne : ∀ z : Int32, pu_isop z = false → ¬ k = z := fun z hz c => by rw [c, hz] at h; cases h
  unfold pu_stp
  rw [if_neg (hne 0 (by decide)), if_neg (hne 21 (by decide)), if_neg (hne 20 (by decide)), if_neg (hne 17 (by decide)), if_neg (hne 18 (by decide)), if_neg (hne 19 (by decide))]
theorem pu_stp_0 {call : pu_Call} {ar : List Int32} {g l r : Int32} {e : pu_E} {m : pu_M} {q : List Int32} : pu_stp call ar 0 g l r e m q = some (.inr (pu_set e g l, m, q)) := rfl
/-- one step of the first is none or one of the other -/
theorem pu_jn_stp {del : Int32 → Bool} {sg : Int32 → Int32} {tr : pu_Stp → pu_Stp} {s : pu_Stp} {call : pu_Call} {ar : List Int32} {e e' : pu_E} {m : pu_M} {q : List Int32} {o : Sum pu_Res pu_S}
    (hk : pu_gk s.1 = true ∨ s.1 = 18 ∨ s.1 = 19) (hj : pu_jst del sg tr s e') (hl : pu_ul s.1 = true → e s.2.2.1 = e' (sg s.2.2.1)) (hr : pu_ur s.1 = true → e s.2.2.2 = e' (sg s.2.2.2))
    (h : pu_stp call ar s.1 s.2.1 s.2.2.1 s.2.2.2 e m q = some o) :
    (pu_jk del s = true ∧ ((∃ z, o = .inl z ∧ pu_stp call ar (tr s).1 (tr s).2.1 (tr s).2.2.1 (tr s).2.2.2 e' m q = some (.inl z)) ∨
      (∃ τ, o = .inr τ ∧ ((pu_gk s.1 = true ∧ ∃ x, τ.1 = pu_set e s.2.1 x ∧ pu_stp call ar (tr s).1 (tr s).2.1 (tr s).2.2.1 (tr s).2.2.2 e' m q = some (.inr (pu_set e' s.2.1 x, τ.2))) ∨ (pu_gk s.1 = false ∧ τ.1 = e ∧ pu_stp call ar (tr s).1 (tr s).2.1 (tr s).2.2.1 (tr s).2.2.2 e' m q = some (.inr (e', τ.2))))))) ∨
    (pu_jk del s = false ∧ pu_gk s.1 = true ∧ o = .inr (pu_set e s.2.1 (e' (sg s.2.1)), m, q)) := by
  by_cases hkeep : pu_jk del s = true
  · refine Or.inl ⟨hkeep, ?_⟩
    by_cases hop : pu_isop s.1 = true
    · have h4 := hj.2.2.2.1 hop hkeep
      have hu := pu_op_u hop
      rw [pu_stp_op hop, hl hu.1, hr hu.2] at h
      rw [h4.1]
      rcases h4.2 with ⟨h5, h6, h7⟩ | ⟨h5, h6, h7⟩
      · rw [h6, if_neg (by decide)] at h
        cases h
        rw [h5]
        exact Or.inr ⟨_, rfl, Or.inl ⟨pu_op_gk hop, _, rfl, by rw [pu_stp_0, h7]⟩⟩
      · rw [h5, pu_stp_op hop, h6, h7]
        by_cases hf : pu_fail s.1 (e' (sg s.2.2.2)) = true
        · rw [if_pos hf] at h ⊢
          cases h
          exact Or.inl ⟨_, rfl, rfl⟩
        · rw [if_neg hf] at h ⊢
          cases h
          exact Or.inr ⟨_, rfl, Or.inl ⟨pu_op_gk hop, _, rfl, rfl⟩⟩
    · have hop : pu_isop s.1 = false := by simpa using hop
      rw [hj.1 hop hkeep]
      refine pu_stp_cg hk (fun h9 => ?_) (fun h9 => ?_) (fun h9 => ?_) h
      · rw [if_pos h9]; exact hl h9
      · rw [if_pos h9]; exact hr h9
      · rw [if_neg (by rw [h9]; decide)]
  · have hkeep : pu_jk del s = false := by simpa using hkeep
    have hg : pu_gk s.1 = true := by
      unfold pu_jk at hkeep
      simp at hkeep
      exact hkeep.1
    refine Or.inr ⟨hkeep, hg, ?_⟩
    rcases hj.2.1 hkeep with h0 | hop
    · rw [h0, pu_stp_0] at h
      cases h
      rw [hj.2.2.1 h0 hkeep]
    · have h5 := hj.2.2.2.2 hop hkeep
      have hu := pu_op_u hop
      rw [pu_stp_op hop, hl hu.1, hr hu.2, h5.1, if_neg (by decide)] at h
      cases h
      rw [h5.2]
section JN
variable {F : pu_Flow} {L : Nat → Prop} {D : Nat → Nat → Prop} {del : Int32 → Bool} {sg : Int32 → Int32} {tr : pu_Stp → pu_Stp} {call : pu_Call} {ar : List Int32}
theorem pu_im_c (s : pu_Stp) (l : List pu_Stp) (h : pu_jk del s = true) : pu_im del tr (s :: l) = tr s :: pu_im del tr l := by
  unfold pu_im; rw [List.filter_cons, if_pos h, List.map_cons]
theorem pu_im_n (s : pu_Stp) (l : List pu_Stp) (h : pu_jk del s = false) : pu_im del tr (s :: l) = pu_im del tr l := by
  unfold pu_im; rw [List.filter_cons, if_neg (by rw [h]; decide)]
theorem pu_im_app (a l : List pu_Stp) : pu_im del tr (a ++ l) = pu_im del tr a ++ pu_im del tr l := by
  unfold pu_im; rw [List.filter_append, List.map_append]
/-- all that is asked of such a change -/
def pu_jok (F : pu_Flow) (L : Nat → Prop) (D : Nat → Nat → Prop) (del : Int32 → Bool) (sg : Int32 → Int32) (tr : pu_Stp → pu_Stp) : Prop :=
  (∀ b l1 l2 v, L b → (F b).2.1 = l1 ++ l2 → pu_av F D b l1 v → pu_av (pu_jnF F del sg tr) D b (pu_im del tr l1) (sg v)) ∧
  (∀ b l1 s l2 e', L b → (F b).2.1 = l1 ++ s :: l2 → pu_ei (pu_jnF F del sg tr) D b (pu_im del tr l1) e' → pu_jst del sg tr s e') ∧
  (∀ b v, L b → v ∈ pu_bl F b → del v = false → sg v = v) ∧
  (∀ b p z e', L p → pu_sc F p b → z ∈ (F b).1 → del z.1 = true → pu_ei (pu_jnF F del sg tr) D p (pu_jnF F del sg tr p).2.1 e' → pu_phs (pu_jnF F del sg tr b).1 p e' (sg z.1) = e' (sg (z.2 p)))
theorem pu_jn_gk {s : pu_Stp} {e' : pu_E} (h : pu_jst del sg tr s e') (hk : pu_jk del s = true) (hg : pu_gk s.1 = true) : pu_gk (tr s).1 = true ∧ (tr s).2.1 = s.2.1 := by
  by_cases hop : pu_isop s.1 = true
  · have h4 := h.2.2.2.1 hop hk
    refine ⟨?_, h4.1⟩
    rcases h4.2 with ⟨h5, _⟩ | ⟨h5, _⟩
    · rw [h5]; decide
    · rw [h5]; exact hg
  · rw [h.1 (by simpa using hop) hk]
    exact ⟨hg, rfl⟩
theorem pu_jn_steps (hS : pu_ssa F L D) (hS' : pu_ssa (pu_jnF F del sg tr) L D) (hJ : pu_jok F L D del sg tr) {b : Nat} (hb : L b) :
    ∀ (l l1 : List pu_Stp) (e e' : pu_E) (m : pu_M) (q : List Int32) (o : Sum pu_Res pu_S), (F b).2.1 = l1 ++ l → pu_ei (pu_jnF F del sg tr) D b (pu_im del tr l1) e' → (∀ v, pu_av F D b l1 v → e v = e' (sg v)) → pu_steps call ar l (e, m, q) = some o →
      (∃ z, o = .inl z ∧ pu_steps call ar (pu_im del tr l) (e', m, q) = some (.inl z)) ∨ (∃ τ τ', o = .inr τ ∧ pu_steps call ar (pu_im del tr l) (e', m, q) = some (.inr τ') ∧ (∀ v, pu_av F D b (F b).2.1 v → τ.1 v = τ'.1 (sg v)) ∧ τ.2 = τ'.2) := by
  intro l
  induction l with
  | nil =>
    intro l1 e e' m q o hl _ ha h
    cases h
    rw [List.append_nil] at hl
    exact Or.inr ⟨_, _, rfl, rfl, by rw [hl]; exact ha, rfl⟩
  | cons s l ih =>
    intro l1 e e' m q o hl he ha h
    have hm : s ∈ (F b).2.1 := by rw [hl]; exact List.mem_append_right _ List.mem_cons_self
    have hl2 : (F b).2.1 = (l1 ++ [s]) ++ l := by rw [hl]; simp
    have hu := hS.2.2.2.2.2.1 b l1 s l hb hl
    have hj := hJ.2.1 b l1 s l e' hb hl he
    unfold pu_steps at h
    replace h := bnd9 h
    obtain ⟨o1, ho1, h⟩ := h
    have him : (pu_jnF F del sg tr b).2.1 = pu_im del tr l1 ++ pu_im del tr (s :: l) := by
      show pu_im del tr (F b).2.1 = _
      rw [hl, pu_im_app]
    rcases pu_jn_stp (hS.2.2.2.1 b hb s hm) hj (fun h => ha _ (hu.1 h)) (fun h => ha _ (hu.2 h)) ho1 with ⟨hk, h2⟩ | ⟨hk, hg, rfl⟩
    · rw [pu_im_c s l hk] at him ⊢
      have hi1 : pu_im del tr (l1 ++ [s]) = pu_im del tr l1 ++ [tr s] := by rw [pu_im_app, pu_im_c s [] hk]; rfl
      rcases h2 with ⟨z, rfl, h2⟩ | ⟨τ, rfl, ⟨hg, x, hx, h2⟩ | ⟨hg, hx, h2⟩⟩
      · cases h
        exact Or.inl ⟨z, rfl, by unfold pu_steps; rw [h2]; rfl⟩
      · have he2 := pu_ei_stp hS' hb him he h2
        rw [← hi1] at he2
        have hgk := pu_jn_gk hj hk hg
        obtain ⟨e2, m2, q2⟩ := τ
        have hx : e2 = _ := hx
        subst hx
        have h3 := ih (l1 ++ [s]) (pu_set e s.2.1 x) (pu_set e' s.2.1 x) m2 q2 o hl2 he2 (fun v hv => ?_) h
        · unfold pu_steps
          rw [h2]
          exact h3
        · by_cases hv9 : v = s.2.1
          · have hd : del s.2.1 = false := by
              unfold pu_jk at hk
              rw [hg] at hk
              simpa using hk
            rw [hv9, hJ.2.2.1 b s.2.1 hb (pu_bl_m hm hg) hd, pu_set_s, pu_set_s]
          · have hav := (pu_av_c hv).resolve_right fun c => hv9 c.2
            rw [pu_set_n hv9, ha v hav]
            have hne : sg v ≠ s.2.1 := by
              have ht := hJ.1 b l1 (s :: l) v hb hl hav
              have hU := hS'.2.2.2.2.1
              rw [← hgk.2]
              rcases ht with h4 | h4 | ⟨d, h4, h5, h6⟩
              · exact pu_fresh hU hb him hgk.1 (Or.inl h4)
              · exact pu_fresh hU hb him hgk.1 (Or.inr h4)
              · intro e9
                exact h4 (hU.2 d b _ (pu_dlt hS' hb h5) hb h6 (e9 ▸ pu_bl_s him hgk.1))
            rw [pu_set_n hne]
      · have he2 := pu_ei_stp hS' hb him he h2
        rw [← hi1] at he2
        obtain ⟨e2, m2, q2⟩ := τ
        have hx : e2 = _ := hx
        subst hx
        have h3 := ih (l1 ++ [s]) e2 e' m2 q2 o hl2 he2 (fun v hv => ha v ((pu_av_c hv).resolve_right fun c => by rw [hg] at c; cases c.1)) h
        unfold pu_steps
        rw [h2]
        exact h3
    · rw [pu_im_n s l hk]
      have hi1 : pu_im del tr (l1 ++ [s]) = pu_im del tr l1 := by rw [pu_im_app, pu_im_n s [] hk]; exact List.append_nil _
      refine ih (l1 ++ [s]) (pu_set e s.2.1 (e' (sg s.2.1))) e' m q o hl2 (by rw [hi1]; exact he) (fun v hv => ?_) h
      by_cases hv9 : v = s.2.1
      · rw [hv9, pu_set_s]
      · rw [pu_set_n hv9]
        exact ha v ((pu_av_c hv).resolve_right fun c => hv9 c.2)
theorem pu_jn_phi (hS : pu_ssa F L D) (hS' : pu_ssa (pu_jnF F del sg tr) L D) (hJ : pu_jok F L D del sg tr) {c d : Nat} {u v : Int32} (hc : L c) (h1 : d ≠ c) (h2 : D c d) (h3 : v ∈ pu_bl F d) (hu : u ∈ pu_bl (pu_jnF F del sg tr) c) : u ≠ sg v := by
  intro e9
  have hd := pu_dlt hS hc h2
  have hav : pu_av F D d (F d).2.1 v := by
    rcases List.mem_append.mp h3 with h | h
    · exact Or.inl h
    · exact Or.inr (Or.inl h)
  have ht := hJ.1 d (F d).2.1 [] v hd (by simp) hav
  have hU := hS'.2.2.2.2.1
  have hin : sg v ∈ pu_bl (pu_jnF F del sg tr) d ∨ ∃ z, z ≠ d ∧ D d z ∧ sg v ∈ pu_bl (pu_jnF F del sg tr) z := pu_av_bl (F := pu_jnF F del sg tr) (l1 := pu_im del tr (F d).2.1) (l2 := []) (by rw [List.append_nil]; rfl) ht
  rcases hin with h | ⟨z, h4, h5, h6⟩
  · exact h1 (hU.2 d c _ hd hc h (e9 ▸ hu))
  · have h7 := hU.2 z c _ (pu_dlt hS hd h5) hc h6 (e9 ▸ hu)
    subst h7
    have := (hS.2.1.2.1 _ _ hd h5).1
    have := (hS.2.1.2.1 _ _ hc h2).1
    omega
theorem pu_jn_sc (b c : Nat) : pu_sc (pu_jnF F del sg tr) b c ↔ pu_sc F b c := Iff.rfl
theorem pu_jn_run (hS : pu_ssa F L D) (hS' : pu_ssa (pu_jnF F del sg tr) L D) (hJ : pu_jok F L D del sg tr) {n : Nat} {e : pu_E} {m : pu_M} {q : List Int32} {r : pu_Res} (h : pu_run F call ar n 0 0 (e, m, q) = some r) : pu_run (pu_jnF F del sg tr) call ar n 0 0 (e, m, q) = some r := by
  refine pu_sim (F := F) (F' := pu_jnF F del sg tr) (fun b p σ b' p' σ' => b' = b ∧ p' = p ∧ L b ∧ pu_ar (pu_jnF F del sg tr) L D b p σ'.1 ∧ (∀ v, pu_av F D b [] v → pu_phs (F b).1 p σ.1 v = pu_phs (pu_jnF F del sg tr b).1 p σ'.1 (sg v)) ∧ σ.2 = σ'.2) (fun _ _ _ _ _ _ h => congrArg Prod.snd h.2.2.2.2.2.symm) ?_ n 0 0 _ 0 0 _ r ⟨rfl, rfl, hS.1, pu_ar_0 hS' 0 _, ?_, rfl⟩ h
  · rintro b p ⟨e1, m1, q1⟩ b' p' ⟨e2, m2, q2⟩ o ⟨rfl, rfl, hb, har, hag, hq⟩ ho
    cases hq
    unfold pu_blk at ho
    replace ho := bnd9 ho
    obtain ⟨o1, ho1, ho⟩ := ho
    have hbk : ∀ x, pu_steps call ar (pu_im del tr (F b').2.1) (pu_phs (pu_jnF F del sg tr b').1 p' e2, m1, q1) = some x → pu_blk (pu_jnF F del sg tr) call ar b' p' (e2, m1, q1) = Sum.elim (fun r => some (.inl r)) (fun τ => some (pu_end (pu_jnF F del sg tr b').2.2 τ)) x := by
      intro x hx
      unfold pu_blk
      show (pu_steps call ar (pu_im del tr (F b').2.1) (pu_phs (pu_jnF F del sg tr b').1 p' e2, m1, q1)).bind _ = _
      rw [hx]
      rfl
    rcases pu_jn_steps hS hS' hJ hb (F b').2.1 [] _ (pu_phs (pu_jnF F del sg tr b').1 p' e2) m1 q1 o1 rfl har.2.2 hag ho1 with ⟨z, rfl, h2⟩ | ⟨τ, τ', rfl, h2, h3, h4⟩
    · cases ho
      exact Or.inl ⟨z, rfl, hbk _ h2⟩
    · have ho : pu_end (F b').2.2 τ = o := Option.some.inj ho
      have hbl : pu_blk (pu_jnF F del sg tr) call ar b' p' (e2, m1, q1) = some (pu_end (pu_jnF F del sg tr b').2.2 τ') := hbk _ h2
      rcases pu_end_cg (k := (F b').2.2.1) (v := (F b').2.2.2.1) (v' := sg (F b').2.2.2.1) (f := (F b').2.2.2.2.1) (s := (F b').2.2.2.2.2) (τ := τ) (τ' := τ') (fun hk => h3 _ (hS.2.2.2.2.2.2.1 b' hb hk)) h4 with ⟨z, h5, h6⟩ | ⟨c, h5, h6⟩
      · refine Or.inl ⟨z, ?_, ?_⟩
        · rw [← ho]; exact h5
        · rw [hbl]; exact congrArg some h6
      · have h5 : pu_end (F b').2.2 τ = .inr (c, τ) := h5
        have h6 : pu_end (pu_jnF F del sg tr b').2.2 τ' = .inr (c, τ') := h6
        have hsc := (pu_end_sc h5).1
        have hc := hS.2.1.1 b' c hb hsc
        have hbl2 : pu_blk (pu_jnF F del sg tr) call ar b' p' (e2, m1, q1) = some (.inr (c, τ')) := by rw [hbl, h6]
        refine Or.inr ⟨c, τ, c, τ', ?_, hbl2, rfl, rfl, hc, pu_ar_next hS' har hbl2, ?_, h4⟩
        · rw [← ho]; exact h5
        · intro v hv
          have he9 := pu_ei_steps hS' hb (pu_jnF F del sg tr b').2.1 [] _ τ' rfl har.2.2 h2
          rcases pu_av_edge hS hb hsc hv with hv2 | ⟨hv1, hv2⟩
          · obtain ⟨z, hz, rfl⟩ := List.mem_map.mp hv2
            rw [pu_phs_s (pu_nd_phi hS.2.2.2.2.1 hc) hz, h3 _ (hS.2.2.2.2.2.2.2 b' c z hb hsc hz)]
            by_cases hd : del z.1 = true
            · exact (hJ.2.2.2 c b' z τ'.1 hb hsc hz hd he9).symm
            · have hd : del z.1 = false := by simpa using hd
              rw [hJ.2.2.1 c z.1 hc (pu_bl_p hz) hd]
              have hz2 : (z.1, fun c => sg (z.2 c)) ∈ (pu_jnF F del sg tr c).1 := List.mem_map_of_mem (f := fun z : pu_Phi => (z.1, fun c => sg (z.2 c))) (List.mem_filter.mpr ⟨hz, by rw [hd]; rfl⟩)
              exact (pu_phs_s (pu_nd_phi hS'.2.2.2.2.1 hc) hz2).symm
          · rw [pu_phs_n hv1, h3 v hv2]
            symm
            refine pu_phs_n fun z hz => ?_
            have hzb : z.1 ∈ pu_bl (pu_jnF F del sg tr) c := pu_bl_p hz
            rcases hv with h | h | ⟨d, h7, h8, h9⟩
            · obtain ⟨y, hy, e9⟩ := List.mem_map.mp h
              exact absurd e9 (hv1 y hy)
            · cases h
            · exact pu_jn_phi hS hS' hJ hc h7 h8 h9 hzb
  · intro v hv
    rcases hv with h | h | ⟨d, h1, h2, _⟩
    · rw [hS.2.2.1] at h; cases h
    · cases h
    · have := (hS.2.1.2.1 0 d hS.1 h2).1
      omega
end JN
