/-! pure side 7: what is known is folded -/
def pu_way (F : pu_Flow) (stt num : pu_E) (p c : Nat) : Prop := (F p).2.2.1 ≠ 23 ∨ stt (F p).2.2.2.1 = 2 ∨ (stt (F p).2.2.2.1 = 1 ∧ c = nn (if num (F p).2.2.2.1 = 0 then (F p).2.2.2.2.2 else (F p).2.2.2.2.1))
def pu_fok (F : pu_Flow) (L : Nat → Prop) (R : Nat → Bool) (stt num : pu_E) : Prop :=
  R 0 = true ∧ (∀ b, R b = true → L b) ∧ (∀ v, stt v = 0 ∨ stt v = 1 ∨ stt v = 2) ∧
  (∀ b, R b = true → ∀ s ∈ (F b).2.1, pu_gk s.1 = true →
    (s.1 = 0 → stt s.2.1 = 2 ∨ (stt s.2.1 = 1 ∧ num s.2.1 = s.2.2.1)) ∧
    (s.1 ≠ 0 → pu_isop s.1 = false → stt s.2.1 = 2) ∧
    (pu_isop s.1 = true → ((stt s.2.2.1 = 2 ∨ stt s.2.2.2 = 2 ∨ (stt s.2.2.2 = 1 ∧ pu_fail s.1 (num s.2.2.2) = true)) → stt s.2.1 = 2) ∧
      (stt s.2.2.1 = 1 → stt s.2.2.2 = 1 → pu_fail s.1 (num s.2.2.2) = false → stt s.2.1 = 2 ∨ (stt s.2.1 = 1 ∧ num s.2.1 = pu_cmp s.1 (num s.2.2.1) (num s.2.2.2))))) ∧
  (∀ b c, R b = true → pu_sc F b c → pu_way F stt num b c → R c = true) ∧
  (∀ b p z, R b = true → R p = true → pu_sc F p b → pu_way F stt num p b → z ∈ (F b).1 → stt (z.2 p) = 0 ∨ stt z.1 = 2 ∨ (stt z.1 = 1 ∧ stt (z.2 p) = 1 ∧ num z.1 = num (z.2 p)))
def pu_tf (stt num : pu_E) (s : pu_Stp) : pu_Stp := if pu_isop s.1 = true ∧ stt s.2.1 = 1 then (0, s.2.1, num s.2.1, -1) else s
def pu_fen (stt num : pu_E) (x : pu_End) : pu_End := if x.1 = 23 ∧ stt x.2.1 = 1 then (22, -1, (if num x.2.1 = 0 then x.2.2.2 else x.2.2.1), -1) else x
def pu_foF (F : pu_Flow) (R : Nat → Bool) (stt num : pu_E) : pu_Flow := fun b => if R b = true then
  ((F b).1.filter (fun z => !decide (stt z.1 = 1)), ((F b).1.filter (fun z => decide (stt z.1 = 1))).map (fun z => ((0, z.1, num z.1, -1) : pu_Stp)) ++ (F b).2.1.map (pu_tf stt num), pu_fen stt num (F b).2.2) else F b
/-- known values are what they are known to be -/
def pu_kn (F : pu_Flow) (D : Nat → Nat → Prop) (stt num : pu_E) (b : Nat) (l1 : List pu_Stp) (e : pu_E) : Prop := ∀ v, pu_av F D b l1 v → stt v ≠ 0 ∧ (stt v = 1 → e v = num v)
section FO
variable {F : pu_Flow} {L : Nat → Prop} {D : Nat → Nat → Prop} {R : Nat → Bool} {stt num : pu_E} {call : pu_Call} {ar : List Int32}
theorem pu_12 {x : Int32} (h1 : x = 1) (h2 : x = 2) : False := by rw [h1] at h2; exact absurd h2 (by decide)
theorem pu_02 {x : Int32} (h1 : x ≠ 0) (h2 : x = 0 ∨ x = 1 ∨ x = 2) : x = 1 ∨ x = 2 := h2.resolve_left h1
theorem pu_fo_steps (hS : pu_ssa F L D) (hF : pu_fok F L R stt num) {b : Nat} (hR : R b = true) :
    ∀ (l l1 : List pu_Stp) (e : pu_E) (m : pu_M) (q : List Int32) (o : Sum pu_Res pu_S), (F b).2.1 = l1 ++ l → pu_kn F D stt num b l1 e → pu_steps call ar l (e, m, q) = some o →
      pu_steps call ar (l.map (pu_tf stt num)) (e, m, q) = some o ∧ ∀ τ, o = .inr τ → pu_kn F D stt num b (F b).2.1 τ.1 := by
  intro l
  induction l with
  | nil =>
    intro l1 e m q o hl hk h
    cases h
    rw [List.append_nil] at hl
    refine ⟨rfl, fun τ h => ?_⟩
    cases h
    rw [hl]
    exact hk
  | cons s l ih =>
    intro l1 e m q o hl hk h
    have hb := hF.2.1 b hR
    have hm : s ∈ (F b).2.1 := by rw [hl]; exact List.mem_append_right _ List.mem_cons_self
    have hl2 : (F b).2.1 = (l1 ++ [s]) ++ l := by rw [hl]; simp
    have hu := hS.2.2.2.2.2.1 b l1 s l hb hl
    have hc := hF.2.2.2.1 b hR s hm
    have h3 := hF.2.2.1
    unfold pu_steps at h
    replace h := bnd9 h
    obtain ⟨o1, ho1, h⟩ := h
    have ho1 : pu_stp call ar s.1 s.2.1 s.2.2.1 s.2.2.2 e m q = some o1 := ho1
    have hsame : pu_stp call ar (pu_tf stt num s).1 (pu_tf stt num s).2.1 (pu_tf stt num s).2.2.1 (pu_tf stt num s).2.2.2 e m q = some o1 := by
      unfold pu_tf
      by_cases hc2 : pu_isop s.1 = true ∧ stt s.2.1 = 1
      · rw [if_pos hc2]
        show pu_stp call ar 0 s.2.1 (num s.2.1) (-1) e m q = some o1
        have ho := hc2.1
        have hus := pu_op_u ho
        have hkl := hk _ (hu.1 hus.1)
        have hkr := hk _ (hu.2 hus.2)
        have h5 := (hc (pu_op_gk ho)).2.2 ho
        have hl1 : stt s.2.2.1 = 1 := (pu_02 hkl.1 (h3 _)).resolve_right fun c => pu_12 hc2.2 (h5.1 (Or.inl c))
        have hr1 : stt s.2.2.2 = 1 := (pu_02 hkr.1 (h3 _)).resolve_right fun c => pu_12 hc2.2 (h5.1 (Or.inr (Or.inl c)))
        have hf1 : pu_fail s.1 (num s.2.2.2) = false := by
          by_cases h : pu_fail s.1 (num s.2.2.2) = true
          · exact absurd (h5.1 (Or.inr (Or.inr ⟨hr1, h⟩))) (pu_12 hc2.2)
          · simpa using h
        have h6 := (h5.2 hl1 hr1 hf1).resolve_left (pu_12 hc2.2)
        rw [pu_stp_op ho, hkl.2 hl1, hkr.2 hr1, hf1, if_neg (by decide)] at ho1
        rw [pu_stp_0, ← ho1, h6.2]
      · rw [if_neg hc2]
        exact ho1
    have hstep : pu_steps call ar ((s :: l).map (pu_tf stt num)) (e, m, q) = Sum.elim (fun r => some (.inl r)) (fun τ => pu_steps call ar (l.map (pu_tf stt num)) τ) o1 := by
      rw [List.map_cons]
      show (pu_stp call ar (pu_tf stt num s).1 (pu_tf stt num s).2.1 (pu_tf stt num s).2.2.1 (pu_tf stt num s).2.2.2 e m q).bind _ = _
      rw [hsame]
      rfl
    rw [hstep]
    cases o1 with
    | inl r =>
      cases h
      exact ⟨rfl, fun τ h => by cases h⟩
    | inr ρ =>
      have h : pu_steps call ar l ρ = some o := h
      obtain ⟨e2, m2, q2⟩ := ρ
      refine ih (l1 ++ [s]) e2 m2 q2 o hl2 ?_ h
      intro v hv
      rcases pu_stp_env (hS.2.2.2.1 b hb s hm) ho1 with ⟨hg, x, hx, hx0, hxo⟩ | ⟨hg, hx⟩
      · have hx : e2 = _ := hx
        subst hx
        by_cases hv9 : v = s.2.1
        · subst hv9
          rw [pu_set_s]
          have h5 := hc hg
          by_cases h0 : s.1 = 0
          · rcases h5.1 h0 with h6 | ⟨h6, h7⟩
            · exact ⟨by rw [h6]; decide, fun c => absurd h6 (pu_12 c)⟩
            · exact ⟨by rw [h6]; decide, fun _ => by rw [hx0 h0, h7]⟩
          by_cases ho : pu_isop s.1 = true
          · have hus := pu_op_u ho
            have hkl := hk _ (hu.1 hus.1)
            have hkr := hk _ (hu.2 hus.2)
            have h6 := h5.2.2 ho
            have h7 := hxo ho
            rcases pu_02 hkl.1 (h3 _) with hl1 | hl1
            · rcases pu_02 hkr.1 (h3 _) with hr1 | hr1
              · rw [hkl.2 hl1, hkr.2 hr1] at h7
                rcases h6.2 hl1 hr1 h7.2 with h8 | ⟨h8, h9⟩
                · exact ⟨by rw [h8]; decide, fun c => absurd h8 (pu_12 c)⟩
                · exact ⟨by rw [h8]; decide, fun _ => by rw [h7.1, h9]⟩
              · have h8 := h6.1 (Or.inr (Or.inl hr1))
                exact ⟨by rw [h8]; decide, fun c => absurd h8 (pu_12 c)⟩
            · have h8 := h6.1 (Or.inl hl1)
              exact ⟨by rw [h8]; decide, fun c => absurd h8 (pu_12 c)⟩
          · have h8 := h5.2.1 h0 (by simpa using ho)
            exact ⟨by rw [h8]; decide, fun c => absurd h8 (pu_12 c)⟩
        · rw [pu_set_n hv9]
          exact hk v ((pu_av_c hv).resolve_right fun c => hv9 c.2)
      · have hx : e2 = _ := hx
        subst hx
        exact hk v ((pu_av_c hv).resolve_right fun c => by rw [hg] at c; cases c.1)
theorem pu_nums (zs : List pu_Phi) (m : pu_M) (q : List Int32) : ∀ e : pu_E, ∃ e1 : pu_E, pu_steps call ar (zs.map (fun z => ((0, z.1, num z.1, -1) : pu_Stp))) (e, m, q) = some (.inr (e1, m, q)) ∧ (∀ z ∈ zs, e1 z.1 = num z.1) ∧ (∀ v, (∀ z ∈ zs, z.1 ≠ v) → e1 v = e v) := by
  induction zs with
  | nil => intro e; exact ⟨e, rfl, fun z h => (by cases h), fun _ _ => rfl⟩
  | cons z zs ih =>
    intro e
    obtain ⟨e1, h1, h2, h3⟩ := ih (pu_set e z.1 (num z.1))
    refine ⟨e1, h1, fun y hy => ?_, fun v hv => ?_⟩
    · rcases List.mem_cons.mp hy with rfl | hy
      · by_cases h : ∃ w ∈ zs, w.1 = y.1
        · obtain ⟨w, hw, he⟩ := h
          rw [← he]; exact h2 w hw
        · rw [h3 _ (fun w hw c => h ⟨w, hw, c⟩), pu_set_s]
      · exact h2 y hy
    · rw [h3 v (fun w hw => hv w (List.mem_cons_of_mem _ hw)), pu_set_n (fun c => hv z List.mem_cons_self c.symm)]
theorem pu_fo_R {b : Nat} (hR : R b = true) : pu_foF F R stt num b = ((F b).1.filter (fun z => !decide (stt z.1 = 1)), ((F b).1.filter (fun z => decide (stt z.1 = 1))).map (fun z => ((0, z.1, num z.1, -1) : pu_Stp)) ++ (F b).2.1.map (pu_tf stt num), pu_fen stt num (F b).2.2) := if_pos hR
theorem pu_fo_phs (hS : pu_ssa F L D) {b p : Nat} (hb : L b) {e : pu_E} (hz : ∀ z ∈ (F b).1, stt z.1 = 1 → e (z.2 p) = num z.1) {m : pu_M} {q : List Int32} :
    pu_steps call ar (((F b).1.filter (fun z => decide (stt z.1 = 1))).map (fun z => ((0, z.1, num z.1, -1) : pu_Stp))) (pu_phs ((F b).1.filter (fun z => !decide (stt z.1 = 1))) p e, m, q) = some (.inr (pu_phs (F b).1 p e, m, q)) := by
  obtain ⟨e1, h1, h2, h3⟩ := pu_nums (call := call) (ar := ar) (num := num) ((F b).1.filter (fun z => decide (stt z.1 = 1))) m q (pu_phs ((F b).1.filter (fun z => !decide (stt z.1 = 1))) p e)
  have hnd := pu_nd_phi hS.2.2.2.2.1 hb
  have hnd2 : (((F b).1.filter (fun z => !decide (stt z.1 = 1))).map Prod.fst).Nodup := List.Nodup.sublist (List.Sublist.map _ List.filter_sublist) hnd
  have he : e1 = pu_phs (F b).1 p e := by
    funext v
    by_cases h : ∃ z ∈ (F b).1, z.1 = v
    · obtain ⟨z, hz1, rfl⟩ := h
      rw [pu_phs_s hnd hz1]
      by_cases hk : stt z.1 = 1
      · rw [h2 z (List.mem_filter.mpr ⟨hz1, by simpa using hk⟩), hz z hz1 hk]
      · rw [h3 z.1 (fun w hw c => hk (by rw [← c]; simpa using (List.mem_filter.mp hw).2))]
        exact pu_phs_s hnd2 (List.mem_filter.mpr ⟨hz1, by simpa using hk⟩)
    · rw [pu_phs_n (fun z hz c => h ⟨z, hz, c⟩), h3 v (fun z hz c => h ⟨z, (List.mem_filter.mp hz).1, c⟩)]
      exact pu_phs_n (fun z hz c => h ⟨z, (List.mem_filter.mp hz).1, c⟩)
  rw [h1, he]
theorem pu_fo_run (hS : pu_ssa F L D) (hF : pu_fok F L R stt num) {n : Nat} {e : pu_E} {m : pu_M} {q : List Int32} {r : pu_Res} (h : pu_run F call ar n 0 0 (e, m, q) = some r) : pu_run (pu_foF F R stt num) call ar n 0 0 (e, m, q) = some r := by
  refine pu_sim (F := F) (F' := pu_foF F R stt num) (fun b p σ b' p' σ' => b' = b ∧ p' = p ∧ R b = true ∧ (∀ z ∈ (F b).1, stt z.1 = 1 → σ.1 (z.2 p) = num z.1) ∧ pu_kn F D stt num b [] (pu_phs (F b).1 p σ.1) ∧ σ' = σ) (fun _ _ _ _ _ _ h => congrArg (fun s => s.2.2) h.2.2.2.2.2) ?_ n 0 0 _ 0 0 _ r ⟨rfl, rfl, hF.1, ?_, ?_, rfl⟩ h
  · rintro b p ⟨e1, m1, q1⟩ b' p' σ' o ⟨rfl, rfl, hR, hz, hkn, rfl⟩ ho
    have hb := hF.2.1 b' hR
    unfold pu_blk at ho
    replace ho := bnd9 ho
    obtain ⟨o1, ho1, ho⟩ := ho
    obtain ⟨h1, h2⟩ := pu_fo_steps hS hF hR (F b').2.1 [] _ m1 q1 o1 rfl hkn ho1
    have hbl : pu_blk (pu_foF F R stt num) call ar b' p' (e1, m1, q1) = Sum.elim (fun r => some (.inl r)) (fun τ => some (pu_end (pu_fen stt num (F b').2.2) τ)) o1 := by
      unfold pu_blk
      rw [pu_fo_R hR]
      show (pu_steps call ar (((F b').1.filter (fun z => decide (stt z.1 = 1))).map (fun z => ((0, z.1, num z.1, -1) : pu_Stp)) ++ (F b').2.1.map (pu_tf stt num)) (pu_phs ((F b').1.filter (fun z => !decide (stt z.1 = 1))) p' e1, m1, q1)).bind _ = _
      rw [pu_steps_app, pu_fo_phs hS hb hz]
      show (pu_steps call ar ((F b').2.1.map (pu_tf stt num)) (pu_phs (F b').1 p' e1, m1, q1)).bind _ = _
      rw [h1]
      rfl
    rw [hbl]
    cases o1 with
    | inl z =>
      cases ho
      exact Or.inl ⟨z, rfl, rfl⟩
    | inr τ =>
      have ho : pu_end (F b').2.2 τ = o := Option.some.inj ho
      have hk9 := h2 τ rfl
      -- the end
      have hend : pu_end (pu_fen stt num (F b').2.2) τ = pu_end (F b').2.2 τ := by
        unfold pu_fen
        by_cases hc : (F b').2.2.1 = 23 ∧ stt (F b').2.2.2.1 = 1
        · rw [if_pos hc]
          have hv := (hk9 _ (hS.2.2.2.2.2.2.1 b' hb (Or.inl hc.1))).2 hc.2
          have hL : ∀ X : Int32, pu_end (22, -1, X, -1) τ = .inr (nn X, τ) := by
            intro X
            unfold pu_end
            rw [if_neg (show ¬ (22 : Int32) = 24 by decide), if_neg (fun c => absurd c.1 (show ¬ (22 : Int32) = 23 by decide))]
          rw [hL]
          unfold pu_end
          rw [if_neg (show ¬ (F b').2.2.1 = 24 by rw [hc.1]; decide)]
          by_cases h0 : num (F b').2.2.2.1 = 0
          · rw [if_pos h0, if_pos ⟨hc.1, hv.trans h0⟩]
          · rw [if_neg h0, if_neg (fun c => h0 (hv.symm.trans c.2))]
        · rw [if_neg hc]
      cases o with
      | inl z =>
        refine Or.inl ⟨z, rfl, ?_⟩
        show some (pu_end (pu_fen stt num (F b').2.2) τ) = _
        rw [hend, ho]
      | inr x =>
        obtain ⟨c, ρ⟩ := x
        obtain ⟨hsc, rfl⟩ := pu_end_sc ho
        refine Or.inr ⟨c, ρ, c, ρ, rfl, ?_, rfl, rfl, ?_⟩
        · show some (pu_end (pu_fen stt num (F b').2.2) ρ) = _
          rw [hend, ho]
        · have hway : pu_way F stt num b' c := by
            unfold pu_way
            by_cases h23 : (F b').2.2.1 = 23
            · have hv := hk9 _ (hS.2.2.2.2.2.2.1 b' hb (Or.inl h23))
              rcases pu_02 hv.1 (hF.2.2.1 _) with h4 | h4
              · refine Or.inr (Or.inr ⟨h4, ?_⟩)
                have hv2 := hv.2 h4
                unfold pu_end at ho
                rw [if_neg (by rw [h23]; decide), hv2] at ho
                by_cases h0 : num (F b').2.2.2.1 = 0
                · rw [if_pos ⟨h23, h0⟩] at ho
                  rw [if_pos h0]
                  cases ho; rfl
                · rw [if_neg (fun c => h0 c.2)] at ho
                  rw [if_neg h0]
                  cases ho; rfl
              · exact Or.inr (Or.inl h4)
            · exact Or.inl h23
          have hRc := hF.2.2.2.2.1 b' c hR hsc hway
          have hc := hF.2.1 c hRc
          have hzc : ∀ z ∈ (F c).1, stt z.1 ≠ 0 ∧ (stt z.1 = 1 → ρ.1 (z.2 b') = num z.1) := by
            intro z hz2
            have hv := hk9 _ (hS.2.2.2.2.2.2.2 b' c z hb hsc hz2)
            rcases hF.2.2.2.2.2 c b' z hRc hR hsc hway hz2 with h4 | h4 | ⟨h4, h5, h6⟩
            · exact absurd h4 hv.1
            · exact ⟨by rw [h4]; decide, fun c => absurd h4 (pu_12 c)⟩
            · exact ⟨by rw [h4]; decide, fun _ => by rw [hv.2 h5, h6]⟩
          refine ⟨hRc, fun z hz2 => (hzc z hz2).2, fun v hv => ?_, rfl⟩
          rcases pu_av_edge hS hb hsc hv with h | ⟨h4, h5⟩
          · obtain ⟨z, hz2, rfl⟩ := List.mem_map.mp h
            rw [pu_phs_s (pu_nd_phi hS.2.2.2.2.1 hc) hz2]
            exact hzc z hz2
          · rw [pu_phs_n h4]
            exact hk9 v h5
  · intro z hz
    rw [hS.2.2.1] at hz
    cases hz
  · intro v hv
    rcases hv with h | h | ⟨d, h1, h2, _⟩
    · rw [hS.2.2.1] at h; cases h
    · cases h
    · have := (hS.2.1.2.1 0 d hS.1 h2).1
      omega
end FO
