/-! pure side 9: two blocks become one -/
theorem pu_run_le {F : pu_Flow} {call : pu_Call} {ar : List Int32} : ∀ (n k b p : Nat) (σ : pu_S) (r : pu_Res), pu_run F call ar n b p σ = some r → pu_run F call ar (n + k) b p σ = some r := by
  intro n
  induction n with
  | zero => intro k b p σ r h; cases h
  | succ n ih =>
    intro k b p σ r h
    rw [Nat.succ_add]
    unfold pu_run at h ⊢
    replace h := bnd9 h
    obtain ⟨o, ho, h⟩ := h
    rw [ho]
    cases o with
    | inl z => exact h
    | inr x =>
      have h : (if x.2.2.2 = [] then pu_run F call ar n x.1 b x.2 else none) = some r := h
      show (if x.2.2.2 = [] then pu_run F call ar (n + k) x.1 b x.2 else none) = some r
      by_cases h9 : x.2.2.2 = []
      · rw [if_pos h9] at h ⊢
        exact ih k _ _ _ _ h
      · rw [if_neg h9] at h; cases h
def pu_ccd (F F' : pu_Flow) (L : Nat → Prop) (b g : Nat) : Prop :=
  (F b).2.2.1 = 22 ∧ nn (F b).2.2.2.2.1 = g ∧ g ≠ b ∧ L b ∧ L g ∧ (∀ p, L p → pu_sc F p g → p = b) ∧ (F g).1 = [] ∧
  (∀ c, L c → c ≠ g → ∃ tk : pu_Phi → Nat → Int32, (F' c).1 = (F c).1.map (fun z => (z.1, tk z)) ∧ ∀ z ∈ (F c).1, ∀ p, L p → pu_sc F p c → tk z (if p = g then b else p) = z.2 p) ∧
  (∀ c, L c → c ≠ g → c ≠ b → (F' c).2 = (F c).2) ∧
  (F' b).2.1 = (F b).2.1 ++ (F g).2.1 ∧ (F' b).2.2 = (F g).2.2
section CC
variable {F F' : pu_Flow} {L : Nat → Prop} {D : Nat → Nat → Prop} {b g : Nat} {call : pu_Call} {ar : List Int32}
theorem pu_cc_bg (hC : pu_ccd F F' L b g) : pu_sc F b g := ⟨by rw [hC.1]; decide, Or.inl hC.2.1.symm⟩
theorem pu_cc_g0 (hS : pu_ssa F L D) (hC : pu_ccd F F' L b g) (hD : D g b) : g ≠ 0 := by
  intro e
  have := (hS.2.1.2.1 g b hC.2.2.2.2.1 hD).1
  have := hC.2.2.1
  omega
theorem pu_cc_gg (hC : pu_ccd F F' L b g) : ¬ pu_sc F g g := fun h => hC.2.2.1 (hC.2.2.2.2.2.1 g hC.2.2.2.2.1 h)
theorem pu_cc_sc (hC : pu_ccd F F' L b g) {c d : Nat} (hc : L c) (hcg : c ≠ g) (h : pu_sc F' c d) : (c ≠ b ∧ pu_sc F c d) ∨ (c = b ∧ pu_sc F g d) := by
  by_cases hcb : c = b
  · subst hcb
    refine Or.inr ⟨rfl, ?_⟩
    unfold pu_sc at h ⊢
    rw [hC.2.2.2.2.2.2.2.2.2.2] at h
    exact h
  · refine Or.inl ⟨hcb, ?_⟩
    unfold pu_sc at h ⊢
    rw [hC.2.2.2.2.2.2.2.2.1 c hc hcg hcb] at h
    exact h
theorem pu_cc_blb (hC : pu_ccd F F' L b g) : pu_bl F' b = pu_bl F b ++ pu_bl F g := by
  obtain ⟨tk, h1, _⟩ := hC.2.2.2.2.2.2.2.1 b hC.2.2.2.1 (fun e => hC.2.2.1 e.symm)
  unfold pu_bl
  rw [h1, hC.2.2.2.2.2.2.2.2.2.1, hC.2.2.2.2.2.2.1, pu_gvs_app, List.map_map, List.append_assoc]
  rfl
theorem pu_cc_blo (hC : pu_ccd F F' L b g) {c : Nat} (hc : L c) (h1 : c ≠ g) (h2 : c ≠ b) : pu_bl F' c = pu_bl F c := by
  obtain ⟨tk, h3, _⟩ := hC.2.2.2.2.2.2.2.1 c hc h1
  unfold pu_bl
  rw [h3, hC.2.2.2.2.2.2.2.2.1 c hc h1 h2, List.map_map]
  rfl
theorem pu_cc_1 (hC : pu_ccd F F' L b g) {c : Nat} (hc : L c) (h1 : c ≠ g) : (F' c).1.map Prod.fst = (F c).1.map Prod.fst := by
  obtain ⟨tk, h3, _⟩ := hC.2.2.2.2.2.2.2.1 c hc h1
  rw [h3, List.map_map]
  rfl
theorem pu_cc_in (hC : pu_ccd F F' L b g) {c d : Nat} {v : Int32} (hS : pu_ssa F L D) (hD : D g b) (hc : L c) (hcg : c ≠ g) (h1 : d ≠ c) (h2 : D c d) (h3 : v ∈ pu_bl F d) : (c = b ∧ d = g ∧ False) ∨ ∃ x, x ≠ c ∧ (D c x ∧ x ≠ g) ∧ v ∈ pu_bl F' x ∨ False := by
  have hd := pu_dlt hS hc h2
  refine Or.inr ?_
  by_cases hdg : d = g
  · subst hdg
    have h4 := hS.2.1.2.2.2.1 c d b hc h2 hD
    refine ⟨b, Or.inl ⟨fun e => ?_, ⟨h4, fun e => hC.2.2.1 e.symm⟩, by rw [pu_cc_blb hC]; exact List.mem_append_right _ h3⟩⟩
    subst e
    have := (hS.2.1.2.1 _ _ hc h2).1
    have := (hS.2.1.2.1 _ _ hd hD).1
    omega
  · by_cases hdb : d = b
    · subst hdb
      exact ⟨d, Or.inl ⟨h1, ⟨h2, hdg⟩, by rw [pu_cc_blb hC]; exact List.mem_append_left _ h3⟩⟩
    · exact ⟨d, Or.inl ⟨h1, ⟨h2, hdg⟩, by rw [pu_cc_blo hC hd hdg hdb]; exact h3⟩⟩
theorem pu_cc_av (hS : pu_ssa F L D) (hC : pu_ccd F F' L b g) (hD : D g b) {c : Nat} (hc : L c) (hcg : c ≠ g) {a a' : List pu_Stp} {v : Int32} (ha : ∀ u, u ∈ pu_gvs a → u ∈ pu_gvs a') (h : pu_av F D c a v) : pu_av F' (fun c d => D c d ∧ d ≠ g) c a' v := by
  rcases h with h | h | ⟨d, h1, h2, h3⟩
  · exact Or.inl (by rw [pu_cc_1 hC hc hcg]; exact h)
  · exact Or.inr (Or.inl (ha v h))
  · rcases pu_cc_in hC hS hD hc hcg h1 h2 h3 with ⟨_, _, h⟩ | ⟨x, h | h⟩
    · exact h.elim
    · exact Or.inr (Or.inr ⟨x, h.1, h.2.1, h.2.2⟩)
    · exact h.elim
theorem pu_cc_avg (hS : pu_ssa F L D) (hC : pu_ccd F F' L b g) (hD : D g b) {a a' : List pu_Stp} {v : Int32} (ha : ∀ u, (u ∈ pu_gvs (F b).2.1 ∨ u ∈ pu_gvs a) → u ∈ pu_gvs a') (h : pu_av F D g a v) : pu_av F' (fun c d => D c d ∧ d ≠ g) b a' v := by
  have hbg : b ≠ g := fun e => hC.2.2.1 e.symm
  have hb := hC.2.2.2.1
  rcases h with h | h | ⟨d, h1, h2, h3⟩
  · rw [hC.2.2.2.2.2.2.1] at h; cases h
  · exact Or.inr (Or.inl (ha v (Or.inr h)))
  · have h4 := hS.2.1.2.2.2.2 b g d hb (pu_cc_bg hC) h2 h1
    by_cases hdb : d = b
    · subst hdb
      rcases List.mem_append.mp h3 with h | h
      · exact Or.inl (by rw [pu_cc_1 hC hb hbg]; exact h)
      · exact Or.inr (Or.inl (ha v (Or.inl h)))
    · exact Or.inr (Or.inr ⟨d, hdb, ⟨h4, h1⟩, by rw [pu_cc_blo hC (pu_dlt hS hb h4) h1 hdb]; exact h3⟩)
theorem pu_cc_ssa (hS : pu_ssa F L D) (hC : pu_ccd F F' L b g) (hD : D g b) : pu_ssa F' (fun c => L c ∧ c ≠ g) (fun c d => D c d ∧ d ≠ g) := by
  have hg0 := pu_cc_g0 hS hC hD
  have hbg : b ≠ g := fun e => hC.2.2.1 e.symm
  have hb := hC.2.2.2.1
  have hg := hC.2.2.2.2.1
  have hG := hS.2.1
  have hU := hS.2.2.2.2.1
  have hmem : ∀ c v, L c → c ≠ g → v ∈ pu_bl F' c → v ∈ pu_bl F c ∨ (c = b ∧ v ∈ pu_bl F g) := by
    intro c v hc hcg h
    by_cases hcb : c = b
    · subst hcb
      rw [pu_cc_blb hC] at h
      exact (List.mem_append.mp h).imp id (fun h => ⟨rfl, h⟩)
    · rw [pu_cc_blo hC hc hcg hcb] at h
      exact Or.inl h
  refine ⟨⟨hS.1, fun e => hg0 e.symm⟩, ⟨?_, ?_, ?_, ?_, ?_⟩, ?_, ?_, ⟨?_, ?_⟩, ?_, ?_, ?_⟩
  · rintro c d ⟨hc, hcg⟩ h
    rcases pu_cc_sc hC hc hcg h with ⟨h1, h2⟩ | ⟨rfl, h2⟩
    · exact ⟨hG.1 c d hc h2, fun e => h1 (hC.2.2.2.2.2.1 c hc (e ▸ h2))⟩
    · exact ⟨hG.1 g d hg h2, fun e => pu_cc_gg hC (e ▸ h2)⟩
  · rintro c d ⟨hc, hcg⟩ ⟨h1, h2⟩
    have := hG.2.1 c d hc h1
    exact ⟨this.1, this.2, h2⟩
  · rintro c ⟨hc, hcg⟩
    exact ⟨hG.2.2.1 c hc, hcg⟩
  · rintro c d e ⟨hc, hcg⟩ ⟨h1, h2⟩ ⟨h3, h4⟩
    exact ⟨hG.2.2.2.1 c d e hc h1 h3, h4⟩
  · rintro c d x ⟨hc, hcg⟩ h ⟨h1, h2⟩ hx
    rcases pu_cc_sc hC hc hcg h with ⟨_, h3⟩ | ⟨rfl, h3⟩
    · exact ⟨hG.2.2.2.2 c d x hc h3 h1 hx, h2⟩
    · have h4 := hG.2.2.2.2 g d x hg h3 h1 hx
      exact ⟨hG.2.2.2.2 c g x hb (pu_cc_bg hC) h4 h2, h2⟩
  · obtain ⟨tk, h3, _⟩ := hC.2.2.2.2.2.2.2.1 0 hS.1 (fun e => hg0 e.symm)
    rw [h3, hS.2.2.1]; rfl
  · rintro c ⟨hc, hcg⟩ s hs
    by_cases hcb : c = b
    · subst hcb
      rw [hC.2.2.2.2.2.2.2.2.2.1] at hs
      rcases List.mem_append.mp hs with h | h
      · exact hS.2.2.2.1 c hc s h
      · exact hS.2.2.2.1 g hg s h
    · rw [hC.2.2.2.2.2.2.2.2.1 c hc hcg hcb] at hs
      exact hS.2.2.2.1 c hc s hs
  · rintro c ⟨hc, hcg⟩
    by_cases hcb : c = b
    · subst hcb
      rw [pu_cc_blb hC]
      refine List.nodup_append.mpr ⟨hU.1 c hc, hU.1 g hg, fun u hu v hv e => ?_⟩
      subst e
      exact hcg (hU.2 c g u hc hg hu hv)
    · rw [pu_cc_blo hC hc hcg hcb]
      exact hU.1 c hc
  · rintro c d v ⟨hc, hcg⟩ ⟨hd, hdg⟩ h1 h2
    rcases hmem c v hc hcg h1 with h3 | ⟨h3, h4⟩
    · rcases hmem d v hd hdg h2 with h5 | ⟨h5, h6⟩
      · exact hU.2 c d v hc hd h3 h5
      · exact absurd (hU.2 c g v hc hg h3 h6) hcg
    · rcases hmem d v hd hdg h2 with h5 | ⟨h5, h6⟩
      · exact absurd (hU.2 d g v hd hg h5 h4) hdg
      · rw [h3, h5]
  · rintro c l1 s l2 ⟨hc, hcg⟩ h
    by_cases hcb : c = b
    · subst hcb
      rw [hC.2.2.2.2.2.2.2.2.2.1] at h
      have inb : ∀ z, (F c).2.1 = l1 ++ s :: z → (pu_ul s.1 = true → pu_av F' (fun c d => D c d ∧ d ≠ g) c l1 s.2.2.1) ∧ (pu_ur s.1 = true → pu_av F' (fun c d => D c d ∧ d ≠ g) c l1 s.2.2.2) := by
        intro z hz
        have hu := hS.2.2.2.2.2.1 c l1 s z hc hz
        exact ⟨fun h => pu_cc_av hS hC hD hc hcg (fun _ h => h) (hu.1 h), fun h => pu_cc_av hS hC hD hc hcg (fun _ h => h) (hu.2 h)⟩
      have ing : ∀ y, (F g).2.1 = y ++ s :: l2 → l1 = (F c).2.1 ++ y → (pu_ul s.1 = true → pu_av F' (fun c d => D c d ∧ d ≠ g) c l1 s.2.2.1) ∧ (pu_ur s.1 = true → pu_av F' (fun c d => D c d ∧ d ≠ g) c l1 s.2.2.2) := by
        intro y hy hl
        have hu := hS.2.2.2.2.2.1 g y s l2 hg hy
        have hm : ∀ u, (u ∈ pu_gvs (F c).2.1 ∨ u ∈ pu_gvs y) → u ∈ pu_gvs l1 := by
          intro u hu
          rw [hl, pu_gvs_app]
          exact List.mem_append.mpr hu
        exact ⟨fun h => pu_cc_avg hS hC hD hm (hu.1 h), fun h => pu_cc_avg hS hC hD hm (hu.2 h)⟩
      rcases List.append_eq_append_iff.mp h with ⟨y, h2, h3⟩ | ⟨y, h2, h3⟩
      · exact ing y h3 h2
      · cases y with
        | nil =>
          rw [List.append_nil] at h2
          rw [List.nil_append] at h3
          exact ing [] h3.symm (by rw [List.append_nil]; exact h2.symm)
        | cons y1 y2 =>
          cases h3
          exact inb y2 h2
    · rw [hC.2.2.2.2.2.2.2.2.1 c hc hcg hcb] at h
      have hu := hS.2.2.2.2.2.1 c l1 s l2 hc h
      exact ⟨fun h => pu_cc_av hS hC hD hc hcg (fun _ h => h) (hu.1 h), fun h => pu_cc_av hS hC hD hc hcg (fun _ h => h) (hu.2 h)⟩
  · rintro c ⟨hc, hcg⟩ hk
    by_cases hcb : c = b
    · subst hcb
      rw [hC.2.2.2.2.2.2.2.2.2.2] at hk ⊢
      refine pu_cc_avg hS hC hD (fun u hu => ?_) (hS.2.2.2.2.2.2.1 g hg hk)
      rw [hC.2.2.2.2.2.2.2.2.2.1, pu_gvs_app]
      exact List.mem_append.mpr hu
    · rw [hC.2.2.2.2.2.2.2.2.1 c hc hcg hcb] at hk ⊢
      exact pu_cc_av hS hC hD hc hcg (fun _ h => h) (hS.2.2.2.2.2.2.1 c hc hk)
  · rintro c d z ⟨hc, hcg⟩ h hz
    have hdL : L d ∧ d ≠ g := by
      rcases pu_cc_sc hC hc hcg h with ⟨h1, h2⟩ | ⟨rfl, h2⟩
      · exact ⟨hG.1 c d hc h2, fun e => h1 (hC.2.2.2.2.2.1 c hc (e ▸ h2))⟩
      · exact ⟨hG.1 g d hg h2, fun e => pu_cc_gg hC (e ▸ h2)⟩
    obtain ⟨tk, h3, h4⟩ := hC.2.2.2.2.2.2.2.1 d hdL.1 hdL.2
    rw [h3] at hz
    obtain ⟨y, hy, rfl⟩ := List.mem_map.mp hz
    show pu_av F' (fun c d => D c d ∧ d ≠ g) c (F' c).2.1 (tk y c)
    rcases pu_cc_sc hC hc hcg h with ⟨hcb, h2⟩ | ⟨rfl, h2⟩
    · have h5 := h4 y hy c hc h2
      rw [if_neg hcg] at h5
      rw [h5, hC.2.2.2.2.2.2.2.2.1 c hc hcg hcb]
      exact pu_cc_av hS hC hD hc hcg (fun _ h => h) (hS.2.2.2.2.2.2.2 c d y hc h2 hy)
    · have h5 := h4 y hy g hg h2
      rw [if_pos rfl] at h5
      rw [h5]
      refine pu_cc_avg hS hC hD (fun u hu => ?_) (hS.2.2.2.2.2.2.2 g d y hg h2 hy)
      rw [hC.2.2.2.2.2.2.2.2.2.1, pu_gvs_app]
      exact List.mem_append.mpr hu
theorem pu_cc_run (hS : pu_ssa F L D) (hC : pu_ccd F F' L b g) (hD : D g b) : ∀ (n c p : Nat) (σ : pu_S) (r : pu_Res), L c → c ≠ g → (c = 0 ∨ (L p ∧ pu_sc F p c)) → pu_run F call ar n c p σ = some r → pu_run F' call ar n c (if p = g then b else p) σ = some r := by
  have hbg : b ≠ g := fun e => hC.2.2.1 e.symm
  have hb := hC.2.2.2.1
  have hg := hC.2.2.2.2.1
  have hph : ∀ c p e, L c → c ≠ g → (c = 0 ∨ (L p ∧ pu_sc F p c)) → pu_phs (F' c).1 (if p = g then b else p) e = pu_phs (F c).1 p e := by
    intro c p e hc hcg hp
    obtain ⟨tk, h3, h4⟩ := hC.2.2.2.2.2.2.2.1 c hc hcg
    rw [h3]
    rcases hp with rfl | ⟨hp, hsc⟩
    · rw [hS.2.2.1]; rfl
    · exact pu_rn_phs fun z hz => h4 z hz p hp hsc
  intro n
  induction n using Nat.strongRecOn with
  | ind n ih =>
    intro c p σ r hc hcg hp h
    cases n with
    | zero => cases h
    | succ n =>
      unfold pu_run at h ⊢
      replace h := bnd9 h
      obtain ⟨o, ho, h⟩ := h
      unfold pu_blk at ho ⊢
      rw [hph c p σ.1 hc hcg hp]
      replace ho := bnd9 ho
      obtain ⟨o1, ho1, ho⟩ := ho
      by_cases hcb : c = b
      · subst hcb
        rw [hC.2.2.2.2.2.2.2.2.2.1, hC.2.2.2.2.2.2.2.2.2.2, pu_steps_app, ho1]
        cases o1 with
        | inl z =>
          cases ho
          exact h
        | inr τ =>
          have ho : pu_end (F c).2.2 τ = o := Option.some.inj ho
          have hend : pu_end (F c).2.2 τ = .inr (g, τ) := by
            unfold pu_end
            rw [if_neg (by rw [hC.1]; decide), if_neg (fun x => absurd (hC.1.symm.trans x.1) (by decide)), hC.2.1]
          rw [hend] at ho
          subst ho
          have h : (if τ.2.2 = [] then pu_run F call ar n g c τ else none) = some r := h
          have hq9 : τ.2.2 = [] := Classical.byContradiction fun h9 => by rw [if_neg h9] at h; cases h
          rw [if_pos hq9] at h
          cases n with
          | zero => cases h
          | succ n =>
            unfold pu_run at h
            replace h := bnd9 h
            obtain ⟨o2, ho2, h⟩ := h
            unfold pu_blk at ho2
            replace ho2 := bnd9 ho2
            obtain ⟨o3, ho3, ho2⟩ := ho2
            rw [hC.2.2.2.2.2.2.1] at ho3
            have ho3 : pu_steps call ar (F g).2.1 τ = some o3 := ho3
            show ((pu_steps call ar (F g).2.1 τ).bind _).bind _ = _
            rw [ho3]
            cases o3 with
            | inl z => cases ho2; exact h
            | inr ρ =>
              have ho2 : pu_end (F g).2.2 ρ = o2 := Option.some.inj ho2
              show (some (pu_end (F g).2.2 ρ)).bind _ = _
              rw [ho2]
              cases o2 with
              | inl z => exact h
              | inr x =>
                obtain ⟨d, ρ2⟩ := x
                obtain ⟨hsc, rfl⟩ := pu_end_sc ho2
                have hdL := hS.2.1.1 g d hg hsc
                have hdg : d ≠ g := fun e => pu_cc_gg hC (e ▸ hsc)
                have h : (if ρ2.2.2 = [] then pu_run F call ar n d g ρ2 else none) = some r := h
                show (if ρ2.2.2 = [] then pu_run F' call ar (n + 1) d c ρ2 else none) = some r
                by_cases hq8 : ρ2.2.2 = []
                · rw [if_pos hq8] at h ⊢
                  have h9 := ih n (by omega) d g ρ2 r hdL hdg (Or.inr ⟨hg, hsc⟩) h
                  rw [if_pos rfl] at h9
                  exact pu_run_le n 1 d c ρ2 r h9
                · rw [if_neg hq8] at h; cases h
      · rw [hC.2.2.2.2.2.2.2.2.1 c hc hcg hcb, ho1]
        cases o1 with
        | inl z => cases ho; exact h
        | inr τ =>
          have ho : pu_end (F c).2.2 τ = o := Option.some.inj ho
          show (some (pu_end (F c).2.2 τ)).bind _ = _
          rw [ho]
          cases o with
          | inl z => exact h
          | inr x =>
            obtain ⟨d, ρ⟩ := x
            obtain ⟨hsc, rfl⟩ := pu_end_sc ho
            have hdL := hS.2.1.1 c d hc hsc
            have hdg : d ≠ g := fun e => hcb (hC.2.2.2.2.2.1 c hc (e ▸ hsc))
            have h : (if ρ.2.2 = [] then pu_run F call ar n d c ρ else none) = some r := h
            show (if ρ.2.2 = [] then pu_run F' call ar n d c ρ else none) = some r
            by_cases hq8 : ρ.2.2 = []
            · rw [if_pos hq8] at h ⊢
              have h9 := ih n (by omega) d c ρ r hdL hdg (Or.inr ⟨hc, hsc⟩) h
              rw [if_neg hcg] at h9
              exact h9
            · rw [if_neg hq8] at h; cases h
end CC
