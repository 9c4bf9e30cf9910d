/-! pure side 11: phis become copies -/
/-- moves at once, as copies one behind the other: l the moves left, k the first number that is free -/
def pu_pmr : List pu_Stp → List (Int32 × Int32) → Nat → Nat → Prop
  | [], l, k, k' => l = [] ∧ k' = k
  | s :: cs, l, k, k' => (∃ a x c, l = a ++ x :: c ∧ (∀ y ∈ l, y.2 ≠ x.1) ∧ s = (25, x.1, x.2, -1) ∧ pu_pmr cs (a ++ c) k k') ∨
      (∃ x c, l = x :: c ∧ (∃ y ∈ l, y.2 = x.1) ∧ s = (25, pu_I k, x.1, -1) ∧ pu_pmr cs (l.map (fun y => if y.2 = x.1 then (y.1, pu_I k) else y)) (k + 1) k')
theorem pu_pmr_k : ∀ (cs : List pu_Stp) (l : List (Int32 × Int32)) (k k' : Nat), pu_pmr cs l k k' → k ≤ k' := by
  intro cs
  induction cs with
  | nil => intro l k k' h; exact Nat.le_of_eq h.2.symm
  | cons s cs ih =>
    intro l k k' h
    rcases h with ⟨a, x, c, _, _, _, h⟩ | ⟨x, c, _, _, _, h⟩
    · exact ih _ _ _ h
    · exact Nat.le_of_succ_le (ih _ _ _ h)
theorem pu_cpW {call : pu_Call} {ar : List Int32} {g l : Int32} {cs : List pu_Stp} {e : pu_E} {w : pu_M × List Int32 × (Nat → Int32)} : pu_stepsW call ar ((25, g, l, -1) :: cs) (e, w) = pu_stepsW call ar cs (pu_set e g (e l), w) := rfl
theorem pu_pm_run {call : pu_Call} {ar : List Int32} {w : pu_M × List Int32 × (Nat → Int32)} : ∀ (cs : List pu_Stp) (l : List (Int32 × Int32)) (k k' : Nat) (e : pu_E), pu_pmr cs l k k' → k' < 2147483648 → (l.map Prod.fst).Nodup → (∀ y ∈ l, nn y.1 < k ∧ nn y.2 < k) →
    ∃ e1, pu_stepsW call ar cs (e, w) = some (.inr (e1, w)) ∧ (∀ y ∈ l, e1 y.1 = e y.2) ∧ (∀ u, (∀ y ∈ l, y.1 ≠ u) → nn u < k → e1 u = e u) := by
  intro cs
  induction cs with
  | nil =>
    intro l k k' e h _ _ _
    refine ⟨e, rfl, fun y hy => ?_, fun u _ _ => rfl⟩
    rw [h.1] at hy
    cases hy
  | cons s cs ih =>
    intro l k k' e h hk hnd hlt
    rcases h with ⟨a, x, c, hl, hfr, rfl, h⟩ | ⟨x, c, hl, _, rfl, h⟩
    · have hx : x ∈ l := by rw [hl]; exact List.mem_append_right _ List.mem_cons_self
      have hsub : ∀ y, y ∈ a ++ c → y ∈ l := by
        intro y hy
        rw [hl]
        rcases List.mem_append.mp hy with h | h
        · exact List.mem_append_left _ h
        · exact List.mem_append_right _ (List.mem_cons_of_mem _ h)
      have hnd2 : ((a ++ c).map Prod.fst).Nodup ∧ ∀ y ∈ a ++ c, y.1 ≠ x.1 := by
        rw [hl, List.map_append, List.map_cons] at hnd
        have h1 := (List.perm_middle (a := x.1) (l₁ := a.map Prod.fst) (l₂ := c.map Prod.fst)).nodup_iff.mp hnd
        rw [List.nodup_cons] at h1
        rw [List.map_append]
        refine ⟨h1.2, fun y hy e9 => h1.1 ?_⟩
        rw [← List.map_append, ← e9]
        exact List.mem_map_of_mem hy
      obtain ⟨e1, h1, h2, h3⟩ := ih (a ++ c) k k' (pu_set e x.1 (e x.2)) h hk hnd2.1 (fun y hy => hlt y (hsub y hy))
      refine ⟨e1, by rw [pu_cpW]; exact h1, fun y hy => ?_, fun u hu hku => ?_⟩
      · rw [hl] at hy
        have hy2 : y = x ∨ y ∈ a ++ c := by
          rcases List.mem_append.mp hy with h | h
          · exact Or.inr (List.mem_append_left _ h)
          · rcases List.mem_cons.mp h with h | h
            · exact Or.inl h
            · exact Or.inr (List.mem_append_right _ h)
        rcases hy2 with rfl | hy2
        · rw [h3 y.1 hnd2.2 (hlt y hx).1, pu_set_s]
        · rw [h2 y hy2, pu_set_n (hfr y (hsub y hy2))]
      · rw [h3 u (fun y hy => hu y (hsub y hy)) hku, pu_set_n (fun c => hu x hx c.symm)]
    · have hkk := pu_pmr_k _ _ _ _ h
      have hne : ∀ u : Int32, nn u < k → u ≠ pu_I k := by
        intro u hu e9
        rw [e9, pu_nn (by omega)] at hu
        omega
      have hmap : (l.map (fun y => if y.2 = x.1 then (y.1, pu_I k) else y)).map Prod.fst = l.map Prod.fst := by
        rw [List.map_map]
        refine List.map_congr_left fun y _ => ?_
        show (if y.2 = x.1 then (y.1, pu_I k) else y).1 = y.1
        by_cases h : y.2 = x.1
        · rw [if_pos h]
        · rw [if_neg h]
      have hx : x ∈ l := by rw [hl]; exact List.mem_cons_self
      obtain ⟨e1, h1, h2, h3⟩ := ih _ (k + 1) k' (pu_set e (pu_I k) (e x.1)) h hk (by rw [hmap]; exact hnd) (fun y hy => by
        obtain ⟨z, hz, rfl⟩ := List.mem_map.mp hy
        have := hlt z hz
        by_cases h : z.2 = x.1
        · rw [if_pos h]
          refine ⟨by show nn z.1 < k + 1; omega, ?_⟩
          show nn (pu_I k) < k + 1
          rw [pu_nn (by omega)]
          omega
        · rw [if_neg h]
          omega)
      refine ⟨e1, by rw [pu_cpW]; exact h1, fun y hy => ?_, fun u hu hku => ?_⟩
      · have h4 := h2 _ (List.mem_map_of_mem (f := fun y => if y.2 = x.1 then (y.1, pu_I k) else y) hy)
        by_cases h : y.2 = x.1
        · rw [if_pos h] at h4
          have h4 : e1 y.1 = pu_set e (pu_I k) (e x.1) (pu_I k) := h4
          rw [h4, pu_set_s, h]
        · rw [if_neg h] at h4
          rw [h4, pu_set_n (hne _ (hlt y hy).2)]
      · rw [h3 u (fun y hy => ?_) (by omega), pu_set_n (hne u hku)]
        obtain ⟨z, hz, rfl⟩ := List.mem_map.mp hy
        by_cases h : z.2 = x.1
        · rw [if_pos h]; exact hu z hz
        · rw [if_neg h]; exact hu z hz
theorem pu_lv_app (a l : List pu_Stp) (X : Int32 → Prop) (v : Int32) : pu_lv (a ++ l) X v ↔ pu_lv a (pu_lv l X) v := by
  induction a with
  | nil => exact Iff.rfl
  | cons s a ih =>
    show (_ ∨ _ ∨ (pu_lv (a ++ l) X v ∧ _)) ↔ (_ ∨ _ ∨ (pu_lv a (pu_lv l X) v ∧ _))
    rw [ih]
theorem pu_pm_lv {X : Int32 → Prop} : ∀ (cs : List pu_Stp) (l : List (Int32 × Int32)) (k k' : Nat) (v : Int32), pu_pmr cs l k k' → pu_lv cs X v → (∃ y ∈ l, v = y.2) ∨ (X v ∧ ∀ y ∈ l, v ≠ y.1) := by
  intro cs
  induction cs with
  | nil =>
    intro l k k' v h hv
    refine Or.inr ⟨hv, fun y hy => ?_⟩
    rw [h.1] at hy
    cases hy
  | cons s cs ih =>
    intro l k k' v h hv
    rcases h with ⟨a, x, c, hl, hfr, rfl, h⟩ | ⟨x, c, hl, hex, rfl, h⟩
    · rcases hv with ⟨_, hv⟩ | ⟨h9, _⟩ | ⟨hv, hg⟩
      · exact Or.inl ⟨x, by rw [hl]; exact List.mem_append_right _ List.mem_cons_self, hv⟩
      · exact absurd h9 (show ¬ pu_ur 25 = true by decide)
      · have hg : v ≠ x.1 := fun c => hg ⟨show pu_gw 25 = true by decide, c⟩
        rcases ih _ _ _ v h hv with ⟨y, hy, rfl⟩ | ⟨h1, h2⟩
        · refine Or.inl ⟨y, ?_, rfl⟩
          rw [hl]
          rcases List.mem_append.mp hy with h | h
          · exact List.mem_append_left _ h
          · exact List.mem_append_right _ (List.mem_cons_of_mem _ h)
        · refine Or.inr ⟨h1, fun y hy => ?_⟩
          rw [hl] at hy
          rcases List.mem_append.mp hy with h | h
          · exact h2 y (List.mem_append_left _ h)
          · rcases List.mem_cons.mp h with rfl | h
            · exact hg
            · exact h2 y (List.mem_append_right _ h)
    · rcases hv with ⟨_, hv⟩ | ⟨h9, _⟩ | ⟨hv, hg⟩
      · obtain ⟨y, hy, he⟩ := hex
        exact Or.inl ⟨y, hy, he ▸ hv⟩
      · exact absurd h9 (show ¬ pu_ur 25 = true by decide)
      · have hg : v ≠ pu_I k := fun c => hg ⟨show pu_gw 25 = true by decide, c⟩
        rcases ih _ _ _ v h hv with ⟨y, hy, rfl⟩ | ⟨h1, h2⟩
        · obtain ⟨z, hz, rfl⟩ := List.mem_map.mp hy
          by_cases h : z.2 = x.1
          · rw [if_pos h] at hg
            exact absurd rfl hg
          · rw [if_neg h]
            exact Or.inl ⟨z, hz, rfl⟩
        · refine Or.inr ⟨h1, fun y hy => ?_⟩
          have h4 := h2 _ (List.mem_map_of_mem (f := fun y => if y.2 = x.1 then (y.1, pu_I k) else y) hy)
          by_cases h : y.2 = x.1
          · rw [if_pos h] at h4; exact h4
          · rw [if_neg h] at h4; exact h4
/-- a flow of single assignments and a flow without phis -/
theorem pu_simX {F F' : pu_Flow} {call : pu_Call} {ar : List Int32} (Rel : Nat → Nat → pu_S → pu_SW → Prop)
    (h : ∀ b p σ σ' o, Rel b p σ σ' → pu_blk F call ar b p σ = some o →
      (∃ r, o = .inl r ∧ pu_blkW F' call ar b σ' = some (.inl r)) ∨ (∃ c τ τ', o = .inr (c, τ) ∧ pu_blkW F' call ar b σ' = some (.inr (c, τ')) ∧ Rel c b τ τ')) :
    ∀ n b p σ σ' r, Rel b p σ σ' → pu_run F call ar n b p σ = some r → pu_runW F' call ar n b σ' = some r := by
  intro n
  induction n with
  | zero => intro b p σ σ' r _ hr; cases hr
  | succ n ih =>
    intro b p σ σ' r hR hr
    unfold pu_run at hr
    unfold pu_runW
    obtain ⟨o, ho, hk⟩ := bnd9 hr
    rcases h b p σ σ' o hR ho with ⟨r1, rfl, h2⟩ | ⟨c, τ, τ', rfl, h2, h3⟩
    · rw [h2]; exact hk
    · rw [h2]
      have hk : (if τ.2.2 = [] then pu_run F call ar n c b τ else none) = some r := hk
      by_cases h9 : τ.2.2 = []
      · rw [if_pos h9] at hk
        exact ih _ _ _ _ _ h3 hk
      · rw [if_neg h9] at hk; cases hk
theorem pu_gk_nw {k : Int32} (h : pu_gk k = true ∨ k = 18 ∨ k = 19) : k ≠ 25 ∧ k ≠ 26 ∧ k ≠ 27 := by
  refine ⟨?_, ?_, ?_⟩ <;> (intro c; subst c; revert h; decide)
theorem pu_stpW_s {call : pu_Call} {ar : List Int32} {s : pu_Stp} {e : pu_E} {m : pu_M} {q : List Int32} {z : Nat → Int32} (h : pu_gk s.1 = true ∨ s.1 = 18 ∨ s.1 = 19) : pu_stpW call ar s (e, m, q, z) = (pu_stp call ar s.1 s.2.1 s.2.2.1 s.2.2.2 e m q).bind fun o => some (Sum.elim .inl (fun τ => .inr (τ.1, τ.2.1, τ.2.2, z)) o) := by
  have h := pu_gk_nw h
  unfold pu_stpW
  rw [if_neg h.1, if_neg h.2.1, if_neg h.2.2]
theorem pu_same_stepsW {F : pu_Flow} {L : Nat → Prop} {D : Nat → Nat → Prop} (hS : pu_ssa F L D) {b : Nat} (hb : L b) {call : pu_Call} {ar : List Int32} {z : Nat → Int32} :
    ∀ (l l1 l2 : List pu_Stp) (e e' : pu_E) (m : pu_M) (q : List Int32) (o : Sum pu_Res pu_S), (F b).2.1 = l1 ++ (l ++ l2) → (∀ v, pu_av F D b l1 v → e v = e' v) → pu_steps call ar l (e, m, q) = some o →
      (∃ y, o = .inl y ∧ pu_stepsW call ar l (e', m, q, z) = some (.inl y)) ∨ (∃ τ e2, o = .inr τ ∧ pu_stepsW call ar l (e', m, q, z) = some (.inr (e2, τ.2.1, τ.2.2, z)) ∧ (∀ v, pu_av F D b (l1 ++ l) v → τ.1 v = e2 v)) := by
  intro l
  induction l with
  | nil =>
    intro l1 l2 e e' m q o _ ha h
    cases h
    exact Or.inr ⟨_, e', rfl, rfl, by rw [List.append_nil]; exact ha⟩
  | cons s l ih =>
    intro l1 l2 e e' m q o hl ha h
    have hm : s ∈ (F b).2.1 := by rw [hl]; exact List.mem_append_right _ List.mem_cons_self
    have hl2 : (F b).2.1 = (l1 ++ [s]) ++ (l ++ l2) := by rw [hl]; simp
    have hu := hS.2.2.2.2.2.1 b l1 s (l ++ l2) hb hl
    have hk := hS.2.2.2.1 b hb s hm
    unfold pu_steps at h
    replace h := bnd9 h
    obtain ⟨o1, ho1, h⟩ := h
    rcases pu_stp_cg (g' := s.2.1) (e' := e') hk (fun h => ha _ (hu.1 h)) (fun h => ha _ (hu.2 h)) (fun _ => rfl) ho1 with ⟨y, rfl, h2⟩ | ⟨τ, rfl, ⟨_, x, hx, h2⟩ | ⟨hg, hx, h2⟩⟩
    · cases h
      refine Or.inl ⟨y, rfl, ?_⟩
      unfold pu_stepsW
      rw [pu_stpW_s hk]
      have h2 : pu_stp call ar s.1 s.2.1 s.2.2.1 s.2.2.2 e' m q = _ := h2
      rw [h2]; rfl
    · obtain ⟨e2, m2, q2⟩ := τ
      have hx : e2 = _ := hx
      subst hx
      have h2 : pu_stp call ar s.1 s.2.1 s.2.2.1 s.2.2.2 e' m q = _ := h2
      have h3 := ih (l1 ++ [s]) l2 (pu_set e s.2.1 x) (pu_set e' s.2.1 x) m2 q2 o hl2 (fun v hv => ?_) h
      · unfold pu_stepsW
        rw [pu_stpW_s hk, h2]
        simpa using h3
      · by_cases hv9 : v = s.2.1
        · rw [hv9, pu_set_s, pu_set_s]
        · rw [pu_set_n hv9, pu_set_n hv9]
          exact ha v ((pu_av_c hv).resolve_right fun c => hv9 c.2)
    · obtain ⟨e2, m2, q2⟩ := τ
      have hx : e2 = _ := hx
      subst hx
      have h2 : pu_stp call ar s.1 s.2.1 s.2.2.1 s.2.2.2 e' m q = _ := h2
      have h3 := ih (l1 ++ [s]) l2 e2 e' m2 q2 o hl2 (fun v hv => ha v ((pu_av_c hv).resolve_right fun c => by rw [hg] at c; cases c.1)) h
      unfold pu_stepsW
      rw [pu_stpW_s hk, h2]
      simpa using h3
/-- what copies at a block's end do -/
def pu_cpd (F F' : pu_Flow) (L : Nat → Prop) (D : Nat → Nat → Prop) : Prop :=
  (∀ b, L b → (F' b).1 = [] ∧ (F' b).2.2 = (F b).2.2 ∧ ∃ cs, (F' b).2.1 = (F b).2.1 ++ cs ∧
    (∀ call ar e w, ∃ e1, pu_stepsW call ar cs (e, w) = some (.inr (e1, w)) ∧ (∀ c z, pu_sc F b c → z ∈ (F c).1 → e1 z.1 = e (z.2 b)) ∧ (∀ u, pu_av F D b (F b).2.1 u → (∀ c z, pu_sc F b c → z ∈ (F c).1 → z.1 ≠ u) → e1 u = e u)) ∧
    (∀ X v, pu_lv cs X v → (∃ c z, pu_sc F b c ∧ z ∈ (F c).1 ∧ v = z.2 b) ∨ (X v ∧ ∀ c z, pu_sc F b c → z ∈ (F c).1 → z.2 b ≠ z.1 → v ≠ z.1))) ∧
  (∀ b c z v, L b → (F b).2.2.1 = 23 → pu_sc F b c → z ∈ (F c).1 → pu_av F D b (F b).2.1 v → v ≠ z.1)
theorem pu_cp_run {F F' : pu_Flow} {L : Nat → Prop} {D : Nat → Nat → Prop} {call : pu_Call} {ar : List Int32} (hS : pu_ssa F L D) (hC : pu_cpd F F' L D) {n : Nat} {e e' : pu_E} {m : pu_M} {q : List Int32} {z : Nat → Int32} {r : pu_Res}
    (h : pu_run F call ar n 0 0 (e, m, q) = some r) : pu_runW F' call ar n 0 (e', m, q, z) = some r := by
  refine pu_simX (F := F) (F' := F') (fun b p σ σ' => L b ∧ (∀ v, pu_av F D b [] v → pu_phs (F b).1 p σ.1 v = σ'.1 v) ∧ (σ.2.1, σ.2.2, z) = σ'.2) ?_ n 0 0 (e, m, q) (e', m, q, z) r ⟨hS.1, ?_, rfl⟩ h
  · rintro b p ⟨e1, m1, q1⟩ ⟨e2, w2⟩ o ⟨hb, ha, hq⟩ ho
    have hq : (m1, q1, z) = w2 := hq
    subst hq
    obtain ⟨_, hend, cs, hst, hcs, _⟩ := hC.1 b hb
    unfold pu_blk at ho
    replace ho := bnd9 ho
    obtain ⟨o1, ho1, ho⟩ := ho
    have hph : pu_blkW F' call ar b (e2, m1, q1, z) = (pu_stepsW call ar ((F b).2.1 ++ cs) (e2, m1, q1, z)).bind fun o => Sum.elim (fun r => some (.inl r)) (fun τ => some (pu_endW (F b).2.2 τ)) o := by
      unfold pu_blkW
      rw [hst, hend]
    rw [hph, pu_stepsW_app]
    rcases pu_same_stepsW (z := z) hS hb (F b).2.1 [] [] _ e2 m1 q1 o1 (by simp) ha ho1 with ⟨y, rfl, h2⟩ | ⟨τ, e3, rfl, h2, h3⟩
    · cases ho
      exact Or.inl ⟨y, rfl, by rw [h2]; rfl⟩
    · rw [List.nil_append] at h3
      have ho : pu_end (F b).2.2 τ = o := Option.some.inj ho
      obtain ⟨e4, h4, h5, h6⟩ := hcs call ar e3 (τ.2.1, τ.2.2, z)
      rw [h2]
      have h7 : ((some (Sum.inr (e3, τ.2.1, τ.2.2, z)) : Option (Sum pu_Res pu_SW)).bind fun o => Sum.elim (fun r => some (.inl r)) (fun τ => pu_stepsW call ar cs τ) o) = some (.inr (e4, τ.2.1, τ.2.2, z)) := h4
      rw [h7]
      show (∃ r, o = .inl r ∧ some (pu_endW (F b).2.2 (e4, τ.2.1, τ.2.2, z)) = some (.inl r)) ∨ (∃ c τ1 τ', o = .inr (c, τ1) ∧ some (pu_endW (F b).2.2 (e4, τ.2.1, τ.2.2, z)) = some (.inr (c, τ')) ∧ _)
      have hV : ((F b).2.2.1 = 23 ∨ (F b).2.2.1 = 24) → τ.1 (F b).2.2.2.1 = e4 (F b).2.2.2.1 := by
        intro hk
        have hav := hS.2.2.2.2.2.2.1 b hb hk
        rw [h3 _ hav]
        symm
        refine h6 _ hav fun c y hsc hy e9 => ?_
        rcases hk with hk | hk
        · exact hC.2 b c y _ hb hk hsc hy hav e9.symm
        · exact hsc.1 hk
      unfold pu_end at ho
      by_cases c1 : (F b).2.2.1 = 24
      · rw [if_pos c1] at ho
        subst ho
        refine Or.inl ⟨_, rfl, ?_⟩
        unfold pu_endW
        rw [if_pos c1, hV (Or.inr c1)]
      · rw [if_neg c1] at ho
        have hnext : ∀ c, pu_sc F b c → o = .inr (c, τ) → pu_endW (F b).2.2 (e4, τ.2.1, τ.2.2, z) = .inr (c, (e4, τ.2.1, τ.2.2, z)) → (∃ r, o = .inl r ∧ some (pu_endW (F b).2.2 (e4, τ.2.1, τ.2.2, z)) = some (.inl r)) ∨ (∃ c τ1 τ', o = .inr (c, τ1) ∧ some (pu_endW (F b).2.2 (e4, τ.2.1, τ.2.2, z)) = some (.inr (c, τ')) ∧ L c ∧ (∀ v, pu_av F D c [] v → pu_phs (F c).1 b τ1.1 v = τ'.1 v) ∧ (τ1.2.1, τ1.2.2, z) = τ'.2) := by
          intro c hsc h8 h9
          have hc := hS.2.1.1 b c hb hsc
          refine Or.inr ⟨c, τ, (e4, τ.2.1, τ.2.2, z), h8, congrArg some h9, hc, fun v hv => ?_, rfl⟩
          show _ = e4 v
          rcases pu_av_edge hS hb hsc hv with h | ⟨hn, hav⟩
          · obtain ⟨y, hy, rfl⟩ := List.mem_map.mp h
            rw [pu_phs_s (pu_nd_phi hS.2.2.2.2.1 hc) hy, h5 c y hsc hy]
            exact h3 _ (hS.2.2.2.2.2.2.2 b c y hb hsc hy)
          · rw [pu_phs_n hn, h3 v hav]
            symm
            refine h6 v hav fun d y hsd hy e9 => ?_
            by_cases h23 : (F b).2.2.1 = 23
            · exact hC.2 b d y v hb h23 hsd hy hav e9.symm
            · have e1 := hsc.2.resolve_right fun c => h23 c.1
              have e2 := hsd.2.resolve_right fun c => h23 c.1
              rw [e2, ← e1] at hy
              exact hn y hy e9
        by_cases c2 : (F b).2.2.1 = 23 ∧ τ.1 (F b).2.2.2.1 = 0
        · rw [if_pos c2] at ho
          refine hnext _ ⟨c1, Or.inr ⟨c2.1, rfl⟩⟩ ho.symm ?_
          unfold pu_endW
          rw [if_neg c1, if_pos ⟨c2.1, (hV (Or.inl c2.1)).symm.trans c2.2⟩]
        · rw [if_neg c2] at ho
          refine hnext _ ⟨c1, Or.inl rfl⟩ ho.symm ?_
          unfold pu_endW
          rw [if_neg c1, if_neg (fun c => c2 ⟨c.1, (hV (Or.inl c.1)).trans c.2⟩)]
  · intro v hv
    rcases hv with h | h | ⟨d, h1, h2, _⟩
    · rw [hS.2.2.1] at h; cases h
    · cases h
    · have := (hS.2.1.2.1 0 d hS.1 h2).1
      omega
theorem pu_lv_mono {X Y : Int32 → Prop} (h : ∀ v, X v → Y v) : ∀ (l : List pu_Stp) (v : Int32), pu_lv l X v → pu_lv l Y v := by
  intro l
  induction l with
  | nil => exact h
  | cons s l ih =>
    intro v hv
    rcases hv with h1 | h1 | ⟨h1, h2⟩
    · exact Or.inl h1
    · exact Or.inr (Or.inl h1)
    · exact Or.inr (Or.inr ⟨ih v h1, h2⟩)
/-- what is live is given -/
theorem pu_cp_lok {F F' : pu_Flow} {L : Nat → Prop} {D : Nat → Nat → Prop} (hS : pu_ssa F L D) (hC : pu_cpd F F' L D) : pu_lok F' L (fun b v => pu_av F D b [] v) ∧ ∀ v, ¬ pu_av F D 0 [] v := by
  constructor
  · intro b v hb hv
    obtain ⟨_, hend, cs, hst, _, hlv⟩ := hC.1 b hb
    rw [hst, pu_lv_app] at hv
    have hX : ∀ u, pu_lv cs (pu_xo F' (fun b v => pu_av F D b [] v) b) u → pu_av F D b (F b).2.1 u := by
      intro u hu
      rcases hlv _ u hu with ⟨c, z, hsc, hz, rfl⟩ | ⟨hx, hn⟩
      · exact hS.2.2.2.2.2.2.2 b c z hb hsc hz
      · unfold pu_xo at hx
        have hsF : ∀ c, pu_sc F' b c → pu_sc F b c := by
          intro c h
          unfold pu_sc at h ⊢
          rw [hend] at h
          exact h
        rw [hend] at hx
        rcases hx with ⟨hk, rfl⟩ | ⟨c, hsc, hav⟩
        · exact hS.2.2.2.2.2.2.1 b hb hk
        · have hsc := hsF c hsc
          rcases pu_av_edge hS hb hsc hav with h | ⟨_, h⟩
          · obtain ⟨z, hz, rfl⟩ := List.mem_map.mp h
            by_cases h9 : z.2 b = z.1
            · rw [← h9]; exact hS.2.2.2.2.2.2.2 b c z hb hsc hz
            · exact absurd rfl (hn c z hsc hz h9)
          · exact h
    have hv := pu_lv_mono hX _ v hv
    suffices H : ∀ (l l1 : List pu_Stp), (F b).2.1 = l1 ++ l → pu_lv l (fun u => pu_av F D b (F b).2.1 u) v → pu_av F D b l1 v from H _ [] rfl hv
    intro l
    induction l with
    | nil =>
      intro l1 hl h
      rw [List.append_nil] at hl
      rw [← hl]
      exact h
    | cons s l ih =>
      intro l1 hl h
      have hu := hS.2.2.2.2.2.1 b l1 s l hb hl
      rcases h with ⟨h1, rfl⟩ | ⟨h1, rfl⟩ | ⟨h1, h2⟩
      · exact hu.1 h1
      · exact hu.2 h1
      · refine (pu_av_c (ih (l1 ++ [s]) (by rw [hl]; simp) h1)).resolve_right fun c => h2 ⟨?_, c.2⟩
        unfold pu_gw
        rw [c.1]
        rfl
  · intro v hv
    rcases hv with h | h | ⟨d, h1, h2, _⟩
    · rw [hS.2.2.1] at h; cases h
    · cases h
    · have := (hS.2.1.2.1 0 d hS.1 h2).1
      omega
/-- what is live in a renamed flow is the name of what was -/
theorem pu_ro_lok {F : pu_Flow} {L : Nat → Prop} {V : Nat → Int32 → Prop} {ro : Int32 → Int32} (hV : pu_lok F L V) : pu_lok (pu_roF F ro) L (fun b u => ∃ v, V b v ∧ ro v = u) := by
  intro b u hb hu
  have hu : pu_lv (((F b).2.1.filter (fun s => !pu_idl ro s)).map (pu_rns ro)) (pu_xo (pu_roF F ro) (fun b u => ∃ v, V b v ∧ ro v = u) b) u := hu
  have hX : ∀ u, pu_xo (pu_roF F ro) (fun b u => ∃ v, V b v ∧ ro v = u) b u → ∃ v, pu_xo F V b v ∧ ro v = u := by
    intro u h
    rcases h with ⟨hk, rfl⟩ | ⟨c, hsc, v, hv, rfl⟩
    · exact ⟨_, Or.inl ⟨hk, rfl⟩, rfl⟩
    · exact ⟨v, Or.inr ⟨c, hsc, hv⟩, rfl⟩
  suffices H : ∀ (l : List pu_Stp), pu_lv ((l.filter (fun s => !pu_idl ro s)).map (pu_rns ro)) (pu_xo (pu_roF F ro) (fun b u => ∃ v, V b v ∧ ro v = u) b) u → ∃ v, pu_lv l (pu_xo F V b) v ∧ ro v = u by
    obtain ⟨v, h1, h2⟩ := H _ hu
    exact ⟨v, hV b v hb h1, h2⟩
  intro l
  induction l with
  | nil => exact hX u
  | cons s l ih =>
    intro h
    by_cases hi : pu_idl ro s = true
    · rw [List.filter_cons, if_neg (by rw [hi]; decide)] at h
      obtain ⟨v, h1, h2⟩ := ih h
      have hi2 := of_decide_eq_true hi
      by_cases hg : v = s.2.1
      · refine ⟨s.2.2.1, Or.inl ⟨by rw [hi2.1]; decide, rfl⟩, ?_⟩
        rw [← hi2.2, ← hg]
        exact h2
      · exact ⟨v, Or.inr (Or.inr ⟨h1, fun c => hg c.2⟩), h2⟩
    · rw [List.filter_cons, if_pos (by simpa using hi), List.map_cons] at h
      unfold pu_rns at h
      rcases h with ⟨h1, h2⟩ | ⟨h1, h2⟩ | ⟨h1, h2⟩
      · have h1 : pu_ul s.1 = true := h1
        have h2 : u = if pu_ul s.1 = true then ro s.2.2.1 else s.2.2.1 := h2
        rw [if_pos h1] at h2
        exact ⟨s.2.2.1, Or.inl ⟨h1, rfl⟩, h2.symm⟩
      · have h1 : pu_ur s.1 = true := h1
        have h2 : u = if pu_ur s.1 = true then ro s.2.2.2 else s.2.2.2 := h2
        rw [if_pos h1] at h2
        exact ⟨s.2.2.2, Or.inr (Or.inl ⟨h1, rfl⟩), h2.symm⟩
      · obtain ⟨v, h3, h4⟩ := ih h1
        refine ⟨v, Or.inr (Or.inr ⟨h3, fun c => h2 ⟨c.1, ?_⟩⟩), h4⟩
        show u = if pu_gw s.1 = true then ro s.2.1 else s.2.1
        rw [if_pos c.1, ← c.2]
        exact h4.symm
