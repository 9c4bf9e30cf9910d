/-! pure side 10: flows without phis, with slots; values live; renaming -/
abbrev pu_SW := pu_E × pu_M × List Int32 × (Nat → Int32)
def pu_stpW (call : pu_Call) (ar : List Int32) (s : pu_Stp) (σ : pu_SW) : Option (Sum pu_Res pu_SW) :=
  if s.1 = 25 then some (.inr (pu_set σ.1 s.2.1 (σ.1 s.2.2.1), σ.2))
  else if s.1 = 26 then some (.inr (pu_set σ.1 s.2.1 (σ.2.2.2 (nn s.2.2.1)), σ.2))
  else if s.1 = 27 then some (.inr (σ.1, σ.2.1, σ.2.2.1, fun i => if i = nn s.2.2.2 then σ.1 s.2.2.1 else σ.2.2.2 i))
  else (pu_stp call ar s.1 s.2.1 s.2.2.1 s.2.2.2 σ.1 σ.2.1 σ.2.2.1).bind fun o => some (Sum.elim .inl (fun τ => .inr (τ.1, τ.2.1, τ.2.2, σ.2.2.2)) o)
def pu_stepsW (call : pu_Call) (ar : List Int32) : List pu_Stp → pu_SW → Option (Sum pu_Res pu_SW)
  | [], σ => some (.inr σ)
  | s :: l, σ => (pu_stpW call ar s σ).bind fun o => Sum.elim (fun r => some (.inl r)) (fun τ => pu_stepsW call ar l τ) o
def pu_endW (x : pu_End) (τ : pu_SW) : Sum pu_Res (Nat × pu_SW) :=
  if x.1 = 24 then .inl (pu_rq τ.2.2.1, τ.1 x.2.1, τ.2.1)
  else if x.1 = 23 ∧ τ.1 x.2.1 = 0 then .inr (nn x.2.2.2, τ)
  else .inr (nn x.2.2.1, τ)
def pu_blkW (F : pu_Flow) (call : pu_Call) (ar : List Int32) (b : Nat) (σ : pu_SW) : Option (Sum pu_Res (Nat × pu_SW)) :=
  (pu_stepsW call ar (F b).2.1 σ).bind fun o => Sum.elim (fun r => some (.inl r)) (fun τ => some (pu_endW (F b).2.2 τ)) o
def pu_runW (F : pu_Flow) (call : pu_Call) (ar : List Int32) : Nat → Nat → pu_SW → Option pu_Res
  | 0, _, _ => none
  | n + 1, b, σ => (pu_blkW F call ar b σ).bind fun o => Sum.elim some (fun x => pu_runW F call ar n x.1 x.2) o
theorem pu_simW {F F' : pu_Flow} {call : pu_Call} {ar : List Int32} (Rel : Nat → pu_SW → Nat → pu_SW → Prop)
    (h : ∀ b σ b' σ' o, Rel b σ b' σ' → pu_blkW F call ar b σ = some o →
      (∃ r, o = .inl r ∧ pu_blkW F' call ar b' σ' = some (.inl r)) ∨ (∃ c τ c' τ', o = .inr (c, τ) ∧ pu_blkW F' call ar b' σ' = some (.inr (c', τ')) ∧ Rel c τ c' τ')) :
    ∀ n b σ b' σ' r, Rel b σ b' σ' → pu_runW F call ar n b σ = some r → pu_runW F' call ar n b' σ' = some r := by
  intro n
  induction n with
  | zero => intro b σ b' σ' r _ hr; cases hr
  | succ n ih =>
    intro b σ b' σ' r hR hr
    unfold pu_runW at hr ⊢
    obtain ⟨o, ho, hk⟩ := bnd9 hr
    rcases h b σ b' σ' o hR ho with ⟨r1, rfl, h2⟩ | ⟨c, τ, c', τ', rfl, h2, h3⟩
    · rw [h2]; exact hk
    · rw [h2]; exact ih _ _ _ _ _ h3 hk
theorem pu_stepsW_app (call : pu_Call) (ar : List Int32) (a l : List pu_Stp) (σ : pu_SW) : pu_stepsW call ar (a ++ l) σ = (pu_stepsW call ar a σ).bind fun o => Sum.elim (fun r => some (.inl r)) (fun τ => pu_stepsW call ar l τ) o := by
  induction a generalizing σ with
  | nil => rfl
  | cons s a ih =>
    show (pu_stpW call ar s σ).bind _ = ((pu_stpW call ar s σ).bind _).bind _
    cases hs : pu_stpW call ar s σ with
    | none => rfl
    | some o =>
      cases o with
      | inl r => rfl
      | inr τ => exact ih τ
def pu_gw (k : Int32) : Bool := pu_gk k || decide (k = 25 ∨ k = 26)
def pu_kw (k : Int32) : Prop := pu_gk k = true ∨ k = 18 ∨ k = 19 ∨ k = 25 ∨ k = 26 ∨ k = 27
/-- a step over values that are alike does alike -/
theorem pu_stpW_cg {call : pu_Call} {ar : List Int32} {k g l r g' l' r' : Int32} {e e' : pu_E} {m : pu_M} {q : List Int32} {z : Nat → Int32} {o : Sum pu_Res pu_SW} (hk : pu_kw k)
    (hl : pu_ul k = true → e l = e' l') (hr : pu_ur k = true → e r = e' r') (hp : pu_ul k = false → l = l') (hq : k = 27 → r = r') (h : pu_stpW call ar (k, g, l, r) (e, m, q, z) = some o) :
    (∃ y, o = .inl y ∧ pu_stpW call ar (k, g', l', r') (e', m, q, z) = some (.inl y)) ∨ (∃ τ, o = .inr τ ∧ ((pu_gw k = true ∧ ∃ x, (k = 25 → x = e l) ∧ τ.1 = pu_set e g x ∧ pu_stpW call ar (k, g', l', r') (e', m, q, z) = some (.inr (pu_set e' g' x, τ.2))) ∨ (pu_gw k = false ∧ τ.1 = e ∧ pu_stpW call ar (k, g', l', r') (e', m, q, z) = some (.inr (e', τ.2))))) := by
  unfold pu_stpW at h ⊢
  by_cases h1 : k = 25
  · subst h1
    rw [if_pos rfl] at h ⊢
    cases h
    refine Or.inr ⟨_, rfl, Or.inl ⟨by decide, e l, fun _ => rfl, rfl, ?_⟩⟩
    show some (Sum.inr (pu_set e' g' (e' l'), m, q, z)) = _
    rw [← hl (by decide)]
  by_cases h2 : k = 26
  · subst h2
    rw [if_neg h1, if_pos rfl] at h ⊢
    cases h
    have hp := hp (by decide); subst hp
    exact Or.inr ⟨_, rfl, Or.inl ⟨by decide, _, fun c => absurd c h1, rfl, rfl⟩⟩
  by_cases h3 : k = 27
  · subst h3
    rw [if_neg h1, if_neg h2, if_pos rfl] at h ⊢
    cases h
    have hq := hq rfl; subst hq
    refine Or.inr ⟨_, rfl, Or.inr ⟨by decide, rfl, ?_⟩⟩
    show some (Sum.inr (e', m, q, fun i => if i = nn r then e' l' else z i)) = _
    rw [← hl (by decide)]
  rw [if_neg h1, if_neg h2, if_neg h3] at h ⊢
  have hk2 : pu_gk k = true ∨ k = 18 ∨ k = 19 := by
    rcases hk with h | h | h | h | h | h
    · exact Or.inl h
    · exact Or.inr (Or.inl h)
    · exact Or.inr (Or.inr h)
    · exact absurd h h1
    · exact absurd h h2
    · exact absurd h h3
  have hgw : pu_gw k = pu_gk k := by
    unfold pu_gw
    rw [show decide (k = 25 ∨ k = 26) = false from decide_eq_false (fun c => c.elim h1 h2)]
    exact Bool.or_false _
  replace h := bnd9 h
  obtain ⟨o1, ho1, h⟩ := h
  have ho1 : pu_stp call ar k g l r e m q = some o1 := ho1
  show (∃ y, o = .inl y ∧ (pu_stp call ar k g' l' r' e' m q).bind _ = _) ∨ _
  rcases pu_stp_cg (g' := g') hk2 hl hr hp ho1 with ⟨y, rfl, h5⟩ | ⟨τ, rfl, ⟨hg, x, hx, h5⟩ | ⟨hg, hx, h5⟩⟩
  · cases h
    refine Or.inl ⟨y, rfl, ?_⟩
    rw [h5]; rfl
  · cases h
    refine Or.inr ⟨_, rfl, Or.inl ⟨hgw.trans hg, x, fun c => absurd c h1, hx, ?_⟩⟩
    show (pu_stp call ar k g' l' r' e' m q).bind _ = _
    rw [h5]; rfl
  · cases h
    refine Or.inr ⟨_, rfl, Or.inr ⟨hgw.trans hg, hx, ?_⟩⟩
    show (pu_stp call ar k g' l' r' e' m q).bind _ = _
    rw [h5]; rfl
/-- values live ahead of steps, by those that are live behind them -/
def pu_lv : List pu_Stp → (Int32 → Prop) → Int32 → Prop
  | [], X => X
  | s :: l, X => fun v => (pu_ul s.1 = true ∧ v = s.2.2.1) ∨ (pu_ur s.1 = true ∧ v = s.2.2.2) ∨ (pu_lv l X v ∧ ¬ (pu_gw s.1 = true ∧ v = s.2.1))
def pu_xo (F : pu_Flow) (V : Nat → Int32 → Prop) (b : Nat) : Int32 → Prop := fun v => (((F b).2.2.1 = 23 ∨ (F b).2.2.1 = 24) ∧ v = (F b).2.2.2.1) ∨ ∃ c, pu_sc F b c ∧ V c v
/-- V holds all that is live at the beginning of blocks -/
def pu_lok (F : pu_Flow) (L : Nat → Prop) (V : Nat → Int32 → Prop) : Prop := ∀ b v, L b → pu_lv (F b).2.1 (pu_xo F V b) v → V b v
def pu_rns (ro : Int32 → Int32) (s : pu_Stp) : pu_Stp := (s.1, (if pu_gw s.1 = true then ro s.2.1 else s.2.1), (if pu_ul s.1 = true then ro s.2.2.1 else s.2.2.1), (if pu_ur s.1 = true then ro s.2.2.2 else s.2.2.2))
def pu_idl (ro : Int32 → Int32) (s : pu_Stp) : Bool := decide (s.1 = 25 ∧ ro s.2.1 = ro s.2.2.1)
def pu_roF (F : pu_Flow) (ro : Int32 → Int32) : pu_Flow := fun b => ([], ((F b).2.1.filter (fun s => !pu_idl ro s)).map (pu_rns ro), ((F b).2.2.1, ro (F b).2.2.2.1, (F b).2.2.2.2.1, (F b).2.2.2.2.2))
/-- what lives together stays apart -/
def pu_rok (F : pu_Flow) (L : Nat → Prop) (V : Nat → Int32 → Prop) (ro : Int32 → Int32) : Prop := ∀ b l1 s l2, L b → (F b).2.1 = l1 ++ s :: l2 → pu_gw s.1 = true → ∀ v, pu_lv l2 (pu_xo F V b) v → v ≠ s.2.1 → (s.1 = 25 → v ≠ s.2.2.1) → ro v ≠ ro s.2.1
section RO
variable {F : pu_Flow} {L : Nat → Prop} {V : Nat → Int32 → Prop} {ro : Int32 → Int32} {call : pu_Call} {ar : List Int32}
theorem pu_ro_steps (hK : ∀ b, L b → ∀ s ∈ (F b).2.1, pu_kw s.1) (hR : pu_rok F L V ro) {b : Nat} (hb : L b) :
    ∀ (l l1 : List pu_Stp) (e e' : pu_E) (m : pu_M) (q : List Int32) (z : Nat → Int32) (o : Sum pu_Res pu_SW), (F b).2.1 = l1 ++ l → (∀ v, pu_lv l (pu_xo F V b) v → e v = e' (ro v)) → pu_stepsW call ar l (e, m, q, z) = some o →
      (∃ y, o = .inl y ∧ pu_stepsW call ar ((l.filter (fun s => !pu_idl ro s)).map (pu_rns ro)) (e', m, q, z) = some (.inl y)) ∨ (∃ τ τ', o = .inr τ ∧ pu_stepsW call ar ((l.filter (fun s => !pu_idl ro s)).map (pu_rns ro)) (e', m, q, z) = some (.inr τ') ∧ (∀ v, pu_xo F V b v → τ.1 v = τ'.1 (ro v)) ∧ τ.2 = τ'.2) := by
  intro l
  induction l with
  | nil =>
    intro l1 e e' m q z o _ ha h
    cases h
    exact Or.inr ⟨_, _, rfl, rfl, ha, rfl⟩
  | cons s l ih =>
    intro l1 e e' m q z o hl ha h
    have hm : s ∈ (F b).2.1 := by rw [hl]; exact List.mem_append_right _ List.mem_cons_self
    have hl2 : (F b).2.1 = (l1 ++ [s]) ++ l := by rw [hl]; simp
    have hk := hK b hb s hm
    unfold pu_stepsW at h
    replace h := bnd9 h
    obtain ⟨o1, ho1, h⟩ := h
    by_cases hi : pu_idl ro s = true
    · rw [List.filter_cons, if_neg (by rw [hi]; decide)]
      have hi2 := of_decide_eq_true hi
      have h1 : pu_stpW call ar s (e, m, q, z) = some (.inr (pu_set e s.2.1 (e s.2.2.1), m, q, z)) := by
        unfold pu_stpW
        rw [if_pos hi2.1]
      rw [h1] at ho1
      cases ho1
      refine ih (l1 ++ [s]) (pu_set e s.2.1 (e s.2.2.1)) e' m q z o hl2 (fun v hv => ?_) h
      by_cases hv9 : v = s.2.1
      · rw [hv9, pu_set_s, hi2.2]
        exact ha _ (Or.inl ⟨by rw [hi2.1]; decide, rfl⟩)
      · rw [pu_set_n hv9]
        exact ha v (Or.inr (Or.inr ⟨hv, fun c => hv9 c.2⟩))
    · rw [List.filter_cons, if_pos (by simpa using hi), List.map_cons]
      have hcg := pu_stpW_cg (call := call) (ar := ar) (k := s.1) (g := s.2.1) (l := s.2.2.1) (r := s.2.2.2) (g' := if pu_gw s.1 = true then ro s.2.1 else s.2.1) (l' := if pu_ul s.1 = true then ro s.2.2.1 else s.2.2.1) (r' := if pu_ur s.1 = true then ro s.2.2.2 else s.2.2.2) (e := e) (e' := e') (m := m) (q := q) (z := z) (o := o1) hk
        (fun h => by rw [if_pos h]; exact ha _ (Or.inl ⟨h, rfl⟩)) (fun h => by rw [if_pos h]; exact ha _ (Or.inr (Or.inl ⟨h, rfl⟩))) (fun h => by rw [if_neg (by rw [h]; decide)]) (fun h => by rw [if_neg (by rw [h]; decide)]) ho1
      rcases hcg with ⟨y, rfl, h2⟩ | ⟨τ, rfl, ⟨hg, x, hx25, hx, h2⟩ | ⟨hg, hx, h2⟩⟩
      · cases h
        refine Or.inl ⟨y, rfl, ?_⟩
        show (pu_stpW call ar (pu_rns ro s) (e', m, q, z)).bind _ = _
        unfold pu_rns
        rw [h2]; rfl
      · rw [if_pos hg] at h2
        obtain ⟨e2, m2, q2, z2⟩ := τ
        have hx : e2 = _ := hx
        subst hx
        have h3 := ih (l1 ++ [s]) (pu_set e s.2.1 x) (pu_set e' (ro s.2.1) x) m2 q2 z2 o hl2 (fun v hv => ?_) h
        · show (∃ y, o = .inl y ∧ (pu_stpW call ar (pu_rns ro s) (e', m, q, z)).bind _ = _) ∨ (∃ τ τ', o = .inr τ ∧ (pu_stpW call ar (pu_rns ro s) (e', m, q, z)).bind _ = _ ∧ _)
          unfold pu_rns
          rw [if_pos hg, h2]
          exact h3
        · by_cases hv9 : v = s.2.1
          · rw [hv9, pu_set_s, pu_set_s]
          · rw [pu_set_n hv9]
            have hb4 := ha v (Or.inr (Or.inr ⟨hv, fun c => hv9 c.2⟩))
            by_cases hr9 : ro v = ro s.2.1
            · rw [hr9, pu_set_s]
              by_cases hc : s.1 = 25 ∧ v = s.2.2.1
              · rw [hx25 hc.1, hc.2]
              · exact absurd hr9 (hR b l1 s l hb hl hg v hv hv9 (fun h1 h2 => hc ⟨h1, h2⟩))
            · rw [pu_set_n hr9]
              exact hb4
      · obtain ⟨e2, m2, q2, z2⟩ := τ
        have hx : e2 = _ := hx
        subst hx
        rw [if_neg (by rw [hg]; decide)] at h2
        have h3 := ih (l1 ++ [s]) e2 e' m2 q2 z2 o hl2 (fun v hv => ha v (Or.inr (Or.inr ⟨hv, fun c => by rw [hg] at c; cases c.1⟩))) h
        show (∃ y, o = .inl y ∧ (pu_stpW call ar (pu_rns ro s) (e', m, q, z)).bind _ = _) ∨ (∃ τ τ', o = .inr τ ∧ (pu_stpW call ar (pu_rns ro s) (e', m, q, z)).bind _ = _ ∧ _)
        unfold pu_rns
        rw [if_neg (by rw [hg]; decide), h2]
        exact h3
theorem pu_endW_cg {k v v' f s : Int32} {τ τ' : pu_SW} (h : (k = 23 ∨ k = 24) → τ.1 v = τ'.1 v') (hq : τ.2 = τ'.2) :
    (∃ z, pu_endW (k, v, f, s) τ = .inl z ∧ pu_endW (k, v', f, s) τ' = .inl z) ∨ (∃ c, pu_endW (k, v, f, s) τ = .inr (c, τ) ∧ pu_endW (k, v', f, s) τ' = .inr (c, τ') ∧ (k ≠ 24 ∧ (c = nn f ∨ (k = 23 ∧ c = nn s)))) := by
  unfold pu_endW
  by_cases h1 : k = 24
  · refine Or.inl ⟨(pu_rq τ.2.2.1, τ.1 v, τ.2.1), ?_, ?_⟩
    · exact if_pos h1
    · rw [h (Or.inr h1), hq]; exact if_pos h1
  · by_cases h2 : k = 23
    · have h3 := h (Or.inl h2)
      by_cases h4 : τ.1 v = 0
      · refine Or.inr ⟨nn s, ?_, ?_, h1, Or.inr ⟨h2, rfl⟩⟩
        · rw [if_neg h1, if_pos ⟨h2, h4⟩]
        · rw [if_neg h1, if_pos ⟨h2, h3 ▸ h4⟩]
      · refine Or.inr ⟨nn f, ?_, ?_, h1, Or.inl rfl⟩
        · rw [if_neg h1, if_neg (fun c => h4 c.2)]
        · rw [if_neg h1, if_neg (fun c => h4 (h3.trans c.2))]
    · refine Or.inr ⟨nn f, ?_, ?_, h1, Or.inl rfl⟩
      · rw [if_neg h1, if_neg (fun c => h2 c.1)]
      · rw [if_neg h1, if_neg (fun c => h2 c.1)]
/-- a flow and its renaming do alike, if nothing is live at the start -/
theorem pu_ro_run (hK : ∀ b, L b → ∀ s ∈ (F b).2.1, pu_kw s.1) (hsc : ∀ b c, L b → pu_sc F b c → L c) (h0 : L 0) (hV : pu_lok F L V) (hV0 : ∀ v, ¬ V 0 v) (hR : pu_rok F L V ro) {n : Nat} {e e' : pu_E} {m : pu_M} {q : List Int32} {z : Nat → Int32} {r : pu_Res}
    (h : pu_runW F call ar n 0 (e, m, q, z) = some r) : pu_runW (pu_roF F ro) call ar n 0 (e', m, q, z) = some r := by
  refine pu_simW (F := F) (F' := pu_roF F ro) (fun b σ b' σ' => b' = b ∧ L b ∧ (∀ v, V b v → σ.1 v = σ'.1 (ro v)) ∧ σ.2 = σ'.2) ?_ n 0 (e, m, q, z) 0 (e', m, q, z) r ⟨rfl, h0, fun v hv => absurd hv (hV0 v), rfl⟩ h
  rintro b ⟨e1, m1, q1, z1⟩ b' ⟨e2, m2, q2, z2⟩ o ⟨rfl, hb, ha, hq⟩ ho
  cases hq
  unfold pu_blkW at ho
  replace ho := bnd9 ho
  obtain ⟨o1, ho1, ho⟩ := ho
  have hbk : ∀ x, pu_stepsW call ar (((F b').2.1.filter (fun s => !pu_idl ro s)).map (pu_rns ro)) (e2, m1, q1, z1) = some x → pu_blkW (pu_roF F ro) call ar b' (e2, m1, q1, z1) = Sum.elim (fun r => some (.inl r)) (fun τ => some (pu_endW ((F b').2.2.1, ro (F b').2.2.2.1, (F b').2.2.2.2.1, (F b').2.2.2.2.2) τ)) x := by
    intro x hx
    show (pu_stepsW call ar (((F b').2.1.filter (fun s => !pu_idl ro s)).map (pu_rns ro)) (e2, m1, q1, z1)).bind _ = _
    rw [hx]
    rfl
  rcases pu_ro_steps hK hR hb (F b').2.1 [] e1 e2 m1 q1 z1 o1 rfl (fun v hv => ha v (hV b' v hb hv)) ho1 with ⟨y, rfl, h2⟩ | ⟨τ, τ', rfl, h2, h3, h4⟩
  · cases ho
    exact Or.inl ⟨y, rfl, hbk _ h2⟩
  · have ho : pu_endW (F b').2.2 τ = o := Option.some.inj ho
    have hbl := hbk _ h2
    rcases pu_endW_cg (k := (F b').2.2.1) (v := (F b').2.2.2.1) (v' := ro (F b').2.2.2.1) (f := (F b').2.2.2.2.1) (s := (F b').2.2.2.2.2) (τ := τ) (τ' := τ') (fun hk => h3 _ (Or.inl ⟨hk, rfl⟩)) h4 with ⟨y, h5, h6⟩ | ⟨c, h5, h6, h7⟩
    · refine Or.inl ⟨y, ?_, ?_⟩
      · rw [← ho]; exact h5
      · rw [hbl]; exact congrArg some h6
    · refine Or.inr ⟨c, τ, c, τ', ?_, ?_, rfl, hsc b' c hb h7, fun v hv => h3 v (Or.inr ⟨c, h7, hv⟩), h4⟩
      · rw [← ho]; exact h5
      · rw [hbl]; exact congrArg some h6
end RO
