/-! pure side 12: values are put away -/
section PA
variable (S ns : Int32 → Bool) (sl nm : Int32 → Int32)
def pu_fe (v : Int32) (k : Nat) : pu_Stp := if ns v = true then (0, pu_I k, nm v, -1) else (26, pu_I k, sl v, -1)
def pu_fl (s : pu_Stp) : Bool := pu_ul s.1 && S s.2.2.1
def pu_sm (s : pu_Stp) : Bool := pu_ur s.1 && (pu_fl S s && decide (s.2.2.2 = s.2.2.1))
def pu_fr (s : pu_Stp) : Bool := pu_ur s.1 && (S s.2.2.2 && !pu_sm S s)
def pu_k1 (k : Nat) (s : pu_Stp) : Nat := if pu_fl S s = true then k + 1 else k
def pu_k2 (k : Nat) (s : pu_Stp) : Nat := if pu_fr S s = true then pu_k1 S k s + 1 else pu_k1 S k s
def pu_lf (k : Nat) (s : pu_Stp) : Int32 := if pu_fl S s = true then pu_I k else s.2.2.1
def pu_rt (k : Nat) (s : pu_Stp) : Int32 := if pu_sm S s = true then pu_I k else if pu_fr S s = true then pu_I (pu_k1 S k s) else s.2.2.2
def pu_pre (k : Nat) (s : pu_Stp) : List pu_Stp := (if pu_fl S s = true then [pu_fe ns sl nm s.2.2.1 k] else []) ++ (if pu_fr S s = true then [pu_fe ns sl nm s.2.2.2 (pu_k1 S k s)] else [])
def pu_own (k : Nat) (s : pu_Stp) : List pu_Stp := if pu_gw s.1 = true ∧ S s.2.1 = true then (if ns s.2.1 = true then [] else [(s.1, pu_I (pu_k2 S k s), pu_lf S k s, pu_rt S k s), (27, -1, pu_I (pu_k2 S k s), sl s.2.1)]) else [(s.1, s.2.1, pu_lf S k s, pu_rt S k s)]
def pu_k3 (k : Nat) (s : pu_Stp) : Nat := if pu_gw s.1 = true ∧ S s.2.1 = true ∧ ns s.2.1 = false then pu_k2 S k s + 1 else pu_k2 S k s
def pu_pa : List pu_Stp → Nat → List pu_Stp × Nat
  | [], k => ([], k)
  | s :: l, k => (pu_pre S ns sl nm k s ++ (pu_own S ns sl k s ++ (pu_pa l (pu_k3 S ns k s)).1), (pu_pa l (pu_k3 S ns k s)).2)
/-- how the two stand to each other: X what is live -/
def pu_pr (c0 : Nat) (X : Int32 → Prop) (e : pu_E) (z : Nat → Int32) (e' : pu_E) (z' : Nat → Int32) : Prop :=
  (∀ v, X v → S v = false → e v = e' v) ∧ (∀ v, X v → S v = true → ns v = false → z' (nn (sl v)) = e v) ∧ (∀ v, X v → S v = true → ns v = true → e v = nm v) ∧ (∀ i, i < c0 → z i = z' i)
/-- what is asked of a step that is gone through -/
def pu_pq (c0 k0 : Nat) (s : pu_Stp) : Prop :=
  pu_kw s.1 ∧ (pu_ul s.1 = true → nn s.2.2.1 < k0) ∧ (pu_ur s.1 = true → nn s.2.2.2 < k0) ∧ (pu_gw s.1 = true → nn s.2.1 < k0) ∧ (pu_gw s.1 = true → S s.2.1 = true → ns s.2.1 = true → s.1 = 0 ∧ s.2.2.1 = nm s.2.1) ∧ (s.1 = 26 → nn s.2.2.1 < c0) ∧ (s.1 = 27 → nn s.2.2.2 < c0)
end PA
section PB
variable {S ns : Int32 → Bool} {sl nm : Int32 → Int32} {call : pu_Call} {ar : List Int32}
theorem pu_k12 (k : Nat) (s : pu_Stp) : k ≤ pu_k1 S k s ∧ pu_k1 S k s ≤ pu_k2 S k s ∧ pu_k2 S k s ≤ pu_k3 S ns k s ∧ pu_k3 S ns k s ≤ k + 3 := by
  unfold pu_k3 pu_k2 pu_k1
  refine ⟨?_, ?_, ?_, ?_⟩ <;> (repeat' split) <;> omega
theorem pu_pa_k : ∀ (l : List pu_Stp) (k : Nat), k ≤ (pu_pa S ns sl nm l k).2 := by
  intro l
  induction l with
  | nil => intro k; exact Nat.le_refl _
  | cons s l ih =>
    intro k
    have h := pu_k12 (S := S) (ns := ns) k s
    have := ih (pu_k3 S ns k s)
    show k ≤ (pu_pa S ns sl nm l (pu_k3 S ns k s)).2
    omega
theorem pu_fe_run {v : Int32} {k : Nat} {e x : pu_E} {m : pu_M} {q : List Int32} {z : Nat → Int32} {l : List pu_Stp} (h : if ns v = true then x v = nm v else z (nn (sl v)) = x v) : pu_stepsW call ar (pu_fe ns sl nm v k :: l) (e, m, q, z) = pu_stepsW call ar l (pu_set e (pu_I k) (x v), m, q, z) := by
  unfold pu_fe
  by_cases hn : ns v = true
  · rw [if_pos hn] at h ⊢
    rw [h]
    rfl
  · rw [if_neg hn] at h ⊢
    rw [← h]
    rfl
theorem pu_setI {e : pu_E} {k : Nat} {x u : Int32} (hk : k < 2147483648) (h : nn u < k) : pu_set e (pu_I k) x u = e u := by
  refine pu_set_n fun c => ?_
  rw [c, pu_nn hk] at h
  omega
/-- the fetches ahead of a step -/
theorem pu_pre_run {c0 k0 k : Nat} {s : pu_Stp} {X : Int32 → Prop} {e e' : pu_E} {z z' : Nat → Int32} {m : pu_M} {q : List Int32} {l : List pu_Stp} (hq : pu_pq S ns nm c0 k0 s) (hk : k0 ≤ k) (hk2 : k + 3 < 2147483648) (hR : pu_pr S ns sl nm c0 X e z e' z')
    (hX1 : pu_ul s.1 = true → X s.2.2.1) (hX2 : pu_ur s.1 = true → X s.2.2.2) :
    ∃ e2, pu_stepsW call ar (pu_pre S ns sl nm k s ++ l) (e', m, q, z') = pu_stepsW call ar l (e2, m, q, z') ∧ (pu_ul s.1 = true → e2 (pu_lf S k s) = e s.2.2.1) ∧ (pu_ur s.1 = true → e2 (pu_rt S k s) = e s.2.2.2) ∧ (∀ v, nn v < k0 → e2 v = e' v) := by
  have hfe : ∀ v, X v → S v = true → (if ns v = true then e v = nm v else z' (nn (sl v)) = e v) := by
    intro v hv hs
    by_cases hn : ns v = true
    · rw [if_pos hn]; exact hR.2.2.1 v hv hs hn
    · rw [if_neg hn]; exact hR.2.1 v hv hs (by simpa using hn)
  -- left
  obtain ⟨e1, h1, h2, h3⟩ : ∃ e1, (∀ l, pu_stepsW call ar ((if pu_fl S s = true then [pu_fe ns sl nm s.2.2.1 k] else []) ++ l) (e', m, q, z') = pu_stepsW call ar l (e1, m, q, z')) ∧ (pu_ul s.1 = true → e1 (pu_lf S k s) = e s.2.2.1) ∧ (∀ v, nn v < k → e1 v = e' v) := by
    by_cases hf : pu_fl S s = true
    · have hf2 : pu_ul s.1 = true ∧ S s.2.2.1 = true := by unfold pu_fl at hf; simpa using hf
      refine ⟨pu_set e' (pu_I k) (e s.2.2.1), fun l => ?_, fun _ => ?_, fun v hv => pu_setI (by omega) hv⟩
      · rw [if_pos hf]
        exact pu_fe_run (hfe _ (hX1 hf2.1) hf2.2)
      · unfold pu_lf
        rw [if_pos hf, pu_set_s]
    · refine ⟨e', fun l => by rw [if_neg hf]; rfl, fun hu => ?_, fun _ _ => rfl⟩
      unfold pu_lf
      rw [if_neg hf]
      have hs : S s.2.2.1 = false := by
        unfold pu_fl at hf
        rw [hu] at hf
        simpa using hf
      exact (hR.1 _ (hX1 hu) hs).symm
  have hk1 := pu_k12 (S := S) (ns := ns) k s
  by_cases hf : pu_fr S s = true
  · have hf2 : pu_ur s.1 = true ∧ S s.2.2.2 = true ∧ pu_sm S s = false := by unfold pu_fr at hf; simpa using hf
    refine ⟨pu_set e1 (pu_I (pu_k1 S k s)) (e s.2.2.2), ?_, fun hu => ?_, fun _ => ?_, fun v hv => ?_⟩
    · unfold pu_pre
      rw [List.append_assoc, h1, if_pos hf]
      exact pu_fe_run (hfe _ (hX2 hf2.1) hf2.2.1)
    · rw [← h2 hu]
      unfold pu_lf
      by_cases hfl : pu_fl S s = true
      · rw [if_pos hfl]
        refine pu_setI (by omega) ?_
        rw [pu_nn (by omega)]
        unfold pu_k1
        rw [if_pos hfl]
        omega
      · rw [if_neg hfl]
        refine pu_setI (by omega) ?_
        have := hq.2.1 hu
        omega
    · unfold pu_rt
      rw [if_neg (by rw [hf2.2.2]; decide), if_pos hf, pu_set_s]
    · rw [pu_setI (by omega) (by omega)]
      exact h3 v (by omega)
  · refine ⟨e1, ?_, h2, fun hu => ?_, fun v hv => h3 v (by omega)⟩
    · unfold pu_pre
      rw [List.append_assoc, h1, if_neg hf]
      rfl
    · unfold pu_rt
      by_cases hsm : pu_sm S s = true
      · rw [if_pos hsm]
        have hsm2 : pu_ur s.1 = true ∧ pu_fl S s = true ∧ s.2.2.2 = s.2.2.1 := by unfold pu_sm at hsm; simpa using hsm
        have hul : pu_ul s.1 = true := by
          have := hsm2.2.1
          unfold pu_fl at this
          simp at this
          exact this.1
        have := h2 hul
        unfold pu_lf at this
        rw [if_pos hsm2.2.1] at this
        rw [this, hsm2.2.2]
      · rw [if_neg hsm, if_neg hf, h3 _ (by have := hq.2.2.1 hu; omega)]
        have hs : S s.2.2.2 = false := by
          unfold pu_fr at hf
          rw [hu] at hf
          have hsm : pu_sm S s = false := by simpa using hsm
          rw [hsm] at hf
          simpa using hf
        exact (hR.1 _ (hX2 hu) hs).symm
/-- a step over values that are alike, with slots of its own -/
theorem pu_stpW_cz {k g l r g' l' r' : Int32} {e e' : pu_E} {m : pu_M} {q : List Int32} {z z' : Nat → Int32} {o : Sum pu_Res pu_SW} (hk : pu_kw k)
    (hl : pu_ul k = true → e l = e' l') (hr : pu_ur k = true → e r = e' r') (hp : pu_ul k = false → l = l') (hq : k = 27 → r = r') (hz : k = 26 → z (nn l) = z' (nn l)) (h : pu_stpW call ar (k, g, l, r) (e, m, q, z) = some o) :
    (∃ y, o = .inl y ∧ pu_stpW call ar (k, g', l', r') (e', m, q, z') = some (.inl y)) ∨
    (∃ x m2 q2, pu_gw k = true ∧ (k = 0 → x = l) ∧ o = .inr (pu_set e g x, m2, q2, z) ∧ pu_stpW call ar (k, g', l', r') (e', m, q, z') = some (.inr (pu_set e' g' x, m2, q2, z'))) ∨
    (∃ m2 q2, pu_gw k = false ∧ k ≠ 27 ∧ o = .inr (e, m2, q2, z) ∧ pu_stpW call ar (k, g', l', r') (e', m, q, z') = some (.inr (e', m2, q2, z'))) ∨
    (∃ x, k = 27 ∧ o = .inr (e, m, q, fun i => if i = nn r then x else z i) ∧ pu_stpW call ar (k, g', l', r') (e', m, q, z') = some (.inr (e', m, q, fun i => if i = nn r then x else z' i))) := by
  unfold pu_stpW at h ⊢
  by_cases h1 : k = 25
  · subst h1
    rw [if_pos rfl] at h ⊢
    cases h
    refine Or.inr (Or.inl ⟨e l, m, q, by decide, fun c => absurd c (by decide), rfl, ?_⟩)
    show some (Sum.inr (pu_set e' g' (e' l'), m, q, z')) = _
    rw [← hl (by decide)]
  by_cases h2 : k = 26
  · subst h2
    rw [if_neg h1, if_pos rfl] at h ⊢
    cases h
    have hp := hp (by decide); subst hp
    refine Or.inr (Or.inl ⟨z (nn l), m, q, by decide, fun c => absurd c (by decide), rfl, ?_⟩)
    show some (Sum.inr (pu_set e' g' (z' (nn l)), m, q, z')) = _
    rw [← hz rfl]
  by_cases h3 : k = 27
  · subst h3
    rw [if_neg h1, if_neg h2, if_pos rfl] at h ⊢
    cases h
    have hq := hq rfl; subst hq
    refine Or.inr (Or.inr (Or.inr ⟨e l, rfl, rfl, ?_⟩))
    show some (Sum.inr (e', m, q, fun i => if i = nn r then e' l' else z' i)) = _
    rw [← hl (by decide)]
  rw [if_neg h1, if_neg h2, if_neg h3] at h ⊢
  have hk2 : pu_gk k = true ∨ k = 18 ∨ k = 19 := by
    rcases hk with h | h | h | h | h | h
    · exact Or.inl h
    · exact Or.inr (Or.inl h)
    · exact Or.inr (Or.inr h)
    · exact absurd h h1
    · exact absurd h h2
    · exact absurd h h3
  have hgw : pu_gw k = pu_gk k := by
    unfold pu_gw
    rw [show decide (k = 25 ∨ k = 26) = false from decide_eq_false (fun c => c.elim h1 h2)]
    exact Bool.or_false _
  replace h := bnd9 h
  obtain ⟨o1, ho1, h⟩ := h
  have ho1 : pu_stp call ar k g l r e m q = some o1 := ho1
  show (∃ y, o = .inl y ∧ (pu_stp call ar k g' l' r' e' m q).bind _ = _) ∨ (∃ x m2 q2, pu_gw k = true ∧ (k = 0 → x = l) ∧ o = .inr (pu_set e g x, m2, q2, z) ∧ (pu_stp call ar k g' l' r' e' m q).bind _ = _) ∨ (∃ m2 q2, pu_gw k = false ∧ k ≠ 27 ∧ o = .inr (e, m2, q2, z) ∧ (pu_stp call ar k g' l' r' e' m q).bind _ = _) ∨ _
  rcases pu_stp_cg (g' := g') hk2 hl hr hp ho1 with ⟨y, rfl, h5⟩ | ⟨τ, rfl, ⟨hg, x, hx, h5⟩ | ⟨hg, hx, h5⟩⟩
  · cases h
    refine Or.inl ⟨y, rfl, ?_⟩
    rw [h5]; rfl
  · have henv := pu_stp_env hk2 ho1
    obtain ⟨e2, m2, q2⟩ := τ
    have hx : e2 = _ := hx
    subst hx
    cases h
    refine Or.inr (Or.inl ⟨x, m2, q2, hgw.trans hg, fun h0 => ?_, rfl, ?_⟩)
    · rcases henv with ⟨_, x2, hx2, h6, _⟩ | ⟨h6, _⟩
      · have h7 := congrFun hx2 g
        have h8 : pu_set e g x g = pu_set e g x2 g := h7
        rw [pu_set_s, pu_set_s] at h8
        rw [h8, h6 h0]
      · rw [hg] at h6; cases h6
    · rw [h5]; rfl
  · obtain ⟨e2, m2, q2⟩ := τ
    have hx : e2 = e := hx
    rw [hx] at h
    cases h
    refine Or.inr (Or.inr (Or.inl ⟨m2, q2, hgw.trans hg, h3, rfl, ?_⟩))
    rw [h5]; rfl
theorem pu_pa_step {c0 k0 k : Nat} {s : pu_Stp} {X : Int32 → Prop} {e e' : pu_E} {z z' : Nat → Int32} {m : pu_M} {q : List Int32} {o : Sum pu_Res pu_SW} {rest : List pu_Stp} (hq : pu_pq S ns nm c0 k0 s) (hk : k0 ≤ k) (hk2 : k + 3 < 2147483648)
    (hsl : ∀ v, S v = true → ns v = false → c0 ≤ nn (sl v)) (hinj : ∀ v w, S v = true → ns v = false → S w = true → ns w = false → nn (sl v) = nn (sl w) → v = w) (hX : ∀ v, X v → nn v < k0)
    (hR : pu_pr S ns sl nm c0 (pu_lv [s] X) e z e' z') (h : pu_stpW call ar s (e, m, q, z) = some o) :
    (∃ y, o = .inl y ∧ pu_stepsW call ar (pu_pre S ns sl nm k s ++ (pu_own S ns sl k s ++ rest)) (e', m, q, z') = some (.inl y)) ∨
    (∃ e1 m1 q1 z1 e2 z2, o = .inr (e1, m1, q1, z1) ∧ pu_stepsW call ar (pu_pre S ns sl nm k s ++ (pu_own S ns sl k s ++ rest)) (e', m, q, z') = pu_stepsW call ar rest (e2, m1, q1, z2) ∧ pu_pr S ns sl nm c0 X e1 z1 e2 z2) := by
  have hb : ∀ v, X v → ¬ (pu_gw s.1 = true ∧ v = s.2.1) → pu_lv [s] X v := fun v h1 h2 => Or.inr (Or.inr ⟨h1, h2⟩)
  obtain ⟨e2, hrun, hL, hRt, hold⟩ := pu_pre_run (call := call) (ar := ar) (m := m) (q := q) (l := pu_own S ns sl k s ++ rest) hq hk hk2 hR (fun h => Or.inl ⟨h, rfl⟩) (fun h => Or.inr (Or.inl ⟨h, rfl⟩))
  rw [hrun]
  have hk1 := pu_k12 (S := S) (ns := ns) k s
  have hsame : pu_ul s.1 = false → s.2.2.1 = pu_lf S k s := by
    intro h
    unfold pu_lf pu_fl
    rw [h]
    rfl
  have hsame2 : pu_ur s.1 = false → s.2.2.2 = pu_rt S k s := by
    intro h
    unfold pu_rt pu_fr pu_sm
    rw [h]
    rfl
  have hcz := fun g' => pu_stpW_cz (call := call) (ar := ar) (k := s.1) (g := s.2.1) (l := s.2.2.1) (r := s.2.2.2) (g' := g') (l' := pu_lf S k s) (r' := pu_rt S k s) (e := e) (e' := e2) (m := m) (q := q) (z := z) (z' := z') (o := o) hq.1 (fun h => (hL h).symm) (fun h => (hRt h).symm) hsame (fun h => hsame2 (by rw [h]; decide)) (fun h => hR.2.2.2 _ (hq.2.2.2.2.2.1 h)) h
  by_cases hsp : pu_gw s.1 = true ∧ S s.2.1 = true
  · by_cases hn : ns s.2.1 = true
    · -- a number that is left out
      have h0 := hq.2.2.2.2.1 hsp.1 hsp.2 hn
      unfold pu_own
      rw [if_pos hsp, if_pos hn]
      have h1 : pu_stpW call ar s (e, m, q, z) = some (.inr (pu_set e s.2.1 s.2.2.1, m, q, z)) := by
        obtain ⟨sk, sg, sl9, sr⟩ := s
        have h9 : sk = 0 := h0.1
        subst h9
        rfl
      rw [h1] at h
      cases h
      refine Or.inr ⟨_, m, q, z, e2, z', rfl, rfl, ?_, ?_, ?_, hR.2.2.2⟩
      · intro v hv hs
        have hne : v ≠ s.2.1 := fun c => by rw [c, hsp.2] at hs; cases hs
        rw [pu_set_n hne, hold v (hX v hv)]
        exact hR.1 v (hb v hv fun c => hne c.2) hs
      · intro v hv hs hnv
        have hne : v ≠ s.2.1 := fun c => by rw [c, hn] at hnv; cases hnv
        rw [pu_set_n hne]
        exact hR.2.1 v (hb v hv fun c => hne c.2) hs hnv
      · intro v hv hs hnv
        by_cases hne : v = s.2.1
        · rw [hne, pu_set_s, h0.2]
        · rw [pu_set_n hne]
          exact hR.2.2.1 v (hb v hv fun c => hne c.2) hs hnv
    · have hn : ns s.2.1 = false := by simpa using hn
      unfold pu_own
      rw [if_pos hsp, if_neg (by rw [hn]; decide)]
      rcases hcz (pu_I (pu_k2 S k s)) with ⟨y, rfl, h2⟩ | ⟨x, m2, q2, hg, _, rfl, h2⟩ | ⟨m2, q2, hg, _⟩ | ⟨x, h27, _⟩
      · refine Or.inl ⟨y, rfl, ?_⟩
        show (pu_stpW call ar (s.1, pu_I (pu_k2 S k s), pu_lf S k s, pu_rt S k s) (e2, m, q, z')).bind _ = _
        rw [h2]; rfl
      · refine Or.inr ⟨_, m2, q2, z, pu_set e2 (pu_I (pu_k2 S k s)) x, (fun i => if i = nn (sl s.2.1) then x else z' i), rfl, ?_, ?_, ?_, ?_, ?_⟩
        · show (pu_stpW call ar (s.1, pu_I (pu_k2 S k s), pu_lf S k s, pu_rt S k s) (e2, m, q, z')).bind _ = _
          rw [h2]
          show pu_stepsW call ar rest (pu_set e2 (pu_I (pu_k2 S k s)) x, m2, q2, fun i => if i = nn (sl s.2.1) then pu_set e2 (pu_I (pu_k2 S k s)) x (pu_I (pu_k2 S k s)) else z' i) = _
          rw [pu_set_s]
        · intro v hv hs
          have hne : v ≠ s.2.1 := fun c => by rw [c, hsp.2] at hs; cases hs
          have hkv := hX v hv
          rw [pu_set_n hne, pu_setI (by omega) (by omega), hold v hkv]
          exact hR.1 v (hb v hv fun c => hne c.2) hs
        · intro v hv hs hnv
          by_cases hne : v = s.2.1
          · rw [hne, pu_set_s]; exact if_pos rfl
          · rw [pu_set_n hne]
            refine (if_neg (fun c => hne (hinj v _ hs hnv hsp.2 hn c))).trans ?_
            exact hR.2.1 v (hb v hv fun c => hne c.2) hs hnv
        · intro v hv hs hnv
          have hne : v ≠ s.2.1 := fun c => by rw [c, hn] at hnv; cases hnv
          rw [pu_set_n hne]
          exact hR.2.2.1 v (hb v hv fun c => hne c.2) hs hnv
        · intro i hi
          have := hsl _ hsp.2 hn
          exact (hR.2.2.2 i hi).trans (if_neg (by omega)).symm
      · rw [hsp.1] at hg; cases hg
      · have := hsp.1
        rw [h27] at this
        exact absurd this (by decide)
  · unfold pu_own
    rw [if_neg hsp]
    have hng : ∀ v, S v = true → v = s.2.1 → pu_gw s.1 = false := by
      intro v hs hv
      by_cases hg : pu_gw s.1 = true
      · exact absurd ⟨hg, hv ▸ hs⟩ hsp
      · simpa using hg
    rcases hcz s.2.1 with ⟨y, rfl, h2⟩ | ⟨x, m2, q2, hg, _, rfl, h2⟩ | ⟨m2, q2, hg, _, rfl, h2⟩ | ⟨x, h27, rfl, h2⟩
    · refine Or.inl ⟨y, rfl, ?_⟩
      show (pu_stpW call ar (s.1, s.2.1, pu_lf S k s, pu_rt S k s) (e2, m, q, z')).bind _ = _
      rw [h2]; rfl
    · refine Or.inr ⟨_, m2, q2, z, pu_set e2 s.2.1 x, z', rfl, ?_, ?_, ?_, ?_, hR.2.2.2⟩
      · show (pu_stpW call ar (s.1, s.2.1, pu_lf S k s, pu_rt S k s) (e2, m, q, z')).bind _ = _
        rw [h2]; rfl
      · intro v hv hs
        by_cases hne : v = s.2.1
        · rw [hne, pu_set_s, pu_set_s]
        · rw [pu_set_n hne, pu_set_n hne, hold v (hX v hv)]
          exact hR.1 v (hb v hv fun c => hne c.2) hs
      · intro v hv hs hnv
        have hne : v ≠ s.2.1 := fun c => by rw [hng v hs c] at hg; cases hg
        rw [pu_set_n hne]
        exact hR.2.1 v (hb v hv fun c => hne c.2) hs hnv
      · intro v hv hs hnv
        have hne : v ≠ s.2.1 := fun c => by rw [hng v hs c] at hg; cases hg
        rw [pu_set_n hne]
        exact hR.2.2.1 v (hb v hv fun c => hne c.2) hs hnv
    · have hbb : ∀ v, X v → pu_lv [s] X v := fun v h1 => hb v h1 fun c => by rw [hg] at c; cases c.1
      refine Or.inr ⟨_, m2, q2, z, e2, z', rfl, ?_, ?_, ?_, ?_, hR.2.2.2⟩
      · show (pu_stpW call ar (s.1, s.2.1, pu_lf S k s, pu_rt S k s) (e2, m, q, z')).bind _ = _
        rw [h2]; rfl
      · intro v hv hs
        rw [hold v (hX v hv)]
        exact hR.1 v (hbb v hv) hs
      · intro v hv hs hnv
        exact hR.2.1 v (hbb v hv) hs hnv
      · intro v hv hs hnv
        exact hR.2.2.1 v (hbb v hv) hs hnv
    · have hg : pu_gw s.1 = false := by rw [h27]; decide
      have hbb : ∀ v, X v → pu_lv [s] X v := fun v h1 => hb v h1 fun c => by rw [hg] at c; cases c.1
      have hc := hq.2.2.2.2.2.2 h27
      refine Or.inr ⟨_, m, q, _, e2, (fun i => if i = nn s.2.2.2 then x else z' i), rfl, ?_, ?_, ?_, ?_, ?_⟩
      · show (pu_stpW call ar (s.1, s.2.1, pu_lf S k s, pu_rt S k s) (e2, m, q, z')).bind _ = _
        rw [h2]; rfl
      · intro v hv hs
        rw [hold v (hX v hv)]
        exact hR.1 v (hbb v hv) hs
      · intro v hv hs hnv
        have := hsl v hs hnv
        exact (if_neg (by omega)).trans (hR.2.1 v (hbb v hv) hs hnv)
      · intro v hv hs hnv
        exact hR.2.2.1 v (hbb v hv) hs hnv
      · intro i hi
        by_cases hii : i = nn s.2.2.2
        · exact (if_pos hii).trans (if_pos hii).symm
        · exact ((if_neg hii).trans (hR.2.2.2 i hi)).trans (if_neg hii).symm
theorem pu_lv_c (s : pu_Stp) (l : List pu_Stp) (X : Int32 → Prop) (v : Int32) : pu_lv (s :: l) X v ↔ pu_lv [s] (pu_lv l X) v := Iff.rfl
theorem pu_lv_lt {k0 : Nat} {X : Int32 → Prop} (hX : ∀ v, X v → nn v < k0) : ∀ (l : List pu_Stp) (v : Int32), (∀ s ∈ l, (pu_ul s.1 = true → nn s.2.2.1 < k0) ∧ (pu_ur s.1 = true → nn s.2.2.2 < k0)) → pu_lv l X v → nn v < k0 := by
  intro l
  induction l with
  | nil => intro v _ h; exact hX v h
  | cons s l ih =>
    intro v hs h
    rcases h with ⟨h1, rfl⟩ | ⟨h1, rfl⟩ | ⟨h1, _⟩
    · exact (hs s List.mem_cons_self).1 h1
    · exact (hs s List.mem_cons_self).2 h1
    · exact ih v (fun t ht => hs t (List.mem_cons_of_mem _ ht)) h1
theorem pu_pa_steps {c0 k0 : Nat} {X : Int32 → Prop} (hsl : ∀ v, S v = true → ns v = false → c0 ≤ nn (sl v)) (hinj : ∀ v w, S v = true → ns v = false → S w = true → ns w = false → nn (sl v) = nn (sl w) → v = w) (hX : ∀ v, X v → nn v < k0) :
    ∀ (l : List pu_Stp) (k : Nat) (e e' : pu_E) (z z' : Nat → Int32) (m : pu_M) (q : List Int32) (o : Sum pu_Res pu_SW) (rest : List pu_Stp), (∀ s ∈ l, pu_pq S ns nm c0 k0 s) → k0 ≤ k → (pu_pa S ns sl nm l k).2 + 3 < 2147483648 → pu_pr S ns sl nm c0 (pu_lv l X) e z e' z' → pu_stepsW call ar l (e, m, q, z) = some o →
      (∃ y, o = .inl y ∧ pu_stepsW call ar ((pu_pa S ns sl nm l k).1 ++ rest) (e', m, q, z') = some (.inl y)) ∨
      (∃ e1 m1 q1 z1 e2 z2, o = .inr (e1, m1, q1, z1) ∧ pu_stepsW call ar ((pu_pa S ns sl nm l k).1 ++ rest) (e', m, q, z') = pu_stepsW call ar rest (e2, m1, q1, z2) ∧ pu_pr S ns sl nm c0 X e1 z1 e2 z2) := by
  intro l
  induction l with
  | nil =>
    intro k e e' z z' m q o rest _ _ _ hR h
    cases h
    exact Or.inr ⟨e, m, q, z, e', z', rfl, rfl, hR⟩
  | cons s l ih =>
    intro k e e' z z' m q o rest hs hk hk2 hR h
    have hs2 : ∀ t ∈ l, pu_pq S ns nm c0 k0 t := fun t ht => hs t (List.mem_cons_of_mem _ ht)
    have hX2 : ∀ v, pu_lv l X v → nn v < k0 := fun v hv => pu_lv_lt hX l v (fun t ht => ⟨(hs2 t ht).2.1, (hs2 t ht).2.2.1⟩) hv
    have h3 := pu_k12 (S := S) (ns := ns) k s
    have h4 := pu_pa_k (S := S) (ns := ns) (sl := sl) (nm := nm) l (pu_k3 S ns k s)
    have hk2 : (pu_pa S ns sl nm l (pu_k3 S ns k s)).2 + 3 < 2147483648 := hk2
    unfold pu_stepsW at h
    replace h := bnd9 h
    obtain ⟨o1, ho1, h⟩ := h
    have hform : (pu_pa S ns sl nm (s :: l) k).1 ++ rest = pu_pre S ns sl nm k s ++ (pu_own S ns sl k s ++ ((pu_pa S ns sl nm l (pu_k3 S ns k s)).1 ++ rest)) := by
      show (pu_pre S ns sl nm k s ++ (pu_own S ns sl k s ++ (pu_pa S ns sl nm l (pu_k3 S ns k s)).1)) ++ rest = _
      simp only [List.append_assoc]
    rw [hform]
    rcases pu_pa_step (rest := (pu_pa S ns sl nm l (pu_k3 S ns k s)).1 ++ rest) (hs s List.mem_cons_self) hk (by omega) hsl hinj hX2 hR ho1 with ⟨y, rfl, h5⟩ | ⟨e1, m1, q1, z1, e2, z2, rfl, h5, h6⟩
    · cases h
      exact Or.inl ⟨y, rfl, h5⟩
    · rw [h5]
      exact ih (pu_k3 S ns k s) e1 e2 z1 z2 m1 q1 o rest hs2 (by omega) hk2 h6 h
end PB
