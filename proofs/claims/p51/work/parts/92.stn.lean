/-! pure side, stores 23: the walk of the dominators' tree -/
def pv_kid (B : Nat) (dm : Nat → Nat) (b : Nat) : List Nat := (List.range B).filter (fun c => decide (c ≠ 0 ∧ dm c = b))
theorem pv_kid_m {B : Nat} {dm : Nat → Nat} {b c : Nat} : c ∈ pv_kid B dm b ↔ c < B ∧ c ≠ 0 ∧ dm c = b := by
  unfold pv_kid
  rw [List.mem_filter, List.mem_range, decide_eq_true_iff]
theorem pv_sorted {l : List Nat} (h : l.Pairwise (· < ·)) {l1 l2 : List Nat} {c d : Nat} (hl : l = l1 ++ c :: l2) (hd : d ∈ l) (hdc : d < c) : d ∈ l1 := by
  subst hl
  rcases List.mem_append.mp hd with h1 | h1
  · exact h1
  · rcases List.mem_cons.mp h1 with h1 | h1
    · omega
    · have := (List.pairwise_cons.mp (List.pairwise_append.mp h).2.1).1 d h1
      omega
theorem pv_kid_s {B : Nat} {dm : Nat → Nat} {b : Nat} : (pv_kid B dm b).Pairwise (· < ·) := by
  unfold pv_kid
  exact List.Pairwise.filter _ List.pairwise_lt_range
def pv_dmx (B : Nat) (D : Nat → Nat → Prop) (dm : Nat → Nat) : Prop := ∀ c, c < B → c ≠ 0 → dm c < c ∧ D c (dm c) ∧ ∀ d, D c d → d ≠ c → D (dm c) d
def pv_wk (B : Nat) (D : Nat → Nat → Prop) (dm : Nat → Nat) (V S : List Nat) : Prop :=
  S.Nodup ∧ V.Nodup ∧ (∀ x ∈ S, x < B ∧ x ∉ V ∧ (x ≠ 0 → dm x ∈ V)) ∧ (∀ x ∈ V, x < B ∧ (x ≠ 0 → dm x ∈ V)) ∧ (∀ x, x < B → x ∈ V ∨ ∃ y, y ∈ S ∧ D x y) ∧
  (∀ S1 c S2, S = S1 ++ c :: S2 → c ≠ 0 → ∀ d, d ≠ 0 → d < B → dm d = dm c → d < c → ∀ x, x < B → D x d → x ∈ V ∨ ∃ y, y ∈ S1 ∧ D x y)
section WK
variable {F : pu_Flow} {B : Nat} {D : Nat → Nat → Prop} {dm : Nat → Nat}
theorem pv_child (hG : pu_grf F (fun b => b < B) D) (hm : pv_dmx B D dm) {b : Nat} : ∀ x, x < B → D x b → x ≠ b → ∃ e, e ∈ pv_kid B dm b ∧ D x e := by
  intro x
  induction x using Nat.strongRecOn with
  | ind x ih =>
    intro hx h1 hne
    have hx0 : x ≠ 0 := by
      intro e
      subst e
      have := (hG.2.1 0 b hx h1).1
      omega
    obtain ⟨m1, m2, m3⟩ := hm x hx hx0
    by_cases h : dm x = b
    · exact ⟨x, pv_kid_m.mpr ⟨hx, hx0, h⟩, hG.2.2.1 x hx⟩
    · obtain ⟨e, e1, e2⟩ := ih (dm x) m1 (by omega) (m3 b h1 fun c => hne c.symm) h
      exact ⟨e, e1, hG.2.2.2.1 x (dm x) e hx m2 e2⟩
theorem pv_wk_0 (h0 : ∀ x, x < B → D x 0) (hB : 0 < B) : pv_wk B D dm [] [0] := by
  refine ⟨by simp, List.nodup_nil, fun x hx => ?_, fun x hx => (by cases hx), fun x hx => Or.inr ⟨0, List.mem_singleton.mpr rfl, h0 x hx⟩, fun S1 c S2 hS hc => ?_⟩
  · rw [List.mem_singleton.mp hx]
    exact ⟨hB, by simp, fun c => absurd rfl c⟩
  · exfalso
    have : c ∈ [0] := by rw [hS]; exact List.mem_append_right _ List.mem_cons_self
    exact hc (List.mem_singleton.mp this)
/-- what dominates a visited block was visited -/
theorem pv_wk_dom (hm : pv_dmx B D dm) {V S : List Nat} (hw : pv_wk B D dm V S) (h0 : ∀ d, D 0 d → d = 0) {d : Nat} : ∀ x, x ∈ V → D x d → d ∈ V := by
  intro x
  induction x using Nat.strongRecOn with
  | ind x ih =>
    intro hx h1
    by_cases h : d = x
    · rw [h]; exact hx
    · have h2 := hw.2.2.2.1 x hx
      by_cases hx0 : x = 0
      · subst hx0
        rw [h0 d h1]; exact hx
      · obtain ⟨m1, m2, m3⟩ := hm x h2.1 hx0
        exact ih (dm x) m1 (h2.2 hx0) (m3 d h1 h)
/-- what dominates the block that comes next was visited -/
theorem pv_wk_dom' (hm : pv_dmx B D dm) {V S : List Nat} {b : Nat} (hw : pv_wk B D dm V (b :: S)) (h0 : ∀ d, D 0 d → d = 0) {d : Nat} (h1 : D b d) (hne : d ≠ b) : d ∈ V := by
  have hb := hw.2.2.1 b List.mem_cons_self
  by_cases hb0 : b = 0
  · subst hb0
    exact absurd (h0 d h1) hne
  · obtain ⟨m1, m2, m3⟩ := hm b hb.1 hb0
    exact pv_wk_dom hm hw h0 (dm b) (hb.2.2 hb0) (m3 d h1 hne)
/-- so was a block of less number from which a way leads there -/
theorem pv_wk_pred (hG : pu_grf F (fun b => b < B) D) (hm : pv_dmx B D dm) {V S : List Nat} {b p : Nat} (hw : pv_wk B D dm V (b :: S)) (hp : p < b) (hsc : pu_sc F p b) : p ∈ V := by
  have hb := hw.2.2.1 b List.mem_cons_self
  have hb0 : b ≠ 0 := by omega
  have hpB : p < B := by omega
  obtain ⟨m1, m2, m3⟩ := hm b hb.1 hb0
  have h1 : D p (dm b) := hG.2.2.2.2 p b (dm b) hpB hsc m2 (by omega)
  by_cases h : p = dm b
  · rw [h]; exact hb.2.2 hb0
  · obtain ⟨e, e1, e2⟩ := pv_child hG hm p hpB h1 h
    obtain ⟨e3, e4, e5⟩ := pv_kid_m.mp e1
    have hep := (hG.2.1 p e hpB e2).1
    rcases hw.2.2.2.2.2 [] b S rfl hb0 e e4 e3 e5 (by omega) p hpB e2 with h9 | ⟨y, hy, _⟩
    · exact h9
    · cases hy
theorem pv_wk_s (hG : pu_grf F (fun b => b < B) D) (hm : pv_dmx B D dm) {V S : List Nat} {b : Nat} (hw : pv_wk B D dm V (b :: S)) : pv_wk B D dm (V ++ [b]) (pv_kid B dm b ++ S) := by
  obtain ⟨w1, w2, w3, w4, w5, w6⟩ := hw
  have hb := w3 b List.mem_cons_self
  have hbS : b ∉ S := (List.nodup_cons.mp w1).1
  have hkV : ∀ c, c ∈ pv_kid B dm b → c ∉ V := fun c hc hV => by
    obtain ⟨k1, k2, k3⟩ := pv_kid_m.mp hc
    have := (w4 c hV).2 k2
    rw [k3] at this
    exact hb.2.1 this
  have hkS : ∀ c, c ∈ pv_kid B dm b → c ∉ S := fun c hc hS => by
    obtain ⟨k1, k2, k3⟩ := pv_kid_m.mp hc
    have := (w3 c (List.mem_cons_of_mem _ hS)).2.2 k2
    rw [k3] at this
    exact hb.2.1 this
  have hkb : ∀ c, c ∈ pv_kid B dm b → c ≠ b := fun c hc e => by
    obtain ⟨k1, k2, k3⟩ := pv_kid_m.mp hc
    have := (hm c k1 k2).1
    omega
  have hdown : ∀ x, x < B → D x b → x ∈ V ++ [b] ∨ ∃ y, y ∈ pv_kid B dm b ∧ D x y := fun x hx h => by
    by_cases e : x = b
    · exact Or.inl (List.mem_append_right _ (List.mem_singleton.mpr e))
    · exact Or.inr (pv_child hG hm x hx h e)
  refine ⟨?_, ?_, fun x hx => ?_, fun x hx => ?_, fun x hx => ?_, fun S1 c S2 hS hc0 d hd0 hdB hdm hdc x hx hxd => ?_⟩
  · refine List.nodup_append.mpr ⟨?_, (List.nodup_cons.mp w1).2, fun a ha z hz e => hkS a ha (e ▸ hz)⟩
    exact (pv_kid_s (B := B) (dm := dm) (b := b)).imp (fun h => Nat.ne_of_lt h)
  · exact List.nodup_append.mpr ⟨w2, by simp, fun a ha z hz e => hb.2.1 (by rw [← List.mem_singleton.mp hz, ← e]; exact ha)⟩
  · rcases List.mem_append.mp hx with h | h
    · obtain ⟨k1, k2, k3⟩ := pv_kid_m.mp h
      refine ⟨k1, fun c => ?_, fun _ => by rw [k3]; exact List.mem_append_right _ (List.mem_singleton.mpr rfl)⟩
      rcases List.mem_append.mp c with c | c
      · exact hkV x h c
      · exact hkb x h (List.mem_singleton.mp c)
    · have h9 := w3 x (List.mem_cons_of_mem _ h)
      refine ⟨h9.1, fun c => ?_, fun c => List.mem_append_left _ (h9.2.2 c)⟩
      rcases List.mem_append.mp c with c | c
      · exact h9.2.1 c
      · rw [List.mem_singleton.mp c] at h
        exact hbS h
  · rcases List.mem_append.mp hx with h | h
    · have h9 := w4 x h
      exact ⟨h9.1, fun c => List.mem_append_left _ (h9.2 c)⟩
    · rw [List.mem_singleton.mp h]
      exact ⟨hb.1, fun c => List.mem_append_left _ (hb.2.2 c)⟩
  · rcases w5 x hx with h | ⟨y, hy, h⟩
    · exact Or.inl (List.mem_append_left _ h)
    · rcases List.mem_cons.mp hy with e | hy
      · rw [e] at h
        exact (hdown x hx h).imp_right fun ⟨z, z1, z2⟩ => ⟨z, List.mem_append_left _ z1, z2⟩
      · exact Or.inr ⟨y, List.mem_append_right _ hy, h⟩
  · rcases List.append_eq_append_iff.mp hS with ⟨l, h1, h2⟩ | ⟨l, h1, h2⟩
    · -- c lies in S
      have hS' : b :: S = (b :: l) ++ c :: S2 := by rw [h2]; rfl
      rcases w6 (b :: l) c S2 hS' hc0 d hd0 hdB hdm hdc x hx hxd with h | ⟨y, hy, h⟩
      · exact Or.inl (List.mem_append_left _ h)
      · rcases List.mem_cons.mp hy with e | hy
        · rw [e] at h
          refine (hdown x hx h).imp_right fun ⟨z, z1, z2⟩ => ⟨z, ?_, z2⟩
          rw [h1]; exact List.mem_append_left _ z1
        · refine Or.inr ⟨y, ?_, h⟩
          rw [h1]; exact List.mem_append_right _ hy
    · cases l with
      | nil =>
        rw [List.nil_append] at h2
        rw [List.append_nil] at h1
        have hS' : b :: S = [b] ++ c :: S2 := by rw [← h2]; rfl
        rcases w6 [b] c S2 hS' hc0 d hd0 hdB hdm hdc x hx hxd with h | ⟨y, hy, h⟩
        · exact Or.inl (List.mem_append_left _ h)
        · rw [List.mem_singleton.mp hy] at h
          refine (hdown x hx h).imp_right fun ⟨z, z1, z2⟩ => ⟨z, ?_, z2⟩
          rw [← h1]; exact z1
      | cons a l =>
        -- c is a child of b
        rw [List.cons_append] at h2
        injection h2 with e1 e2
        subst e1
        have hck : c ∈ pv_kid B dm b := by rw [h1]; exact List.mem_append_right _ List.mem_cons_self
        have hk := pv_kid_m.mp hck
        have hdk : d ∈ pv_kid B dm b := pv_kid_m.mpr ⟨hdB, hd0, by rw [hdm, hk.2.2]⟩
        exact Or.inr ⟨d, pv_sorted pv_kid_s h1 hdk hdc, hxd⟩
/-- in the end all were visited -/
theorem pv_wk_end {V : List Nat} (hw : pv_wk B D dm V []) : ∀ x, x < B → x ∈ V := fun x hx => (hw.2.2.2.2.1 x hx).elim id fun ⟨y, hy, _⟩ => by cases hy
end WK
