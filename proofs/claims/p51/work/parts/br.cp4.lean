/-! pure side, the allocator 4: copies at once do what phis do -/
section CPD
variable {F F' : pu_Flow} {L : Nat → Prop} {D : Nat → Nat → Prop}
def pa_ml (F : pu_Flow) (b c : Nat) : List (Int32 × Int32) := ((F c).1.map (fun z => (z.1, z.2 b))).filter (fun y => decide (y.2 ≠ y.1))
theorem pa_ml_mem {b c : Nat} {y : Int32 × Int32} : y ∈ pa_ml F b c ↔ ∃ z, z ∈ (F c).1 ∧ y = (z.1, z.2 b) ∧ z.2 b ≠ z.1 := by
  unfold pa_ml
  rw [List.mem_filter, List.mem_map, decide_eq_true_iff]
  constructor
  · rintro ⟨⟨z, z1, rfl⟩, z2⟩
    exact ⟨z, z1, rfl, z2⟩
  · rintro ⟨z, z1, rfl, z2⟩
    exact ⟨⟨z, z1, rfl⟩, z2⟩
theorem pa_cpd (hS : pu_ssa F L D) (hnf : ∀ b c, L b → (F b).2.2.1 = 23 → pu_sc F b c → (F c).1 = [])
    (hb : ∀ b, L b → (F' b).1 = [] ∧ (F' b).2.2 = (F b).2.2 ∧ ∃ cs, (F' b).2.1 = (F b).2.1 ++ cs ∧ ((cs = [] ∧ ∀ c, pu_sc F b c → (F c).1 = []) ∨
      (∃ c V V', pu_sc F b c ∧ (∀ c', pu_sc F b c' → c' = c) ∧ pu_pmr cs (pa_ml F b c) V V' ∧ V' < 2147483648 ∧ (∀ z, z ∈ (F c).1 → nn z.1 < V ∧ nn (z.2 b) < V) ∧ ∀ u, pu_av F D b (F b).2.1 u → nn u < V))) : pu_cpd F F' L D := by
  refine ⟨fun b hL => ?_, fun b c z v hL h23 hsc hz _ => by rw [hnf b c hL h23 hsc] at hz; cases hz⟩
  obtain ⟨h1, h2, cs, h3, h4⟩ := hb b hL
  refine ⟨h1, h2, cs, h3, ?_⟩
  rcases h4 with ⟨rfl, h4⟩ | ⟨c, V, V', hsc, hone, hpm, hV', hV, hav⟩
  · refine ⟨fun call ar e w => ⟨e, rfl, fun c z hsc hz => (by rw [h4 c hsc] at hz; cases hz), fun _ _ _ => rfl⟩, fun X v hv => Or.inr ⟨hv, fun c z hsc hz => (by rw [h4 c hsc] at hz; cases hz)⟩⟩
  · have hLc := hS.2.1.1 b c hL hsc
    have hnd : ((F c).1.map Prod.fst).Nodup := (List.nodup_append.mp (hS.2.2.2.2.1.1 c hLc)).1
    have hndl : ((pa_ml F b c).map Prod.fst).Nodup := by
      have h9 : ((pa_ml F b c).map Prod.fst).Sublist (((F c).1.map (fun z => (z.1, z.2 b))).map Prod.fst) := List.Sublist.map _ List.filter_sublist
      rw [List.map_map] at h9
      exact List.Pairwise.sublist h9 hnd
    have hinj : ∀ z z', z ∈ (F c).1 → z' ∈ (F c).1 → z.1 = z'.1 → z = z' := fun z z' hz hz' h => pv_nodup_map _ hnd z hz z' hz' h
    refine ⟨fun call ar e w => ?_, fun X v hv => ?_⟩
    · obtain ⟨e1, r1, r2, r3⟩ := pu_pm_run (call := call) (ar := ar) (w := w) cs (pa_ml F b c) V V' e hpm hV' hndl (fun y hy => by
        obtain ⟨z, z1, rfl, _⟩ := pa_ml_mem.mp hy
        exact hV z z1)
      refine ⟨e1, r1, fun c' z hsc' hz => ?_, fun u hu hne => ?_⟩
      · rw [hone c' hsc'] at hz
        by_cases he : z.2 b = z.1
        · rw [he]
          refine r3 z.1 (fun y hy h => ?_) (hV z hz).1
          obtain ⟨z', z1, rfl, z2⟩ := pa_ml_mem.mp hy
          have := hinj z' z z1 hz h
          rw [this] at z2
          exact z2 he
        · exact r2 (z.1, z.2 b) (pa_ml_mem.mpr ⟨z, hz, rfl, he⟩)
      · refine r3 u (fun y hy => ?_) (hav u hu)
        obtain ⟨z, z1, rfl, _⟩ := pa_ml_mem.mp hy
        exact hne c z hsc z1
    · rcases pu_pm_lv cs _ _ _ _ hpm hv with ⟨y, y1, y2⟩ | ⟨y1, y2⟩
      · obtain ⟨z, z1, rfl, _⟩ := pa_ml_mem.mp y1
        exact Or.inl ⟨c, z, hsc, z1, y2⟩
      · refine Or.inr ⟨y1, fun c' z hsc' hz hne => ?_⟩
        rw [hone c' hsc'] at hz
        exact y2 _ (pa_ml_mem.mpr ⟨z, hz, rfl, hne⟩)
end CPD
