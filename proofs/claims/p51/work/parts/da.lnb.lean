/-! pure side, the allocator 35: how many lines there are -/
section LNB
variable {B N : Nat} {x9 g : ST} {qs : Nat → List Nat} {G : pu_Flow}
theorem pa_el_le (ln : Nat → Nat) (b : Nat) : (pa_el G ln b).length ≤ 2 := by
  unfold pa_el
  by_cases h1 : (G b).2.2.1 = 22
  · rw [if_pos h1]
    by_cases h2 : (G b).2.2.2.2.1 = pu_I (b + 1)
    · rw [if_pos h2]; exact Nat.zero_le _
    · rw [if_neg h2]; exact Nat.le_succ 1
  · rw [if_neg h1]
    by_cases h2 : (G b).2.2.1 = 24
    · rw [if_pos h2]; exact Nat.le_succ 1
    · rw [if_neg h2]
      by_cases h3 : (G b).2.2.2.2.2 = pu_I (b + 1)
      · rw [if_pos h3]; exact Nat.le_succ 1
      · rw [if_neg h3]
        by_cases h4 : (G b).2.2.2.2.1 = pu_I (b + 1)
        · rw [if_pos h4]; exact Nat.le_succ 1
        · rw [if_neg h4]; exact Nat.le_refl 2
theorem pa_flat_su (i : Nat) : (List.range (i + 1)).flatMap qs = (List.range i).flatMap qs ++ qs i := by
  rw [List.range_succ, List.flatMap_append]
  simp
theorem pa_flat (hd : pv_dis B N qs) : ∀ i, i ≤ B → ((List.range i).flatMap qs).Nodup ∧ ∀ a, a ∈ (List.range i).flatMap qs → a < N := by
  intro i
  induction i with
  | zero => intro _; exact ⟨List.nodup_nil, fun a ha => by cases ha⟩
  | succ i ih =>
    intro hi
    obtain ⟨h1, h2⟩ := ih (by omega)
    rw [pa_flat_su]
    refine ⟨List.nodup_append.mpr ⟨h1, hd.2.1 i (by omega), fun x hx y hy e => ?_⟩, fun a ha => ?_⟩
    · obtain ⟨b, hb, hxb⟩ := List.mem_flatMap.mp hx
      have hb := List.mem_range.mp hb
      rw [← e] at hy
      have := hd.2.2 b i x (by omega) (by omega) hxb hy
      omega
    · rcases List.mem_append.mp ha with q | q
      · exact h2 a q
      · exact hd.1 i (by omega) a q
theorem pa_ln_le : ∀ i, pa_ln x9 g G qs i ≤ ((List.range i).flatMap qs).length + 2 * i := by
  intro i
  induction i with
  | zero => exact Nat.zero_le _
  | succ i ih =>
    rw [pa_flat_su, List.length_append]
    have h1 := pa_ls_len (x9 := x9) (g := g) (qs i)
    have h2 := pa_el_le (G := G) (fun _ => 0) i
    show _ + _ + _ ≤ _
    omega
/-- lines are no more than steps and two for each end -/
theorem pa_ln_bd (hd : pv_dis B N qs) : (∀ i, i < B → pa_ln x9 g G qs i + (qs i).length ≤ N + 2 * i) ∧ pa_ln x9 g G qs B ≤ N + 2 * B := by
  refine ⟨fun i hi => ?_, ?_⟩
  · obtain ⟨h1, h2⟩ := pa_flat hd (i + 1) (by omega)
    have h3 := pv_len N _ h1 h2
    rw [pa_flat_su, List.length_append] at h3
    have := pa_ln_le (x9 := x9) (g := g) (G := G) (qs := qs) i
    omega
  · obtain ⟨h1, h2⟩ := pa_flat hd B (Nat.le_refl B)
    have h3 := pv_len N _ h1 h2
    have := pa_ln_le (x9 := x9) (g := g) (G := G) (qs := qs) B
    omega
end LNB
