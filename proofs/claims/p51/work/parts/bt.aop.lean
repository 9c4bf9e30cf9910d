/-! pure side, the allocator 6: values put away, on the way to code -/
section AOP
variable {S ns : Int32 → Bool} {sl nm : Int32 → Int32} {F0 F : pu_Flow} {L : Nat → Prop} {V : Nat → Int32 → Prop} {kb : Nat → Nat} {c0 k0 : Nat}
theorem pa_fe_kw (v : Int32) (k : Nat) : pu_kw (pu_fe ns sl nm v k).1 := by
  unfold pu_fe
  by_cases h : ns v = true
  · rw [if_pos h]
    show pu_kw 0
    unfold pu_kw
    decide
  · rw [if_neg h]
    show pu_kw 26
    unfold pu_kw
    decide
theorem pa_pa_kw : ∀ (l : List pu_Stp) (k : Nat), (∀ s ∈ l, pu_kw s.1) → ∀ s ∈ (pu_pa S ns sl nm l k).1, pu_kw s.1 := by
  intro l
  induction l with
  | nil => intro k _ s hs; cases hs
  | cons s0 l ih =>
    intro k h s hs
    have hs : s ∈ pu_pre S ns sl nm k s0 ++ (pu_own S ns sl k s0 ++ (pu_pa S ns sl nm l (pu_k3 S ns k s0)).1) := hs
    have h0 := h s0 List.mem_cons_self
    rcases List.mem_append.mp hs with h1 | h1
    · unfold pu_pre at h1
      rcases List.mem_append.mp h1 with h2 | h2
      · by_cases c : pu_fl S s0 = true
        · rw [if_pos c] at h2
          rw [List.mem_singleton.mp h2]
          exact pa_fe_kw _ _
        · rw [if_neg c] at h2; cases h2
      · by_cases c : pu_fr S s0 = true
        · rw [if_pos c] at h2
          rw [List.mem_singleton.mp h2]
          exact pa_fe_kw _ _
        · rw [if_neg c] at h2; cases h2
    rcases List.mem_append.mp h1 with h2 | h2
    · unfold pu_own at h2
      by_cases c : pu_gw s0.1 = true ∧ S s0.2.1 = true
      · rw [if_pos c] at h2
        by_cases c2 : ns s0.2.1 = true
        · rw [if_pos c2] at h2; cases h2
        · rw [if_neg c2] at h2
          rcases List.mem_cons.mp h2 with rfl | h3
          · exact h0
          · rw [List.mem_singleton.mp h3]
            show pu_kw 27
            unfold pu_kw
            decide
      · rw [if_neg c] at h2
        rw [List.mem_singleton.mp h2]
        exact h0
    · exact ih _ (fun s hs => h s (List.mem_cons_of_mem _ hs)) s h2
theorem pa_ok_pa (h : pa_ok F0 F L V) (hq : ∀ b, L b → ∀ s ∈ (F b).2.1, pu_pq S ns nm c0 k0 s)
    (hsl : ∀ v, S v = true → ns v = false → c0 ≤ nn (sl v)) (hinj : ∀ v w, S v = true → ns v = false → S w = true → ns w = false → nn (sl v) = nn (sl w) → v = w)
    (hVk : ∀ b v, L b → V b v → nn v < k0) (hE : ∀ b, L b → ((F b).2.2.1 = 23 ∨ (F b).2.2.1 = 24) → nn (F b).2.2.2.1 < k0) (hE2 : ∀ b, L b → S (F b).2.2.2.1 = true → (F b).2.2.1 = 23 ∨ (F b).2.2.1 = 24)
    (hk : ∀ b, L b → k0 ≤ kb b ∧ (pu_pa S ns sl nm (F b).2.1 (kb b)).2 + 3 < 2147483648) : pa_ok F0 (pu_paF S ns sl nm F kb) L (fun b v => V b v ∧ S v = false) := by
  obtain ⟨h0, hsc, hK, hV, hV0, hrun⟩ := h
  refine ⟨h0, fun b c hb hs => hsc b c hb hs, fun b hb s hs => ?_, pu_pa_lok hV hE2, fun v hv => hV0 v hv.1, fun call ar n e0 m r hr e z => pu_pa_run hsc h0 hV hV0 hq hsl hinj hVk hE hE2 hk (hrun call ar n e0 m r hr (fun _ => 0) z)⟩
  have hs : s ∈ (pu_pa S ns sl nm (F b).2.1 (kb b)).1 ++ (if S (F b).2.2.2.1 = true then [pu_fe ns sl nm (F b).2.2.2.1 (pu_pa S ns sl nm (F b).2.1 (kb b)).2] else []) := hs
  rcases List.mem_append.mp hs with h1 | h1
  · exact pa_pa_kw _ _ (hK b hb) s h1
  · by_cases c : S (F b).2.2.2.1 = true
    · rw [if_pos c] at h1
      rw [List.mem_singleton.mp h1]
      exact pa_fe_kw _ _
    · rw [if_neg c] at h1; cases h1
end AOP
