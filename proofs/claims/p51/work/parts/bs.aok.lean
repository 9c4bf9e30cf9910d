/-! pure side, the allocator 5: a flow on its way to code -/
/-- F is on its way from F0 to code: V holds what is live, nothing is live at the start, and it does all that F0 does -/
def pa_ok (F0 F : pu_Flow) (L : Nat → Prop) (V : Nat → Int32 → Prop) : Prop :=
  L 0 ∧ (∀ b c, L b → pu_sc F b c → L c) ∧ (∀ b, L b → ∀ s ∈ (F b).2.1, pu_kw s.1) ∧ pu_lok F L V ∧ (∀ v, ¬ V 0 v) ∧
    ∀ call ar n e0 m r, pu_run F0 call ar n 0 0 (e0, m, []) = some r → ∀ e z, pu_runW F call ar n 0 (e, m, [], z) = some r
section AOK
variable {F0 F F' : pu_Flow} {L : Nat → Prop} {D : Nat → Nat → Prop} {V : Nat → Int32 → Prop}
theorem pa_ok_cp (hS : pu_ssa F L D) (hC : pu_cpd F F' L D) (hK : ∀ b, L b → ∀ s ∈ (F' b).2.1, pu_kw s.1) : pa_ok F F' L (fun b v => pu_av F D b [] v) := by
  obtain ⟨h1, h2⟩ := pu_cp_lok hS hC
  refine ⟨hS.1, fun b c hb hsc => ?_, hK, h1, h2, fun call ar n e0 m r hr e z => pu_cp_run hS hC hr⟩
  refine hS.2.1.1 b c hb ?_
  unfold pu_sc at hsc ⊢
  rw [(hC.1 b hb).2.1] at hsc
  exact hsc
theorem pa_ok_ro {ro : Int32 → Int32} (h : pa_ok F0 F L V) (hR : pu_rok F L V ro) : pa_ok F0 (pu_roF F ro) L (fun b u => ∃ v, V b v ∧ ro v = u) := by
  obtain ⟨h0, hsc, hK, hV, hV0, hrun⟩ := h
  refine ⟨h0, fun b c hb hs => hsc b c hb hs, fun b hb s hs => ?_, pu_ro_lok hV, fun v ⟨u, hu, _⟩ => hV0 u hu, fun call ar n e0 m r hr e z => pu_ro_run hK hsc h0 hV hV0 hR (hrun call ar n e0 m r hr (fun _ => 0) z)⟩
  have hs : s ∈ ((F b).2.1.filter (fun s => !pu_idl ro s)).map (pu_rns ro) := hs
  obtain ⟨s0, hs0, rfl⟩ := List.mem_map.mp hs
  exact hK b hb s0 (List.mem_filter.mp hs0).1
/-- code that holds the lines of such a flow does what the flow does -/
theorem pa_ok_code {C : Nat → pu_Stp} {ln : Nat → Nat} (h : pa_ok F0 F L V) (hl : pu_lay F L C ln) (hl0 : ln 0 = 0) {call : pu_Call} {ar : List Int32} {n : Nat} {e0 e : pu_E} {m : pu_M} {z : Nat → Int32} {r : pu_Res} (hr : pu_run F0 call ar n 0 0 (e0, m, []) = some r) : ∃ m', pu_crn C call ar m' 0 (e, m, [], z) = some r := by
  obtain ⟨h0, hsc, hK, hV, hV0, hrun⟩ := h
  obtain ⟨m', h9⟩ := pu_cr_run hK hsc hl n 0 (e, m, [], z) r h0 (hrun call ar n e0 m r hr e z)
  rw [hl0] at h9
  exact ⟨m', h9⟩
theorem pa_FC {fs : Nat} {Fs Fc : Nat → pu_Flow} {Ls : Nat → Nat → Prop} {Vs : Nat → Nat → Int32 → Prop} {Cs : Nat → Nat → pu_Stp} {lns : Nat → Nat → Nat} (h : ∀ f, f < fs → pa_ok (Fs f) (Fc f) (Ls f) (Vs f) ∧ pu_lay (Fc f) (Ls f) (Cs f) (lns f) ∧ lns f 0 = 0) : pm_FC fs Fs Cs := by
  intro f hf call ar k m r hr
  obtain ⟨h1, h2, h3⟩ := h f hf
  exact pa_ok_code h1 h2 h3 hr
end AOK
