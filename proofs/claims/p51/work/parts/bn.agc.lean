/-! pure side, the machine 17: text and code answer alike -/
theorem pm_stpW_le {c c' : pu_Call} {ar : List Int32} {s : pu_Stp} {σ : pu_SW} {o : Sum pu_Res pu_SW} (hc : pu_cle c c') (h : pu_stpW c ar s σ = some o) : pu_stpW c' ar s σ = some o := by
  unfold pu_stpW at h ⊢
  by_cases h1 : s.1 = 25
  · rw [if_pos h1] at h ⊢; exact h
  rw [if_neg h1] at h ⊢
  by_cases h2 : s.1 = 26
  · rw [if_pos h2] at h ⊢; exact h
  rw [if_neg h2] at h ⊢
  by_cases h3 : s.1 = 27
  · rw [if_pos h3] at h ⊢; exact h
  rw [if_neg h3] at h ⊢
  obtain ⟨o1, ho1, ho2⟩ := Option.bind_eq_some_iff.mp h
  rw [pu_stp_le hc ho1]
  exact ho2
theorem pm_crn_call {C : Nat → pu_Stp} {c c' : pu_Call} {ar : List Int32} (hc : pu_cle c c') : ∀ (n i : Nat) (σ : pu_SW) (r : pu_Res), pu_crn C c ar n i σ = some r → pu_crn C c' ar n i σ = some r := by
  intro n
  induction n with
  | zero => intro i σ r h; cases h
  | succ n ih =>
    intro i σ r h
    unfold pu_crn at h ⊢
    by_cases h1 : (C i).1 = 22
    · rw [if_pos h1] at h ⊢; exact ih _ _ _ h
    rw [if_neg h1] at h ⊢
    by_cases h2 : (C i).1 = 23
    · rw [if_pos h2] at h ⊢
      by_cases h0 : σ.1 (C i).2.2.1 = 0
      · rw [if_pos h0] at h ⊢; exact ih _ _ _ h
      · rw [if_neg h0] at h ⊢; exact ih _ _ _ h
    rw [if_neg h2] at h ⊢
    by_cases h3 : (C i).1 = 28
    · rw [if_pos h3] at h ⊢
      by_cases h0 : σ.1 (C i).2.2.1 = 0
      · rw [if_pos h0] at h ⊢; exact ih _ _ _ h
      · rw [if_neg h0] at h ⊢; exact ih _ _ _ h
    rw [if_neg h3] at h ⊢
    by_cases h4 : (C i).1 = 24
    · rw [if_pos h4] at h ⊢; exact h
    rw [if_neg h4] at h ⊢
    obtain ⟨o, ho, ho2⟩ := Option.bind_eq_some_iff.mp h
    rw [pm_stpW_le hc ho]
    cases o with
    | inl y => exact ho2
    | inr τ => exact ih _ _ _ ho2
theorem pm_callC_le {fs : Nat} {np : Nat → Nat} {Cs : Nat → Nat → pu_Stp} {n : Nat} (k : Nat) : ∀ d, pu_cle (pm_callC fs np Cs n d) (pm_callC fs np Cs (n + k) d) := by
  intro d
  induction d with
  | zero => intro f q m r hr; exact hr
  | succ d ih =>
    intro f q m r hr
    have hr : (if ixb f fs = true ∧ q.length = np (nn f) then pu_crn (Cs (nn f)) (pm_callC fs np Cs n d) q n 0 (fun _ => 0, m, [], fun _ => 0) else none) = some r := hr
    show (if ixb f fs = true ∧ q.length = np (nn f) then pu_crn (Cs (nn f)) (pm_callC fs np Cs (n + k) d) q (n + k) 0 (fun _ => 0, m, [], fun _ => 0) else none) = some r
    by_cases hf : ixb f fs = true ∧ q.length = np (nn f)
    · rw [if_pos hf] at hr ⊢
      exact pu_crn_le n k _ _ _ (pm_crn_call ih _ _ _ _ hr)
    · rw [if_neg hf] at hr; cases hr
/-- a run makes but so many calls -/
theorem pm_cpt {fs d : Nat} {np : Nat → Nat} {Cs : Nat → Nat → pu_Stp} {G : pu_Call} {C : Nat → pu_Stp} {ar : List Int32} (hG : ∀ f q m r, G f q m = some r → ∃ n, pm_callC fs np Cs n d f q m = some r) :
    ∀ (k i : Nat) (σ : pu_SW) (r : pu_Res), pu_crn C G ar k i σ = some r → ∃ n, pu_crn C (pm_callC fs np Cs n d) ar k i σ = some r := by
  have hstp : ∀ s σ o, pu_stpW G ar s σ = some o → ∃ n, pu_stpW (pm_callC fs np Cs n d) ar s σ = some o := by
    intro s σ o h
    by_cases h20 : s.1 = 20
    · have e : ∀ c : pu_Call, pu_stpW c ar s σ = ((c s.2.2.1 σ.2.2.1 σ.2.1).bind fun o => if o.1 = 0 then some (.inr (pu_set σ.1 s.2.1 o.2.1, o.2.2, [])) else some (.inl o)).bind fun o => some (Sum.elim .inl (fun τ => .inr (τ.1, τ.2.1, τ.2.2, σ.2.2.2)) o) := fun c => by
        unfold pu_stpW pu_stp
        rw [h20, if_neg (show ¬ (20 : Int32) = 25 by decide), if_neg (show ¬ (20 : Int32) = 26 by decide), if_neg (show ¬ (20 : Int32) = 27 by decide), if_neg (show ¬ (20 : Int32) = 0 by decide), if_neg (show ¬ (20 : Int32) = 21 by decide), if_pos rfl]
      rw [e G] at h
      obtain ⟨o1, ho1, ho2⟩ := Option.bind_eq_some_iff.mp h
      obtain ⟨oc, hoc, hoc2⟩ := Option.bind_eq_some_iff.mp ho1
      obtain ⟨n, hn⟩ := hG _ _ _ _ hoc
      refine ⟨n, ?_⟩
      rw [e, hn, Option.bind_some, hoc2, Option.bind_some]
      exact ho2
    · refine ⟨0, ?_⟩
      rw [← h]
      unfold pu_stpW pu_stp
      rw [if_neg h20, if_neg h20]
  intro k
  induction k with
  | zero => intro i σ r h; cases h
  | succ k ih =>
    intro i σ r h
    unfold pu_crn at h ⊢
    by_cases h1 : (C i).1 = 22
    · rw [if_pos h1] at h
      obtain ⟨n, hn⟩ := ih _ _ _ h
      exact ⟨n, by rw [if_pos h1]; exact hn⟩
    rw [if_neg h1] at h
    by_cases h2 : (C i).1 = 23
    · rw [if_pos h2] at h
      by_cases h0 : σ.1 (C i).2.2.1 = 0
      · rw [if_pos h0] at h
        obtain ⟨n, hn⟩ := ih _ _ _ h
        exact ⟨n, by rw [if_neg h1, if_pos h2, if_pos h0]; exact hn⟩
      · rw [if_neg h0] at h
        obtain ⟨n, hn⟩ := ih _ _ _ h
        exact ⟨n, by rw [if_neg h1, if_pos h2, if_neg h0]; exact hn⟩
    rw [if_neg h2] at h
    by_cases h3 : (C i).1 = 28
    · rw [if_pos h3] at h
      by_cases h0 : σ.1 (C i).2.2.1 = 0
      · rw [if_pos h0] at h
        obtain ⟨n, hn⟩ := ih _ _ _ h
        exact ⟨n, by rw [if_neg h1, if_neg h2, if_pos h3, if_pos h0]; exact hn⟩
      · rw [if_neg h0] at h
        obtain ⟨n, hn⟩ := ih _ _ _ h
        exact ⟨n, by rw [if_neg h1, if_neg h2, if_pos h3, if_neg h0]; exact hn⟩
    rw [if_neg h3] at h
    by_cases h4 : (C i).1 = 24
    · rw [if_pos h4] at h
      exact ⟨0, by rw [if_neg h1, if_neg h2, if_neg h3, if_pos h4]; exact h⟩
    rw [if_neg h4] at h
    obtain ⟨o, ho, ho2⟩ := Option.bind_eq_some_iff.mp h
    obtain ⟨n1, hn1⟩ := hstp _ _ _ ho
    cases o with
    | inl y => exact ⟨n1, by rw [if_neg h1, if_neg h2, if_neg h3, if_neg h4, hn1]; exact ho2⟩
    | inr τ =>
      obtain ⟨n2, hn2⟩ := ih _ _ _ ho2
      refine ⟨n1 + n2, ?_⟩
      rw [if_neg h1, if_neg h2, if_neg h3, if_neg h4, pm_stpW_le (pm_callC_le n2 d) hn1]
      refine pm_crn_call (c := pm_callC fs np Cs n2 d) ?_ _ _ _ _ hn2
      rw [Nat.add_comm n1 n2]
      exact pm_callC_le n1 d
/-- what code is to do: all that its flow does -/
def pm_FC (fs : Nat) (Fs : Nat → pu_Flow) (Cs : Nat → Nat → pu_Stp) : Prop :=
  ∀ f, f < fs → ∀ call ar k m r, pu_run (Fs f) call ar k 0 0 (fun _ => 0, m, []) = some r → ∃ m', pu_crn (Cs f) call ar m' 0 (fun _ => 0, m, [], fun _ => 0) = some r
theorem pm_GC {fs : Nat} {np : Nat → Nat} {Fs : Nat → pu_Flow} {Cs : Nat → Nat → pu_Stp} (hFC : pm_FC fs Fs Cs) {n : Nat} : ∀ d f q m r, pu_callG fs np Fs n d f q m = some r → ∃ n', pm_callC fs np Cs n' d f q m = some r := by
  intro d
  induction d with
  | zero => intro f q m r hr; exact ⟨0, hr⟩
  | succ d ih =>
    intro f q m r hr
    have hr : (if ixb f fs = true ∧ q.length = np (nn f) then pu_run (Fs (nn f)) (pu_callG fs np Fs n d) q n 0 0 (fun _ => 0, m, []) else none) = some r := hr
    by_cases hf : ixb f fs = true ∧ q.length = np (nn f)
    · rw [if_pos hf] at hr
      obtain ⟨m', h1⟩ := hFC (nn f) (pv_ixn hf.1).2 _ _ _ _ _ hr
      obtain ⟨n1, h2⟩ := pm_cpt ih _ _ _ _ h1
      refine ⟨n1 + m', ?_⟩
      show (if ixb f fs = true ∧ q.length = np (nn f) then pu_crn (Cs (nn f)) (pm_callC fs np Cs (n1 + m') d) q (n1 + m') 0 (fun _ => 0, m, [], fun _ => 0) else none) = some r
      rw [if_pos hf, Nat.add_comm n1 m']
      refine pu_crn_le m' n1 _ _ _ (pm_crn_call (c := pm_callC fs np Cs n1 d) ?_ _ _ _ _ h2)
      rw [Nat.add_comm m' n1]
      exact pm_callC_le m' d
    · rw [if_neg hf] at hr; cases hr
section AC
variable {P : ST} {fs : Nat} {a0 a1 Vn : Nat → Nat} {A : Nat → Nat → Nat → Prop} {np rk tk : Nat → Nat} {F0 : Nat → pu_Flow}
/-- text, blocks and code answer alike, where none takes too many steps -/
theorem pm_agreeC (hpg : pm_pg P fs a0 a1 Vn A np rk tk) (h6 : ∀ f, f < fs → a0 f ≤ 1000) (hP : P 0 0 = pu_I fs) (hF0 : pm_F0 P fs a0 F0) {f : Nat} (hf : f < fs) {n17 : Nat → Nat} {w LL : ST} (hn : n17 17 < 1000000) (Bn : Nat → Nat → Nat) (Bw : Nat → ST) (Sn : Nat → Nat → Nat) (Sw : Nat → ST) (Cn : Nat → Nat → Nat) (Cw : Nat → ST) :
    ∃ w', fX3_start n17 w 0 (pu_I f) P LL Bn Bw Sn Sw Cn Cw = some (w', stn n17 17 (n17 17)) ∧ w' 8 = w 8 ∧ (w' 0 0 = 2 ∨
      ((∀ (m17 : Nat → Nat) (v L1 : ST) (Ns N2 : Nat → Nat → Nat) (W W2 : Nat → ST) (L : Nat → SL) (Cn : Nat → Nat → Nat) (Cw : Nat → ST), m17 17 < 1000000 → (∀ z, z < 4 → v 8 z = w 8 z) → pv_cls fs fs np F0 Ns W L N2 W2 →
        ∃ v', fX3_start m17 v 1 (pu_I f) P L1 Ns W N2 W2 Cn Cw = some (v', stn m17 17 (m17 17)) ∧ v' 8 = v 8 ∧ (v' 0 0 = 2 ∨ (v' 0 0 = w' 0 0 ∧ v' 0 1 = w' 0 1 ∧ ∀ z, z < 16 → v' 4 z = w' 4 z))) ∧
       (∀ (m17 : Nat → Nat) (v L1 : ST) (Ns N2 : Nat → Nat → Nat) (W W2 : Nat → ST) (Cn : Nat → Nat → Nat) (Cw : Nat → ST) (Nl sl : Nat → Nat), m17 17 < 1000000 → (∀ z, z < 4 → v 8 z = w 8 z) → (∀ f, f < fs → L1 3 f = pu_I (sl f) ∧ sl f ≤ 2000) → pm_cc P fs np Cn Cw Nl (pm_mx sl fs) → pm_FC fs F0 (pm_Cs Cw) →
        ∃ v' x, x < 1000000 ∧ fX3_start m17 v 2 (pu_I f) P L1 Ns W N2 W2 Cn Cw = some (v', stn m17 17 x) ∧ v' 8 = v 8 ∧ (v' 0 0 = 2 ∨ (v' 0 0 = w' 0 0 ∧ v' 0 1 = w' 0 1 ∧ ∀ z, z < 16 → v' 4 z = w' 4 z))))) := by
  obtain ⟨hfs, hall⟩ := id hpg
  have h4 : ∀ f, f < fs → P 4 f = pu_I (np f) ∧ np f ≤ 4 ∧ P 6 f = pu_I (a0 f) ∧ a0 f ≤ 1000 := fun f hf => ⟨(hall f hf).2.1, (hall f hf).2.2.1, (hall f hf).1.1.2.2.1, h6 f hf⟩
  obtain ⟨w', e1, e2, e3⟩ := pm_start0 hpg (w := w) (L := LL) hf hn Bn Bw Sn Sw Cn Cw
  refine ⟨w', e1, e2, e3.imp id fun ⟨r, r1, r2, r3, r4, K, hK⟩ => ⟨fun m17 v L1 Ns N2 W W2 L Cn Cw hm hv hc => ?_, fun m17 v L1 Ns N2 W W2 Cn Cw Nl sl hm hv hsl hcc hFC => ?_⟩⟩
  · obtain ⟨B, N, M, Lm, D, ch, ph, wb, dm, hcl, hrun⟩ := pm_cl_of (P := P) hfs (fun f hf => ⟨(hall f hf).2.1, (hall f hf).2.2.1⟩) hc
    have hcle := pm_cle (n := K) h4 hF0 hrun 7
    have har : (List.range (np f)).map (v 8) = (List.range (np f)).map (w 8) := List.map_congr_left fun z hz => hv z (by have := List.mem_range.mp hz; have := (h4 f hf).2.1; omega)
    have h1 := hF0 f hf _ _ _ _ (fun _ => 0) _ _ (hK K K (Nat.le_refl _) (Nat.le_refl _))
    have h2 := pu_run_call hcle _ _ _ _ _ (hrun f hf _ _ _ _ _ _ _ h1)
    rw [← har] at h2
    obtain ⟨v', s1, s2, s3⟩ := pm_start1 hcl (w := v) (LL := L1) hf hm Cn Cw h2 r2.2
    exact ⟨v', s1, s2, s3.imp id fun ⟨z1, z2, z3⟩ => ⟨by rw [z1, r1], by rw [z2, r3], fun z hz => by rw [z3 z hz, r4 z hz]⟩⟩
  · have hcle := pm_cle (n := K) (Fs := F0) h4 hF0 (fun f hf call ar k e m q r h => h) 7
    have har : (List.range (np f)).map (v 8) = (List.range (np f)).map (w 8) := List.map_congr_left fun z hz => hv z (by have := List.mem_range.mp hz; have := (h4 f hf).2.1; omega)
    have h1 := hF0 f hf _ _ _ _ (fun _ => 0) _ _ (hK K K (Nat.le_refl _) (Nat.le_refl _))
    have h2 := pu_run_call hcle _ _ _ _ _ h1
    obtain ⟨m', h3⟩ := hFC f hf _ _ _ _ _ h2
    obtain ⟨n1, h5⟩ := pm_cpt (pm_GC hFC 7) _ _ _ _ h3
    rw [← har] at h5
    obtain ⟨v', x, s0, s1, s2, s3⟩ := pm_start2 hcc hP (w := v) (LL := L1) hsl hf hm Ns W N2 W2 h5 r2.2
    exact ⟨v', x, s0, s1, s2, s3.imp id fun ⟨z1, z2, z3⟩ => ⟨by rw [z1, r1], by rw [z2, r3], fun z hz => by rw [z3 z hz, r4 z hz]⟩⟩
end AC
