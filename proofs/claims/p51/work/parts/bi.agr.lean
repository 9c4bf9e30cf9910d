/-! pure side, the machine 12: text and blocks answer alike -/
section AG
variable {P : ST} {fs : Nat} {a0 a1 Vn : Nat → Nat} {A : Nat → Nat → Nat → Prop} {np rk tk : Nat → Nat} {F0 : Nat → pu_Flow}
/-- what each flow does at first: all that its text does -/
def pm_F0 (P : ST) (fs : Nat) (a0 : Nat → Nat) (F0 : Nat → pu_Flow) : Prop :=
  ∀ f, f < fs → ∀ call ar k m e cl r, px_run P call ar k (a0 f) [] cl m = some r → pu_run (F0 f) call ar (4 * k + 2) 0 0 (e, m, []) = some r
theorem pm_cle (h4 : ∀ f, f < fs → P 4 f = pu_I (np f) ∧ np f ≤ 4 ∧ P 6 f = pu_I (a0 f) ∧ a0 f ≤ 1000) (hF0 : pm_F0 P fs a0 F0) {Fs : Nat → pu_Flow} (hFs : ∀ f, f < fs → ∀ call ar k e m q r, pu_run (F0 f) call ar k 0 0 (e, m, q) = some r → pu_run (Fs f) call ar k 0 0 (e, m, q) = some r) {n : Nat} : ∀ d, pu_cle (px_callT P fs n d) (pu_callG fs np Fs (4 * n + 2) d) := by
  intro d
  induction d with
  | zero => intro f q m r hr; exact hr
  | succ d ih =>
    intro f q m r hr
    have hr : (if ixb f fs = true ∧ q.length = nn (P 4 (nn f)) then px_run P (px_callT P fs n d) q n (nn (P 6 (nn f))) [] (fun _ => 0) m else none) = some r := hr
    show (if ixb f fs = true ∧ q.length = np (nn f) then pu_run (Fs (nn f)) (pu_callG fs np Fs (4 * n + 2) d) q (4 * n + 2) 0 0 (fun _ => 0, m, []) else none) = some r
    by_cases hf : ixb f fs = true
    · have hfn := (pv_ixn hf).2
      obtain ⟨e1, e2, e3, e4⟩ := h4 (nn f) hfn
      rw [e1, pu_nn (by omega), e3, pu_nn (by omega)] at hr
      by_cases hq : ixb f fs = true ∧ q.length = np (nn f)
      · rw [if_pos hq] at hr ⊢
        exact pu_run_call ih _ _ _ _ _ (hFs (nn f) hfn _ _ _ _ _ _ _ (hF0 (nn f) hfn _ _ _ _ (fun _ => 0) _ _ hr))
      · rw [if_neg hq] at hr; cases hr
    · rw [if_neg fun h => hf h.1] at hr; cases hr
/-- the flows between passes, their parts named -/
theorem pm_cl_of {Ns N2 : Nat → Nat → Nat} {W W2 : Nat → ST} {L : Nat → SL} (hfs : fs ≤ 6) (h4 : ∀ f, f < fs → P 4 f = pu_I (np f) ∧ np f ≤ 4) (hc : pv_cls fs fs np F0 Ns W L N2 W2) :
    ∃ B N M Lm D ch ph wb dm, pm_cl P fs np Ns N2 W W2 L B N M Lm D ch ph wb dm ∧ ∀ f, f < fs → ∀ call ar k e m q r, pu_run (F0 f) call ar k 0 0 (e, m, q) = some r → pu_run (pm_Fs W W2 ch ph f) call ar k 0 0 (e, m, q) = some r := by
  have hx : ∀ f, ∃ x : (Nat × Nat × Nat × Nat) × (Nat → Nat → Prop) × (Nat → List Nat) × (Nat → List Nat) × (Nat → Nat) × (Nat → Nat), f < fs → pv_fl (Ns f) (W f) (L f) (N2 f) (W2 f) x.1.1 x.1.2.1 x.1.2.2.1 x.1.2.2.2 fs (np f) x.2.1 x.2.2.1 x.2.2.2.1 x.2.2.2.2.1 x.2.2.2.2.2 ∧ (∀ call ar k e m q r, pu_run (F0 f) call ar k 0 0 (e, m, q) = some r → pu_run (pv_F (W f) (W2 f) x.2.2.1 x.2.2.2.1) call ar k 0 0 (e, m, q) = some r) := fun f => by
    by_cases hf : f < fs
    · obtain ⟨B, N, M, Lm, D, ch, ph, wb, dm, h1, _, h2⟩ := hc f hf
      exact ⟨((B, N, M, Lm), D, ch, ph, wb, dm), fun _ => ⟨h1, h2⟩⟩
    · exact ⟨((0, 0, 0, 0), fun _ _ => True, fun _ => [], fun _ => [], fun _ => 0, fun _ => 0), fun h => absurd h hf⟩
  obtain ⟨g, hg⟩ := Classical.axiomOfChoice hx
  exact ⟨fun f => (g f).1.1, fun f => (g f).1.2.1, fun f => (g f).1.2.2.1, fun f => (g f).1.2.2.2, fun f => (g f).2.1, fun f => (g f).2.2.1, fun f => (g f).2.2.2.1, fun f => (g f).2.2.2.2.1, fun f => (g f).2.2.2.2.2,
    ⟨hfs, fun f hf => ⟨(hg f hf).1, h4 f hf⟩⟩, fun f hf => (hg f hf).2⟩
/-- text and blocks answer alike, where neither takes too many steps -/
theorem pm_agree (hpg : pm_pg P fs a0 a1 Vn A np rk tk) (h6 : ∀ f, f < fs → a0 f ≤ 1000) (hF0 : pm_F0 P fs a0 F0) {f : Nat} (hf : f < fs) {n17 : Nat → Nat} {w LL : ST} (hn : n17 17 < 1000000) (Bn : Nat → Nat → Nat) (Bw : Nat → ST) (Sn : Nat → Nat → Nat) (Sw : Nat → ST) (Cn : Nat → Nat → Nat) (Cw : Nat → ST) :
    ∃ w', fX3_start n17 w 0 (pu_I f) P LL Bn Bw Sn Sw Cn Cw = some (w', stn n17 17 (n17 17)) ∧ w' 8 = w 8 ∧ (w' 0 0 = 2 ∨
      ∀ (m17 : Nat → Nat) (v L1 : ST) (Ns N2 : Nat → Nat → Nat) (W W2 : Nat → ST) (L : Nat → SL) (Cn : Nat → Nat → Nat) (Cw : Nat → ST), m17 17 < 1000000 → (∀ z, z < 4 → v 8 z = w 8 z) → pv_cls fs fs np F0 Ns W L N2 W2 →
        ∃ v', fX3_start m17 v 1 (pu_I f) P L1 Ns W N2 W2 Cn Cw = some (v', stn m17 17 (m17 17)) ∧ v' 8 = v 8 ∧ (v' 0 0 = 2 ∨ (v' 0 0 = w' 0 0 ∧ v' 0 1 = w' 0 1 ∧ ∀ z, z < 16 → v' 4 z = w' 4 z))) := by
  obtain ⟨hfs, hall⟩ := id hpg
  obtain ⟨w', e1, e2, e3⟩ := pm_start0 hpg (w := w) (L := LL) hf hn Bn Bw Sn Sw Cn Cw
  refine ⟨w', e1, e2, e3.imp id fun ⟨r, r1, r2, r3, r4, K, hK⟩ m17 v L1 Ns N2 W W2 L Cn Cw hm hv hc => ?_⟩
  obtain ⟨B, N, M, Lm, D, ch, ph, wb, dm, hcl, hrun⟩ := pm_cl_of (P := P) hfs (fun f hf => ⟨(hall f hf).2.1, (hall f hf).2.2.1⟩) hc
  have h4 : ∀ f, f < fs → P 4 f = pu_I (np f) ∧ np f ≤ 4 ∧ P 6 f = pu_I (a0 f) ∧ a0 f ≤ 1000 := fun f hf => ⟨(hall f hf).2.1, (hall f hf).2.2.1, (hall f hf).1.1.2.2.1, h6 f hf⟩
  have hcle := pm_cle (n := K) h4 hF0 hrun 7
  have har : (List.range (np f)).map (v 8) = (List.range (np f)).map (w 8) := List.map_congr_left fun z hz => hv z (by have := List.mem_range.mp hz; have := (h4 f hf).2.1; omega)
  have h1 := hF0 f hf _ _ _ _ (fun _ => 0) _ _ (hK K K (Nat.le_refl _) (Nat.le_refl _))
  have h2 := pu_run_call hcle _ _ _ _ _ (hrun f hf _ _ _ _ _ _ _ h1)
  rw [← har] at h2
  obtain ⟨v', s1, s2, s3⟩ := pm_start1 hcl (w := v) (LL := L1) hf hm Cn Cw h2 r2.2
  exact ⟨v', s1, s2, s3.imp id fun ⟨z1, z2, z3⟩ => ⟨by rw [z1, r1], by rw [z2, r3], fun z hz => by rw [z3 z hz, r4 z hz]⟩⟩
end AG
