/-! pure side, stores 58: the passes over all functions -/
/-- one function's flow: in shape, and it does what F0 did -/
def pv_fn (fs na : Nat) (F0 : pu_Flow) (n : Nat → Nat) (w : ST) (l : SL) (n2 : Nat → Nat) (w2 : ST) : Prop :=
  ∃ B N M Lm D ch ph wb dm, pv_fl n w l n2 w2 B N M Lm fs na D ch ph wb dm ∧ N + pv_sl ph B ≤ 650 ∧
    (∀ call ar k e m q r, pu_run F0 call ar k 0 0 (e, m, q) = some r → pu_run (pv_F w w2 ch ph) call ar k 0 0 (e, m, q) = some r)
def pv_cls (Fn fs : Nat) (nas : Nat → Nat) (F0 : Nat → pu_Flow) (Ns : Nat → Nat → Nat) (W : Nat → ST) (L : Nat → SL) (N2 : Nat → Nat → Nat) (W2 : Nat → ST) : Prop := ∀ f, f < Fn → pv_fn fs (nas f) (F0 f) (Ns f) (W f) (L f) (N2 f) (W2 f)
theorem pv_upF_s {α : Type} (f : Nat → α) (i : Nat) (x : α) : upF f i x i = x := if_pos rfl
theorem pv_upF_n {α : Type} {f : Nat → α} {i j : Nat} {x : α} (h : j ≠ i) : upF f i x j = f j := if_neg h
theorem pv_upF_id {α : Type} (f : Nat → α) (i : Nat) : upF f i (f i) = f := by
  funext j
  unfold upF
  by_cases h : j = i
  · rw [if_pos h, h]
  · rw [if_neg h]
theorem pv_sl_mono {ch ch' : Nat → List Nat} (h : ∀ b, (ch' b).length ≤ (ch b).length) : ∀ B, pv_sl ch' B ≤ pv_sl ch B := by
  intro B
  induction B with
  | zero => exact Nat.le_refl _
  | succ B ih => exact Nat.add_le_add ih (h B)
theorem pv_cvn_sl {w2 : ST} {ch ph : Nat → List Nat} : ∀ B, pv_cvn w2 ch ph B ≤ pv_sl ch B + pv_sl ph B := by
  intro B
  induction B with
  | zero => exact Nat.le_refl _
  | succ B ih =>
    show pv_cvn w2 ch ph B + pv_cb1 w2 ch ph B ≤ (pv_sl ch B + (ch B).length) + (pv_sl ph B + (ph B).length)
    have h : pv_cb1 w2 ch ph B ≤ (ch B).length + (ph B).length := by
      unfold pv_cb1
      have := List.length_filter_le (fun a => !decide (w2 3 a < 0)) (ch B)
      omega
    omega
section CL
variable {Fn fs : Nat} {nas : Nat → Nat} {F0 : Nat → pu_Flow} {Ns N2 : Nat → Nat → Nat} {W W2 : Nat → ST} {L : Nat → SL} {p8 : ST}
theorem pv_cls_up (h : pv_cls Fn fs nas F0 Ns W L N2 W2) {i : Nat} {w w2 : ST} {l : SL} {n2 : Nat → Nat} (hi : pv_fn fs (nas i) (F0 i) (Ns i) w l n2 w2) : pv_cls Fn fs nas F0 Ns (upF W i w) (upF L i l) (upF N2 i n2) (upF W2 i w2) := by
  intro f hf
  by_cases e : f = i
  · subst e
    rw [pv_upF_s, pv_upF_s, pv_upF_s, pv_upF_s]
    exact hi
  · rw [pv_upF_n e, pv_upF_n e, pv_upF_n e, pv_upF_n e]
    exact h f hf
theorem pv_cls_up2 (h : pv_cls Fn fs nas F0 Ns W L N2 W2) {i : Nat} {w w2 : ST} (hi : pv_fn fs (nas i) (F0 i) (Ns i) w (L i) (N2 i) w2) : pv_cls Fn fs nas F0 Ns (upF W i w) L N2 (upF W2 i w2) := by
  have h9 := pv_cls_up h hi
  rw [pv_upF_id, pv_upF_id] at h9
  exact h9
theorem pv_cls_up3 (h : pv_cls Fn fs nas F0 Ns W L N2 W2) {i : Nat} {w w2 : ST} {l : SL} (hi : pv_fn fs (nas i) (F0 i) (Ns i) w l (N2 i) w2) : pv_cls Fn fs nas F0 Ns (upF W i w) (upF L i l) N2 (upF W2 i w2) := by
  have h9 := pv_cls_up h hi
  rw [pv_upF_id] at h9
  exact h9
theorem pv_fold_c (hF : Fn ≤ 6) (h8 : p8 0 0 = pu_I Fn) (hc : pv_cls Fn fs nas F0 Ns W L N2 W2) (g : ST) (gl : SL) (s : ST) :
    ∃ c g' gl' s' W' L' N2' W2', fX11_fold p8 Ns W L N2 W2 g gl s = some (pu_I c, g', gl', s', W', L', N2', W2') ∧ c ≤ 720000 ∧ pv_cls Fn fs nas F0 Ns W' L' N2' W2' ∧ (∀ h, Fn ≤ h → N2' h = N2 h) := by
  obtain ⟨t, e1, c, g', gl', s', W', L', N2', W2', rfl, t1, t2, t3⟩ := pv_for (G := fun k i (t : Int32 × ST × SL × ST × (Nat → ST) × (Nat → SL) × (Nat → Nat → Nat) × (Nat → ST)) => fX11_fold_L4 p8 Ns k t.1 i t.2.1 t.2.2.1 t.2.2.2.1 t.2.2.2.2.1 t.2.2.2.2.2.1 t.2.2.2.2.2.2.1 t.2.2.2.2.2.2.2) (hi := Fn)
    (Inv := fun i t => ∃ c g' gl' s' W' L' N2' W2', t = (pu_I c, g', gl', s', W', L', N2', W2') ∧ c ≤ i * 120000 ∧ pv_cls Fn fs nas F0 Ns W' L' N2' W2' ∧ (∀ h, Fn ≤ h → N2' h = N2 h))
    (Q := fun t => ∃ c g' gl' s' W' L' N2' W2', t = (pu_I c, g', gl', s', W', L', N2', W2') ∧ c ≤ 720000 ∧ pv_cls Fn fs nas F0 Ns W' L' N2' W2' ∧ (∀ h, Fn ≤ h → N2' h = N2 h))
    (by
      rintro k i t hi ⟨c, g', gl', s', W', L', N2', W2', rfl, t1, t2, t3⟩
      obtain ⟨B, N, M, Lm, D, ch, ph, wb, dm, a1, a2, a3⟩ := t2 i hi
      obtain ⟨c3, g3, gl3, w3, l3, w23, n23, s3, B', N', D', ch', ph', wb', dm', b1, b2, b3, b4, b5, b6⟩ := pv_fold (g := g') (gl := gl') (s := s') a1 a2
      refine ⟨(pu_I (c + c3), g3, gl3, s3, upF W' i w3, upF L' i l3, upF N2' i n23, upF W2' i w23), ?_, c + c3, g3, gl3, s3, _, _, _, _, rfl, by rw [Nat.add_mul]; omega, pv_cls_up t2 ⟨B', N', M, Lm, D', ch', ph', wb', dm', b3, by omega, fun call ar k e m q r h => b6 call ar k e m q r (a3 call ar k e m q r h)⟩, fun h hh => by rw [pv_upF_n (by omega)]; exact t3 h hh⟩
      show (if (p8 0 0) ≤ pu_I i then _ else (if ixb (pu_I i) 6 = true then (lt9 (nn (pu_I i)) fun (i3 : Nat) => ((fX5_foldNumbers g' gl' (Ns i3) (W' i3) (L' i3) (N2' i3) (W2' i3) s').bind fun (o_4 : Int32 × ST × SL × ST × SL × ST × (Nat → Nat) × ST) => (fX11_fold_G29_16 (fX11_fold_L4 p8 Ns k) (pu_I c) (pu_I i) W' L' N2' W2' i3 o_4))) else none)) = _
      rw [h8, if_neg (by rw [pu_le (by omega) (by omega)]; omega), if_pos ((pu_ix (by omega)).mpr (by omega))]
      simp only [lt9]
      rw [pu_nn (by omega), b1, Option.bind_some]
      show fX11_fold_L4 p8 Ns k (pu_I c + pu_I c3) (pu_I i + 1) g3 gl3 s3 (upF W' i w3) (upF L' i l3) (upF N2' i n23) (upF W2' i w23) = _
      rw [pv_add, pu_su])
    (by
      rintro k t ⟨c, g', gl', s', W', L', N2', W2', rfl, t1, t2, t3⟩
      refine ⟨_, ?_, c, g', gl', s', W', L', N2', W2', rfl, by omega, t2, t3⟩
      show (if (p8 0 0) ≤ pu_I Fn then some (pu_I c, g', gl', s', W', L', N2', W2') else _) = _
      rw [h8, if_pos (Int32.le_refl _)]) Fn 0 NF (pu_I 0, g, gl, s, W, L, N2, W2) (by omega) (by have := pv_NF; omega) ⟨0, g, gl, s, W, L, N2, W2, rfl, by omega, hc, fun _ _ => rfl⟩
  have e1 : fX11_fold_L4 p8 Ns NF 0 0 g gl s W L N2 W2 = some (pu_I c, g', gl', s', W', L', N2', W2') := e1
  refine ⟨c, g', gl', s', W', L', N2', W2', ?_, t1, t2, t3⟩
  unfold fX11_fold
  rw [e1, Option.bind_some]
  rfl
theorem pv_same_c (hF : Fn ≤ 6) (h8 : p8 0 0 = pu_I Fn) (hc : pv_cls Fn fs nas F0 Ns W L N2 W2) (g : ST) :
    ∃ c g' W' W2', fX11_same p8 Ns W L N2 W2 g = some (pu_I c, g', W', W2') ∧ c ≤ 720000 ∧ pv_cls Fn fs nas F0 Ns W' L N2 W2' := by
  obtain ⟨t, e1, c, g', W', W2', rfl, t1, t2⟩ := pv_for (G := fun k i (t : Int32 × ST × (Nat → ST) × (Nat → ST)) => fX11_same_L4 p8 Ns L N2 k t.1 i t.2.1 t.2.2.1 t.2.2.2) (hi := Fn)
    (Inv := fun i t => ∃ c g' W' W2', t = (pu_I c, g', W', W2') ∧ c ≤ i * 120000 ∧ pv_cls Fn fs nas F0 Ns W' L N2 W2')
    (Q := fun t => ∃ c g' W' W2', t = (pu_I c, g', W', W2') ∧ c ≤ 720000 ∧ pv_cls Fn fs nas F0 Ns W' L N2 W2')
    (by
      rintro k i t hi ⟨c, g', W', W2', rfl, t1, t2⟩
      obtain ⟨B, N, M, Lm, D, ch, ph, wb, dm, a1, a2, a3⟩ := t2 i hi
      obtain ⟨c3, g3, w3, w23, ch', ph', b1, b2, b3, b4, b5⟩ := pv_same (g := g') a1
      have hle := pv_sl_mono (fun b => (b4 b).length_le) B
      refine ⟨(pu_I (c + c3), g3, upF W' i w3, upF W2' i w23), ?_, c + c3, g3, _, _, rfl, by rw [Nat.add_mul]; omega, pv_cls_up2 t2 ⟨B, N, M, Lm, D, ch', ph', wb, dm, b3, by omega, fun call ar k e m q r h => b5 call ar k e m q r (a3 call ar k e m q r h)⟩⟩
      show (if (p8 0 0) ≤ pu_I i then _ else (if ixb (pu_I i) 6 = true then (lt9 (nn (pu_I i)) fun (i3 : Nat) => ((fX5_joinEquals g' (Ns i3) (W' i3) (L i3) (N2 i3) (W2' i3)).bind fun (o_4 : Int32 × ST × ST × ST) => ((fX11_same_L4 p8 Ns L N2 k) (pu_I c + (o_4.1)) (pu_I i + 1) (o_4.2.1) (upF W' i3 (o_4.2.2.1)) (upF W2' i3 (o_4.2.2.2))))) else none)) = _
      rw [h8, if_neg (by rw [pu_le (by omega) (by omega)]; omega), if_pos ((pu_ix (by omega)).mpr (by omega))]
      simp only [lt9]
      rw [pu_nn (by omega), b1, Option.bind_some, pu_su]
      show fX11_same_L4 p8 Ns L N2 k (pu_I c + pu_I c3) _ _ _ _ = _
      rw [pv_add])
    (by
      rintro k t ⟨c, g', W', W2', rfl, t1, t2⟩
      refine ⟨_, ?_, c, g', W', W2', rfl, by omega, t2⟩
      show (if (p8 0 0) ≤ pu_I Fn then some (pu_I c, g', W', W2') else _) = _
      rw [h8, if_pos (Int32.le_refl _)]) Fn 0 NF (pu_I 0, g, W, W2) (by omega) (by have := pv_NF; omega) ⟨0, g, W, W2, rfl, by omega, hc⟩
  have e1 : fX11_same_L4 p8 Ns L N2 NF 0 0 g W W2 = some (pu_I c, g', W', W2') := e1
  refine ⟨c, g', W', W2', ?_, t1, t2⟩
  unfold fX11_same
  rw [e1, Option.bind_some]
theorem pv_drop_c (hF : Fn ≤ 6) (h8 : p8 0 0 = pu_I Fn) (hc : pv_cls Fn fs nas F0 Ns W L N2 W2) (g : ST) :
    ∃ c g' W' W2', fX11_drop p8 Ns W N2 W2 g = some (pu_I c, g', W', W2') ∧ c ≤ 720000 ∧ pv_cls Fn fs nas F0 Ns W' L N2 W2' := by
  obtain ⟨t, e1, c, g', W', W2', rfl, t1, t2⟩ := pv_for (G := fun k i (t : Int32 × ST × (Nat → ST) × (Nat → ST)) => fX11_drop_L4 p8 Ns N2 k t.1 i t.2.1 t.2.2.1 t.2.2.2) (hi := Fn)
    (Inv := fun i t => ∃ c g' W' W2', t = (pu_I c, g', W', W2') ∧ c ≤ i * 120000 ∧ pv_cls Fn fs nas F0 Ns W' L N2 W2')
    (Q := fun t => ∃ c g' W' W2', t = (pu_I c, g', W', W2') ∧ c ≤ 720000 ∧ pv_cls Fn fs nas F0 Ns W' L N2 W2')
    (by
      rintro k i t hi ⟨c, g', W', W2', rfl, t1, t2⟩
      obtain ⟨B, N, M, Lm, D, ch, ph, wb, dm, a1, a2, a3⟩ := t2 i hi
      obtain ⟨c3, g3, w3, w23, ch', ph', b1, b2, b3, b4, b5⟩ := pv_drop_fl (g := g') a1
      have hle := pv_sl_mono (fun b => (b4 b).length_le) B
      have hcv := pv_cvn_sl (w2 := W2' i) (ch := ch) (ph := ph) B
      have hcN := pv_sl_le a1.1.1.2.2.2.2.1
      refine ⟨(pu_I (c + c3), g3, upF W' i w3, upF W2' i w23), ?_, c + c3, g3, _, _, rfl, by rw [Nat.add_mul]; omega, pv_cls_up2 t2 ⟨B, N, M, Lm, D, ch', ph', wb, dm, b3, by omega, fun call ar k e m q r h => b5 call ar k e m q r (a3 call ar k e m q r h)⟩⟩
      show (if (p8 0 0) ≤ pu_I i then _ else (if ixb (pu_I i) 6 = true then (lt9 (nn (pu_I i)) fun (i3 : Nat) => ((fX5_dropUnwanted g' (Ns i3) (W' i3) (N2 i3) (W2' i3)).bind fun (o_4 : Int32 × ST × ST × ST) => ((fX11_drop_L4 p8 Ns N2 k) (pu_I c + (o_4.1)) (pu_I i + 1) (o_4.2.1) (upF W' i3 (o_4.2.2.1)) (upF W2' i3 (o_4.2.2.2))))) else none)) = _
      rw [h8, if_neg (by rw [pu_le (by omega) (by omega)]; omega), if_pos ((pu_ix (by omega)).mpr (by omega))]
      simp only [lt9]
      rw [pu_nn (by omega), b1, Option.bind_some, pu_su]
      show fX11_drop_L4 p8 Ns N2 k (pu_I c + pu_I c3) _ _ _ _ = _
      rw [pv_add])
    (by
      rintro k t ⟨c, g', W', W2', rfl, t1, t2⟩
      refine ⟨_, ?_, c, g', W', W2', rfl, by omega, t2⟩
      show (if (p8 0 0) ≤ pu_I Fn then some (pu_I c, g', W', W2') else _) = _
      rw [h8, if_pos (Int32.le_refl _)]) Fn 0 NF (pu_I 0, g, W, W2) (by omega) (by have := pv_NF; omega) ⟨0, g, W, W2, rfl, by omega, hc⟩
  have e1 : fX11_drop_L4 p8 Ns N2 NF 0 0 g W W2 = some (pu_I c, g', W', W2') := e1
  refine ⟨c, g', W', W2', ?_, t1, t2⟩
  unfold fX11_drop
  rw [e1, Option.bind_some]
theorem pv_lift_c (hF : Fn ≤ 6) (h8 : p8 0 0 = pu_I Fn) (hc : pv_cls Fn fs nas F0 Ns W L N2 W2) (g : ST) :
    ∃ c g' W' W2', fX11_lift p8 Ns W L N2 W2 g = some (pu_I c, g', W', W2') ∧ c ≤ 720000 ∧ pv_cls Fn fs nas F0 Ns W' L N2 W2' := by
  obtain ⟨t, e1, c, g', W', W2', rfl, t1, t2⟩ := pv_for (G := fun k i (t : Int32 × ST × (Nat → ST) × (Nat → ST)) => fX11_lift_L4 p8 Ns L N2 k t.1 i t.2.1 t.2.2.1 t.2.2.2) (hi := Fn)
    (Inv := fun i t => ∃ c g' W' W2', t = (pu_I c, g', W', W2') ∧ c ≤ i * 120000 ∧ pv_cls Fn fs nas F0 Ns W' L N2 W2')
    (Q := fun t => ∃ c g' W' W2', t = (pu_I c, g', W', W2') ∧ c ≤ 720000 ∧ pv_cls Fn fs nas F0 Ns W' L N2 W2')
    (by
      rintro k i t hi ⟨c, g', W', W2', rfl, t1, t2⟩
      obtain ⟨B, N, M, Lm, D, ch, ph, wb, dm, a1, a2, a3⟩ := t2 i hi
      obtain ⟨c3, g3, w3, w23, ch', b1, b2, b3, b5⟩ := pv_lift_fl (g := g') a1
      refine ⟨(pu_I (c + c3), g3, upF W' i w3, upF W2' i w23), ?_, c + c3, g3, _, _, rfl, by rw [Nat.add_mul]; omega, pv_cls_up2 t2 ⟨B, N, M, Lm, D, ch', ph, wb, dm, b3, by omega, fun call ar k e m q r h => b5 call ar k e m q r (a3 call ar k e m q r h)⟩⟩
      show (if (p8 0 0) ≤ pu_I i then _ else (if ixb (pu_I i) 6 = true then (lt9 (nn (pu_I i)) fun (i3 : Nat) => ((fX5_liftFromLoops g' (Ns i3) (W' i3) (L i3) (N2 i3) (W2' i3)).bind fun (o_4 : Int32 × ST × ST × ST) => ((fX11_lift_L4 p8 Ns L N2 k) (pu_I c + (o_4.1)) (pu_I i + 1) (o_4.2.1) (upF W' i3 (o_4.2.2.1)) (upF W2' i3 (o_4.2.2.2))))) else none)) = _
      rw [h8, if_neg (by rw [pu_le (by omega) (by omega)]; omega), if_pos ((pu_ix (by omega)).mpr (by omega))]
      simp only [lt9]
      rw [pu_nn (by omega), b1, Option.bind_some, pu_su]
      show fX11_lift_L4 p8 Ns L N2 k (pu_I c + pu_I c3) _ _ _ _ = _
      rw [pv_add])
    (by
      rintro k t ⟨c, g', W', W2', rfl, t1, t2⟩
      refine ⟨_, ?_, c, g', W', W2', rfl, by omega, t2⟩
      show (if (p8 0 0) ≤ pu_I Fn then some (pu_I c, g', W', W2') else _) = _
      rw [h8, if_pos (Int32.le_refl _)]) Fn 0 NF (pu_I 0, g, W, W2) (by omega) (by have := pv_NF; omega) ⟨0, g, W, W2, rfl, by omega, hc⟩
  have e1 : fX11_lift_L4 p8 Ns L N2 NF 0 0 g W W2 = some (pu_I c, g', W', W2') := e1
  refine ⟨c, g', W', W2', ?_, t1, t2⟩
  unfold fX11_lift
  rw [e1, Option.bind_some]
theorem pv_merge_c (hF : Fn ≤ 6) (h8 : p8 0 0 = pu_I Fn) (hc : pv_cls Fn fs nas F0 Ns W L N2 W2) (g : ST) (gl : SL) (s : ST) :
    ∃ c g' gl' s' W' L' W2', fX11_merge p8 Ns W L N2 W2 g gl s = some (pu_I c, g', gl', s', W', L', W2') ∧ c ≤ 720000 ∧ pv_cls Fn fs nas F0 Ns W' L' N2 W2' := by
  obtain ⟨t, e1, c, g', gl', s', W', L', W2', rfl, t1, t2⟩ := pv_for (G := fun k i (t : Int32 × ST × SL × ST × (Nat → ST) × (Nat → SL) × (Nat → ST)) => fX11_merge_L4 p8 Ns N2 k t.1 i t.2.1 t.2.2.1 t.2.2.2.1 t.2.2.2.2.1 t.2.2.2.2.2.1 t.2.2.2.2.2.2) (hi := Fn)
    (Inv := fun i t => ∃ c g' gl' s' W' L' W2', t = (pu_I c, g', gl', s', W', L', W2') ∧ c ≤ i * 120000 ∧ pv_cls Fn fs nas F0 Ns W' L' N2 W2')
    (Q := fun t => ∃ c g' gl' s' W' L' W2', t = (pu_I c, g', gl', s', W', L', W2') ∧ c ≤ 720000 ∧ pv_cls Fn fs nas F0 Ns W' L' N2 W2')
    (by
      rintro k i t hi ⟨c, g', gl', s', W', L', W2', rfl, t1, t2⟩
      obtain ⟨B, N, M, Lm, D, ch, ph, wb, dm, a1, a2, a3⟩ := t2 i hi
      obtain ⟨c3, g3, gl3, w3, l3, w23, s3, B', D', ch', ph', wb', dm', b1, b2, b3, b4, b6⟩ := pv_merge (g := g') (gl := gl') (s := s') a1
      refine ⟨(pu_I (c + c3), g3, gl3, s3, upF W' i w3, upF L' i l3, upF W2' i w23), ?_, c + c3, g3, gl3, s3, _, _, _, rfl, by rw [Nat.add_mul]; omega, pv_cls_up3 t2 ⟨B', N, M, Lm, D', ch', ph', wb', dm', b3, by omega, fun call ar k e m q r h => b6 call ar k e m q r (a3 call ar k e m q r h)⟩⟩
      show (if (p8 0 0) ≤ pu_I i then _ else (if ixb (pu_I i) 6 = true then (lt9 (nn (pu_I i)) fun (i3 : Nat) => ((fX5_mergeBlocks g' gl' (Ns i3) (W' i3) (L' i3) (N2 i3) (W2' i3) s').bind fun (o_4 : Int32 × ST × SL × ST × SL × ST × ST) => ((fX11_merge_L4 p8 Ns N2 k) (pu_I c + (o_4.1)) (pu_I i + 1) (o_4.2.1) (o_4.2.2.1) (o_4.2.2.2.2.2.2) (upF W' i3 (o_4.2.2.2.1)) (upF L' i3 (o_4.2.2.2.2.1)) (upF W2' i3 (o_4.2.2.2.2.2.1))))) else none)) = _
      rw [h8, if_neg (by rw [pu_le (by omega) (by omega)]; omega), if_pos ((pu_ix (by omega)).mpr (by omega))]
      simp only [lt9]
      rw [pu_nn (by omega), b1, Option.bind_some, pu_su]
      show fX11_merge_L4 p8 Ns N2 k (pu_I c + pu_I c3) _ _ _ _ _ _ _ = _
      rw [pv_add])
    (by
      rintro k t ⟨c, g', gl', s', W', L', W2', rfl, t1, t2⟩
      refine ⟨_, ?_, c, g', gl', s', W', L', W2', rfl, by omega, t2⟩
      show (if (p8 0 0) ≤ pu_I Fn then some (pu_I c, g', gl', s', W', L', W2') else _) = _
      rw [h8, if_pos (Int32.le_refl _)]) Fn 0 NF (pu_I 0, g, gl, s, W, L, W2) (by omega) (by have := pv_NF; omega) ⟨0, g, gl, s, W, L, W2, rfl, by omega, hc⟩
  have e1 : fX11_merge_L4 p8 Ns N2 NF 0 0 g gl s W L W2 = some (pu_I c, g', gl', s', W', L', W2') := e1
  refine ⟨c, g', gl', s', W', L', W2', ?_, t1, t2⟩
  unfold fX11_merge
  rw [e1, Option.bind_some]
/-- settle: passes till nothing changes; its own bound ends it -/
theorem pv_settle_c (hF : Fn ≤ 6) (h8 : p8 0 0 = pu_I Fn) (hc : pv_cls Fn fs nas F0 Ns W L N2 W2) (g : ST) (gl : SL) (s : ST) :
    ∃ c g' gl' s' W' L' N2' W2', fX11_settle p8 Ns W L N2 W2 g gl s = some (pu_I c, g', gl', s', W', L', N2', W2') ∧ c ≤ 1000000 ∧ pv_cls Fn fs nas F0 Ns W' L' N2' W2' ∧ (∀ h, Fn ≤ h → N2' h = N2 h) := by
  have key : ∀ (m i k : Nat) (y : Int32) (g : ST) (gl : SL) (s : ST) (W : Nat → ST) (L : Nat → SL) (N2 : Nat → Nat → Nat) (W2 : Nat → ST), i + m = 1000000 → m < k → pv_cls Fn fs nas F0 Ns W L N2 W2 →
      ∃ c g' gl' s' W' L' N2' W2', fX11_settle_L6 p8 Ns k (pu_I i) y (pu_I i) g gl s W L N2 W2 = some (pu_I c, g', gl', s', W', L', N2', W2') ∧ c ≤ 1000000 ∧ pv_cls Fn fs nas F0 Ns W' L' N2' W2' ∧ (∀ h, Fn ≤ h → N2' h = N2 h) := by
    intro m
    induction m with
    | zero =>
      intro i k y g gl s W L N2 W2 hi hk hc
      obtain ⟨k', rfl⟩ : ∃ k', k = k' + 1 := ⟨k - 1, by omega⟩
      refine ⟨i, g, gl, s, W, L, N2, W2, ?_, by omega, hc, fun _ _ => rfl⟩
      show (if y = 0 then _ else (if 1000000 ≤ pu_I i then _ else _)) = _
      by_cases hy : y = 0
      · rw [if_pos hy]
      · rw [if_neg hy, if_pos (show (1000000 : Int32) ≤ pu_I i from (pu_le (a := 1000000) (b := i) (by decide) (by omega)).mpr (by omega))]
    | succ m ih =>
      intro i k y g gl s W L N2 W2 hi hk hc
      obtain ⟨k', rfl⟩ : ∃ k', k = k' + 1 := ⟨k - 1, by omega⟩
      by_cases hy : y = 0
      · refine ⟨i, g, gl, s, W, L, N2, W2, ?_, by omega, hc, fun _ _ => rfl⟩
        show (if y = 0 then _ else _) = _
        rw [if_pos hy]
      have hn : ¬ (1000000 : Int32) ≤ pu_I i := fun h => by
        have := (pu_le (a := 1000000) (b := i) (by decide) (by omega)).mp h
        omega
      obtain ⟨c1, g1, gl1, s1, W1, L1, N21, W21, a1, a2, a3, a4⟩ := pv_fold_c hF h8 hc g gl s
      obtain ⟨c2, g2, W3, W23, b1, b2, b3⟩ := pv_same_c hF h8 a3 g1
      obtain ⟨c3, g3, W4, W24, d1, d2, d3⟩ := pv_drop_c hF h8 b3 g2
      obtain ⟨c4, g4, W5, W25, e1, e2, e3⟩ := pv_lift_c hF h8 d3 g3
      obtain ⟨c5, g5, gl5, s5, W6, L6, W26, f1, f2, f3⟩ := pv_merge_c hF h8 e3 g4 gl1 s1
      have hform : fX11_settle_L6 p8 Ns (k' + 1) (pu_I i) y (pu_I i) g gl s W L N2 W2 = (if (((((pu_I c1) + (pu_I c2)) + (pu_I c3)) + (pu_I c4)) + (pu_I c5)) ≤ 0 then fX11_settle_L6 p8 Ns k' (pu_I i + 1) 0 (pu_I i + 1) g5 gl5 s5 W6 L6 N21 W26 else fX11_settle_L6 p8 Ns k' (pu_I i + 1) 1 (pu_I i + 1) g5 gl5 s5 W6 L6 N21 W26) := by
        show (if y = 0 then _ else (if 1000000 ≤ pu_I i then _ else ((fX11_fold p8 Ns W L N2 W2 g gl s).bind fun (o_3 : Int32 × ST × SL × ST × (Nat → ST) × (Nat → SL) × (Nat → Nat → Nat) × (Nat → ST)) => (fX11_settle_G20_7 (fX11_settle_L6 p8 Ns k') p8 Ns (pu_I i) (pu_I i) o_3)))) = _
        rw [if_neg hy, if_neg hn, a1, Option.bind_some]
        unfold fX11_settle_G20_7
        show ((fX11_same p8 Ns W1 L1 N21 W21 g1).bind _) = _
        rw [b1, Option.bind_some]
        show ((fX11_drop p8 Ns W3 N21 W23 g2).bind _) = _
        rw [d1, Option.bind_some]
        show ((fX11_lift p8 Ns W4 L1 N21 W24 g3).bind _) = _
        rw [e1, Option.bind_some]
        show ((fX11_merge p8 Ns W5 L1 N21 W25 g4 gl1 s1).bind _) = _
        rw [f1, Option.bind_some]
        rfl
      rw [hform, pu_su]
      by_cases h0 : (((((pu_I c1) + (pu_I c2)) + (pu_I c3)) + (pu_I c4)) + (pu_I c5)) ≤ 0
      · rw [if_pos h0]
        obtain ⟨c, g', gl', s', W', L', N2', W2', z1, z2, z3, z4⟩ := ih (i + 1) k' 0 g5 gl5 s5 W6 L6 N21 W26 (by omega) (by omega) f3
        exact ⟨c, g', gl', s', W', L', N2', W2', z1, z2, z3, fun h hh => by rw [z4 h hh, a4 h hh]⟩
      · rw [if_neg h0]
        obtain ⟨c, g', gl', s', W', L', N2', W2', z1, z2, z3, z4⟩ := ih (i + 1) k' 1 g5 gl5 s5 W6 L6 N21 W26 (by omega) (by omega) f3
        exact ⟨c, g', gl', s', W', L', N2', W2', z1, z2, z3, fun h hh => by rw [z4 h hh, a4 h hh]⟩
  obtain ⟨c, g', gl', s', W', L', N2', W2', a1, a2, a3, a4⟩ := key 1000000 0 NF 1 g gl s W L N2 W2 (by omega) (by have := pv_NF; omega) hc
  have a1 : fX11_settle_L6 p8 Ns NF 0 1 0 g gl s W L N2 W2 = some (pu_I c, g', gl', s', W', L', N2', W2') := a1
  refine ⟨c, g', gl', s', W', L', N2', W2', ?_, a2, a3, a4⟩
  unfold fX11_settle
  rw [a1, Option.bind_some]
  rfl
end CL
