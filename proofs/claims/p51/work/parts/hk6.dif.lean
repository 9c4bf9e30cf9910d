/-! pure side, the law 3: runs that are compared, and differences -/
def tl_T (a b c d : Int32) : Nat → Int32 := fun z => if z = 0 then a else if z = 1 then b else if z = 2 then c else d
theorem tl_tell (w : ST) (a b c d : Int32) : ∃ w', fX3_tell w a b c d = some w' ∧ (∀ z, z < 4 → w' 8 z = tl_T a b c d z) := by
  refine ⟨_, rfl, fun z hz => ?_⟩
  match z, hz with
  | 0, _ => rfl
  | 1, _ => rfl
  | 2, _ => rfl
  | 3, _ => rfl
theorem sv_save (w : ST) (f : RI) : ∃ g, fX3_save w 19 f = some g ∧ g 0 = w 0 0 ∧ g 1 = w 0 1 ∧ g 2 = w 0 2 ∧ ∀ z, z < 16 → g (3 + z) = w 4 z := by
  refine ⟨va_cpy (w 4) (upd (upd (upd f 0 (w 0 0)) 1 (w 0 1)) 2 (w 0 2)) 0 3 16, ?_, ?_, ?_, ?_, fun z hz => ?_⟩
  · unfold fX3_save
    rw [if_pos (show ixb 0 19 = true by decide)]
    simp only [lt9]
    rw [if_pos (show ixb 1 19 = true by decide), if_pos (show ixb 2 19 = true by decide), if_pos (show cpk 0 3 16 16 19 = true by decide)]
    rfl
  · unfold va_cpy
    rw [if_neg (fun h => by omega)]
    rfl
  · unfold va_cpy
    rw [if_neg (fun h => by omega)]
    rfl
  · unfold va_cpy
    rw [if_neg (fun h => by omega)]
    rfl
  · unfold va_cpy
    rw [if_pos ⟨by omega, by omega⟩]
    congr 1
    omega
theorem sv_back (w : ST) (f : RI) : ∃ w', fX3_bringBack w 19 f = some w' ∧ w' 0 0 = f 0 ∧ w' 0 1 = f 1 ∧ w' 0 2 = f 2 ∧ ∀ z, z < 16 → w' 4 z = f (3 + z) := by
  refine ⟨srw (upw (upw (upw w 0 0 (f 0)) 0 1 (f 1)) 0 2 (f 2)) 4 (va_cpy f (upw (upw (upw w 0 0 (f 0)) 0 1 (f 1)) 0 2 (f 2) 4) 3 0 16), ?_, ?_, ?_, ?_, fun z hz => ?_⟩
  · unfold fX3_bringBack
    rw [if_pos (show ixb 0 19 = true by decide)]
    simp only [lt9]
    rw [if_pos (show ixb 1 19 = true by decide), if_pos (show ixb 2 19 = true by decide), if_pos (show cpk 3 0 16 19 16 = true by decide)]
    rfl
  · rw [pv_srw_n (by decide), pv_upw, if_neg fun h => absurd h.2 (by decide), pv_upw, if_neg fun h => absurd h.2 (by decide), pv_upw, if_pos ⟨rfl, rfl⟩]
  · rw [pv_srw_n (by decide), pv_upw, if_neg fun h => absurd h.2 (by decide), pv_upw, if_pos ⟨rfl, rfl⟩]
  · rw [pv_srw_n (by decide), pv_upw, if_pos ⟨rfl, rfl⟩]
  · rw [pv_srw_s]
    unfold va_cpy
    rw [if_pos ⟨by omega, by omega⟩]
    congr 1
theorem sv_al2 (f g : RI) : ∀ (m k n : Nat), k + m = 19 → m < n → ∃ t, fX3_endAlike_L2 19 f 19 g n (pu_I k) = some t ∧ (t = .inl 0 ∨ t = .inr ()) ∧ ((∀ j, k ≤ j → j < 19 → j ≠ 2 → f j = g j) → t = .inr ()) := by
  intro m
  induction m with
  | zero =>
    intro k n hk hn
    obtain ⟨n', rfl⟩ : ∃ n', n = n' + 1 := ⟨n - 1, by omega⟩
    obtain rfl : k = 19 := by omega
    refine ⟨.inr (), ?_, Or.inr rfl, fun _ => rfl⟩
    rfl
  | succ m ih =>
    intro k n hk hn
    obtain ⟨n', rfl⟩ : ∃ n', n = n' + 1 := ⟨n - 1, by omega⟩
    obtain ⟨t, e1, e2, e3⟩ := ih (k + 1) n' (by omega) (by omega)
    have h19 : ¬ (19 : Int32) ≤ pu_I k := fun h => by have := (pu_le (a := 19) (by decide) (by omega)).mp h; omega
    have hL : fX3_endAlike_L2 19 f 19 g (n' + 1) (pu_I k) = (if pu_I k = 2 then fX3_endAlike_L2 19 f 19 g n' (pu_I k + 1) else (if f k = g k then fX3_endAlike_L2 19 f 19 g n' (pu_I k + 1) else some (Sum.inl 0))) := by
      show (if (19 : Int32) ≤ pu_I k then some (Sum.inr ()) else (if pu_I k = 2 then fX3_endAlike_L2 19 f 19 g n' (pu_I k + 1) else (if ixb (pu_I k) 19 = true then (if ixb (pu_I k) 19 = true then (if f (nn (pu_I k)) = g (nn (pu_I k)) then fX3_endAlike_L2 19 f 19 g n' (pu_I k + 1) else some (Sum.inl 0)) else none) else none))) = _
      have hx : ixb (pu_I k) 19 = true := (pu_ix (by omega)).mpr (by omega)
      rw [if_neg h19, if_pos hx, if_pos hx, pu_nn (by omega)]
    rw [hL, pu_su]
    by_cases h2 : pu_I k = 2
    · rw [if_pos h2]
      exact ⟨t, e1, e2, fun h => e3 fun j j1 j2 j3 => h j (by omega) j2 j3⟩
    · rw [if_neg h2]
      by_cases hfg : f k = g k
      · rw [if_pos hfg]
        exact ⟨t, e1, e2, fun h => e3 fun j j1 j2 j3 => h j (by omega) j2 j3⟩
      · rw [if_neg hfg]
        refine ⟨.inl 0, rfl, Or.inl rfl, fun h => absurd (h k (Nat.le_refl k) (by omega) fun e => h2 (by rw [e]; rfl)) hfg⟩
theorem sv_alike (f g : RI) : ∃ c, fX3_endAlike 19 f 19 g = some c ∧ (c = 0 ∨ c = 1) ∧ ((∀ j, j < 19 → j ≠ 2 → f j = g j) → c = 1) := by
  obtain ⟨t, e1, e2, e3⟩ := sv_al2 f g 19 0 NF (by omega) (by have := pv_NF; omega)
  have e1 : fX3_endAlike_L2 19 f 19 g NF 0 = some t := e1
  unfold fX3_endAlike
  rw [e1, Option.bind_some]
  rcases e2 with rfl | rfl
  · exact ⟨0, rfl, Or.inl rfl, fun h => absurd (e3 fun j _ j2 j3 => h j j2 j3) (fun h9 => by cases h9)⟩
  · exact ⟨1, rfl, Or.inr rfl, fun _ => rfl⟩
/-- programs, flows and code of a Gearbox that are as they are to be -/
def lw_W (P aw : ST) (a0 np Vn : Nat → Nat) (A : Nat → Nat → Nat → Prop) (rk tk : Nat → Nat) (F0 : Nat → pu_Flow) (Ns : Nat → Nat → Nat) (W : Nat → ST) (L : Nat → SL) (N2 : Nat → Nat → Nat) (W2 : Nat → ST) (Cn : Nat → Nat → Nat) (Cw : Nat → ST) : Prop :=
  pm_pg P 3 a0 (fun f => a0 (f + 1)) Vn A np rk tk ∧ (∀ f, f < 3 → a0 f ≤ 1000) ∧ P 0 0 = pu_I 3 ∧ pm_F0 P 3 a0 F0 ∧ (∀ f, f < 3 → P 4 f = pu_I (np f) ∧ np f ≤ 4) ∧ pv_cls 3 3 np F0 Ns W L N2 W2 ∧ (aw 0 5 = 0 ∨ (aw 0 5 = 1 ∧ ∃ K, K ≤ 8 ∧ ∀ h, h < 3 → pa_cdd 3 (np h) (F0 h) K aw Cn Cw h))
def lw_same (w v : ST) : Prop := v 0 0 = 2 ∨ (v 0 0 = w 0 0 ∧ v 0 1 = w 0 1 ∧ ∀ z, z < 16 → v 4 z = w 4 z)
section LW
variable {P aw : ST} {a0 np Vn : Nat → Nat} {A : Nat → Nat → Nat → Prop} {rk tk : Nat → Nat} {F0 : Nat → pu_Flow} {Ns N2 : Nat → Nat → Nat} {W W2 : Nat → ST} {L : Nat → SL} {Cn : Nat → Nat → Nat} {Cw : Nat → ST}
theorem stn_s (m : Nat → Nat) (x : Nat) : stn m 17 x 17 = x := if_pos rfl
/-- all ways of a run -/
theorem lw_three (hw : lw_W P aw a0 np Vn A rk tk F0 Ns W L N2 W2 Cn Cw) {f : Nat} (hf : f < 3) (n : Nat → Nat) (w : ST) (hn : n 17 ≤ 14520) :
    ∃ w0, fX3_start n w 0 (pu_I f) P aw Ns W N2 W2 Cn Cw = some (w0, stn n 17 (n 17)) ∧
      (∀ (m : Nat → Nat) (v : ST), m 17 ≤ 14520 → (∀ z, z < 4 → v 8 z = w 8 z) → ∃ v', fX3_start m v 1 (pu_I f) P aw Ns W N2 W2 Cn Cw = some (v', stn m 17 (m 17)) ∧ (w0 0 0 = 2 ∨ lw_same w0 v')) ∧
      (¬ aw 0 5 = 0 → ∀ (m : Nat → Nat) (v : ST), m 17 ≤ 14520 → (∀ z, z < 4 → v 8 z = w 8 z) → ∃ v' x, x ≤ 14520 ∧ fX3_start m v 2 (pu_I f) P aw Ns W N2 W2 Cn Cw = some (v', stn m 17 x) ∧ (w0 0 0 = 2 ∨ lw_same w0 v')) := by
  obtain ⟨hpg, h6, hP, hF0, h4, hcls, hcode⟩ := hw
  obtain ⟨B, N, M, Lm, D, ch, ph, wb, dm, hcl, _⟩ := pm_cl_of (by decide : 3 ≤ 6) h4 hcls
  obtain ⟨w0, e1, e2, e3⟩ := pm_agreeC hpg h6 hP hF0 hf (n17 := n) (w := w) (LL := aw) (by omega) Ns W N2 W2 Cn Cw
  refine ⟨w0, e1, fun m v hm hv => ?_, fun h5 m v hm hv => ?_⟩
  · rcases e3 with e3 | ⟨e3, _⟩
    · obtain ⟨v', t1, _⟩ := tv_start1 hcl (w := v) (LL := aw) hf (n17 := m) (by omega) Cn Cw
      exact ⟨v', t1, Or.inl e3⟩
    · obtain ⟨v', t1, _, t3⟩ := e3 m v aw Ns N2 W W2 L Cn Cw (by omega) hv hcls
      exact ⟨v', t1, Or.inr t3⟩
  · obtain ⟨h51, K, hK, hcd⟩ := hcode.resolve_left h5
    obtain ⟨Nl, sl, hsl, hcc, hFC⟩ := lw_cc (by decide : 3 ≤ 6) hK h4 hcd
    have hmx := pm_mx_le (sl := sl) (b := 1210) 3 fun f hf => (hsl f hf).2
    have hsl2 : ∀ f, f < 3 → aw 3 f = pu_I (sl f) ∧ sl f ≤ 2000 := fun f hf => ⟨(hsl f hf).1, by have := (hsl f hf).2; omega⟩
    obtain ⟨v1, x, _, x2, t1, _⟩ := tv_start2 hcc hP (w := v) (LL := aw) hsl2 hf (n17 := m) (by omega) Ns W N2 W2
    refine ⟨v1, x, by omega, t1, ?_⟩
    rcases e3 with e3 | ⟨_, e3⟩
    · exact Or.inl e3
    · obtain ⟨v', y, _, s1, _, s3⟩ := e3 m v aw Ns N2 W W2 Cn Cw Nl sl (by omega) hv hsl2 hcc hFC
      rw [t1] at s1
      have hvv : v1 = v' := congrArg Prod.fst (Option.some.inj s1)
      rw [hvv]
      exact Or.inr s3
/-- one way more in differs -/
theorem df_step {p1 p2 p3 p4 y v6 v7 : Int32} {i k : Nat} {w wt w' : ST} {n n' : Nat → Nat} {q : Nat → RI} (hi : i < 4) (hy : ¬ y ≤ pu_I i) (ht : fX3_tell w p4 p2 p3 p4 = some wt) (hst : fX3_start n wt (pu_I i) p1 P aw Ns W N2 W2 Cn Cw = some (w', n')) :
    ∃ v6' v7' q', fX11_differs_L26 p1 p2 p3 p4 aw P Ns W N2 W2 Cn Cw y (k + 1) v6 v7 (pu_I i) w n q = fX11_differs_L26 p1 p2 p3 p4 aw P Ns W N2 W2 Cn Cw y k v6' v7' (pu_I (i + 1)) w' n' q' ∧ (∀ j, j ≠ i → q' j = q j) ∧
      (q' i 0 = w' 0 0 ∧ q' i 1 = w' 0 1 ∧ ∀ z, z < 16 → q' i (3 + z) = w' 4 z) ∧ (v6' = 0 → v6 = 0 ∧ ¬ w' 0 0 = 2) ∧ (v7 = 0 → (∀ j, j < 19 → j ≠ 2 → q' 0 j = q' i j) → v7' = 0) := by
  obtain ⟨g, s1, s2, s3, s4, s5⟩ := sv_save w' (q i)
  have hx : ixb (pu_I i) 4 = true := (pu_ix (by omega)).mpr hi
  have hnn : nn (pu_I i) = i := pu_nn (by omega)
  obtain ⟨q', hq'⟩ : ∃ q', q' = upF q i g := ⟨_, rfl⟩
  have hqi : q' i = g := by rw [hq', pv_upF_s]
  obtain ⟨c, c1, c2, c3⟩ := sv_alike (q' 0) (q' i)
  have h0 : fX11_differs_L26 p1 p2 p3 p4 aw P Ns W N2 W2 Cn Cw y (k + 1) v6 v7 (pu_I i) w n q = fX11_differs_G56_6 (fX11_differs_L26 p1 p2 p3 p4 aw P Ns W N2 W2 Cn Cw y k) v6 v7 (pu_I i) q (w', n') := by
    show (if y ≤ pu_I i then _ else ((fX3_tell w p4 p2 p3 p4).bind _)) = _
    rw [if_neg hy, ht, Option.bind_some, hst, Option.bind_some]
  have h91 : ∀ z, fX11_differs_J91 (fX11_differs_L26 p1 p2 p3 p4 aw P Ns W N2 W2 Cn Cw y k) v7 (pu_I i) q (w', n') i g z = fX11_differs_L26 p1 p2 p3 p4 aw P Ns W N2 W2 Cn Cw y k z (if v7 = 0 then (if c = 0 then 1 else 0) else 1) (pu_I (i + 1)) w' n' q' := fun z => by
    unfold fX11_differs_J91
    by_cases h7 : v7 = 0
    · rw [if_pos h7, if_pos h7, if_pos hx]
      simp only [lt9]
      rw [hnn, ← hq', c1, Option.bind_some]
      by_cases hc : c = 0
      · rw [if_pos hc, if_pos hc]
        unfold fX11_differs_J117 fX11_differs_J122
        rw [pu_su, hq']
      · rw [if_neg hc, if_neg hc]
        unfold fX11_differs_J122
        rw [pu_su, hq']
    · rw [if_neg h7, if_neg h7]
      unfold fX11_differs_J117 fX11_differs_J122
      rw [pu_su, hq']
  refine ⟨if v6 = 0 then (if w' 0 0 = 2 then 1 else 0) else 1, if v7 = 0 then (if c = 0 then 1 else 0) else 1, q', ?_, fun j hj => by rw [hq', pv_upF_n hj], ⟨by rw [hqi]; exact s2, by rw [hqi]; exact s3, fun z hz => by rw [hqi]; exact s5 z hz⟩, fun h => ?_, fun h7 hal => ?_⟩
  · rw [h0]
    unfold fX11_differs_G56_6
    rw [if_pos hx]
    simp only [lt9]
    rw [hnn, s1, Option.bind_some]
    by_cases h6 : v6 = 0
    · rw [if_pos h6, if_pos h6]
      by_cases h2 : w' 0 0 = 2
      · rw [if_pos h2, if_pos h2]
        exact h91 1
      · rw [if_neg h2, if_neg h2]
        exact h91 0
    · rw [if_neg h6, if_neg h6]
      exact h91 1
  · by_cases h6 : v6 = 0
    · rw [if_pos h6] at h
      refine ⟨h6, fun h2 => ?_⟩
      rw [if_pos h2] at h
      exact absurd h (by decide)
    · rw [if_neg h6] at h
      exact absurd h (by decide)
  · rw [if_pos h7, c3 hal]
    rfl
theorem df_al {w0 v : ST} {q : Nat → RI} {i : Nat} (h0 : q 0 0 = w0 0 0 ∧ q 0 1 = w0 0 1 ∧ ∀ z, z < 16 → q 0 (3 + z) = w0 4 z) (hi : q i 0 = v 0 0 ∧ q i 1 = v 0 1 ∧ ∀ z, z < 16 → q i (3 + z) = v 4 z) (h : v 0 0 = w0 0 0 ∧ v 0 1 = w0 0 1 ∧ ∀ z, z < 16 → v 4 z = w0 4 z) : ∀ j, j < 19 → j ≠ 2 → q 0 j = q i j := by
  intro j hj h2
  by_cases j0 : j = 0
  · rw [j0, h0.1, hi.1, h.1]
  · by_cases j1 : j = 1
    · rw [j1, h0.2.1, hi.2.1, h.2.1]
    · obtain ⟨z, rfl⟩ : ∃ z, j = 3 + z := ⟨j - 3, by omega⟩
      rw [h0.2.2 z (by omega), hi.2.2 z (by omega), h.2.2 z (by omega)]
theorem df_end {p1 p2 p3 p4 y v6 v7 : Int32} {i k : Nat} {w : ST} {n : Nat → Nat} {q : Nat → RI} (hy : y ≤ pu_I i) : fX11_differs_L26 p1 p2 p3 p4 aw P Ns W N2 W2 Cn Cw y (k + 1) v6 v7 (pu_I i) w n q = some (v6, v7, w, n, q) := by
  show (if y ≤ pu_I i then _ else _) = _
  rw [if_pos hy]
theorem df_fin {w : ST} {n : Nat → Nat} {q : Nat → RI} {v6 v7 : Int32} (h : v6 = 0 → v7 = 0) : fX11_differs_G130_18 (v6, v7, w, n, q) = some (0, w, n, q) := by
  unfold fX11_differs_G130_18
  by_cases h7 : v7 = 0
  · rw [if_pos h7]
    rfl
  · rw [if_neg h7, if_neg fun h6 => h7 (h h6)]
    rfl
/-- differs says 0 -/
theorem df_zero (hw : lw_W P aw a0 np Vn A rk tk F0 Ns W L N2 W2 Cn Cw) {f : Nat} (hf : f < 3) (p2 p3 p4 : Int32) (n : Nat → Nat) (w : ST) (q : Nat → RI) (hn : n 17 ≤ 14520) :
    ∃ w' n' q', fX11_differs (pu_I f) p2 p3 p4 aw n w P Ns W N2 W2 Cn Cw q = some (0, w', n', q') ∧ n' 17 ≤ 14520 ∧ q' 3 = q 3 := by
  have hNF := pv_NF
  obtain ⟨K, hK⟩ : ∃ K, NF = K + 4 := ⟨NF - 4, by omega⟩
  obtain ⟨wt, a1, a2⟩ := tl_tell w p4 p2 p3 p4
  obtain ⟨w0, b1, b2, b3⟩ := lw_three hw hf n wt hn
  obtain ⟨wt1, d1, d2⟩ := tl_tell w0 p4 p2 p3 p4
  have hst : ∀ m : Nat → Nat, stn m 17 (m 17) 17 = m 17 := fun m => stn_s m _
  obtain ⟨v1, e1, e2⟩ := b2 (stn n 17 (n 17)) wt1 (by rw [hst]; exact hn) (fun z hz => by rw [d2 z hz, a2 z hz])
  have hn1 : stn (stn n 17 (n 17)) 17 (stn n 17 (n 17) 17) 17 ≤ 14520 := by rw [hst, hst]; exact hn
  have hway : ∀ (y : Int32), ¬ y ≤ pu_I 0 → ¬ y ≤ pu_I 1 → ∃ v6 v7 q2, fX11_differs_L26 (pu_I f) p2 p3 p4 aw P Ns W N2 W2 Cn Cw y NF 0 0 0 w n q = fX11_differs_L26 (pu_I f) p2 p3 p4 aw P Ns W N2 W2 Cn Cw y (K + 2) v6 v7 (pu_I 2) v1 (stn (stn n 17 (n 17)) 17 (stn n 17 (n 17) 17)) q2 ∧
      (v6 = 0 → v7 = 0 ∧ ¬ w0 0 0 = 2) ∧ q2 3 = q 3 ∧ (q2 0 0 = w0 0 0 ∧ q2 0 1 = w0 0 1 ∧ ∀ z, z < 16 → q2 0 (3 + z) = w0 4 z) := fun y hy0 hy1 => by
    obtain ⟨v6, v7, q1, s1, s2, s3, s4, s5⟩ := df_step (k := K + 3) (v6 := 0) (v7 := 0) (q := q) (i := 0) (by decide) hy0 a1 b1
    obtain ⟨v6', v7', q2, r1, r2, r3, r4, r5⟩ := df_step (k := K + 2) (v6 := v6) (v7 := v7) (q := q1) (i := 1) (by decide) hy1 d1 e1
    have h00 : q2 0 0 = w0 0 0 ∧ q2 0 1 = w0 0 1 ∧ ∀ z, z < 16 → q2 0 (3 + z) = w0 4 z := by rw [r2 0 (by decide)]; exact s3
    refine ⟨v6', v7', q2, ?_, fun h6 => ?_, by rw [r2 3 (by decide), s2 3 (by decide)], h00⟩
    · rw [hK]
      exact s1.trans r1
    · obtain ⟨g1, g2⟩ := r4 h6
      obtain ⟨g3, g4⟩ := s4 g1
      refine ⟨r5 (s5 rfl fun j _ _ => rfl) ?_, g4⟩
      exact df_al h00 r3 ((e2.resolve_left g4).resolve_left g2)
  unfold fX11_differs
  by_cases h5 : aw 0 5 = 0
  · rw [if_pos h5]
    obtain ⟨v6, v7, q2, s1, s2, s3, _⟩ := hway 2 (by decide) (by decide)
    refine ⟨v1, _, q2, ?_, hn1, s3⟩
    unfold fX11_differs_J15
    rw [s1, df_end (show (2 : Int32) ≤ pu_I 2 by decide), Option.bind_some]
    exact df_fin fun h => (s2 h).1
  · rw [if_neg h5]
    obtain ⟨v6, v7, q2, s1, s2, s3, s4⟩ := hway 3 (by decide) (by decide)
    obtain ⟨wt2, f1, f2⟩ := tl_tell v1 p4 p2 p3 p4
    obtain ⟨v2, x, x1, g1, g2⟩ := b3 h5 (stn (stn n 17 (n 17)) 17 (stn n 17 (n 17) 17)) wt2 hn1 (fun z hz => by rw [f2 z hz, a2 z hz])
    obtain ⟨v6', v7', q3, r1, r2, r3, r4, r5⟩ := df_step (k := K + 1) (v6 := v6) (v7 := v7) (q := q2) (i := 2) (y := 3) (by decide) (by decide) f1 g1
    refine ⟨v2, stn (stn (stn n 17 (n 17)) 17 (stn n 17 (n 17) 17)) 17 x, q3, ?_, by rw [stn_s]; exact x1, by rw [r2 3 (by decide)]; exact s3⟩
    unfold fX11_differs_J15
    rw [s1, r1, df_end (show (3 : Int32) ≤ pu_I (2 + 1) by decide), Option.bind_some]
    refine df_fin fun h6 => ?_
    obtain ⟨k1, k2⟩ := r4 h6
    obtain ⟨k3, k4⟩ := s2 k1
    exact r5 k3 (df_al (by rw [r2 0 (by decide)]; exact s4) r3 ((g2.resolve_left k4).resolve_left k2))
theorem df_low {k : Nat} (hk : k < 9) : ¬ lg_cmp (((pu_I k - 4) + 2).toInt64 - (pu_I k - 4).toInt64) 0 < 0 ∧ lg_cmp (((pu_I k - 4) + 2).toInt64 - (pu_I k - 4).toInt64) 5 ≤ 0 ∧ ((((pu_I k - 4) + 2).toInt64 - (pu_I k - 4).toInt64) : Int64).toInt32 = 2 := by
  have h : ∀ k : Fin 9, ¬ lg_cmp (((pu_I k.val - 4) + 2).toInt64 - (pu_I k.val - 4).toInt64) 0 < 0 ∧ lg_cmp (((pu_I k.val - 4) + 2).toInt64 - (pu_I k.val - 4).toInt64) 5 ≤ 0 ∧ ((((pu_I k.val - 4) + 2).toInt64 - (pu_I k.val - 4).toInt64) : Int64).toInt32 = 2 := by decide +kernel
  exact h ⟨k, hk⟩
/-- differences says 0, and leaves the ending -/
theorem df_all (hw : lw_W P aw a0 np Vn A rk tk F0 Ns W L N2 W2 Cn Cw) {f k : Nat} (hf : f < 3) (hk : k < 9) (n : Nat → Nat) (w : ST) (q : Nat → RI) (hn : n 17 ≤ 14520) :
    ∃ w' n' q', fX11_differences (pu_I f) (pu_I k - 4) ((pu_I k - 4) + 2) P q n w aw Ns W N2 W2 Cn Cw = some (0, w', n', q') ∧ n' 17 ≤ 14520 ∧ (w' 0 0 = w 0 0 ∧ w' 0 1 = w 0 1 ∧ w' 0 2 = w 0 2 ∧ ∀ z, z < 16 → w' 4 z = w 4 z) := by
  obtain ⟨h1, h2, h3⟩ := df_low hk
  obtain ⟨g, s1, s2, s3, s4, s5⟩ := sv_save w (q 3)
  obtain ⟨t, e1, w1, n1, q1, rfl, t1, t2⟩ := pv_for (G := fun j i (t : ST × (Nat → Nat) × (Nat → RI)) => fX11_differences_L58 (pu_I f) (pu_I k - 4) ((pu_I k - 4) + 2) P aw Ns W N2 W2 Cn Cw j 0 i t.1 t.2.1 t.2.2) (hi := 3)
    (Inv := fun _ t => t.2.1 17 ≤ 14520 ∧ t.2.2 3 = g) (Q := fun t => ∃ w1 n1 q1, t = (0, w1, n1, q1) ∧ n1 17 ≤ 14520 ∧ q1 3 = g)
    (by
      rintro j i ⟨w1, n1, q1⟩ hi ⟨t1, t2⟩
      obtain ⟨w2, n2, q2, r1, r2, r3⟩ := df_zero hw hf (pu_I k - 4) ((pu_I k - 4) + 2) ((pu_I k - 4) + pu_I i) n1 w1 q1 t1
      refine ⟨(w2, n2, q2), ?_, r2, r3.trans t2⟩
      show (if ((((((pu_I k - 4) + 2).toInt64) - ((pu_I k - 4).toInt64)) : Int64).toInt32) < pu_I i then _ else ((fX11_differs (pu_I f) (pu_I k - 4) ((pu_I k - 4) + 2) ((pu_I k - 4) + pu_I i) aw n1 w1 P Ns W N2 W2 Cn Cw q1).bind _)) = _
      rw [h3, if_neg (fun h => by have := (pu_lt (a := 2) (by decide) (by omega)).mp h; omega), r1, Option.bind_some]
      unfold fX11_differences_G77_10
      rw [if_pos rfl]
      unfold fX11_differences_J83
      rw [pu_su])
    (by
      rintro j ⟨w1, n1, q1⟩ ⟨t1, t2⟩
      refine ⟨_, ?_, w1, n1, q1, rfl, t1, t2⟩
      show (if ((((((pu_I k - 4) + 2).toInt64) - ((pu_I k - 4).toInt64)) : Int64).toInt32) < pu_I 3 then _ else _) = _
      rw [h3, if_pos (by decide)]) 3 0 NF (w, n, upF q 3 g) (by omega) (by have := pv_NF; omega) ⟨hn, pv_upF_s q 3 g⟩
  have e1 : fX11_differences_L58 (pu_I f) (pu_I k - 4) ((pu_I k - 4) + 2) P aw Ns W N2 W2 Cn Cw NF 0 0 w n (upF q 3 g) = some (0, w1, n1, q1) := e1
  obtain ⟨w', r1, r2, r3, r4, r5⟩ := sv_back w1 (q1 3)
  refine ⟨w', n1, q1, ?_, t1, by rw [r2, t2, s2], by rw [r3, t2, s3], by rw [r4, t2, s4], fun z hz => by rw [r5 z hz, t2, s5 z hz]⟩
  unfold fX11_differences
  rw [lw_nf hw.2.2.1 hf (by decide), Option.bind_some, if_neg h1, if_pos h2, s1, Option.bind_some, e1, Option.bind_some]
  unfold fX11_differences_G89_12
  show ((fX3_bringBack w1 19 (q1 3)).bind _) = _
  rw [r1, Option.bind_some]
end LW
