/-! pure side, the law 5: its steps over one Gearbox -/
theorem lw_below (x : Int32) {m : Nat} (h0 : 0 < m) (hm : m < 2147483648) : ∃ r, r < m ∧ fL_below x (pu_I m) = some (pu_I r) := by
  obtain ⟨v, hv, he⟩ := and9 x
  have hne : ¬ pu_I m = 0 := fun e => by
    have e2 : m = 0 := pu_inj hm (by decide) (e.trans (rfl : (0 : Int32) = pu_I 0))
    omega
  refine ⟨v % m, Nat.mod_lt _ h0, ?_⟩
  unfold fL_below
  rw [if_pos hne, he, md9 hv hm]
theorem lw_cmp (x : Int64) : lg_cmp x x = 0 := by
  unfold lg_cmp
  rw [if_neg (Int64.lt_irrefl), if_pos rfl]
theorem lw_word (w : ST) : fX11_word 2 w = some (w 4 2) := by
  unfold fX11_word fX11_needPlace
  rw [if_neg (by decide), if_pos (by decide), Option.bind_some, if_pos (by decide)]
  rfl
section STP
variable {P aw : ST} {a0 np Vn : Nat → Nat} {A : Nat → Nat → Nat → Prop} {rk tk : Nat → Nat} {F0 : Nat → pu_Flow} {Ns N2 : Nat → Nat → Nat} {W W2 : Nat → ST} {L : Nat → SL} {Cn : Nat → Nat → Nat} {Cw : Nat → ST}
  {an fn m2 gn : Nat → Nat} {fw x9 gw : ST} {gl : SL} {w4 s4 : ST} {l4 : SL} {xm : Nat} {xf : RI}
theorem st_run (hw : lw_W P aw a0 np Vn A rk tk F0 Ns W L N2 W2 Cn Cw) {way p3 p4 p5 p6 : Int32} {n n' : Nat → Nat} {w wt w' : ST} (h0 : way = 0 ∨ way = 1 ∨ (way = 2 ∧ ¬ aw 0 5 = 0)) (ht : fX3_tell w p3 p4 p5 p6 = some wt) (hs : fX3_start n wt way (pu_I 1) P aw Ns W N2 W2 Cn Cw = some (w', n')) :
    fX11_run_s way 1 p3 p4 p5 p6 P aw n w Ns W N2 W2 Cn Cw = some (w' 0 0, w', n') := by
  have hs : fX3_start n wt way 1 P aw Ns W N2 W2 Cn Cw = some (w', n') := hs
  have h51 : fX11_run_s_J51 way 1 p3 p4 p5 p6 P aw n w Ns W N2 W2 Cn Cw = some (w' 0 0, w', n') := by
    unfold fX11_run_s_J51
    rw [ht, Option.bind_some, hs, Option.bind_some]
    rfl
  have hnf : fX11_needFunction 1 P = some () := lw_nf (f := 1) hw.2.2.1 (by decide) (by decide)
  unfold fX11_run_s
  rw [hnf, Option.bind_some]
  rcases h0 with rfl | rfl | ⟨rfl, h5⟩
  · rw [if_neg (by decide), if_pos (by decide), if_neg (by decide)]
    exact h51
  · rw [if_neg (by decide), if_pos (by decide), if_neg (by decide)]
    exact h51
  · rw [if_neg (by decide), if_pos (by decide), if_pos rfl, if_neg h5]
    exact h51
/-- code that was made just now, or none -/
def st_Y (aw : ST) (np : Nat → Nat) (F0 : Nat → pu_Flow) (Cn : Nat → Nat → Nat) (Cw : Nat → ST) (o8 y : Int32) : Prop := y ≤ 0 ∨ (aw 0 5 = 1 ∧ ∃ K, K ≤ 8 ∧ 3 + o8 = pu_I K ∧ ∀ h, h < 3 → pa_cdd 3 (np h) (F0 h) K aw Cn Cw h)
theorem st_259 (hw : lw_W P aw a0 np Vn A rk tk F0 Ns W L N2 W2 Cn Cw) {o8 y : Int32} (hy : st_Y aw np F0 Cn Cw o8 y) : fW_L259 P o8 y aw Cn Cw NF 0 = some () := by
  rcases hy with hy | ⟨h5, K, hK, hK2, hc⟩
  · obtain ⟨k, hk⟩ : ∃ k, NF = k + 1 := ⟨NF - 1, by have := pv_NF; omega⟩
    rw [hk]
    show (if y ≤ 0 then some () else _) = _
    rw [if_pos hy]
  · by_cases hy : y ≤ 0
    · obtain ⟨k, hk⟩ : ∃ k, NF = k + 1 := ⟨NF - 1, by have := pv_NF; omega⟩
      rw [hk]
      show (if y ≤ 0 then some () else _) = _
      rw [if_pos hy]
    obtain ⟨t, h1, _⟩ := pv_for (G := fun k i (_ : Unit) => fW_L259 P o8 y aw Cn Cw k i) (hi := 3) (Inv := fun _ _ => True) (Q := fun (_ : Unit) => True)
      (fun k i s hi _ => by
        refine ⟨(), ?_, trivial⟩
        obtain ⟨j, S, M, ⟨j1, j2, j3⟩, _⟩ := id (hc i hi)
        have hr : fX11_rounds (pu_I i) P aw = some (pu_I j) := by
          unfold fX11_rounds
          rw [lw_nf hw.2.2.1 hi (by decide), Option.bind_some, h5, if_neg (by decide), if_pos ((pu_ix (by omega)).mpr (by omega)), pu_nn (by omega), j3]
          rfl
        have hic := lw_icr (K := K) hw.2.2.1 hi (by decide) hK h5 (hc i hi)
        show (if y ≤ 0 then some () else (if 3 ≤ pu_I i then some () else ((fX11_rounds (pu_I i) P aw).bind fun (o_13 : Int32) => (if o_13 < 1 then none else ((fX11_rounds (pu_I i) P aw).bind fun (o_16 : Int32) => (if 16 < o_16 then none else ((fL_isCodeRight (pu_I i) (3 + o8) P aw Cn Cw).bind fun (o_19 : Int32) => (if o_19 = 0 then none else ((fW_L259 P o8 y aw Cn Cw k) (pu_I i + 1)))))))))) = _
        rw [if_neg hy, if_neg (fun h => by have := (pu_le (a := 3) (by decide) (by omega)).mp h; omega), hr, Option.bind_some, if_neg (fun h => by have := (pu_lt (b := 1) (by omega) (by decide)).mp h; omega), Option.bind_some, if_neg (fun h => by have := (pu_lt (a := 16) (by decide) (by omega)).mp h; omega), hK2, hic, Option.bind_some, if_neg (by decide), pu_su])
      (fun k s _ => by
        refine ⟨(), ?_, trivial⟩
        show (if y ≤ 0 then some () else some ()) = _
        rw [if_neg hy]) 3 0 NF () (by omega) (by have := pv_NF; omega) trivial
    exact h1
theorem st_334 (hw : lw_W P aw a0 np Vn A rk tk F0 Ns W L N2 W2 Cn Cw) {j : Nat} (hj : j < 9) (w : ST) (n : Nat → Nat) (q : Nat → RI) (hn : n 17 ≤ 14520) :
    ∃ w' n' q', fW_L334 P Ns W N2 W2 aw Cn Cw (pu_I j) NF 0 w n q = some (w', n', q') ∧ n' 17 ≤ 14520 ∧ (w' 0 0 = w 0 0 ∧ w' 0 1 = w 0 1 ∧ w' 0 2 = w 0 2 ∧ ∀ z, z < 16 → w' 4 z = w 4 z) := by
  obtain ⟨t, h1, w', n', q', rfl, t1, t2⟩ := pv_for (G := fun k i (t : ST × (Nat → Nat) × (Nat → RI)) => fW_L334 P Ns W N2 W2 aw Cn Cw (pu_I j) k i t.1 t.2.1 t.2.2) (hi := 3)
    (Inv := fun _ t => t.2.1 17 ≤ 14520 ∧ (t.1 0 0 = w 0 0 ∧ t.1 0 1 = w 0 1 ∧ t.1 0 2 = w 0 2 ∧ ∀ z, z < 16 → t.1 4 z = w 4 z)) (Q := fun t => ∃ w' n' q', t = (w', n', q') ∧ n' 17 ≤ 14520 ∧ (w' 0 0 = w 0 0 ∧ w' 0 1 = w 0 1 ∧ w' 0 2 = w 0 2 ∧ ∀ z, z < 16 → w' 4 z = w 4 z))
    (by
      rintro k i ⟨w1, n1, q1⟩ hi ⟨t1, t2, t3, t4, t5⟩
      obtain ⟨w2, n2, q2, r1, r2, r3, r4, r5, r6⟩ := df_all hw hi hj n1 w1 q1 t1
      refine ⟨(w2, n2, q2), ?_, r2, r3.trans t2, r4.trans t3, r5.trans t4, fun z hz => (r6 z hz).trans (t5 z hz)⟩
      show (if 3 ≤ pu_I i then _ else ((fX11_differences (pu_I i) (pu_I j - 4) ((pu_I j - 4) + 2) P q1 n1 w1 aw Ns W N2 W2 Cn Cw).bind _)) = _
      rw [if_neg (fun h => by have := (pu_le (a := 3) (by decide) (by omega)).mp h; omega), r1, Option.bind_some]
      unfold fW_G352_33
      rw [if_pos rfl, pu_su])
    (by
      rintro k ⟨w1, n1, q1⟩ ⟨t1, t2⟩
      refine ⟨_, ?_, w1, n1, q1, rfl, t1, t2⟩
      rfl) 3 0 NF (w, n, q) (by omega) (by have := pv_NF; omega) ⟨hn, rfl, rfl, rfl, fun _ _ => rfl⟩
  exact ⟨w', n', q', h1, t1, t2⟩
theorem st_C (hw : lw_W P aw a0 np Vn A rk tk F0 Ns W L N2 W2 Cn Cw) : dg_C aw Cn Cw := by
  rcases hw.2.2.2.2.2.2 with h | ⟨h, K, hK, hc⟩
  · exact Or.inl h
  · refine Or.inr ⟨h, fun i hi => ?_⟩
    obtain ⟨j, S, M, _, _, ⟨m0, m1, m2, R, ⟨r2, r3, r4, r5, r6⟩, m3⟩, _⟩ := hc i hi
    exact ⟨M, m0, by omega, by omega, by omega, by omega, by omega⟩
/-- what a step does behind its passes -/
theorem st_254 (hx : xm < 2147483648) (hw : lw_W P aw a0 np Vn A rk tk F0 Ns W L N2 W2 Cn Cw) {o8 y : Int32} (hy : st_Y aw np F0 Cn Cw o8 y) (kk : Int32 → ST → SL → ST → ST → (Nat → Nat) → ST → (Nat → Nat) → ST → (Nat → Nat) → ST → SL → (Nat → Nat) → ST → (Nat → Nat) → (Nat → ST) → (Nat → SL) → (Nat → Nat → Nat) → (Nat → ST) → (Nat → Nat → Nat) → (Nat → ST) → (Nat → RI) → Option (ST × SL × ST × ST × (Nat → Nat) × ST × (Nat → Nat) × ST × (Nat → Nat) × ST × SL × (Nat → Nat) × ST × (Nat → Nat) × (Nat → ST) × (Nat → SL) × (Nat → Nat → Nat) × (Nat → ST) × (Nat → Nat → Nat) × (Nat → ST) × (Nat → RI)))
    (pw : ST) {v : Nat} (hv : v < 6) (w : ST) (n : Nat → Nat) (q : Nat → RI) (hn : n 17 ≤ 14520) :
    ∃ w' n' q', fW_J254 kk xm xf pw P Ns (pu_I v) w n q w4 l4 s4 W L N2 W2 o8 y aw an fw fn x9 m2 gw gl gn Cn Cw = kk (pu_I (v + 1)) w4 l4 s4 aw an fw fn x9 m2 gw gl gn w' n' W L N2 W2 Cn Cw q' ∧ n' 17 ≤ 14520 := by
  have hcell := dw_cell (xf := xf) hx (show v < 24 by omega)
  obtain ⟨j, hj, hb⟩ := lw_below ((fL_cell xm xf (pu_I v)).getD 0) (m := 9) (by decide) (by decide)
  have hb : fL_below ((fL_cell xm xf (pu_I v)).getD 0) 9 = some (pu_I j) := hb
  obtain ⟨dd, hdd⟩ := dg_all hw.2.2.1 hw.2.2.2.2.2.1 (st_C hw) pw w
  obtain ⟨w1, n1, q1, e1, e2, e3, e4, e5, e6⟩ := st_334 hw hj w n q hn
  have hd1 : fX11_digest pw P w1 Ns W N2 W2 aw Cn Cw = some dd := by rw [dg_same pw e3 e4 e5 e6]; exact hdd
  obtain ⟨wt, a1, a2⟩ := tl_tell w1 ((pu_I j - 4) + 3) 2 5 0
  obtain ⟨w2, b1, b2, b3⟩ := lw_three hw (f := 1) (by decide) n1 wt e2
  obtain ⟨wt1, d1, d2⟩ := tl_tell w2 ((pu_I j - 4) + 3) 2 5 0
  have hn2 : stn n1 17 (n1 17) 17 ≤ 14520 := by rw [stn_s]; exact e2
  obtain ⟨w3, c1, c2⟩ := b2 (stn n1 17 (n1 17)) wt1 hn2 (fun z hz => by rw [d2 z hz, a2 z hz])
  have hn3 : stn (stn n1 17 (n1 17)) 17 (stn n1 17 (n1 17) 17) 17 ≤ 14520 := by rw [stn_s]; exact hn2
  have hr0 := st_run hw (way := 0) (Or.inl rfl) a1 b1
  have hr1 := st_run hw (way := 1) (Or.inr (Or.inl rfl)) d1 c1
  -- behind the comparing of texts and blocks
  have h458 : ∃ w' n', fW_J458 kk P Ns (pu_I v) w4 l4 s4 W L N2 W2 y aw an fw fn x9 m2 gw gl gn Cn Cw (pu_I j) (w1, n1, q1) (w2 0 0, w2, stn n1 17 (n1 17)) (w2 0 1) (w2 4 2) (w3 0 0, w3, stn (stn n1 17 (n1 17)) 17 (stn n1 17 (n1 17) 17)) = kk (pu_I (v + 1)) w4 l4 s4 aw an fw fn x9 m2 gw gl gn w' n' W L N2 W2 Cn Cw q1 ∧ n' 17 ≤ 14520 := by
    unfold fW_J458
    by_cases h0 : 0 < y
    · have h5 : ¬ aw 0 5 = 0 := by
        rcases hy with hy | ⟨h5, _⟩
        · exact absurd h0 (Int32.not_lt.mpr hy)
        · rw [h5]; decide
      obtain ⟨wt2, f1, f2⟩ := tl_tell w3 ((pu_I j - 4) + 3) 2 5 0
      obtain ⟨w5, x, x1, g1, g2⟩ := b3 h5 (stn (stn n1 17 (n1 17)) 17 (stn n1 17 (n1 17) 17)) wt2 hn3 (fun z hz => by rw [f2 z hz, a2 z hz])
      have hr2 := st_run hw (way := 2) (Or.inr (Or.inr ⟨rfl, h5⟩)) f1 g1
      rw [if_pos h0]
      show ∃ w' n', ((fX11_run_s 2 1 ((pu_I j - 4) + 3) 2 5 0 P aw (stn (stn n1 17 (n1 17)) 17 (stn n1 17 (n1 17) 17)) w3 Ns W N2 W2 Cn Cw).bind _) = _ ∧ _
      rw [hr2, Option.bind_some]
      refine ⟨w5, stn (stn (stn n1 17 (n1 17)) 17 (stn n1 17 (n1 17) 17)) 17 x, ?_, by rw [stn_s]; exact x1⟩
      have h521 : ∀ o334 : ST × (Nat → Nat) × (Nat → RI), fW_J521 kk (pu_I v) w4 l4 s4 W L N2 W2 aw an fw fn x9 m2 gw gl gn Cn Cw o334 w5 (stn (stn (stn n1 17 (n1 17)) 17 (stn n1 17 (n1 17) 17)) 17 x) = kk (pu_I (v + 1)) w4 l4 s4 aw an fw fn x9 m2 gw gl gn w5 (stn (stn (stn n1 17 (n1 17)) 17 (stn n1 17 (n1 17) 17)) 17 x) W L N2 W2 Cn Cw o334.2.2 := fun o334 => by
        unfold fW_J521
        rw [pu_su]
      unfold fW_G479_58
      dsimp only
      by_cases k1 : w2 0 0 = 2
      · rw [if_pos k1, h521]
      rw [if_neg k1]
      by_cases k2 : w5 0 0 = 2
      · rw [if_pos k2, h521]
      obtain ⟨s1, s2, s3⟩ := (g2.resolve_left k1).resolve_left k2
      rw [if_neg k2, if_pos s1]
      unfold fX11_result
      rw [Option.bind_some, if_pos s2, lw_word, Option.bind_some, if_pos (s3 2 (by decide)), h521]
    · rw [if_neg h0]
      refine ⟨w3, _, ?_, hn3⟩
      unfold fW_J521
      rw [pu_su]
  obtain ⟨w', n', k1, k2⟩ := h458
  refine ⟨w', n', q1, ?_, k2⟩
  unfold fW_J254
  rw [st_259 hw hy, Option.bind_some, hcell, Option.bind_some, hb, Option.bind_some, hdd, Option.bind_some, e1, Option.bind_some]
  unfold fW_G363_35
  dsimp only
  rw [hd1, Option.bind_some, lw_cmp, if_pos rfl, hr0, Option.bind_some]
  unfold fW_G388_43
  dsimp only
  unfold fX11_result
  rw [Option.bind_some, lw_word, Option.bind_some, hr1, Option.bind_some]
  unfold fW_G416_52
  dsimp only
  by_cases h1 : w2 0 0 = 2
  · rw [if_pos h1]
    exact k1
  rw [if_neg h1]
  by_cases h2 : w3 0 0 = 2
  · rw [if_pos h2]
    exact k1
  obtain ⟨s1, s2, s3⟩ := (c2.resolve_left h1).resolve_left h2
  rw [if_neg h2, if_pos s1]
  unfold fX11_result
  rw [Option.bind_some, if_pos s2, lw_word, Option.bind_some, if_pos (s3 2 (by decide))]
  exact k1
/-- what stays from step to step -/
def st_J (P : ST) (a0 np Vn : Nat → Nat) (A : Nat → Nat → Nat → Prop) (rk tk : Nat → Nat) (F0 : Nat → pu_Flow) (Ns : Nat → Nat → Nat) (m0 : Nat → Nat) (aw : ST) (an fn m2 gn n : Nat → Nat) (W : Nat → ST) (L : Nat → SL) (N2 : Nat → Nat → Nat) (W2 : Nat → ST) (Cn : Nat → Nat → Nat) (Cw : Nat → ST) : Prop :=
  lw_W P aw a0 np Vn A rk tk F0 Ns W L N2 W2 Cn Cw ∧ pa_keep aw an fn m2 gn Cn ∧ n 17 ≤ 14520 ∧ (∀ h, 3 ≤ h → N2 h = m0)
theorem st_209 (hx : xm < 2147483648) {m0 n : Nat → Nat} (hJ : st_J P a0 np Vn A rk tk F0 Ns m0 aw an fn m2 gn n W L N2 W2 Cn Cw) (kk : Int32 → ST → SL → ST → ST → (Nat → Nat) → ST → (Nat → Nat) → ST → (Nat → Nat) → ST → SL → (Nat → Nat) → ST → (Nat → Nat) → (Nat → ST) → (Nat → SL) → (Nat → Nat → Nat) → (Nat → ST) → (Nat → Nat → Nat) → (Nat → ST) → (Nat → RI) → Option (ST × SL × ST × ST × (Nat → Nat) × ST × (Nat → Nat) × ST × (Nat → Nat) × ST × SL × (Nat → Nat) × ST × (Nat → Nat) × (Nat → ST) × (Nat → SL) × (Nat → Nat → Nat) × (Nat → ST) × (Nat → Nat → Nat) × (Nat → ST) × (Nat → RI)))
    (pw : ST) {v T c : Nat} (hv : v < 6) (hT : T < 3) (hc : c < 2147483648) (w : ST) (q : Nat → RI) :
    ∃ aw' an' fw' fn' x9' m2' gw' gl' gn' w' n' Cn' Cw' q', fW_J209 kk xm xf (pu_I T) pw P Ns (pu_I v) aw an fw fn x9 m2 gw gl gn w n Cn Cw q (pu_I c) w4 l4 s4 W L N2 W2 = kk (pu_I (v + 1)) w4 l4 s4 aw' an' fw' fn' x9' m2' gw' gl' gn' w' n' W L N2 W2 Cn' Cw' q' ∧ st_J P a0 np Vn A rk tk F0 Ns m0 aw' an' fn' m2' gn' n' W L N2 W2 Cn' Cw' := by
  obtain ⟨hw, hkp, hn, hm0⟩ := hJ
  have hcell := dw_cell (xf := xf) hx (show v + T < 24 by omega)
  obtain ⟨r, hr, hb⟩ := lw_below ((fL_cell xm xf (pu_I (v + T))).getD 0 >>> (5 &&& 31)) (m := 6) (by decide) (by decide)
  have hb : fL_below ((fL_cell xm xf (pu_I (v + T))).getD 0 >>> (5 &&& 31)) 6 = some (pu_I r) := hb
  have h3r : (3 : Int32) + pu_I r = pu_I (3 + r) := pv_add 3 r
  have hlong : fW_J209 kk xm xf (pu_I T) pw P Ns (pu_I v) aw an fw fn x9 m2 gw gl gn w n Cn Cw q (pu_I c) w4 l4 s4 W L N2 W2 = (if (pu_I v - pu_I v / 2 * 2) = 0 then ((fX11_allocate (3 + pu_I r) P an aw fn fw m2 x9 gn gw gl Cn Cw Ns W N2 W2).bind fun (o_78 : Int32 × ST × (Nat → Nat) × ST × (Nat → Nat) × ST × (Nat → Nat) × ST × SL × (Nat → Nat) × (Nat → Nat → Nat) × (Nat → ST)) => (fW_G250_130 kk xm xf pw P Ns (pu_I v) w n q w4 l4 s4 W L N2 W2 (pu_I r) o_78)) else (fW_J254 kk xm xf pw P Ns (pu_I v) w n q w4 l4 s4 W L N2 W2 (pu_I r) 0 aw an fw fn x9 m2 gw gl gn Cn Cw)) := by
    unfold fW_J209
    rw [pv_add, hcell, Option.bind_some, hb, Option.bind_some, if_pos (show (0 : Int32) ≤ pu_I c from (pu_le (a := 0) (by decide) hc).mpr (Nat.zero_le c))]
  rw [hlong]
  by_cases h2 : (pu_I v - pu_I v / 2 * 2) = 0
  · rw [if_pos h2]
    obtain ⟨y, aw', an', fw', fn', x9', m2', g, gl', gn', Cn', Cw', e1, e2, e3⟩ := pa_makeCode (by decide : 3 ≤ 3) hw.2.2.2.2.2.1 (K := 3 + r) (by omega) (by omega) (fw := fw) (x9 := x9) (gw := gw) (gl := gl) (Cw := Cw) hkp
    have hal : fX11_allocate (3 + pu_I r) P an aw fn fw m2 x9 gn gw gl Cn Cw Ns W N2 W2 = some (y, aw', an', fw', fn', x9', m2', g, gl', gn', Cn', Cw') := by
      unfold fX11_allocate
      rw [h3r, if_neg (fun h => by have := (pu_lt (b := 3) (by omega) (by decide)).mp h; omega), if_pos (show pu_I (3 + r) ≤ 8 from (pu_le (b := 8) (by omega) (by decide)).mpr (by omega)), hw.2.2.1, if_neg (by decide), e1, Option.bind_some]
      rfl
    rw [hal, Option.bind_some]
    have hcode : aw' 0 5 = 0 ∨ (aw' 0 5 = 1 ∧ ∃ K, K ≤ 8 ∧ ∀ h, h < 3 → pa_cdd 3 (np h) (F0 h) K aw' Cn' Cw' h) := by
      rcases e3 with ⟨_, h⟩ | ⟨_, h, hcd⟩
      · exact Or.inl h
      · exact Or.inr ⟨h, 3 + r, by omega, hcd⟩
    have hY : st_Y aw' np F0 Cn' Cw' (pu_I r) y := by
      rcases e3 with ⟨h, _⟩ | ⟨_, h, hcd⟩
      · exact Or.inl (by rw [h]; decide)
      · exact Or.inr ⟨h, 3 + r, by omega, h3r, hcd⟩
    have hw' : lw_W P aw' a0 np Vn A rk tk F0 Ns W L N2 W2 Cn' Cw' := ⟨hw.1, hw.2.1, hw.2.2.1, hw.2.2.2.1, hw.2.2.2.2.1, hw.2.2.2.2.2.1, hcode⟩
    obtain ⟨w', n', q', g1, g2⟩ := st_254 (an := an') (fn := fn') (m2 := m2') (gn := gn') (fw := fw') (x9 := x9') (gw := g) (gl := gl') (w4 := w4) (s4 := s4) (l4 := l4) (xf := xf) hx hw' hY kk pw hv w n q hn
    exact ⟨aw', an', fw', fn', x9', m2', g, gl', gn', w', n', Cn', Cw', q', g1, hw', e2, g2, hm0⟩
  · rw [if_neg h2]
    obtain ⟨w', n', q', g1, g2⟩ := st_254 (an := an) (fn := fn) (m2 := m2) (gn := gn) (fw := fw) (x9 := x9) (gw := gw) (gl := gl) (w4 := w4) (s4 := s4) (l4 := l4) (xf := xf) hx hw (o8 := pu_I r) (y := 0) (Or.inl (by decide)) kk pw hv w n q hn
    exact ⟨aw, an, fw, fn, x9, m2, gw, gl, gn, w', n', Cn, Cw, q', g1, hw, hkp, g2, hm0⟩
/-- one step -/
theorem st_105 (hx : xm < 2147483648) {m0 n : Nat → Nat} (hJ : st_J P a0 np Vn A rk tk F0 Ns m0 aw an fn m2 gn n W L N2 W2 Cn Cw) (pw : ST) {v T k : Nat} (hv : v < 6) (hT : T < 3) (w : ST) (q : Nat → RI) :
    ∃ w4' l4' s4' aw' an' fw' fn' x9' m2' gw' gl' gn' w' n' W' L' N2' W2' Cn' Cw' q', fW_L105 xm xf (pu_I T) pw P Ns (k + 1) (pu_I v) w4 l4 s4 aw an fw fn x9 m2 gw gl gn w n W L N2 W2 Cn Cw q = fW_L105 xm xf (pu_I T) pw P Ns k (pu_I (v + 1)) w4' l4' s4' aw' an' fw' fn' x9' m2' gw' gl' gn' w' n' W' L' N2' W2' Cn' Cw' q' ∧ st_J P a0 np Vn A rk tk F0 Ns m0 aw' an' fn' m2' gn' n' W' L' N2' W2' Cn' Cw' := by
  obtain ⟨hw, hkp, hn, hm0⟩ := id hJ
  obtain ⟨hpg, h6, hP, hF0, h4, hcls, hcode⟩ := id hw
  have hcell := dw_cell (xf := xf) hx (show v + 2 * T < 24 by omega)
  obtain ⟨r, hr, hb⟩ := lw_below ((fL_cell xm xf (pu_I (v + 2 * T))).getD 0 >>> (1 &&& 31)) (m := 7) (by decide) (by decide)
  have hb : fL_below ((fL_cell xm xf (pu_I (v + 2 * T))).getD 0 >>> (1 &&& 31)) 7 = some (pu_I r) := hb
  have h2T : pu_I v + 2 * pu_I T = pu_I (v + 2 * T) := by
    rw [show (2 : Int32) = pu_I 2 from rfl, pv_mul, pv_add]
  have hJ2 : ∀ W' L' N2' W2', pv_cls 3 3 np F0 Ns W' L' N2' W2' → (∀ h, 3 ≤ h → N2' h = N2 h) → st_J P a0 np Vn A rk tk F0 Ns m0 aw an fn m2 gn n W' L' N2' W2' Cn Cw := fun W' L' N2' W2' hc hf => ⟨⟨hpg, h6, hP, hF0, h4, hc, hcode⟩, hkp, hn, fun h hh => (hf h hh).trans (hm0 h hh)⟩
  have hfin : ∀ (c : Nat) (w4 : ST) (l4 : SL) (s4 : ST) (U1 : Nat → ST) (U2 : Nat → SL) (U3 : Nat → Nat → Nat) (U4 : Nat → ST), c < 2147483648 → pv_cls 3 3 np F0 Ns U1 U2 U3 U4 → (∀ h, 3 ≤ h → U3 h = N2 h) →
      ∃ w4' l4' s4' aw' an' fw' fn' x9' m2' gw' gl' gn' w' n' W' L' N2' W2' Cn' Cw' q', fW_J209 (fW_L105 xm xf (pu_I T) pw P Ns k) xm xf (pu_I T) pw P Ns (pu_I v) aw an fw fn x9 m2 gw gl gn w n Cn Cw q (pu_I c) w4 l4 s4 U1 U2 U3 U4 = fW_L105 xm xf (pu_I T) pw P Ns k (pu_I (v + 1)) w4' l4' s4' aw' an' fw' fn' x9' m2' gw' gl' gn' w' n' W' L' N2' W2' Cn' Cw' q' ∧ st_J P a0 np Vn A rk tk F0 Ns m0 aw' an' fn' m2' gn' n' W' L' N2' W2' Cn' Cw' := fun c w4 l4 s4 U1 U2 U3 U4 hc hcl hf => by
    obtain ⟨aw', an', fw', fn', x9', m2', gw', gl', gn', w', n', Cn', Cw', q', g1, g2⟩ := st_209 (fw := fw) (x9 := x9) (gw := gw) (gl := gl) (w4 := w4) (s4 := s4) (l4 := l4) (xf := xf) hx (hJ2 U1 U2 U3 U4 hcl hf) (fW_L105 xm xf (pu_I T) pw P Ns k) pw hv hT hc w q
    exact ⟨w4, l4, s4, aw', an', fw', fn', x9', m2', gw', gl', gn', w', n', U1, U2, U3, U4, Cn', Cw', q', g1, g2⟩
  have hrw : fW_L105 xm xf (pu_I T) pw P Ns (k + 1) (pu_I v) w4 l4 s4 aw an fw fn x9 m2 gw gl gn w n W L N2 W2 Cn Cw q = (if pu_I r = 0 then ((fX11_fold P Ns W L N2 W2 w4 l4 s4).bind fun o_132 => (fW_G140_136 (fW_L105 xm xf (pu_I T) pw P Ns k) xm xf (pu_I T) pw P Ns (pu_I v) aw an fw fn x9 m2 gw gl gn w n Cn Cw q o_132)) else (if pu_I r = 1 then ((fX11_same P Ns W L N2 W2 w4).bind fun o_138 => (fW_J209 (fW_L105 xm xf (pu_I T) pw P Ns k) xm xf (pu_I T) pw P Ns (pu_I v) aw an fw fn x9 m2 gw gl gn w n Cn Cw q o_138.1 o_138.2.1 l4 s4 o_138.2.2.1 L N2 o_138.2.2.2)) else (if pu_I r = 2 then ((fX11_drop P Ns W N2 W2 w4).bind fun o_141 => (fW_J209 (fW_L105 xm xf (pu_I T) pw P Ns k) xm xf (pu_I T) pw P Ns (pu_I v) aw an fw fn x9 m2 gw gl gn w n Cn Cw q o_141.1 o_141.2.1 l4 s4 o_141.2.2.1 L N2 o_141.2.2.2)) else (if pu_I r = 3 then ((fX11_lift P Ns W L N2 W2 w4).bind fun o_144 => (fW_J209 (fW_L105 xm xf (pu_I T) pw P Ns k) xm xf (pu_I T) pw P Ns (pu_I v) aw an fw fn x9 m2 gw gl gn w n Cn Cw q o_144.1 o_144.2.1 l4 s4 o_144.2.2.1 L N2 o_144.2.2.2)) else (if pu_I r = 4 then ((fX11_merge P Ns W L N2 W2 w4 l4 s4).bind fun o_147 => (fW_J209 (fW_L105 xm xf (pu_I T) pw P Ns k) xm xf (pu_I T) pw P Ns (pu_I v) aw an fw fn x9 m2 gw gl gn w n Cn Cw q o_147.1 o_147.2.1 o_147.2.2.1 o_147.2.2.2.1 o_147.2.2.2.2.1 o_147.2.2.2.2.2.1 N2 o_147.2.2.2.2.2.2)) else (if pu_I r = 5 then ((fX11_settle P Ns W L N2 W2 w4 l4 s4).bind fun o_150 => (fW_G205_154 (fW_L105 xm xf (pu_I T) pw P Ns k) xm xf (pu_I T) pw P Ns (pu_I v) aw an fw fn x9 m2 gw gl gn w n Cn Cw q o_150)) else (fW_J209 (fW_L105 xm xf (pu_I T) pw P Ns k) xm xf (pu_I T) pw P Ns (pu_I v) aw an fw fn x9 m2 gw gl gn w n Cn Cw q 0 w4 l4 s4 W L N2 W2))))))) := by
    show (if 6 ≤ pu_I v then _ else ((fL_cell xm xf (pu_I v + (2 * pu_I T))).bind fun (o_2 : Int32) => ((fL_below (o_2 >>> (1 &&& 31)) 7).bind _))) = _
    rw [if_neg (fun h => by have := (pu_le (a := 6) (by decide) (by omega)).mp h; omega), h2T, hcell, Option.bind_some, hb, Option.bind_some]
  rw [hrw]
  by_cases r0 : pu_I r = 0
  · rw [if_pos r0]
    obtain ⟨c, g', gl', s', W', L', N2', W2', e1, e2, e3, e4⟩ := pv_fold_c (by decide : 3 ≤ 6) hP hcls w4 l4 s4
    rw [e1, Option.bind_some]
    unfold fW_G140_136
    dsimp only
    exact hfin c g' gl' s' W' L' N2' W2' (by omega) e3 e4
  rw [if_neg r0]
  by_cases r1 : pu_I r = 1
  · rw [if_pos r1]
    obtain ⟨c, g', W', W2', e1, e2, e3⟩ := pv_same_c (by decide : 3 ≤ 6) hP hcls w4
    rw [e1, Option.bind_some]
    dsimp only
    exact hfin c g' l4 s4 W' L N2 W2' (by omega) e3 fun _ _ => rfl
  rw [if_neg r1]
  by_cases r2 : pu_I r = 2
  · rw [if_pos r2]
    obtain ⟨c, g', W', W2', e1, e2, e3⟩ := pv_drop_c (by decide : 3 ≤ 6) hP hcls w4
    rw [e1, Option.bind_some]
    dsimp only
    exact hfin c g' l4 s4 W' L N2 W2' (by omega) e3 fun _ _ => rfl
  rw [if_neg r2]
  by_cases r3 : pu_I r = 3
  · rw [if_pos r3]
    obtain ⟨c, g', W', W2', e1, e2, e3⟩ := pv_lift_c (by decide : 3 ≤ 6) hP hcls w4
    rw [e1, Option.bind_some]
    dsimp only
    exact hfin c g' l4 s4 W' L N2 W2' (by omega) e3 fun _ _ => rfl
  rw [if_neg r3]
  by_cases r4 : pu_I r = 4
  · rw [if_pos r4]
    obtain ⟨c, g', gl', s', W', L', W2', e1, e2, e3⟩ := pv_merge_c (by decide : 3 ≤ 6) hP hcls w4 l4 s4
    rw [e1, Option.bind_some]
    dsimp only
    exact hfin c g' gl' s' W' L' N2 W2' (by omega) e3 fun _ _ => rfl
  rw [if_neg r4]
  by_cases r5 : pu_I r = 5
  · rw [if_pos r5]
    obtain ⟨c, g', gl', s', W', L', N2', W2', e1, e2, e3, e4⟩ := pv_settle_c (by decide : 3 ≤ 6) hP hcls w4 l4 s4
    rw [e1, Option.bind_some]
    unfold fW_G205_154
    dsimp only
    exact hfin c g' gl' s' W' L' N2' W2' (by omega) e3 e4
  rw [if_neg r5]
  exact hfin 0 w4 l4 s4 W L N2 W2 (by decide) hcls fun _ _ => rfl
/-- six steps -/
theorem st_W (hx : xm < 2147483648) {m0 n : Nat → Nat} (pw : ST) {T : Nat} (hT : T < 3) : ∀ (m v k : Nat) (w4 : ST) (l4 : SL) (s4 aw : ST) (an : Nat → Nat) (fw : ST) (fn : Nat → Nat) (x9 : ST) (m2 : Nat → Nat) (gw : ST) (gl : SL) (gn : Nat → Nat) (w : ST) (n : Nat → Nat) (W : Nat → ST) (L : Nat → SL) (N2 : Nat → Nat → Nat) (W2 : Nat → ST) (Cn : Nat → Nat → Nat) (Cw : Nat → ST) (q : Nat → RI),
    v + m = 6 → m < k → st_J P a0 np Vn A rk tk F0 Ns m0 aw an fn m2 gn n W L N2 W2 Cn Cw →
    ∃ w4' l4' s4' aw' an' fw' fn' x9' m2' gw' gl' gn' w' n' W' L' N2' W2' Cn' Cw' q', fW_L105 xm xf (pu_I T) pw P Ns k (pu_I v) w4 l4 s4 aw an fw fn x9 m2 gw gl gn w n W L N2 W2 Cn Cw q = some (w4', l4', s4', aw', an', fw', fn', x9', m2', gw', gl', gn', w', n', W', L', N2', W2', Cn', Cw', q') ∧ st_J P a0 np Vn A rk tk F0 Ns m0 aw' an' fn' m2' gn' n' W' L' N2' W2' Cn' Cw' := by
  intro m
  induction m with
  | zero =>
    intro v k w4 l4 s4 aw an fw fn x9 m2 gw gl gn w n W L N2 W2 Cn Cw q hv hk hJ
    obtain ⟨k', rfl⟩ : ∃ k', k = k' + 1 := ⟨k - 1, by omega⟩
    obtain rfl : v = 6 := by omega
    refine ⟨w4, l4, s4, aw, an, fw, fn, x9, m2, gw, gl, gn, w, n, W, L, N2, W2, Cn, Cw, q, ?_, hJ⟩
    rfl
  | succ m ih =>
    intro v k w4 l4 s4 aw an fw fn x9 m2 gw gl gn w n W L N2 W2 Cn Cw q hv hk hJ
    obtain ⟨k', rfl⟩ : ∃ k', k = k' + 1 := ⟨k - 1, by omega⟩
    obtain ⟨w4', l4', s4', aw', an', fw', fn', x9', m2', gw', gl', gn', w', n', W', L', N2', W2', Cn', Cw', q', e1, e2⟩ := st_105 (fw := fw) (x9 := x9) (gw := gw) (gl := gl) (w4 := w4) (s4 := s4) (l4 := l4) (xf := xf) hx hJ pw (k := k') (show v < 6 by omega) hT w q
    obtain ⟨w42, l42, s42, aw2, an2, fw2, fn2, x92, m22, gw2, gl2, gn2, w2, n2, W3, L3, N3, W4, Cn2, Cw2, q2, f1, f2⟩ := ih (v + 1) k' w4' l4' s4' aw' an' fw' fn' x9' m2' gw' gl' gn' w' n' W' L' N2' W2' Cn' Cw' q' (by omega) (by omega) e2
    exact ⟨w42, l42, s42, aw2, an2, fw2, fn2, x92, m22, gw2, gl2, gn2, w2, n2, W3, L3, N3, W4, Cn2, Cw2, q2, e1.trans f1, f2⟩
end STP
