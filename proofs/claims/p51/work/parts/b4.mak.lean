/-! pure side, the maker 39: make whole -/
theorem pt_lo_or {P : ST} {i : Nat} {s : List Nat} : (pt_lo P i s = -1 ∨ ∃ t, pt_lo P i s = pt_at s t) ∧ (pt_ro P i s = -1 ∨ ∃ t, pt_ro P i s = pt_at s t) := by
  unfold pt_lo pt_ro
  refine ⟨?_, ?_⟩
  · by_cases h1 : pu_ur (P 9 i) = true
    · rw [if_pos h1]; exact Or.inr ⟨_, rfl⟩
    rw [if_neg h1]
    by_cases h2 : P 9 i = 19
    · rw [if_pos h2]; exact Or.inr ⟨_, rfl⟩
    rw [if_neg h2]
    by_cases h3 : P 9 i = 32
    · rw [if_pos h3]; exact Or.inr ⟨_, rfl⟩
    rw [if_neg h3]
    by_cases h4 : pt_one (P 9 i) = true
    · rw [if_pos h4]; exact Or.inr ⟨_, rfl⟩
    · rw [if_neg h4]; exact Or.inl rfl
  · by_cases h1 : pu_ur (P 9 i) = true
    · rw [if_pos h1]; exact Or.inr ⟨_, rfl⟩
    · rw [if_neg h1]; exact Or.inl rfl
section MK
variable {P w fw fw2 s : ST} {l fl : SL} {n n2 : Nat → Nat} {f a0 a1 Vn fs R0 : Nat} {A : Nat → Nat → Prop}
/-- what make leaves: tables, and how they hang together -/
def pt_mr (P : ST) (a0 a1 Vn : Nat) (B N : Nat) (po : Nat → Int32) (fo ot pj : Nat → Nat) (k9 v10 x9 : ST) (l5 l7 : SL) (n7 m9 : Nat → Nat) (R0 : Nat) (Ph : Nat → Int64) (ph ch : Nat → List Nat) (wb : Nat → Nat) (S : Nat → Nat → Int32) : Prop :=
  ((B ≤ 60 ∧ 0 < B) ∧ pt_bk P a0 a1 v10 po B fo ot pj ∧ pv_sv B v10 ∧ pv_wys B v10 wb ∧ v10 0 0 = pu_I B ∧ (∀ j c, j < B → c < B → v10 8 j = 23 → pv_eg v10 j c → ∀ q, q < B → pv_eg v10 q c → q = j)) ∧
  (∀ F : pu_Flow, pt_sw F v10 B → pt_dd F v10 B (pv_D B l5) (fun c => nn (v10 12 c)) ∧ (∀ b c, b < B → c < B → (pv_bt (l5 16 b) c = true ↔ pv_D B l5 b c)) ∧ (∀ h, h < B → l5 17 h ≠ 0 → pu_lop F B (pv_D B l5) h (fun c => pv_bt (l5 17 h) c = true)) ∧ (∀ c, c < B → c ≠ 0 → v10 12 c = pu_I (nn (v10 12 c)))) ∧
  ((∀ v, v < 320 → ∀ x, x < 64 → (pv_bt (l7 17 v) x = true ↔ x < B ∧ pt_asg P (fo x) (ot x) v) ∧ (pv_bt (l7 16 v) x = true ↔ x < B ∧ pt_use P (fo x) (ot x) v)) ∧ (∀ d, d < B → ∀ x, x < 64 → (pv_bt (l7 18 d) x = true ↔ x < B ∧ ∃ p, p < B ∧ pv_eg v10 p x ∧ pt_bc l5 x p d)) ∧ (∀ u, u < Vn → ∃ W, pt_vf l7 v10 B u W (Ph u))) ∧
  (pt_rm n7 (pt_sn Ph B Vn) ∧ pt_sn Ph B Vn ≤ 250 ∧ pv_phc B v10 ph ∧ pv_dis B (pt_sn Ph B Vn) ph ∧ pt_pv B (k9 19) ph Ph (fun _ => Vn)) ∧
  (v10 0 1 = pu_I (pt_nb P fo ot ph B) ∧ pt_nb P fo ot ph B ≤ 250 ∧ (∀ b, b < B → (ph b).map (v10 19) = (List.range' (pt_nb P fo ot ph b) (ph b).length).map pu_I) ∧ (∀ b i, b < B → fo b ≤ i → i < ot b → pu_gk (P 9 i) = true → k9 4 i = pu_I (pt_nb P fo ot ph b + (ph b).length + pt_gc P (fo b) i))) ∧
  (pt_ss B v10 x9 m9 R0 N ch ∧ N ≤ a1 ∧ (∀ x, x < B → pt_bf P k9 v10 Vn fo ot (fun c => nn (v10 12 c)) ph x (S x) ∧ (ch x).map (pv_S x9) = pt_sl P (k9 2) (k9 3) (k9 4) (fo x) (ot x))) ∧
  (∀ b, b < B → ∀ a, a ∈ ph b → pt_tf k9 v10 wb b a v10) ∧ (∀ i, a0 ≤ i → i < a1 → k9 2 i = pt_lor P a0 i ∧ k9 3 i = pt_ror P a0 i)
theorem pv_make0 (hfn : pt_fn P f a0 a1 Vn fs A) (hrm : pt_rm n 0) (hR0 : R0 ≤ 50000) (hsR : pv_sR n2 R0) :
    ∃ (k9 : ST) (l7 : SL) (v10 : ST) (l5 : SL) (n7 : Nat → Nat) (x9 : ST) (m9 : Nat → Nat) (s6 : ST) (B N : Nat) (po : Nat → Int32) (fo ot pj : Nat → Nat) (Ph : Nat → Int64) (ph ch : Nat → List Nat) (wb : Nat → Nat) (S : Nat → Nat → Int32),
      fX4_make w l P (pu_I f) n fw fl n2 fw2 s = some (1, k9, l7, v10, l5, n7, x9, m9, s6) ∧ pt_mr P a0 a1 Vn B N po fo ot pj k9 v10 x9 l5 l7 n7 m9 R0 Ph ph ch wb S := by
  obtain ⟨⟨hf, h5, h6, h7, h3, hVn⟩, htx, hla, hld, hLa, ⟨hcnt, hK, hval⟩, hQc, hcp⟩ := id hfn
  obtain ⟨_, hen, hvarT, hA, hTc, hL, hlast⟩ := id htx
  have ha : a0 ≤ a1 := by omega
  have hcl : ∃ z, a0 ≤ z ∧ z < a1 ∧ pt_cut P z := ⟨a1 - 1, by omega, by omega, Or.inl (Or.inr (Or.inr (Or.inr hlast.2)))⟩
  have hK0 : 0 < pt_c P a0 a1 := by
    obtain ⟨z, z1, z2, z3⟩ := hcl
    have := pt_c_lt z1 z2 z3
    omega
  -- clear
  obtain ⟨c1, hc1⟩ : ∃ c1, c1 = upw (upw (upw fw 0 0 0) 0 1 0) 0 17 0 := ⟨_, rfl⟩
  obtain ⟨c2, hc2⟩ : ∃ c2, c2 = upw fw2 0 0 0 := ⟨_, rfl⟩
  have hclr : fX1_clear fw fw2 = some (c1, c2) := by rw [hc1, hc2]; rfl
  have c100 : c1 0 0 = 0 := by rw [hc1, pv_upw, if_neg (fun h => absurd h.2 (by decide)), pv_upw, if_neg (fun h => absurd h.2 (by decide)), pv_upw, if_pos ⟨rfl, rfl⟩]
  have c117 : c1 0 17 = 0 := by rw [hc1, pv_upw, if_pos ⟨rfl, rfl⟩]
  have c200 : c2 0 0 = 0 := by rw [hc2, pv_upw, if_pos ⟨rfl, rfl⟩]
  -- pieces
  obtain ⟨k1, e1, f1, f2, f3, f4⟩ := pv_cutPieces (w := w) hf h6 h7 ha h3 hla hld hK
  obtain ⟨k2, e2, g1, g2⟩ := pv_linkOperands (w := k1) hf h6 h7 ha h3 hen
  have k29 : k2 9 = k1 9 := g1 9 (by decide) (by decide) (by decide)
  have k210 : k2 10 = k1 10 := g1 10 (by decide) (by decide) (by decide)
  have hps2 : ∀ j, a0 ≤ j → j < a1 → pt_cut P j → pt_ps P a0 a1 (k2 9) (k2 10) j := fun j j1 j2 j3 => by
    rw [k29, k210]
    exact pt_pcs hlast hL f3 f4 j1 j2 j3
  obtain ⟨hF2, hG2⟩ := pt_fgs (w := k2) hps2
  obtain ⟨fi, wy, k3, c, k4, v4, e3, m1, m2, m3, m4, m5, m6, m7⟩ := pv_layBlocks (w := k2) (v := c1) (X := pt_X P a0 a1) hK0 hK (by rw [g1 0 (by decide) (by decide) (by decide)]; exact f2) hF2 hG2 c100 (Or.inl rfl) (fun p q hp hq hX he => pt_X_cl hK hps2 p q hp hX he (by omega)) (fun fl h1 h2 => pt_h60 hps2 hcnt fl h1 h2)
  have k39 : k3 9 = k2 9 := m2 9 (by decide) (by decide) (by decide)
  have k310 : k3 10 = k2 10 := m2 10 (by decide) (by decide) (by decide)
  obtain ⟨B, s5, v5, l5, s6, po, wb, e4, e5, nbk, ⟨hB0, hB⟩, v00, v0i, vm1, hwys, hsv, hdomF⟩ := pv_newBlocks (n := n) (s := s) m1 (by rw [k39, k310]; exact m3) m6 m7 m4 m5 fl
  have hps3 : ∀ j, a0 ≤ j → j < a1 → pt_cut P j → pt_ps P a0 a1 (k3 9) (k3 10) j := by rw [k39, k310]; exact hps2
  obtain ⟨hbk0, hpo0⟩ := pt_blocks hK hcl hps3 hB hB0 nbk
  obtain ⟨fo, hfo⟩ : ∃ fo, fo = pt_fo P a0 a1 po := ⟨_, rfl⟩
  obtain ⟨ot, hot⟩ : ∃ ot, ot = pt_ot P a0 a1 po := ⟨_, rfl⟩
  obtain ⟨pj, hpj⟩ : ∃ pj, pj = pt_pj P a0 a1 po := ⟨_, rfl⟩
  rw [← hfo, ← hot, ← hpj] at hbk0
  rw [← hpj] at hpo0
  -- dominators
  have hsw0 : pt_sw (pv_F v5 fw2 (fun _ => []) (fun _ => [])) v5 B := pt_sw_of hbk0 hB hsv (fun b _ => ⟨rfl, rfl, rfl⟩)
  obtain ⟨d1, d2, d3, d4, d5, d6⟩ := hdomF _ hsw0.1 hsw0.2
  have hno : ∀ p, p < B → ¬ pv_eg v5 p 0 := pt_no0 hK hB hps3 nbk fun c hc h0 => by
    obtain ⟨p, p1, p2⟩ := d2.1 c hc h0
    exact ⟨p, p1, (hsw0.1 p c (by omega) hc).mp p2⟩
  have hdd0 : pt_dd (pv_F v5 fw2 (fun _ => []) (fun _ => [])) v5 B (pv_D B l5) (fun c => nn (v5 12 c)) := ⟨hsw0, d1, d2, d6, hno⟩
  -- variables
  obtain ⟨k5, hk5⟩ : ∃ k5, k5 = srw k4 15 po := ⟨_, rfl⟩
  have k5r : ∀ r, r ≠ 15 → k5 r = k4 r := fun r hr => by rw [hk5, pv_srw_n hr]
  have k5k1 : ∀ r, r ≠ 2 → r ≠ 3 → r ≠ 5 → r ≠ 11 → r ≠ 12 → r ≠ 14 → r ≠ 15 → k5 r = k1 r := fun r r2 r3 r5 r11 r12 r14 r15 => by
    rw [k5r r r15, m4.1 r r15, m2 r r11 r12 r14, g1 r r2 r3 r5]
  have ht5 : pt_tab P a0 a1 k5 := pt_tab_e (k5k1 7 (by decide) (by decide) (by decide) (by decide) (by decide) (by decide) (by decide)) (k5k1 8 (by decide) (by decide) (by decide) (by decide) (by decide) (by decide) (by decide)) (k5k1 9 (by decide) (by decide) (by decide) (by decide) (by decide) (by decide) (by decide)) (k5k1 10 (by decide) (by decide) (by decide) (by decide) (by decide) (by decide) (by decide)) (k5k1 13 (by decide) (by decide) (by decide) (by decide) (by decide) (by decide) (by decide)) f4
  have hos : pt_os k5 B fo ot := pt_bk_os hbk0 hB h3 hK ht5 (fun b _ => by rw [hk5, pv_srw_s]) hpo0
  have hod := pt_bk_od hbk0
  have hvar : ∀ b i, b < B → fo b ≤ i → i < ot b → (P 9 i = 30 ∨ P 9 i = 31 ∨ P 9 i = 32 ∨ P 9 i = 21) → ∃ u, u < 320 ∧ P 10 i = pu_I u := fun b i hb i1 i2 h => by
    obtain ⟨ia, ia1, _⟩ := pt_inn hbk0 hb i1 i2
    obtain ⟨u, u1, u2⟩ := hvarT i ia ia1 h
    exact ⟨u, by omega, u2⟩
  obtain ⟨l6, e6, q1, q2⟩ := pv_noteVariables (P := P) hos hB v00 hvar l
  obtain ⟨l7, e7, q3, q4⟩ := pv_findBorders (w := v5) (pl := l5) hB v00 hwys l6
  have hbit : ∀ v, v < 320 → ∀ x, x < 64 → (pv_bt (l7 17 v) x = true ↔ x < B ∧ pt_asg P (fo x) (ot x) v) ∧ (pv_bt (l7 16 v) x = true ↔ x < B ∧ pt_use P (fo x) (ot x) v) := by
    rw [q3 17 (by decide), q3 16 (by decide)]
    exact q2
  -- phis
  have hphb : ∀ u W V, pt_vf l7 v5 B u W V → pt_bn V B ≤ (pt_ks P a0 a1 pt_q33).length + 1 := by
    intro u W V h
    rw [pt_bn_S]
    refine pt_multi_n hB hB0 hbk0 hdd0 (fun b => pv_bt V b) fun b hb hbt => ?_
    obtain ⟨_, d, hd9, hbd⟩ := h.2.2.2.1 b hbt
    obtain ⟨_, p, hp, he, hc1, hc2⟩ := (q4 d hd9 b (by omega)).mp hbd
    obtain ⟨p', p1, p2, p3⟩ := pt_multi hdd0 hb hp hd9 he ((d3 p d hp hd9).mp hc1) (hc2.imp id fun h h9 => h ((d3 b d hb hd9).mpr h9))
    by_cases hlt : p < p'
    · exact ⟨p, p', hlt, p1, he, p3⟩
    · exact ⟨p', p, by omega, hp, p3, he⟩
  have hsn : ∀ m, m ≤ Vn → ∀ Ph : Nat → Int64, (∀ u, u < m → ∃ W, pt_vf l7 v5 B u W (Ph u)) → pt_sn Ph B m ≤ Vn * ((pt_ks P a0 a1 pt_q33).length + 1) := by
    intro m hm Ph h
    rw [pt_sn_S]
    have h9 := pt_S_mono (f := fun v => pt_bn (Ph v) B) (g := fun _ => (pt_ks P a0 a1 pt_q33).length + 1) m fun u hu => by
      obtain ⟨W, hW⟩ := h u hu
      exact hphb u W (Ph u) hW
    rw [pt_S_c] at h9
    exact Nat.le_trans h9 (Nat.mul_le_mul_right _ hm)
  obtain ⟨Ph, k7, v7, n7, ph, e8, r1, r2, r3, r4, r5, r6, r7, r8, r9, r10⟩ := pv_makeL73 (l := l7) (w0 := k5) (fw0 := v5) (n0 := n) (o1 := (c1, c2)) (o7 := (s5, v5, l5)) (o8 := (s6, po)) (n2 := n2) hf h5 (by omega) hB0 hB v00 hsv (fun v hv x hx h => ((hbit v (by omega) x hx).2.mp h).1) (fun m hm Ph h => Nat.le_trans (hsn m hm Ph h) (by omega)) (by rw [v0i 17 (by decide)]; exact c117) hrm (fun b hb => by rw [(vm1 b hb).2.2.1])
  have hsnV := hsn Vn (Nat.le_refl _) Ph r1
  have hM : pt_sn Ph B Vn ≤ 250 := by omega
  have v7r : ∀ r, r ≠ 0 → r ≠ 6 → r ≠ 7 → r ≠ 19 → r ≠ 20 → r ≠ 21 → v7 r = v5 r := r8
  have hos7 : pt_os k7 B fo ot := pt_os_e (r9 7 (by decide)) (r9 8 (by decide)) (r9 15 (by decide)) hos
  have hlen : ∀ b, b < B → (ph b).length = pt_S (fun u => if pv_bt (Ph u) b = true then 1 else 0) Vn := by
    intro b hb
    have h9 := congrArg List.length (r7 b hb)
    rw [List.length_map, List.length_map] at h9
    rw [h9]
    exact pt_filter_S (fun u => pv_bt (Ph u) b) Vn
  have hotb : ∀ b, b < B → fo b ≤ ot b ∧ ot b ≤ a1 := by
    intro b hb
    refine ⟨(hos b hb).2.2.1, ?_⟩
    by_cases hn : po b < 0
    · rw [(hbk0.2.1 b hb hn).2.1]; exact Nat.zero_le _
    · obtain ⟨p1, p2, p3, p4, p5, _⟩ := hbk0.1 b hb hn
      rw [p5]
      unfold pt_to
      by_cases h35 : P 9 (pj b) = 35
      · rw [if_pos h35]; omega
      · rw [if_neg h35]; omega
  have hnb : pt_nb P fo ot ph B ≤ 250 := by
    rw [pt_nb_S, pt_S_e B hlen, pt_S_swap (fun u b => if pv_bt (Ph u) b = true then 1 else 0) Vn B]
    have h9 : pt_S (fun u => pt_S (fun b => if pv_bt (Ph u) b = true then 1 else 0) B) Vn = pt_sn Ph B Vn := by
      rw [pt_sn_S]
      exact pt_S_e Vn fun u _ => (pt_bn_S (Ph u) B).symm
    rw [h9]
    have h8 := pt_gc_sum (P := P) (a0 := a0) (a1 := a1) hod (fun b i hb i1 i2 => by have := pt_inn hbk0 hb i1 i2; exact ⟨this.1, this.2.1⟩) (fun b hb => (hotb b hb).2)
    omega
  -- numbers
  obtain ⟨k8, v8, e9, t1, t2, t3, t4, t5, t6⟩ := pv_numberValues (P := P) (w := k7) (fw := v7) (n := n7) (ph := ph) hos7 hod hB (by rw [r3 0 (by decide)]; exact v00) r4 hM r5 r6 hnb
  have hos8 : pt_os k8 B fo ot := pt_os_e (t1 7 (by decide)) (t1 8 (by decide)) (t1 15 (by decide)) hos7
  have hph8 : pv_phc B v8 ph := by
    unfold pv_phc
    rw [t2 20 (by decide) (by decide), t2 6 (by decide) (by decide), t2 7 (by decide) (by decide)]
    exact r5
  have k819 : k8 19 = k7 19 := t1 19 (by decide)
  have hva : ∀ b, b < B → ∀ a, a ∈ ph b → ∃ u, u < 320 ∧ k8 19 a = pu_I u := by
    intro b hb a ha
    have h9 : k7 19 a ∈ (ph b).map (k7 19) := List.mem_map_of_mem ha
    rw [r7 b hb] at h9
    obtain ⟨u, u1, u2⟩ := List.mem_map.mp h9
    have := List.mem_range.mp (List.mem_filter.mp u1).1
    have this : u < Vn := this
    exact ⟨u, by omega, by rw [k819]; exact u2.symm⟩
  have hvi : ∀ b, b < B → ∀ a a', a ∈ ph b → a' ∈ ph b → k8 19 a = k8 19 a' → a = a' := by
    intro b hb a a' ha ha' he
    rw [k819] at he
    refine pv_nodup_map (f := k7 19) (ph b) ?_ a ha a' ha' he
    rw [r7 b hb]
    refine List.pairwise_map.mpr (List.Pairwise.imp_of_mem (fun {x y} hx hy hxy e => ?_) (List.Pairwise.sublist List.filter_sublist (List.nodup_range (n := Vn))))
    have hx : x < Vn := List.mem_range.mp (List.mem_filter.mp hx).1
    have hy : y < Vn := List.mem_range.mp (List.mem_filter.mp hy).1
    exact hxy (pu_inj (by omega) (by omega) e)
  -- operands
  have k8lo : ∀ i, a0 ≤ i → i < a1 → k8 2 i = pt_lor P a0 i ∧ k8 3 i = pt_ror P a0 i := by
    intro i i1 i2
    rw [t1 2 (by decide), t1 3 (by decide), r9 2 (by decide), r9 3 (by decide), k5r 2 (by decide), k5r 3 (by decide), m4.1 2 (by decide), m4.1 3 (by decide), m2 2 (by decide) (by decide) (by decide), m2 3 (by decide) (by decide) (by decide)]
    exact g2 i i1 i2
  have hog : ∀ x j, x < B → fo x ≤ j → j < ot x → pt_og fo ot x j (k8 2 j) ∧ pt_og fo ot x j (k8 3 j) := by
    intro x j hx j1 j2
    obtain ⟨ja, ja1, _⟩ := pt_inn hbk0 hx j1 j2
    obtain ⟨k1', k2'⟩ := k8lo j ja ja1
    rw [k1', k2']
    exact ⟨pt_og_of hB hB0 h3 hbk0 hTc hsw0 d1 d2 hx j1 j2 pt_lo_or.1, pt_og_of hB hB0 h3 hbk0 hTc hsw0 d1 d2 hx j1 j2 pt_lo_or.2⟩
  have hlna := pt_ln_sum hod hotb
  have hln : pt_ln fo ot B ≤ 3200 := Nat.le_trans hlna h3
  have v812 : v8 12 = v5 12 := by rw [t2 12 (by decide) (by decide), v7r 12 (by decide) (by decide) (by decide) (by decide) (by decide) (by decide)]
  obtain ⟨k9, v9, x9, m9, N, ch, S, e10, u1, u2, u3, u4, u5, u6, u7, u8, u9⟩ := pv_makeL116 (P := P) (w := k8) (fw := v8) (fw2 := c2) (n := n7) (n2 := n2) (dm := fun c => nn (v5 12 c)) (t73 := (k7, v7, n7, n2)) rfl hf h5 (by omega) (by rw [t3 0 (by decide), r3 0 (by decide)]; exact v00) (fun b hb h0 => ⟨by rw [v812]; exact d5 b hb h0, (d6 b hb h0).1⟩) r4 hM hph8 r6 hva hvi hos8 hod hB (fun b hb i i1 i2 h => hvar b i hb i1 i2 h) hog hR0 hln c200 hsR
    (fun b hb => by rw [t2 4 (by decide) (by decide), v7r 4 (by decide) (by decide) (by decide) (by decide) (by decide) (by decide), (vm1 b hb).1]) (fun b hb => by rw [t2 9 (by decide) (by decide), v7r 9 (by decide) (by decide) (by decide) (by decide) (by decide) (by decide)]; exact (vm1 b hb).2.2.2.2)
  have k919 : k9 19 = k8 19 := u1 19 (by decide) (by decide)
  have v95 : ∀ r, r ≠ 0 → r ≠ 4 → r ≠ 5 → r ≠ 6 → r ≠ 7 → r ≠ 9 → r ≠ 19 → r ≠ 20 → r ≠ 21 → v9 r = v5 r := fun r a0' a4 a5 a6 a7 a9 a19 a20 a21 => by
    rw [u3 r a4 a5 a9, t2 r a0' a19, v7r r a0' a6 a7 a19 a20 a21]
  have hwys9 : pv_wys B v9 wb := pv_wys_e (v95 10 (by decide) (by decide) (by decide) (by decide) (by decide) (by decide) (by decide) (by decide) (by decide)) (v95 11 (by decide) (by decide) (by decide) (by decide) (by decide) (by decide) (by decide) (by decide) (by decide)) (v95 14 (by decide) (by decide) (by decide) (by decide) (by decide) (by decide) (by decide) (by decide) (by decide)) (v95 15 (by decide) (by decide) (by decide) (by decide) (by decide) (by decide) (by decide) (by decide) (by decide)) hwys
  have hph9 : pv_phc B v9 ph := by
    unfold pv_phc
    rw [u3 20 (by decide) (by decide) (by decide), u3 6 (by decide) (by decide) (by decide), u3 7 (by decide) (by decide) (by decide)]
    exact hph8
  have v900 : v9 0 0 = pu_I B := by rw [u3 0 (by decide) (by decide) (by decide), t3 0 (by decide), r3 0 (by decide)]; exact v00
  obtain ⟨v10, e11, y1, y2⟩ := pv_fillPhis (w := k9) (fw := v9) (n := n7) (wb := wb) hB v900 hwys9 r4 hM hph9 r6 (by rw [k919]; exact hva)
  have v105 : ∀ r, r ≠ 0 → r ≠ 4 → r ≠ 5 → r ≠ 6 → r ≠ 7 → r ≠ 9 → r ≠ 19 → r ≠ 20 → r ≠ 21 → v10 r = v5 r := fun r a0' a4 a5 a6 a7 a9 a19 a20 a21 => by rw [y1 r a21, v95 r a0' a4 a5 a6 a7 a9 a19 a20 a21]
  have w8 := v105 8 (by decide) (by decide) (by decide) (by decide) (by decide) (by decide) (by decide) (by decide) (by decide)
  have w10 := v105 10 (by decide) (by decide) (by decide) (by decide) (by decide) (by decide) (by decide) (by decide) (by decide)
  have w11 := v105 11 (by decide) (by decide) (by decide) (by decide) (by decide) (by decide) (by decide) (by decide) (by decide)
  have w12 := v105 12 (by decide) (by decide) (by decide) (by decide) (by decide) (by decide) (by decide) (by decide) (by decide)
  have w14 := v105 14 (by decide) (by decide) (by decide) (by decide) (by decide) (by decide) (by decide) (by decide) (by decide)
  have w15 := v105 15 (by decide) (by decide) (by decide) (by decide) (by decide) (by decide) (by decide) (by decide) (by decide)
  have heg : ∀ p c, pv_eg v10 p c ↔ pv_eg v5 p c := fun p c => by unfold pv_eg; rw [w10, w11]
  refine ⟨k9, l7, v10, l5, n7, x9, m9, s6, B, N, po, fo, ot, pj, Ph, ph, ch, wb, S, ?_, ⟨⟨hB, hB0⟩, pt_bk_e w8 w10 w11 hbk0, by unfold pv_sv; rw [w10, w11]; exact hsv, pv_wys_e w10 w11 w14 w15 hwys, by rw [y1 0 (by decide)]; exact v900, fun j c hj hc h23 he q hq heq => nbk.2.2.2.2 j c hj hc (by rw [← w8]; exact h23) ((heg j c).mp he) q hq ((heg q c).mp heq)⟩, fun F hF => ?_, ⟨hbit, fun d hd x hx => ?_, fun u hu => ?_⟩, ⟨r4, hM, ?_, r6, by rw [k919, k819]; exact r7⟩, ⟨?_, hnb, fun b hb => ?_, fun b i hb i1 i2 i3 => ?_⟩, ⟨?_, by omega, fun x hx => ?_⟩, fun b hb a ha j j1 j2 => ?_, fun i i1 i2 => ?_⟩
  · unfold fX4_make
    rw [hclr, Option.bind_some, e1, Option.bind_some, e2, Option.bind_some]
    show ((fX4_layBlocks k2 c1).bind _) = _
    rw [e3, Option.bind_some]
    show (if (1 : Int32) = 0 then _ else _) = _
    rw [if_neg (show ¬ (1 : Int32) = 0 by decide)]
    show ((fX8_renumber s n v4 fl).bind _) = _
    rw [e4, Option.bind_some]
    show ((fX8_move s5 60 (k4 15) (v4 0 0) (v5 0 0)).bind _) = _
    rw [e5, Option.bind_some]
    show ((fX4_noteVariables (srw k4 15 po) l P v5).bind _) = _
    rw [← hk5, e6, Option.bind_some]
    show ((fX4_findBorders l6 v5 l5).bind _) = _
    rw [e7, Option.bind_some]
    show ((fX4_make_L73 P (pu_I f) (c1, c2) (s5, v5, l5) (s6, po) l7 NF 0 k5 v5 n n2).bind _) = _
    rw [e8, Option.bind_some]
    show fX4_make_G102_23 P (pu_I f) (c1, c2) (s5, v5, l5) (s6, po) l7 (k7, v7, n7, n2) = _
    unfold fX4_make_G102_23
    show ((fX4_numberValues k7 P n7 v7).bind _) = _
    rw [e9, Option.bind_some]
    show (if (1 : Int32) = 0 then _ else _) = _
    rw [if_neg (show ¬ (1 : Int32) = 0 by decide)]
    show ((fX4_make_L116 P (pu_I f) (k7, v7, n7, n2) NF 0 k8 v8 c2 n2).bind _) = _
    rw [e10, Option.bind_some]
    show fX4_make_G140_40 (s5, v5, l5) (s6, po) l7 (k7, v7, n7, n2) (k9, v9, x9, m9) = _
    unfold fX4_make_G140_40
    show ((fX4_fillPhis k9 n7 v9).bind _) = _
    rw [e11, Option.bind_some]
  · have hF5 : pt_sw F v5 B := ⟨fun p c hp hc => (hF.1 p c hp hc).trans (heg p c), hF.2⟩
    obtain ⟨a1', a2', a3', a4', a5', a6'⟩ := hdomF F hF5.1 hF5.2
    rw [w12]
    exact ⟨⟨hF, a1', a2', a6', fun p hp h => hno p hp ((heg p 0).mp h)⟩, a3', a4', a5'⟩
  · have h9 := q4 d hd x hx
    rw [h9]
    refine ⟨fun ⟨h1, p, h2, h3, h4⟩ => ⟨h1, p, h2, (heg p x).mpr h3, h4⟩, fun ⟨h1, p, h2, h3, h4⟩ => ⟨h1, p, h2, (heg p x).mp h3, h4⟩⟩
  · obtain ⟨W, hW⟩ := r1 u hu
    exact ⟨W, pt_vf_e w10 w11 hW⟩
  · unfold pv_phc
    rw [y1 20 (by decide), y1 6 (by decide), y1 7 (by decide)]
    exact hph9
  · rw [y1 0 (by decide), u3 0 (by decide) (by decide) (by decide)]; exact t4
  · rw [y1 19 (by decide), u3 19 (by decide) (by decide) (by decide)]; exact t5 b hb
  · rw [u2 i fun x hx h => by rw [h.2.2] at i3; exact absurd i3 (by decide)]
    exact t6 b i hb i1 i2 i3
  · obtain ⟨z1, z2, z3, z4⟩ := u4
    refine ⟨z1, z2, ?_, z4⟩
    unfold pv_stc
    rw [y1 4 (by decide), y1 5 (by decide)]
    exact z3
  · obtain ⟨z1, z2⟩ := u6 x hx
    refine ⟨?_, by rw [u1 2 (by decide) (by decide), u1 3 (by decide) (by decide)]; exact z2⟩
    unfold pt_bf at z1 ⊢
    rw [y1 19 (by decide), y1 9 (by decide), w12]
    exact z1
  · have h9 := y2 b hb a ha j j1 j2
    rw [y1 15 (by decide)]
    exact h9
  · rw [u1 2 (by decide) (by decide), u1 3 (by decide) (by decide)]
    exact k8lo i i1 i2
end MK
