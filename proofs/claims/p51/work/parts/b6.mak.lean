/-! pure side, the maker 41: what make leaves is in shape, whole -/
section MG
variable {P : ST} {f a0 a1 Vn fs R0 B N : Nat} {A : Nat → Nat → Prop} {po : Nat → Int32} {fo ot pj : Nat → Nat} {k9 v10 x9 : ST} {l5 l7 : SL} {n7 m9 : Nat → Nat} {Ph : Nat → Int64} {ph ch : Nat → List Nat} {wb : Nat → Nat} {S : Nat → Nat → Int32}
theorem pv_make_fl (hfn : pt_fn P f a0 a1 Vn fs A) (hmr : pt_mr P a0 a1 Vn B N po fo ot pj k9 v10 x9 l5 l7 n7 m9 R0 Ph ph ch wb S) (hR0 : R0 ≤ 256) :
    pv_fl n7 v10 l5 m9 x9 B N (pt_sn Ph B Vn) (pt_nb P fo ot ph B) fs (nn (P 4 f)) (pv_D B l5) ch ph wb (fun c => nn (v10 12 c)) := by
  have hMM := pv_make_MM hfn hmr
  obtain ⟨_, _, htx, hdd, hpp, hvv, hff, hfo, hS⟩ := id hMM
  obtain ⟨⟨hf, h5, h6, h7, h3, hVn⟩, _, hla, hld, hLa, ⟨hcnt, hK, hval⟩, hQc, hcp⟩ := hfn
  obtain ⟨⟨⟨hB, hB0⟩, hbk, hsv, hwys, h00, hone⟩, hdom, ⟨hbit, hbrd, hvf⟩, ⟨hrm, hM, hphc, hdis, hpv⟩, ⟨hLm, hnb, hnum, hgk⟩, ⟨hss, hN, hbf⟩, htf, hlo⟩ := hmr
  obtain ⟨_, hdb, hlp, hdm⟩ := hdom _ hdd.1
  obtain ⟨hsw, hG, hd, hmx, hno⟩ := hdd
  obtain ⟨s1, ⟨R, s2, s3, s4⟩, s5, s6⟩ := hss
  obtain ⟨Rp, ⟨p19, p20, p21, p21'⟩, pM, pR⟩ := hrm
  have hnbm : ∀ b, b < B → pt_nb P fo ot ph (b + 1) ≤ pt_nb P fo ot ph B := fun b hb => pt_nb_le hb
  -- values are numbers
  have hbl : ∀ d u, d < B → u ∈ pu_bl (pv_F v10 x9 ch ph) d → ∃ n, n < pt_nb P fo ot ph B ∧ u = pu_I n := by
    intro d u hd' hu
    rw [pt_bl hvv hff hd'] at hu
    obtain ⟨n, n1, n2⟩ := List.mem_map.mp hu
    have n1 := List.mem_range'_1.mp n1
    have h8 := hvv.2.2.2.2.2.1 d hd'
    have h9 := hnbm d hd'
    exact ⟨n, by omega, n2.symm⟩
  have hav : ∀ b l1 r u, b < B → (pv_F v10 x9 ch ph b).2.1 = l1 ++ r → pu_av (pv_F v10 x9 ch ph) (pv_D B l5) b l1 u → ∃ n, n < pt_nb P fo ot ph B ∧ u = pu_I n := by
    intro b l1 r u hb hl h
    rcases pu_av_bl hl h with h | ⟨d, _, d2, d3⟩
    · exact hbl b u hb h
    · exact hbl d u (hG.2.1 b d hb d2).2 d3
  have hix : ∀ {u : Int32}, (∃ n, n < pt_nb P fo ot ph B ∧ u = pu_I n) → ixb u 250 = true ∧ ¬ u < 0 ∧ nn u < pt_nb P fo ot ph B := by
    rintro u ⟨n, n1, rfl⟩
    exact ⟨(pu_ix (by omega)).mpr (by omega), pu_ge (by omega), by rw [pu_nn (by omega)]; exact n1⟩
  -- the step of a chain's member
  have hstep : ∀ b a, b < B → a ∈ ch b → ∃ i l1 l2, fo b ≤ i ∧ i < ot b ∧ P 9 i ≤ 21 ∧ pv_S x9 a = px_st P a0 (k9 4) i ∧ (pv_F v10 x9 ch ph b).2.1 = l1 ++ pv_S x9 a :: l2 := by
    intro b a hb ha
    obtain ⟨l1, l2, hl⟩ := List.append_of_mem (show pv_S x9 a ∈ (pv_F v10 x9 ch ph b).2.1 from List.mem_map_of_mem ha)
    have hl2 := hl
    rw [(hff b hb).2.2.1.1] at hl2
    obtain ⟨i, i1, i2, i3, i4, _⟩ := pt_sl_split (ot b) hl2
    exact ⟨i, l1, l2, i1, i2, i3, i4, hl⟩
  have hgv : ∀ b a, b < B → a ∈ ch b → (pu_gk (x9 2 a) = true → ∃ n, n < pt_nb P fo ot ph B ∧ x9 3 a = pu_I n) ∧ (¬ pu_gk (x9 2 a) = true → x9 3 a = -1) := by
    intro b a hb ha
    obtain ⟨i, l1, l2, i1, i2, i3, i4, hl⟩ := hstep b a hb ha
    have e2 : x9 2 a = P 9 i := congrArg Prod.fst i4
    have e3 : x9 3 a = if pu_gk (P 9 i) = true then k9 4 i else -1 := congrArg (fun z => z.2.1) i4
    rw [e2, e3]
    refine ⟨fun h => ?_, fun h => if_neg h⟩
    rw [if_pos h]
    obtain ⟨n, n1, n2, n3, n4⟩ := pt_num hvv hb i1 i2 h
    have := hnbm b hb
    exact ⟨n, by omega, n2⟩
  have hgv0 : ∀ b a, b < B → a ∈ ch b → (pu_gk (x9 2 a) = true ↔ ¬ x9 3 a < 0) := by
    intro b a hb ha
    obtain ⟨g1, g2⟩ := hgv b a hb ha
    refine ⟨fun h => (hix (g1 h)).2.1, fun h => Classical.byContradiction fun hn => h ?_⟩
    rw [g2 hn]
    decide
  have hphg : ∀ b a, b < B → a ∈ ph b → ∃ n, n < pt_nb P fo ot ph B ∧ v10 19 a = pu_I n := fun b a hb ha =>
    hbl b _ hb (List.mem_append_left _ (List.mem_map.mpr ⟨pv_P v10 a, List.mem_map_of_mem ha, rfl⟩))
  have huss := hS.2.2.2.2.2
  refine ⟨⟨⟨⟨h00, hB0, hB⟩, ⟨by rw [s2.1]; exact s3, by rw [s2.2.1]; exact s3, by rw [s2.2.2.1]; exact s3, by rw [s2.2.2.2.1]; exact s3, by rw [s2.2.2.2.2]; exact s3, by omega⟩, ⟨by omega, by omega, by omega, by omega⟩, s5, s6, hphc, hdis, fun b hb a ha => (hix (hphg b a hb ha)).1, fun b hb a ha => ?_⟩, fun b hb a ha => ?_, fun b hb a ha => hgv0 b a hb ha, hwys, fun b hb a ha j j1 j2 => ?_⟩, fun b hb => ⟨fun h0 => ?_, fun h0 => ?_, pt_ends hbk hB hb⟩, fun b c hb hs => ?_, hS, hd, hdb, hlp, hdm, hmx, ⟨hLm, hnb, fun b hb a ha => (hix (hphg b a hb ha)).2.2, fun b hb a ha h0 => ?_⟩, fun b hb a ha => ?_, ⟨s1, R, s2, s3, ?_⟩, fun p hp hs => hno p hp ((hsw.1 p 0 hp hB0).mp hs), ⟨fun b c hb hc h23 he => ?_, fun b hb => ?_, fun b hb h22 => ?_⟩⟩
  · by_cases hg : pu_gk (x9 2 a) = true
    · exact Or.inr (hix ((hgv b a hb ha).1 hg)).1
    · exact Or.inl (by rw [(hgv b a hb ha).2 hg]; decide)
  · obtain ⟨i, l1, l2, i1, i2, i3, i4, hl⟩ := hstep b a hb ha
    have h9 := huss.1 b l1 (pv_S x9 a) l2 hb hl
    exact ⟨fun h => (hix (hav b l1 _ _ hb hl (h9.1 h))).1, fun h => (hix (hav b l1 _ _ hb hl (h9.2 h))).1⟩
  · obtain ⟨p, p1, p2, p3⟩ := hwys.2.2.2.1 b j hb j1 j2
    have h9 := huss.2.2 p b (pv_P v10 a) p1 ((hsw.1 p b p1 hb).mpr p3) (List.mem_map_of_mem ha)
    rw [p2, pu_nn (by omega)]
    exact (hix (hav p _ [] _ p1 (List.append_nil _).symm h9)).1
  · have h9 : v10 9 b = pt_ev P (pt_lor P a0) (k9 4) (fo b) (ot b) := congrArg (fun z => z.2.1) (hff b hb).2.2.1.2
    rcases pt_ev_or (P := P) (lo := pt_lor P a0) (vo := k9 4) (a := fo b) (ot b) with h8 | ⟨j, j1, j2, j3, j4⟩
    · rw [h9, h8] at h0
      exact absurd (by decide) h0
    · obtain ⟨ja, ja1, _⟩ := pt_inn hbk hb j1 j2
      obtain ⟨k, k1, k2⟩ := pt_one_lo (htx.2.1 j ja ja1) (by rcases j3 with h | h | h <;> rw [h] <;> decide)
      have hav9 := px_T_av hMM hb j1 j2 k1
      obtain ⟨r, hr⟩ := pt_sl_app (P := P) (vo := k9 4) (lo := pt_lor P a0) (ro := pt_ror P a0) (f := fo b) (i := j) (ot b) (by omega)
      have hkk : k < 2147483648 := by have := (pt_T_mem _ k1).2.1; omega
      rw [h9, j4]
      show ixb (pt_va (k9 4) (pt_lo P j (pt_T P a0 j))) 250 = true
      rw [k2, pt_va_k hkk]
      exact (hix (hav b _ r _ hb (by rw [(hff b hb).2.2.1.1]; exact hr) hav9)).1
  · have h9 := huss.2.1 b hb (h0.imp id id)
    exact (hix (hav b _ [] _ hb (List.append_nil _).symm h9)).2.1
  · exact (hsw.1 b c hb (hsw.2 b c hb hs)).mp hs
  · have hg := (hgv0 b a hb ha).mpr h0
    exact (hix ((hgv b a hb ha).1 hg)).2.2
  · obtain ⟨i, l1, l2, i1, i2, i3, i4, hl⟩ := hstep b a hb ha
    obtain ⟨ia, ia1, _⟩ := pt_inn hbk hb i1 i2
    have e2 : x9 2 a = P 9 i := congrArg Prod.fst i4
    have e4 : x9 4 a = if pt_pl (P 9 i) then P 10 i else pt_va (k9 4) (pt_lor P a0 i) := congrArg (fun z => z.2.2.1) i4
    refine ⟨fun h => ?_, fun h => ?_, fun h => ?_⟩
    · rw [e2] at h
      rw [e4, if_pos (show pt_pl (P 9 i) from Or.inr (Or.inl h))]
      exact (hcp i ia ia1).1 h
    · rw [e2] at h
      rw [e4, if_pos (show pt_pl (P 9 i) from Or.inr (Or.inr h))]
      exact (hcp i ia ia1).2 h
    · exact (hgv b a hb ha).2 fun hg => (hix ((hgv b a hb ha).1 hg)).2.1 h
  · rcases s4 with h | h
    · exact Or.inl (by omega)
    · exact Or.inr h
  · cases hz : ph c with
    | nil => rfl
    | cons a r =>
      exfalso
      have ha : a ∈ ph c := by rw [hz]; exact List.mem_cons_self
      have h9 : k9 19 a ∈ (ph c).map (k9 19) := List.mem_map_of_mem ha
      rw [hpv c hc] at h9
      obtain ⟨u, u1, _⟩ := List.mem_map.mp h9
      have h8 := List.mem_filter.mp (show u ∈ (List.range Vn).filter (fun u => pv_bt (Ph u) c) from u1)
      obtain ⟨W, hW⟩ := hvf u (List.mem_range.mp h8.1)
      obtain ⟨_, d, d1, d2⟩ := hW.2.2.2.1 c h8.2
      obtain ⟨_, p, q1, q2, q3, q4⟩ := (hbrd d d1 c (by omega)).mp d2
      obtain ⟨p', q5, q6, q7⟩ := pt_multi ⟨hsw, hG, hd, hmx, hno⟩ hc q1 d1 q2 ((hdb p d q1 d1).mp q3) (q4.imp id fun h h9 => h ((hdb c d hc d1).mpr h9))
      exact q6 ((hone b c hb hc h23 he p' q5 q7).trans (hone b c hb hc h23 he p q1 q2).symm)
  · have h9 := congrArg List.length (hpv b hb)
    rw [List.length_map, List.length_map] at h9
    have h8 := List.length_filter_le (fun u => pv_bt (Ph u) b) (List.range Vn)
    rw [List.length_range] at h8
    rw [h9]
    exact Nat.le_trans h8 hVn
  · have h9 : v10 9 b = pt_ev P (pt_lor P a0) (k9 4) (fo b) (ot b) := congrArg (fun z => z.2.1) (hff b hb).2.2.1.2
    rcases pt_ev_or (P := P) (lo := pt_lor P a0) (vo := k9 4) (a := fo b) (ot b) with h8 | ⟨j, j1, j2, j3, j4⟩
    · rw [h9, h8]; decide
    · exfalso
      by_cases hn : po b < 0
      · obtain ⟨q1, q2, _⟩ := hbk.2.1 b hb hn
        omega
      · obtain ⟨c1, c2, c3, c4, c5, g1, g2, g3, g4, g5⟩ := hbk.1 b hb hn
        have hcj : pt_cut P j := by
          rcases j3 with h | h | h
          · exact Or.inl (Or.inr (Or.inr (Or.inr h)))
          · exact Or.inl (Or.inr (Or.inl h))
          · exact Or.inl (Or.inr (Or.inr (Or.inl h)))
        have hn35 : P 9 j ≠ 35 := by rcases j3 with h | h | h <;> rw [h] <;> decide
        obtain ⟨p1, p2, _⟩ := pt_piece (P := P) (a0 := a0) (pj b) c1
        rw [c4] at j1
        have hto : j < pt_to P (pj b) := by rw [← c5]; exact j2
        unfold pt_to at hto
        by_cases e : j = pj b
        · rw [← e] at g3 g4 g5
          rcases j3 with h | h | h
          · have := (g5 h).1; rw [h22] at this; exact absurd this (by decide)
          · have := (g3 h).1; rw [h22] at this; exact absurd this (by decide)
          · have := (g4 h).1; rw [h22] at this; exact absurd this (by decide)
        · have hlt : j < pj b := by
            by_cases h35 : P 9 (pj b) = 35
            · rw [if_pos h35] at hto; exact hto
            · rw [if_neg h35] at hto; omega
          by_cases e2 : pt_fr P a0 (pj b) = j
          · rcases p2 (by omega) with h | h
            · rw [e2] at h; exact hn35 h
            · rw [e2] at h; exact h hcj
          · exact p1 j (by omega) hlt hcj
theorem pt_mr_sl (hmr : pt_mr P a0 a1 Vn B N po fo ot pj k9 v10 x9 l5 l7 n7 m9 R0 Ph ph ch wb S) : pv_sl ph B = pt_sn Ph B Vn := by
  obtain ⟨_, _, _, ⟨hrm, hM, hphc, hdis, hpv⟩, _⟩ := hmr
  have h0 : ∀ n, n ≤ B → pv_sl ph n = pt_S (fun b => pt_S (fun u => if pv_bt (Ph u) b = true then 1 else 0) Vn) n := by
    intro n
    induction n with
    | zero => intro _; rfl
    | succ n ih =>
      intro hn
      show pv_sl ph n + (ph n).length = pt_S _ n + pt_S (fun u => if pv_bt (Ph u) n = true then 1 else 0) Vn
      rw [ih (by omega)]
      congr 1
      have h9 := congrArg List.length (hpv n (by omega))
      rw [List.length_map, List.length_map] at h9
      rw [h9]
      exact pt_filter_S (fun u => pv_bt (Ph u) n) Vn
  rw [h0 B (Nat.le_refl _), pt_S_swap (fun u b => if pv_bt (Ph u) b = true then 1 else 0) Vn B, pt_sn_S]
  exact pt_S_e Vn fun u _ => (pt_bn_S (Ph u) B).symm
end MG
