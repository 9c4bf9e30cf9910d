/-! pure side, the maker 33: an op and its step, kind by kind -/
section OQ
variable {P w : ST} {a0 a1 Vn B : Nat} {A W : Nat → Nat → Prop} {po vo : Nat → Int32} {fo ot pj dm nb : Nat → Nat} {D : Nat → Nat → Prop} {vl : Nat → List Nat} {S E : Nat → Nat → Int32} {F : pu_Flow}
/-- one op: a step of the flow, or none -/
def px_G (P w : ST) (a0 Vn B : Nat) (W : Nat → Nat → Prop) (vo : Nat → Int32) (fo ot : Nat → Nat) (S : Nat → Nat → Int32) (call : pu_Call) (ar : List Int32) (b i : Nat) (e : pu_E) (m : pu_M) (q : List Int32) (o : px_O) : Prop :=
  (∃ r, o = .inl r ∧ P 9 i ≤ 21 ∧ pu_stp call ar (px_st P a0 vo i).1 (px_st P a0 vo i).2.1 (px_st P a0 vo i).2.2.1 (px_st P a0 vo i).2.2.2 e m q = some (.inl r)) ∨
  (∃ st' cl' m' e' q', o = .inr (i + 1, st', cl', m') ∧ px_R P w a0 Vn B W vo fo ot S b (i + 1) e' q' st' cl' ∧ ((P 9 i ≤ 21 ∧ pu_stp call ar (px_st P a0 vo i).1 (px_st P a0 vo i).2.1 (px_st P a0 vo i).2.2.1 (px_st P a0 vo i).2.2.2 e m q = some (.inr (e', m', q'))) ∨ (¬ P 9 i ≤ 21 ∧ e' = e ∧ q' = q ∧ m' = m)))
theorem px_two {s : List Nat} (h : 2 ≤ s.length) : ∃ k' k r, s = k' :: k :: r := by
  cases s with
  | nil => exact absurd h (by decide)
  | cons k' s =>
    cases s with
    | nil => exact absurd (show 2 ≤ 1 from h) (by decide)
    | cons k r => exact ⟨k', k, r, rfl⟩
theorem px_one1 {s : List Nat} (h : 1 ≤ s.length) : ∃ k r, s = k :: r := by
  cases s with
  | nil => exact absurd h (by decide)
  | cons k r => exact ⟨k, r, rfl⟩
theorem px_op (hM : pt_MM P w a0 a1 Vn B A W po vo fo ot pj dm nb D vl S E F) (hQc : pt_Qc P a0 a1) {call : pu_Call} {ar : List Int32} {b i : Nat} (hb : b < B) (h1 : fo b ≤ i) (h2 : i < ot b) (hnl : ¬ pt_leap P i) {e : pu_E} {m : pu_M} {q st : List Int32} {cl : Nat → Int32} (hR : px_R P w a0 Vn B W vo fo ot S b i e q st cl) {o : px_O} (hs : px_step P call ar i st cl m = some o) :
    px_G P w a0 Vn B W vo fo ot S call ar b i e m q o := by
  obtain ⟨⟨hB, hB0, h3, hVn⟩, hbk, htx, _⟩ := id hM
  obtain ⟨hia, hia1, hn⟩ := pt_inn hbk hb h1 h2
  have hen := htx.2.1 i hia hia1
  obtain ⟨n1, n2, n3, n4, n5⟩ := id hen
  obtain ⟨r1, r2, r3⟩ := id hR
  have hi : i < 3200 := by omega
  have hkl : ∀ k, k ∈ pt_T P a0 i → k < 2147483648 := fun k hk => by have := (pt_T_mem _ hk).2.1; omega
  have hTs := pt_T_s (P := P) (a := a0) (i := i) hia
  have hQs := pt_Q_s (P := P) (a := a0) (i := i) hia
  have hQ0 : P 9 i ≠ 19 → P 9 i ≠ 20 → pt_Q P a0 i = [] ∧ pt_Q P a0 (i + 1) = [] := fun g1 g2 => by
    have h9 : pt_Q P a0 i = [] := Classical.byContradiction fun h => (hQc.1 i hia hia1 h).elim g1 g2
    rw [if_neg g1, if_neg g2] at hQs
    exact ⟨h9, by rw [hQs, h9]⟩
  unfold px_step at hs
  by_cases ho : pu_isop (P 9 i) = true
  · rw [if_pos ho] at hs
    have hgk := pu_op_gk ho
    have hur := (pu_op_u ho).2
    have hne : P 9 i ≠ 19 ∧ P 9 i ≠ 20 ∧ P 9 i ≠ 21 ∧ P 9 i ≠ 0 ∧ P 9 i ≠ 17 ∧ P 9 i ≠ 18 := by
      refine ⟨?_, ?_, ?_, ?_, ?_, ?_⟩ <;> (intro h; rw [h] at ho; exact absurd ho (by decide))
    have hpop := n1
    rw [px_popo ho] at hpop
    obtain ⟨k', k, s, hT⟩ := px_two hpop
    rw [hT] at r1
    have r1 : st = e (vo k') :: e (vo k) :: s.map (fun k => e (vo k)) := r1
    rw [r1] at hs
    have hs : (if pu_fail (P 9 i) (e (vo k')) = true then some (Sum.inl (1, 0, m)) else some (Sum.inr (i + 1, pu_cmp (P 9 i) (e (vo k)) (e (vo k')) :: s.map (fun k => e (vo k)), cl, m))) = some o := hs
    have kk : k ∈ pt_T P a0 i := by rw [hT]; exact List.mem_cons_of_mem _ List.mem_cons_self
    have kk' : k' ∈ pt_T P a0 i := by rw [hT]; exact List.mem_cons_self
    have hlo : pt_lor P a0 i = pu_I k := by
      show pt_lo P i (pt_T P a0 i) = _
      unfold pt_lo
      rw [if_pos hur, hT]
      rfl
    have hro : pt_ror P a0 i = pu_I k' := by
      show pt_ro P i (pt_T P a0 i) = _
      unfold pt_ro
      rw [if_pos hur, hT]
      rfl
    have hst : px_st P a0 vo i = (P 9 i, vo i, vo k, vo k') := by
      show (P 9 i, (if pu_gk (P 9 i) = true then vo i else -1), (if pt_pl (P 9 i) then P 10 i else pt_va vo (pt_lor P a0 i)), pt_va vo (pt_ror P a0 i)) = _
      rw [if_pos hgk, if_neg (fun h => by
        rcases h with h | h | h
        · exact hne.2.2.2.1 h
        · exact hne.2.1 h
        · exact hne.2.2.1 h), hlo, hro, pt_va_k (hkl k kk), pt_va_k (hkl k' kk')]
    have hstp : pu_stp call ar (P 9 i) (vo i) (vo k) (vo k') e m q = if pu_fail (P 9 i) (e (vo k')) = true then some (.inl (1, 0, m)) else some (.inr (pu_set e (vo i) (pu_cmp (P 9 i) (e (vo k)) (e (vo k'))), m, q)) := by
      unfold pu_stp
      rw [if_neg hne.2.2.2.1, if_neg hne.2.2.1, if_neg hne.2.1, if_neg hne.2.2.2.2.1, if_neg hne.2.2.2.2.2, if_neg hne.1]
    unfold px_G
    rw [hst]
    by_cases hfl : pu_fail (P 9 i) (e (vo k')) = true
    · rw [if_pos hfl] at hs hstp
      exact Or.inl ⟨(1, 0, m), (Option.some.inj hs).symm, pu_gk21 _ hgk, hstp⟩
    · rw [if_neg hfl] at hs hstp
      obtain ⟨q1, q2⟩ := hQ0 hne.1 hne.2.1
      rw [q1] at r2
      have r2 : q = [] := r2
      rw [r2] at hstp ⊢
      refine Or.inr ⟨_, cl, m, _, [], (Option.some.inj hs).symm, px_R_set hM hb h1 h2 hgk hne.2.2.1 q2 hR (by rw [hTs, px_nxo ho, hT]; rfl) fun z hz => by rw [hT]; exact List.mem_cons_of_mem _ (List.mem_cons_of_mem _ hz), Or.inl ⟨pu_gk21 _ hgk, hstp⟩⟩
  rw [if_neg ho] at hs
  by_cases h0 : P 9 i = 0
  · rw [if_pos h0] at hs
    have hgk : pu_gk (P 9 i) = true := by rw [h0]; decide
    obtain ⟨q1, q2⟩ := hQ0 (by rw [h0]; decide) (by rw [h0]; decide)
    rw [q1] at r2
    have r2 : q = [] := r2
    have hst : px_st P a0 vo i = (P 9 i, vo i, P 10 i, pt_va vo (pt_ror P a0 i)) := by
      show (P 9 i, (if pu_gk (P 9 i) = true then vo i else -1), (if pt_pl (P 9 i) then P 10 i else pt_va vo (pt_lor P a0 i)), pt_va vo (pt_ror P a0 i)) = _
      rw [if_pos hgk, if_pos (Or.inl h0)]
    have hstp : pu_stp call ar (P 9 i) (vo i) (P 10 i) (pt_va vo (pt_ror P a0 i)) e m q = some (.inr (pu_set e (vo i) (P 10 i), m, q)) := by
      unfold pu_stp
      rw [if_pos h0]
    unfold px_G
    rw [hst]
    rw [r2] at hstp ⊢
    refine Or.inr ⟨_, cl, m, _, [], (Option.some.inj hs).symm, ?_, Or.inl ⟨pu_gk21 _ hgk, hstp⟩⟩
    rw [r1]
    exact px_R_set hM hb h1 h2 hgk (by rw [h0]; decide) q2 hR (by rw [hTs, px_nx0 h0]; rfl) fun z hz => hz
  rw [if_neg h0] at hs
  by_cases h17 : P 9 i = 17
  · rw [if_pos h17] at hs
    have hgk : pu_gk (P 9 i) = true := by rw [h17]; decide
    obtain ⟨q1, q2⟩ := hQ0 (by rw [h17]; decide) (by rw [h17]; decide)
    rw [q1] at r2
    have r2 : q = [] := r2
    have hpop := n1
    rw [px_pop17 h17] at hpop
    obtain ⟨k, s, hT⟩ := px_one1 hpop
    rw [hT] at r1
    have r1 : st = e (vo k) :: s.map (fun k => e (vo k)) := r1
    rw [r1] at hs
    have hs : some (Sum.inr (i + 1, m (nn (e (vo k) &&& 15)) :: s.map (fun k => e (vo k)), cl, m)) = some o := hs
    have kk : k ∈ pt_T P a0 i := by rw [hT]; exact List.mem_cons_self
    have hlo : pt_lor P a0 i = pu_I k := by
      show pt_lo P i (pt_T P a0 i) = _
      unfold pt_lo
      rw [if_neg (by rw [h17]; decide), if_neg (by rw [h17]; decide), if_neg (by rw [h17]; decide), if_pos (by rw [h17]; decide), hT]
      rfl
    have hst : px_st P a0 vo i = (P 9 i, vo i, vo k, pt_va vo (pt_ror P a0 i)) := by
      show (P 9 i, (if pu_gk (P 9 i) = true then vo i else -1), (if pt_pl (P 9 i) then P 10 i else pt_va vo (pt_lor P a0 i)), pt_va vo (pt_ror P a0 i)) = _
      rw [if_pos hgk, if_neg (show ¬ pt_pl (P 9 i) by rw [h17]; decide), hlo, pt_va_k (hkl k kk)]
    have hstp : pu_stp call ar (P 9 i) (vo i) (vo k) (pt_va vo (pt_ror P a0 i)) e m q = some (.inr (pu_set e (vo i) (m (nn (e (vo k) &&& 15))), m, q)) := by
      unfold pu_stp
      rw [if_neg h0, if_neg (show ¬ P 9 i = 21 by rw [h17]; decide), if_neg (show ¬ P 9 i = 20 by rw [h17]; decide), if_pos h17]
    unfold px_G
    rw [hst]
    rw [r2] at hstp ⊢
    exact Or.inr ⟨_, cl, m, _, [], (Option.some.inj hs).symm, px_R_set hM hb h1 h2 hgk (by rw [h17]; decide) q2 hR (by rw [hTs, px_nx17 h17, hT]; rfl) fun z hz => by rw [hT]; exact List.mem_cons_of_mem _ hz, Or.inl ⟨pu_gk21 _ hgk, hstp⟩⟩
  rw [if_neg h17] at hs
  by_cases h18 : P 9 i = 18
  · rw [if_pos h18] at hs
    obtain ⟨q1, q2⟩ := hQ0 (by rw [h18]; decide) (by rw [h18]; decide)
    have hpop := n1
    rw [px_pop18 h18] at hpop
    obtain ⟨k', k, s, hT⟩ := px_two hpop
    rw [hT] at r1
    have r1 : st = e (vo k') :: e (vo k) :: s.map (fun k => e (vo k)) := r1
    rw [r1] at hs
    have hs : some (Sum.inr (i + 1, s.map (fun k => e (vo k)), cl, fun z => if z = nn (e (vo k) &&& 15) then e (vo k') else m z)) = some o := hs
    have kk : k ∈ pt_T P a0 i := by rw [hT]; exact List.mem_cons_of_mem _ List.mem_cons_self
    have kk' : k' ∈ pt_T P a0 i := by rw [hT]; exact List.mem_cons_self
    have hur : pu_ur (P 9 i) = true := by rw [h18]; decide
    have hlo : pt_lor P a0 i = pu_I k := by
      show pt_lo P i (pt_T P a0 i) = _
      unfold pt_lo
      rw [if_pos hur, hT]
      rfl
    have hro : pt_ror P a0 i = pu_I k' := by
      show pt_ro P i (pt_T P a0 i) = _
      unfold pt_ro
      rw [if_pos hur, hT]
      rfl
    have hst : px_st P a0 vo i = (P 9 i, -1, vo k, vo k') := by
      show (P 9 i, (if pu_gk (P 9 i) = true then vo i else -1), (if pt_pl (P 9 i) then P 10 i else pt_va vo (pt_lor P a0 i)), pt_va vo (pt_ror P a0 i)) = _
      rw [if_neg (show ¬ pu_gk (P 9 i) = true by rw [h18]; decide), if_neg (show ¬ pt_pl (P 9 i) by rw [h18]; decide), hlo, hro, pt_va_k (hkl k kk), pt_va_k (hkl k' kk')]
    have hstp : pu_stp call ar (P 9 i) (-1) (vo k) (vo k') e m q = some (.inr (e, (fun z => if z = nn (e (vo k) &&& 15) then e (vo k') else m z), q)) := by
      unfold pu_stp
      rw [if_neg h0, if_neg (show ¬ P 9 i = 21 by rw [h18]; decide), if_neg (show ¬ P 9 i = 20 by rw [h18]; decide), if_neg h17, if_pos h18]
    unfold px_G
    rw [hst]
    exact Or.inr ⟨_, cl, _, e, q, (Option.some.inj hs).symm, px_R_pass h1 h2 (fun v h => by
      rcases h.1 with h | h | h <;> (rw [h18] at h; exact absurd h (by decide))) (by rw [q1, q2]) hR (by rw [hTs, px_nx18 h18, hT]; rfl), Or.inl ⟨by rw [h18]; decide, hstp⟩⟩
  rw [if_neg h18] at hs
  by_cases h20 : P 9 i = 20
  · rw [if_pos h20] at hs
    have hgk : pu_gk (P 9 i) = true := by rw [h20]; decide
    have hQi := hQc.2 i hia hia1 h20
    have hq : (st.take (px_n P i)).reverse = q := by
      rw [r2, hQi, r1, List.map_reverse, List.map_take]
    have hq2 : pt_Q P a0 (i + 1) = [] := by rw [hQs, if_neg (show ¬ P 9 i = 19 by rw [h20]; decide), if_pos h20]
    have hst : px_st P a0 vo i = (P 9 i, vo i, P 10 i, pt_va vo (pt_ror P a0 i)) := by
      show (P 9 i, (if pu_gk (P 9 i) = true then vo i else -1), (if pt_pl (P 9 i) then P 10 i else pt_va vo (pt_lor P a0 i)), pt_va vo (pt_ror P a0 i)) = _
      rw [if_pos hgk, if_pos (Or.inr (Or.inl h20))]
    have hstp : pu_stp call ar (P 9 i) (vo i) (P 10 i) (pt_va vo (pt_ror P a0 i)) e m q = (call (P 10 i) q m).bind fun o => if o.1 = 0 then some (.inr (pu_set e (vo i) o.2.1, o.2.2, [])) else some (.inl o) := by
      unfold pu_stp
      rw [if_neg h0, if_neg (show ¬ P 9 i = 21 by rw [h20]; decide), if_pos h20]
    have hpp : pt_pop P i = px_n P i := by
      unfold pt_pop
      rw [if_neg (by rw [h20]; decide), if_neg (by rw [h20]; decide), if_neg (by rw [h20]; decide), if_neg (by rw [h20]; decide), if_pos h20]
    unfold px_G
    rw [hst]
    rw [hq] at hs
    cases hc : call (P 10 i) q m with
    | none => rw [hc] at hs; cases hs
    | some o1 =>
      rw [hc, Option.bind_some] at hs hstp
      by_cases hz : o1.1 = 0
      · rw [if_pos hz] at hs hstp
        refine Or.inr ⟨_, cl, _, _, [], (Option.some.inj hs).symm, ?_, Or.inl ⟨pu_gk21 _ hgk, hstp⟩⟩
        rw [r1, ← List.map_drop]
        refine px_R_set hM hb h1 h2 hgk (by rw [h20]; decide) hq2 hR ?_ fun z hz => List.mem_of_mem_drop hz
        rw [hTs]
        unfold pt_nx
        rw [hpp, if_pos (by rw [h20]; decide)]
      · rw [if_neg hz] at hs hstp
        exact Or.inl ⟨o1, (Option.some.inj hs).symm, pu_gk21 _ hgk, hstp⟩
  rw [if_neg h20] at hs
  by_cases h21 : P 9 i = 21
  · rw [if_pos h21] at hs
    have hgk : pu_gk (P 9 i) = true := by rw [h21]; decide
    obtain ⟨q1, q2⟩ := hQ0 (by rw [h21]; decide) (by rw [h21]; decide)
    obtain ⟨u, u1, u2⟩ := htx.2.2.1 i hia hia1 (Or.inr (Or.inr (Or.inr h21)))
    have hun : nn (P 10 i) = u := by rw [u2, pu_nn (by omega)]
    have hst : px_st P a0 vo i = (P 9 i, vo i, P 10 i, pt_va vo (pt_ror P a0 i)) := by
      show (P 9 i, (if pu_gk (P 9 i) = true then vo i else -1), (if pt_pl (P 9 i) then P 10 i else pt_va vo (pt_lor P a0 i)), pt_va vo (pt_ror P a0 i)) = _
      rw [if_pos hgk, if_pos (Or.inr (Or.inr h21))]
    have hstp : pu_stp call ar (P 9 i) (vo i) (P 10 i) (pt_va vo (pt_ror P a0 i)) e m q = some (.inr (pu_set e (vo i) (ar.getD (nn (P 10 i)) 0), m, q)) := by
      unfold pu_stp
      rw [if_neg h0, if_pos h21]
    have r2' : q = [] := by rw [r2, q1]; rfl
    unfold px_G
    rw [hst]
    refine Or.inr ⟨_, _, m, _, q, (Option.some.inj hs).symm, ⟨?_, by rw [q2, r2']; rfl, fun v hv hw => ?_⟩, Or.inl ⟨pu_gk21 _ hgk, hstp⟩⟩
    · rw [r1, hTs, px_nx21 h21]
      exact List.map_congr_left fun k hk => (pu_set_n (px_keep hM hb h1 h2 hgk (px_T_av hM hb h1 h2 hk))).symm
    · rw [pt_nw_s h1, if_neg (fun h => by rw [h21] at h; exact absurd h.1 (by decide)), hun]
      unfold px_set
      by_cases ev : v = u
      · rw [if_pos ⟨h21, by rw [u2, ev]⟩, if_pos ev, pu_set_s]
      · have hne : ¬ P 10 i = pu_I v := fun h => ev (pu_inj (by omega) (by omega) (h.symm.trans u2))
        have hw' := pt_wn_s h2 hw fun h => hne h.2
        rw [if_neg fun h => hne h.2, if_neg ev, pu_set_n (px_keep hM hb h1 h2 hgk (px_nw_av hM hb h1 (by omega) hv hw'))]
        exact r3 v hv hw'
  rw [if_neg h21, if_neg fun h => hnl (Or.inl h), if_neg fun h => hnl (Or.inr (Or.inr (Or.inr h)))] at hs
  by_cases h19 : P 9 i = 19
  · rw [if_neg (show ¬ P 9 i = 30 by rw [h19]; decide), if_neg (show ¬ P 9 i = 31 by rw [h19]; decide), if_neg (show ¬ P 9 i = 32 by rw [h19]; decide), if_neg fun h => hnl (Or.inr (Or.inl h)), if_neg fun h => hnl (Or.inr (Or.inr (Or.inl h))), if_neg (show ¬ P 9 i = 36 by rw [h19]; decide)] at hs
    obtain ⟨t, t1, t2, t3⟩ := n2 h19
    have htn : nn (P 10 i) = t := by rw [t1, pu_nn (by omega)]
    have hgd : (pt_T P a0 i).getD (t - 1) 0 = (pt_T P a0 i)[t - 1]'(by omega) := by
      rw [List.getD_eq_getElem?_getD, List.getElem?_eq_getElem (by omega)]
      rfl
    have hkm : (pt_T P a0 i).getD (t - 1) 0 ∈ pt_T P a0 i := by rw [hgd]; exact List.getElem_mem _
    have hlo : pt_lor P a0 i = pu_I ((pt_T P a0 i).getD (t - 1) 0) := by
      show pt_lo P i (pt_T P a0 i) = _
      unfold pt_lo pt_at
      rw [if_neg (by rw [h19]; decide), if_pos h19, htn, hgd, List.getElem?_eq_getElem (by omega)]
    have hst : px_st P a0 vo i = (P 9 i, -1, vo ((pt_T P a0 i).getD (t - 1) 0), pt_va vo (pt_ror P a0 i)) := by
      show (P 9 i, (if pu_gk (P 9 i) = true then vo i else -1), (if pt_pl (P 9 i) then P 10 i else pt_va vo (pt_lor P a0 i)), pt_va vo (pt_ror P a0 i)) = _
      rw [if_neg (show ¬ pu_gk (P 9 i) = true by rw [h19]; decide), if_neg (show ¬ pt_pl (P 9 i) by rw [h19]; decide), hlo, pt_va_k (hkl _ hkm)]
    have hstp : pu_stp call ar (P 9 i) (-1) (vo ((pt_T P a0 i).getD (t - 1) 0)) (pt_va vo (pt_ror P a0 i)) e m q = some (.inr (e, m, q ++ [e (vo ((pt_T P a0 i).getD (t - 1) 0))])) := by
      unfold pu_stp
      rw [if_neg h0, if_neg h21, if_neg h20, if_neg h17, if_neg h18, if_pos h19]
    unfold px_G
    rw [hst]
    refine Or.inr ⟨_, cl, m, e, _, (Option.some.inj hs).symm, ⟨by rw [r1, hTs, px_nx19 h19]; rfl, ?_, fun v hv hw => ?_⟩, Or.inl ⟨by rw [h19]; decide, hstp⟩⟩
    · rw [hQs, if_pos h19, htn, List.map_append, ← r2]
      rfl
    · have hna : ¬ pt_as P v i := fun h => by rcases h.1 with h | h | h <;> (rw [h19] at h; exact absurd h (by decide))
      rw [pt_nw_s h1, if_neg fun h => hna ⟨h.1.elim Or.inl fun h => Or.inr (Or.inl h), h.2⟩, if_neg fun h => hna ⟨Or.inr (Or.inr h.1), h.2⟩]
      exact r3 v hv (pt_wn_s h2 hw hna)
  have h22 : ¬ P 9 i ≤ 21 := by
    intro h
    rcases htx.1 i hia hia1 h with h9 | h9 | h9
    · rcases px_gk_cases h9 with h8 | h8 | h8 | h8 | h8
      · exact ho h8
      · exact h0 h8
      · exact h17 h8
      · exact h20 h8
      · exact h21 h8
    · exact h18 h9
    · exact h19 h9
  obtain ⟨q1, q2⟩ := hQ0 h19 h20
  have hqq : pt_Q P a0 (i + 1) = pt_Q P a0 i := by rw [q1, q2]
  unfold px_G
  refine Or.inr ?_
  by_cases h30 : P 9 i = 30
  · rw [if_pos h30] at hs
    obtain ⟨u, u1, u2⟩ := htx.2.2.1 i hia hia1 (Or.inl h30)
    have hun : nn (P 10 i) = u := by rw [u2, pu_nn (by omega)]
    have hw := pt_wn_get (w := w) (B := B) (ot := ot) (W := W) h2 h30 u2
    refine ⟨_, cl, m, e, q, (Option.some.inj hs).symm, px_R_pass h1 h2 (fun v h => by
      rcases h.1 with h | h | h <;> (rw [h30] at h; exact absurd h (by decide))) hqq hR ?_, Or.inr ⟨h22, rfl, rfl, rfl⟩⟩
    rw [hTs, px_nx30 h30, r1, hun, ← r3 u u1 hw, ← hM.2.2.2.2.2.1.2.2.1 b i u hb h1 h2 h30 u2 u1]
    rfl
  rw [if_neg h30] at hs
  have hvar : (P 9 i = 31 ∨ P 9 i = 32) → ∃ u, u < 320 ∧ P 10 i = pu_I u ∧ nn (P 10 i) = u := fun h => by
    obtain ⟨u, u1, u2⟩ := htx.2.2.1 i hia hia1 (h.elim (fun h => Or.inr (Or.inl h)) (fun h => Or.inr (Or.inr (Or.inl h))))
    exact ⟨u, by omega, u2, by rw [u2, pu_nn (by omega)]⟩
  by_cases h31 : P 9 i = 31
  · rw [if_pos h31] at hs
    obtain ⟨u, u1, u2, hun⟩ := hvar (Or.inl h31)
    have hpop := n1
    rw [px_pop31 h31] at hpop
    obtain ⟨k, s, hT⟩ := px_one1 hpop
    rw [hT] at r1
    have r1 : st = e (vo k) :: s.map (fun k => e (vo k)) := r1
    rw [r1] at hs
    have hs : some (Sum.inr (i + 1, s.map (fun k => e (vo k)), px_set cl (nn (P 10 i)) (e (vo k)), m)) = some o := hs
    have kk : k ∈ pt_T P a0 i := by rw [hT]; exact List.mem_cons_self
    have hlo : pt_lor P a0 i = pu_I k := by
      show pt_lo P i (pt_T P a0 i) = _
      unfold pt_lo
      rw [if_neg (by rw [h31]; decide), if_neg (by rw [h31]; decide), if_neg (by rw [h31]; decide), if_pos (by rw [h31]; decide), hT]
      rfl
    rw [hun] at hs
    exact ⟨_, _, m, e, q, (Option.some.inj hs).symm, px_R_var h1 h2 u2 u1 hVn (Or.inl h31) hqq hR (by rw [hTs, px_nx31 h31, hT]; rfl) (by rw [hlo, pt_va_k (hkl k kk)]), Or.inr ⟨h22, rfl, rfl, rfl⟩⟩
  rw [if_neg h31] at hs
  by_cases h32 : P 9 i = 32
  · rw [if_pos h32] at hs
    obtain ⟨u, u1, u2, hun⟩ := hvar (Or.inr h32)
    obtain ⟨k, s, hT⟩ := px_one1 (n3 h32)
    rw [hT] at r1
    have r1 : st = e (vo k) :: s.map (fun k => e (vo k)) := r1
    rw [r1] at hs
    have hs : some (Sum.inr (i + 1, e (vo k) :: s.map (fun k => e (vo k)), px_set cl (nn (P 10 i)) (e (vo k)), m)) = some o := hs
    have kk : k ∈ pt_T P a0 i := by rw [hT]; exact List.mem_cons_self
    have hlo : pt_lor P a0 i = pu_I k := by
      show pt_lo P i (pt_T P a0 i) = _
      unfold pt_lo
      rw [if_neg (by rw [h32]; decide), if_neg (by rw [h32]; decide), if_pos h32, hT]
      rfl
    rw [hun] at hs
    exact ⟨_, _, m, e, q, (Option.some.inj hs).symm, px_R_var h1 h2 u2 u1 hVn (Or.inr h32) hqq hR (by rw [hTs, px_nx32 h32, hT]; rfl) (by rw [hlo, pt_va_k (hkl k kk)]), Or.inr ⟨h22, rfl, rfl, rfl⟩⟩
  rw [if_neg h32, if_neg fun h => hnl (Or.inr (Or.inl h)), if_neg fun h => hnl (Or.inr (Or.inr (Or.inl h)))] at hs
  have hnas : ∀ v, ¬ pt_as P v i := fun v h => by
    rcases h.1 with h | h | h
    · exact h31 h
    · exact h32 h
    · exact h21 h
  by_cases h36 : P 9 i = 36
  · rw [if_pos h36] at hs
    have hpop := n1
    rw [px_pop36 h36] at hpop
    obtain ⟨k, s, hT⟩ := px_one1 hpop
    rw [hT] at r1
    have r1 : st = e (vo k) :: s.map (fun k => e (vo k)) := r1
    rw [r1] at hs
    have hs : some (Sum.inr (i + 1, s.map (fun k => e (vo k)), cl, m)) = some o := hs
    exact ⟨_, cl, m, e, q, (Option.some.inj hs).symm, px_R_pass h1 h2 hnas hqq hR (by rw [hTs, px_nx36 h36, hT]; rfl), Or.inr ⟨h22, rfl, rfl, rfl⟩⟩
  rw [if_neg h36] at hs
  refine ⟨_, cl, m, e, q, (Option.some.inj hs).symm, px_R_pass h1 h2 hnas hqq hR ?_, Or.inr ⟨h22, rfl, rfl, rfl⟩⟩
  have hur : ¬ pu_ur (P 9 i) = true := by
    unfold pu_ur
    rw [decide_eq_true_iff]
    rintro (h | h)
    · exact ho (by unfold pu_isop; exact decide_eq_true h)
    · exact h18 h
  have hone : ¬ pt_one (P 9 i) = true := by
    unfold pt_one
    rw [decide_eq_true_iff]
    rintro (h | h | h | h | h | h)
    · exact h17 h
    · exact h31 h
    · exact h36 h
    · exact hnl (Or.inr (Or.inr (Or.inr h)))
    · exact hnl (Or.inr (Or.inl h))
    · exact hnl (Or.inr (Or.inr (Or.inl h)))
  have hgvn : ¬ pt_gv (P 9 i) = true := by
    unfold pt_gv
    rw [Bool.or_eq_true, decide_eq_true_iff]
    rintro (h | h | h | h | h)
    · exact ho h
    · exact h0 h
    · exact h17 h
    · exact h20 h
    · exact h30 h
  have hpp : pt_pop P i = 0 := by
    unfold pt_pop
    rw [if_neg hur, if_neg h19, if_neg h32, if_neg hone, if_neg h20]
  rw [hTs]
  unfold pt_nx
  rw [if_neg hgvn, hpp, r1]
  rfl
end OQ
