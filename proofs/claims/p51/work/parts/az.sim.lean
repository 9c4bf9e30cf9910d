/-! pure side, the maker 34: the flow does what the text does -/
theorem pu_run_mono {F : pu_Flow} {call : pu_Call} {ar : List Int32} : ∀ (n n' b p : Nat) (σ : pu_S) (r : pu_Res), n ≤ n' → pu_run F call ar n b p σ = some r → pu_run F call ar n' b p σ = some r := by
  intro n
  induction n with
  | zero => intro n' b p σ r _ h; cases h
  | succ n ih =>
    intro n' b p σ r hn h
    obtain ⟨k, rfl⟩ : ∃ k, n' = k + 1 := ⟨n' - 1, by omega⟩
    unfold pu_run at h ⊢
    obtain ⟨o, ho, hk⟩ := bnd9 h
    rw [ho, Option.bind_some]
    cases o with
    | inl z => exact hk
    | inr x =>
      have hk : (if x.2.2.2 = [] then pu_run F call ar n x.1 b x.2 else none) = some r := hk
      show (if x.2.2.2 = [] then pu_run F call ar k x.1 b x.2 else none) = some r
      by_cases h9 : x.2.2.2 = []
      · rw [if_pos h9] at hk ⊢
        exact ih k _ _ _ _ (by omega) hk
      · rw [if_neg h9] at hk; cases hk
section SM
variable {P w : ST} {a0 a1 Vn B : Nat} {A W : Nat → Nat → Prop} {po vo : Nat → Int32} {fo ot pj dm nb : Nat → Nat} {D : Nat → Nat → Prop} {vl : Nat → List Nat} {S E : Nat → Nat → Int32} {F : pu_Flow}
/-- the machine of the text and the flow, where a block begins, behind its phis -/
def px_B (P w : ST) (a0 Vn : Nat) (W : Nat → Nat → Prop) (po vo : Nat → Int32) (fo : Nat → Nat) (S : Nat → Nat → Int32) (b : Nat) (e : pu_E) (st : List Int32) (cl : Nat → Int32) : Prop :=
  st = (pt_T P a0 (pt_psn po w fo b)).map (fun k => e (vo k)) ∧ ∀ v, v < Vn → W v b → e (S b v) = cl v
theorem px_edge (hM : pt_MM P w a0 a1 Vn B A W po vo fo ot pj dm nb D vl S E F) {b c : Nat} (hb : b < B) (hc : c < B) (he : pv_eg w b c) {e : pu_E} {st : List Int32} {cl : Nat → Int32} (hst : st = (pt_T P a0 (pt_pen po w fo ot b)).map (fun k => e (vo k))) (hcl : ∀ v, v < Vn → pt_wn P w B ot W b (ot b) v → e (E b v) = cl v) :
    px_B P w a0 Vn W po vo fo S c (pu_phs (F c).1 b e) st cl := by
  obtain ⟨⟨hB, hB0, h3, hVn⟩, hbk, htx, hd, hp, hv, hf, hfo, hS⟩ := hM
  have hval := pt_valid hB hB0 h3 hVn hbk htx hd hp hv hfo
  have havl := pt_avl hB hB0 h3 hVn hbk htx hd hv hf hfo
  have hG := hd.2.1
  have hU := hS.2.2.2.2.1
  obtain ⟨f1, f2, _, f4⟩ := hf c hc
  -- a value that was there ahead of c is no phi of c
  have hold : ∀ d x, d < c → (∃ i, fo d ≤ i ∧ i ≤ ot d ∧ pt_Av F D d (px_sl P a0 vo (fo d) i) x) → x ≠ -1 → pu_phs (F c).1 b e x = e x := by
    intro d x hdc ⟨i, i1, i2, ha⟩ hx
    have hdB : d < B := by omega
    have ha := ha.resolve_left hx
    obtain ⟨r, hr⟩ := pt_sl_app (P := P) (vo := vo) (lo := pt_lor P a0) (ro := pt_ror P a0) (f := fo d) (ot d) i2
    have hFd : (F d).2.1 = px_sl P a0 vo (fo d) i ++ r := by rw [(hf d hdB).2.2.1.1, hr]
    refine pu_phs_n fun z hz e9 => ?_
    have hzc := pu_bl_p hz
    rw [e9] at hzc
    rcases pu_av_bl hFd ha with h | ⟨d', _, d2, d3⟩
    · have := hU.2 d c x hdB hc h hzc
      omega
    · have h9 := hG.2.1 d d' hdB d2
      have := hU.2 d' c x h9.2 hc d3 hzc
      omega
  refine ⟨?_, fun v hvn hW => ?_⟩
  · rw [hst, ← pt_T_edge hB hbk htx.2.2.2.2.1 hb hc he]
    refine List.map_congr_left fun k hk => ?_
    obtain ⟨d, d1, d2, d3, _⟩ := pt_wait_dom hB hB0 hbk htx.2.2.2.2.1 hd.1 hG hd.2.2.1 hc hk
    have hgv := (pt_T_mem _ hk).2.2
    exact (hold d (vo k) d1 ⟨ot d, hfo d (by omega), Nat.le_refl _, (havl d (by omega) (ot d) (hfo d (by omega)) (Nat.le_refl _)).2 k d2 d3 hgv⟩ ((hval d (by omega)).2 k d2 d3 hgv)).symm
  · by_cases hin : v ∈ vl c
    · obtain ⟨x, x1, x2, x3⟩ := f4 v hin
      have hnd : ((F c).1.map Prod.fst).Nodup := by
        have h9 := hU.1 c hc
        exact (List.nodup_append.mp h9).1
      rw [← x2, pu_phs_s hnd x1, x3 b hb he]
      exact hcl v hvn (pt_wn_e hc he hW)
    · have hc0 : c ≠ 0 := fun h => hd.2.2.2.2 b hb (by rw [← h]; exact he)
      obtain ⟨m1, m2, _⟩ := hd.2.2.2.1 c hc hc0
      have hsame := pt_same hd hp hv hc hb hc0 hvn he hW hin
      have hSc : S c v = E (dm c) v := by rw [hv.1 c v hc hvn hin, if_neg hc0]
      have hne : E (dm c) v ≠ -1 := by
        rw [← hsame, hv.2.1 b v hb hvn]
        exact (hval b hb).1 (ot b) v (hfo b hb) (Nat.le_refl _) hvn (pt_wn_e hc he hW)
      rw [hSc, hold (dm c) (E (dm c) v) m1 ⟨ot (dm c), hfo _ (by omega), Nat.le_refl _, by
        rw [hv.2.1 (dm c) v (by omega) hvn]
        exact (havl (dm c) (by omega) (ot (dm c)) (hfo _ (by omega)) (Nat.le_refl _)).1 v hvn⟩ hne, ← hsame]
      exact hcl v hvn (pt_wn_e hc he hW)
theorem px_Q_fr (hQc : pt_Qc P a0 a1) : ∀ j, a0 ≤ j → j < a1 → pt_Q P a0 (pt_fr P a0 j) = [] := by
  intro j
  induction j with
  | zero => intro h _; rw [pt_fr_a P a0 0 (by omega), pt_Q_a P a0 a0 (Nat.le_refl _)]
  | succ j ih =>
    intro h h1
    by_cases e : a0 = j + 1
    · rw [pt_fr_a P a0 (j + 1) (by omega), pt_Q_a P a0 a0 (Nat.le_refl _)]
    · have hq : P 9 j ≠ 19 → P 9 j ≠ 20 → pt_Q P a0 j = [] := fun g1 g2 => Classical.byContradiction fun h => (hQc.1 j (by omega) (by omega) h).elim g1 g2
      rw [pt_fr_s (by omega)]
      by_cases h35 : P 9 j = 35
      · rw [if_pos h35]
        exact hq (by rw [h35]; decide) (by rw [h35]; decide)
      · rw [if_neg h35]
        by_cases hl : pt_leap P j
        · have g : P 9 j ≠ 19 ∧ P 9 j ≠ 20 := by
            rcases hl with h | h | h | h <;> rw [h] <;> decide
          rw [if_pos hl, pt_Q_s (by omega), if_neg g.1, if_neg g.2]
          exact hq g.1 g.2
        · rw [if_neg hl]
          exact ih (by omega) (by omega)
/-- within a block: as far as its cut, or to an end of the run -/
theorem px_blk (hM : pt_MM P w a0 a1 Vn B A W po vo fo ot pj dm nb D vl S E F) (hQc : pt_Qc P a0 a1) {call : pu_Call} {ar : List Int32} {b : Nat} (hb : b < B) (hn : ¬ po b < 0) {e0 : pu_E} {m0 : pu_M} {r : pu_Res} :
    ∀ (d n i : Nat) (e : pu_E) (m : pu_M) (q st : List Int32) (cl : Nat → Int32), pj b - i = d → fo b ≤ i → i ≤ pj b → pu_steps call ar (px_sl P a0 vo (fo b) i) (e0, m0, []) = some (.inr (e, m, q)) → px_R P w a0 Vn B W vo fo ot S b i e q st cl → px_run P call ar n i st cl m = some r →
      (pu_steps call ar (F b).2.1 (e0, m0, []) = some (.inl r)) ∨ (∃ n' e' m' q' st' cl', n' ≤ n ∧ (n' = n → i = pj b) ∧ pu_steps call ar (px_sl P a0 vo (fo b) (pj b)) (e0, m0, []) = some (.inr (e', m', q')) ∧ px_R P w a0 Vn B W vo fo ot S b (pj b) e' q' st' cl' ∧ px_run P call ar n' (pj b) st' cl' m' = some r) := by
  obtain ⟨⟨hB, hB0, h3, hVn⟩, hbk, htx, hd, hp, hv, hf, hfo, hS⟩ := id hM
  obtain ⟨p1, p2, p3, p4, p5, _⟩ := hbk.1 b hb hn
  obtain ⟨z1, z2, _⟩ := pt_piece (P := P) (a0 := a0) (pj b) p1
  have hot : pj b ≤ ot b := by
    rw [p5]
    unfold pt_to
    by_cases h : P 9 (pj b) = 35
    · rw [if_pos h]; exact Nat.le_refl _
    · rw [if_neg h]; omega
  intro d
  induction d with
  | zero =>
    intro n i e m q st cl hd h1 h2 hs hR hr
    have : i = pj b := by omega
    subst this
    exact Or.inr ⟨n, e, m, q, st, cl, Nat.le_refl _, fun _ => rfl, hs, hR, hr⟩
  | succ d ih =>
    intro n i e m q st cl hd h1 h2 hs hR hr
    have hlt : i < pj b := by omega
    have hnl : ¬ pt_leap P i := by
      intro hl
      by_cases e9 : i = pt_fr P a0 (pj b)
      · rcases z2 (by omega) with h | h
        · rw [← e9] at h
          rcases hl with h8 | h8 | h8 | h8 <;> (rw [h] at h8; exact absurd h8 (by decide))
        · rw [← e9] at h
          exact h (Or.inl hl)
      · exact z1 i (by omega) hlt (Or.inl hl)
    cases n with
    | zero => cases hr
    | succ n =>
      unfold px_run at hr
      obtain ⟨o, ho, hk⟩ := bnd9 hr
      have hsl := pt_sl_s (P := P) (lo := pt_lor P a0) (ro := pt_ror P a0) (vo := vo) (a := fo b) (i := i) h1
      rcases px_op hM hQc hb h1 (by omega) hnl hR ho with ⟨r1, rfl, g1, g2⟩ | ⟨st', cl', m', e', q', rfl, g1, g2⟩
      · have hr1 : r1 = r := Option.some.inj hk
        subst hr1
        obtain ⟨t, ht⟩ := pt_sl_app (P := P) (vo := vo) (lo := pt_lor P a0) (ro := pt_ror P a0) (f := fo b) (i := i + 1) (ot b) (by omega)
        left
        rw [(hf b hb).2.2.1.1, ht, hsl, if_pos g1, List.append_assoc, pu_steps_app, hs, Option.bind_some]
        show pu_steps call ar (px_st P a0 vo i :: t) (e, m, q) = _
        unfold pu_steps
        show (pu_stp call ar (px_st P a0 vo i).1 (px_st P a0 vo i).2.1 (px_st P a0 vo i).2.2.1 (px_st P a0 vo i).2.2.2 e m q).bind _ = _
        rw [g2]
        rfl
      · have hs' : pu_steps call ar (px_sl P a0 vo (fo b) (i + 1)) (e0, m0, []) = some (.inr (e', m', q')) := by
          show pu_steps call ar (pt_sl P (pt_lor P a0) (pt_ror P a0) vo (fo b) (i + 1)) (e0, m0, []) = _
          rcases g2 with ⟨g2, g3⟩ | ⟨g2, rfl, rfl, rfl⟩
          · rw [hsl, if_pos g2, pu_steps_app, hs, Option.bind_some]
            show pu_steps call ar [px_st P a0 vo i] (e, m, q) = _
            unfold pu_steps
            show (pu_stp call ar (px_st P a0 vo i).1 (px_st P a0 vo i).2.1 (px_st P a0 vo i).2.2.1 (px_st P a0 vo i).2.2.2 e m q).bind _ = _
            rw [g3]
            rfl
          · rw [hsl, if_neg g2, List.append_nil]
            exact hs
        rcases ih n (i + 1) e' m' q' st' cl' (by omega) (by omega) (by omega) hs' g1 hk with h | ⟨n', e2, m2, q2, st2, cl2, k1, k2, k3⟩
        · exact Or.inl h
        · exact Or.inr ⟨n', e2, m2, q2, st2, cl2, by omega, fun e9 => by omega, k3⟩
end SM
