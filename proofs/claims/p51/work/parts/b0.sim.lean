/-! pure side, the maker 35: the flow does what the text does, whole -/
section SX
variable {P w : ST} {a0 a1 Vn B : Nat} {A W : Nat → Nat → Prop} {po vo : Nat → Int32} {fo ot pj dm nb : Nat → Nat} {D : Nat → Nat → Prop} {vl : Nat → List Nat} {S E : Nat → Nat → Int32} {F : pu_Flow}
/-- a block leads to a piece's block, straight or by one without ops -/
def px_to (po : Nat → Int32) (w : ST) (B : Nat) (c0 t : Nat) : Prop := t < B ∧ ¬ po t < 0 ∧ (c0 = t ∨ (c0 < B ∧ po c0 < 0 ∧ w 10 c0 = pu_I t))
theorem px_hop (hM : pt_MM P w a0 a1 Vn B A W po vo fo ot pj dm nb D vl S E F) {call : pu_Call} {ar : List Int32} {b c0 t k n : Nat} (hb : b < B) (hc0 : c0 < B) (he : pv_eg w b c0) (ht : px_to po w B c0 t) {e : pu_E} {m : pu_M} {st : List Int32} {cl : Nat → Int32} {r : pu_Res} (hst : st = (pt_T P a0 (pt_pen po w fo ot b)).map (fun k => e (vo k))) (hcl : ∀ v, v < Vn → pt_wn P w B ot W b (ot b) v → e (E b v) = cl v)
    (hr : px_run P call ar n (fo t) st cl m = some r) (hC : ∀ (p : Nat) (e : pu_E), px_B P w a0 Vn W po vo fo S t (pu_phs (F t).1 p e) st cl → pu_run F call ar k t p (e, m, []) = some r) : pu_run F call ar (k + 1) c0 b (e, m, []) = some r := by
  have hB1 := px_edge hM hb hc0 he hst hcl
  obtain ⟨⟨hB, hB0, h3, hVn⟩, hbk, htx, hd, hp, hv, hf, hfo, hS⟩ := id hM
  obtain ⟨t1, t2, rfl | ⟨t3, t4, t5⟩⟩ := ht
  · exact pu_run_mono k (k + 1) _ _ _ _ (by omega) (hC b e hB1)
  · obtain ⟨s1, s2, s3, s4, _⟩ := hbk.2.1 c0 t3 t4
    obtain ⟨_, _, ⟨f3, f4⟩, _⟩ := hf c0 hc0
    have hegt : pv_eg w c0 t := Or.inl t5
    have hpsn : pt_psn po w fo c0 = pt_pen po w fo ot c0 := by unfold pt_psn pt_pen; rw [if_pos t4, if_pos t4]
    have hB2 := px_edge hM hc0 t1 hegt (e := pu_phs (F c0).1 b e) (st := st) (cl := cl) (by rw [← hpsn]; exact hB1.1) (fun v hvn hw => by
      have h9 : E c0 v = S c0 v := by rw [hv.2.1 c0 v hc0 hvn, pt_nw_a _ _ _ _ _ _ _ (by omega)]
      rw [h9]
      exact hB1.2 v hvn (pt_wn_0 hp hc0 hvn (by rw [s1, ← s2]; exact hw)))
    have hrun := hC c0 _ hB2
    show pu_run F call ar (k + 1) c0 b (e, m, []) = some r
    unfold pu_run
    have hblk : pu_blk F call ar c0 b (e, m, []) = some (.inr (t, (pu_phs (F c0).1 b e, m, []))) := by
      unfold pu_blk
      rw [f3, s1, s2, pt_sl_a _ _ _ _ _ _ (Nat.le_refl _), f4, s3]
      show some (pu_end (22, _, w 10 c0, w 11 c0) (pu_phs (F c0).1 b e, m, [])) = _
      unfold pu_end
      rw [if_neg (show ¬ (22 : Int32) = 24 by decide), if_neg (fun h => absurd (show (22 : Int32) = 23 from h.1) (by decide)), t5, pu_nn (show t < 2147483648 by omega)]
    rw [hblk, Option.bind_some]
    show (if ([] : List Int32) = [] then _ else none) = _
    rw [if_pos rfl]
    exact hrun
/-- a block's cut -/
theorem px_cut (hM : pt_MM P w a0 a1 Vn B A W po vo fo ot pj dm nb D vl S E F) (hLa : ∀ j s, a0 ≤ j → j < a1 → (P 9 j = 22 ∨ P 9 j = 33 ∨ P 9 j = 34) → pt_lab P a0 a1 j s → P 13 (nn (P 10 j)) = pu_I s) {call : pu_Call} {ar : List Int32} {b : Nat} (hb : b < B) (hn : ¬ po b < 0) {e : pu_E} {m : pu_M} {q st : List Int32} {cl : Nat → Int32} (hR : px_R P w a0 Vn B W vo fo ot S b (pj b) e q st cl) {n : Nat} {r : pu_Res} (hr : px_run P call ar n (pj b) st cl m = some r) :
    pu_end (F b).2.2 (e, m, []) = .inl r ∨ ∃ c0 t n' st', c0 < B ∧ pv_eg w b c0 ∧ px_to po w B c0 t ∧ pu_end (F b).2.2 (e, m, []) = .inr (c0, (e, m, [])) ∧ st' = (pt_T P a0 (pt_pen po w fo ot b)).map (fun k => e (vo k)) ∧ (∀ v, v < Vn → pt_wn P w B ot W b (ot b) v → e (E b v) = cl v) ∧ px_run P call ar n' (fo t) st' cl m = some r ∧ ((P 9 (pj b) = 35 ∧ n' = n ∧ fo t < ot t) ∨ n' + 1 = n) := by
  obtain ⟨⟨hB, hB0, h3, hVn⟩, hbk, htx, hd, hp, hv, hf, hfo, hS⟩ := id hM
  obtain ⟨p1, p2, p3, p4, p5, g1, g2, g3, g4, g5⟩ := hbk.1 b hb hn
  obtain ⟨_, _, ⟨_, f4⟩, _⟩ := hf b hb
  obtain ⟨r1, r2, r3⟩ := hR
  have hfj : fo b ≤ pj b := by rw [p4]; exact (pt_fr_le (P := P) (a := a0) (pj b) p1).2
  have hpe : pt_pen po w fo ot b = ot b := if_neg hn
  have hen := htx.2.1 (pj b) p1 p2
  have hTs := pt_T_s (P := P) (a := a0) (i := pj b) p1
  have hnl : ∀ x s, pt_ld w po B fo x s → (∀ c, c < 60 → x = pu_I c → True) → ∃ c0 t, c0 < B ∧ x = pu_I c0 ∧ px_to po w B c0 t ∧ fo t = s := by
    intro x s ⟨t, t1, t2, t3, t4⟩ _
    rcases t4 with h | ⟨z, z1, z2, z3, z4⟩
    · exact ⟨t, t, t1, h, ⟨t1, t2, Or.inl rfl⟩, t3⟩
    · exact ⟨z, t, z1, z3, ⟨t1, t2, Or.inr ⟨z1, z2, z4⟩⟩, t3⟩
  -- behind a leap
  have hleap : pt_leap P (pj b) → ot b = pj b + 1 ∧ (∀ v, v < Vn → pt_wn P w B ot W b (ot b) v → e (E b v) = cl v) := by
    intro hl
    have h35 : ¬ P 9 (pj b) = 35 := by rcases hl with h | h | h | h <;> rw [h] <;> decide
    have hot : ot b = pj b + 1 := by rw [p5, pt_to_leap h35]
    refine ⟨hot, fun v hvn hw => ?_⟩
    have hna : ¬ pt_as P v (pj b) := fun h9 => by
      rcases hl with h | h | h | h <;> (rcases h9.1 with h8 | h8 | h8 <;> (rw [h] at h8; exact absurd h8 (by decide)))
    rw [hv.2.1 b v hb hvn, hot, pt_nw_s hfj, if_neg fun h => hna ⟨h.1.elim Or.inl fun h => Or.inr (Or.inl h), h.2⟩, if_neg fun h => hna ⟨Or.inr (Or.inr h.1), h.2⟩]
    rw [hot] at hw
    exact r3 v hvn (pt_wn_s (by omega) hw hna)
  have hev : pt_en3 (P 9 (pj b)) → ∃ k s, pt_T P a0 (pj b) = k :: s ∧ pt_ev P (pt_lor P a0) vo (fo b) (ot b) = vo k := by
    intro h24
    have h35 : ¬ P 9 (pj b) = 35 := by rcases h24 with h | h | h <;> rw [h] <;> decide
    have hone : pt_one (P 9 (pj b)) = true := by rcases h24 with h | h | h <;> rw [h] <;> decide
    have hpop : pt_pop P (pj b) = 1 := by
      rcases h24 with h | h | h
      · exact px_pop24 h
      · exact px_pop33 h
      · exact px_pop34 h
    have hlen := hen.1
    rw [hpop] at hlen
    obtain ⟨k, s, hT⟩ := px_one1 hlen
    refine ⟨k, s, hT, ?_⟩
    have hlo : pt_lor P a0 (pj b) = pu_I k := by
      show pt_lo P (pj b) (pt_T P a0 (pj b)) = _
      unfold pt_lo
      rcases h24 with h | h | h <;> (rw [if_neg (by rw [h]; decide), if_neg (by rw [h]; decide), if_neg (by rw [h]; decide), if_pos (by rw [h]; decide), hT]; rfl)
    have hk : k < 2147483648 := by
      have := (pt_T_mem (P := P) (a := a0) (k := k) (pj b) (by rw [hT]; exact List.mem_cons_self)).2.1
      omega
    rw [p5, pt_to_leap h35, pt_ev_s hfj, if_pos h24, hlo, pt_va_k hk]
  have hnn : ∀ {x : Int32} {c : Nat}, c < B → x = pu_I c → nn x = c := fun h1 h2 => by rw [h2, pu_nn (by omega)]
  rw [f4]
  rcases p3 with (h | h | h | h) | h
  · -- 22
    obtain ⟨k8, k11, s, k2, k3⟩ := g2 h
    obtain ⟨hot, hcl⟩ := hleap (Or.inl h)
    obtain ⟨c0, t, c1, c2, c3, c4⟩ := hnl _ _ k3 fun _ _ _ => trivial
    cases n with
    | zero => cases hr
    | succ n =>
      unfold px_run at hr
      have hs : px_step P call ar (pj b) st cl m = some (.inr (px_L P (pj b), st, cl, m)) := by
        unfold px_step
        rw [if_neg (show ¬ pu_isop (P 9 (pj b)) = true by rw [h]; decide), if_neg (show ¬ P 9 (pj b) = 0 by rw [h]; decide), if_neg (show ¬ P 9 (pj b) = 17 by rw [h]; decide), if_neg (show ¬ P 9 (pj b) = 18 by rw [h]; decide), if_neg (show ¬ P 9 (pj b) = 20 by rw [h]; decide), if_neg (show ¬ P 9 (pj b) = 21 by rw [h]; decide), if_pos h]
      rw [hs, Option.bind_some] at hr
      have hr : px_run P call ar n (px_L P (pj b)) st cl m = some r := hr
      have hL : px_L P (pj b) = s := by
        show nn (P 13 (nn (P 10 (pj b)))) = s
        rw [hLa (pj b) s p1 p2 (Or.inl h) k2, pu_nn (by have := k2.2.2.1; omega)]
      rw [hL] at hr
      refine Or.inr ⟨c0, t, n, st, c1, Or.inl c2, c3, ?_, by rw [hpe, hot, hTs, px_nx22 h]; exact r1, hcl, by rw [c4]; exact hr, Or.inr rfl⟩
      unfold pu_end
      rw [k8, if_neg (show ¬ (22 : Int32) = 24 by decide), if_neg (fun h => absurd (show (22 : Int32) = 23 from h.1) (by decide)), hnn c1 c2]
  · -- 33
    obtain ⟨k8, s, k2, k3, k4⟩ := g3 h
    obtain ⟨hot, hcl⟩ := hleap (Or.inr (Or.inl h))
    obtain ⟨k, z, hT, hevk⟩ := hev (Or.inr (Or.inl h))
    rw [hT] at r1
    have r1 : st = e (vo k) :: z.map (fun k => e (vo k)) := r1
    obtain ⟨c0, t, c1, c2, c3, c4⟩ := hnl _ _ k3 fun _ _ _ => trivial
    obtain ⟨d0, t', d1, d2, d3, d4⟩ := hnl _ _ k4 fun _ _ _ => trivial
    cases n with
    | zero => cases hr
    | succ n =>
      unfold px_run at hr
      have hs : px_step P call ar (pj b) st cl m = some (.inr ((if e (vo k) = 0 then px_L P (pj b) else pj b + 1), z.map (fun k => e (vo k)), cl, m)) := by
        unfold px_step
        rw [if_neg (show ¬ pu_isop (P 9 (pj b)) = true by rw [h]; decide), if_neg (show ¬ P 9 (pj b) = 0 by rw [h]; decide), if_neg (show ¬ P 9 (pj b) = 17 by rw [h]; decide), if_neg (show ¬ P 9 (pj b) = 18 by rw [h]; decide), if_neg (show ¬ P 9 (pj b) = 20 by rw [h]; decide), if_neg (show ¬ P 9 (pj b) = 21 by rw [h]; decide), if_neg (show ¬ P 9 (pj b) = 22 by rw [h]; decide), if_neg (show ¬ P 9 (pj b) = 24 by rw [h]; decide), if_neg (show ¬ P 9 (pj b) = 30 by rw [h]; decide), if_neg (show ¬ P 9 (pj b) = 31 by rw [h]; decide), if_neg (show ¬ P 9 (pj b) = 32 by rw [h]; decide), if_pos h, r1]
      rw [hs, Option.bind_some] at hr
      have hr : px_run P call ar n (if e (vo k) = 0 then px_L P (pj b) else pj b + 1) (z.map (fun k => e (vo k))) cl m = some r := hr
      have hL : px_L P (pj b) = s := by
        show nn (P 13 (nn (P 10 (pj b)))) = s
        rw [hLa (pj b) s p1 p2 (Or.inr (Or.inl h)) k2, pu_nn (by have := k2.2.2.1; omega)]
      have hst : z.map (fun k => e (vo k)) = (pt_T P a0 (pt_pen po w fo ot b)).map (fun k => e (vo k)) := by rw [hpe, hot, hTs, px_nx33 h, hT]; rfl
      rw [k8, hevk]
      unfold pu_end
      rw [if_neg (show ¬ (23 : Int32) = 24 by decide)]
      by_cases hx : e (vo k) = 0
      · rw [if_pos hx, hL] at hr
        rw [if_pos ⟨rfl, hx⟩]
        exact Or.inr ⟨d0, t', n, _, d1, Or.inr d2, d3, by rw [hnn d1 d2], hst, hcl, by rw [d4]; exact hr, Or.inr rfl⟩
      · rw [if_neg hx] at hr
        rw [if_neg fun h => hx h.2]
        exact Or.inr ⟨c0, t, n, _, c1, Or.inl c2, c3, by rw [hnn c1 c2], hst, hcl, by rw [c4]; exact hr, Or.inr rfl⟩
  · -- 34
    obtain ⟨k8, s, k2, k3, k4⟩ := g4 h
    obtain ⟨hot, hcl⟩ := hleap (Or.inr (Or.inr (Or.inl h)))
    obtain ⟨k, z, hT, hevk⟩ := hev (Or.inr (Or.inr h))
    rw [hT] at r1
    have r1 : st = e (vo k) :: z.map (fun k => e (vo k)) := r1
    obtain ⟨c0, t, c1, c2, c3, c4⟩ := hnl _ _ k3 fun _ _ _ => trivial
    obtain ⟨d0, t', d1, d2, d3, d4⟩ := hnl _ _ k4 fun _ _ _ => trivial
    cases n with
    | zero => cases hr
    | succ n =>
      unfold px_run at hr
      have hs : px_step P call ar (pj b) st cl m = some (.inr ((if e (vo k) = 0 then pj b + 1 else px_L P (pj b)), z.map (fun k => e (vo k)), cl, m)) := by
        unfold px_step
        rw [if_neg (show ¬ pu_isop (P 9 (pj b)) = true by rw [h]; decide), if_neg (show ¬ P 9 (pj b) = 0 by rw [h]; decide), if_neg (show ¬ P 9 (pj b) = 17 by rw [h]; decide), if_neg (show ¬ P 9 (pj b) = 18 by rw [h]; decide), if_neg (show ¬ P 9 (pj b) = 20 by rw [h]; decide), if_neg (show ¬ P 9 (pj b) = 21 by rw [h]; decide), if_neg (show ¬ P 9 (pj b) = 22 by rw [h]; decide), if_neg (show ¬ P 9 (pj b) = 24 by rw [h]; decide), if_neg (show ¬ P 9 (pj b) = 30 by rw [h]; decide), if_neg (show ¬ P 9 (pj b) = 31 by rw [h]; decide), if_neg (show ¬ P 9 (pj b) = 32 by rw [h]; decide), if_neg (show ¬ P 9 (pj b) = 33 by rw [h]; decide), if_pos h, r1]
      rw [hs, Option.bind_some] at hr
      have hr : px_run P call ar n (if e (vo k) = 0 then pj b + 1 else px_L P (pj b)) (z.map (fun k => e (vo k))) cl m = some r := hr
      have hL : px_L P (pj b) = s := by
        show nn (P 13 (nn (P 10 (pj b)))) = s
        rw [hLa (pj b) s p1 p2 (Or.inr (Or.inr h)) k2, pu_nn (by have := k2.2.2.1; omega)]
      have hst : z.map (fun k => e (vo k)) = (pt_T P a0 (pt_pen po w fo ot b)).map (fun k => e (vo k)) := by rw [hpe, hot, hTs, px_nx34 h, hT]; rfl
      rw [k8, hevk]
      unfold pu_end
      rw [if_neg (show ¬ (23 : Int32) = 24 by decide)]
      by_cases hx : e (vo k) = 0
      · rw [if_pos hx] at hr
        rw [if_pos ⟨rfl, hx⟩]
        exact Or.inr ⟨d0, t', n, _, d1, Or.inr d2, d3, by rw [hnn d1 d2], hst, hcl, by rw [d4]; exact hr, Or.inr rfl⟩
      · rw [if_neg hx, hL] at hr
        rw [if_neg fun h => hx h.2]
        exact Or.inr ⟨c0, t, n, _, c1, Or.inl c2, c3, by rw [hnn c1 c2], hst, hcl, by rw [c4]; exact hr, Or.inr rfl⟩
  · -- 24
    obtain ⟨k8, _, _⟩ := g5 h
    obtain ⟨k, z, hT, hevk⟩ := hev (Or.inl h)
    rw [hT] at r1
    have r1 : st = e (vo k) :: z.map (fun k => e (vo k)) := r1
    cases n with
    | zero => cases hr
    | succ n =>
      unfold px_run at hr
      have hs : px_step P call ar (pj b) st cl m = some (.inl (0, e (vo k), m)) := by
        unfold px_step
        rw [if_neg (show ¬ pu_isop (P 9 (pj b)) = true by rw [h]; decide), if_neg (show ¬ P 9 (pj b) = 0 by rw [h]; decide), if_neg (show ¬ P 9 (pj b) = 17 by rw [h]; decide), if_neg (show ¬ P 9 (pj b) = 18 by rw [h]; decide), if_neg (show ¬ P 9 (pj b) = 20 by rw [h]; decide), if_neg (show ¬ P 9 (pj b) = 21 by rw [h]; decide), if_neg (show ¬ P 9 (pj b) = 22 by rw [h]; decide), if_pos h, r1]
      rw [hs, Option.bind_some] at hr
      have hr : some (0, e (vo k), m) = some r := hr
      left
      unfold pu_end
      rw [k8, if_pos rfl, hevk]
      show Sum.inl ((0 : Int32), e (vo k), m) = Sum.inl r
      rw [Option.some.inj hr]
  · -- 35
    obtain ⟨k8, k11, t, t1, t2, t3, t4, t5⟩ := g1 h
    have hot : ot b = pj b := by rw [p5, pt_to_lab h]
    have hcl : ∀ v, v < Vn → pt_wn P w B ot W b (ot b) v → e (E b v) = cl v := fun v hvn hw => by
      rw [hv.2.1 b v hb hvn, hot]
      exact r3 v hvn (by rw [hot] at hw; exact hw)
    have hend : ∀ c0, c0 < B → w 10 b = pu_I c0 → pu_end (w 8 b, pt_ev P (pt_lor P a0) vo (fo b) (ot b), w 10 b, w 11 b) (e, m, []) = .inr (c0, (e, m, [])) := fun c0 c1 c2 => by
      unfold pu_end
      rw [k8, if_neg (show ¬ (22 : Int32) = 24 by decide), if_neg (fun h => absurd (show (22 : Int32) = 23 from h.1) (by decide)), hnn c1 c2]
    have hst : st = (pt_T P a0 (pt_pen po w fo ot b)).map (fun k => e (vo k)) := by rw [hpe, hot]; exact r1
    rcases t5 with h5 | ⟨z, z1, z2, z3, z4⟩
    · exact Or.inr ⟨t, t, n, st, t1, Or.inl h5, ⟨t1, t2, Or.inl rfl⟩, hend t t1 h5, hst, hcl, by rw [t3]; exact hr, Or.inl ⟨h, rfl, by rw [t3]; exact t4⟩⟩
    · exact Or.inr ⟨z, t, n, st, z1, Or.inl z3, ⟨t1, t2, Or.inr ⟨z1, z2, z4⟩⟩, hend z z1 z3, hst, hcl, by rw [t3]; exact hr, Or.inl ⟨h, rfl, by rw [t3]; exact t4⟩⟩
theorem px_sim (hM : pt_MM P w a0 a1 Vn B A W po vo fo ot pj dm nb D vl S E F) (hQc : pt_Qc P a0 a1) (hLa : ∀ j s, a0 ≤ j → j < a1 → (P 9 j = 22 ∨ P 9 j = 33 ∨ P 9 j = 34) → pt_lab P a0 a1 j s → P 13 (nn (P 10 j)) = pu_I s) {call : pu_Call} {ar : List Int32} {r : pu_Res} :
    ∀ (n t p : Nat) (e : pu_E) (m : pu_M) (st : List Int32) (cl : Nat → Int32), t < B → ¬ po t < 0 → px_B P w a0 Vn W po vo fo S t (pu_phs (F t).1 p e) st cl → px_run P call ar n (fo t) st cl m = some r → pu_run F call ar (4 * n + 2) t p (e, m, []) = some r ∧ (fo t < ot t → pu_run F call ar (4 * n) t p (e, m, []) = some r) := by
  intro n
  induction n using Nat.strongRecOn with
  | _ n ih =>
    obtain ⟨⟨hB, hB0, h3, hVn⟩, hbk, htx, hd, hp, hv, hf, hfo, hS⟩ := id hM
    -- a block, one piece
    have hone : ∀ (t p : Nat) (e : pu_E) (m : pu_M) (st : List Int32) (cl : Nat → Int32), t < B → ¬ po t < 0 → px_B P w a0 Vn W po vo fo S t (pu_phs (F t).1 p e) st cl → px_run P call ar n (fo t) st cl m = some r →
        (pu_blk F call ar t p (e, m, []) = some (.inl r)) ∨ ∃ c0 t' n' st' e' m' cl', c0 < B ∧ pv_eg w t c0 ∧ px_to po w B c0 t' ∧ pu_blk F call ar t p (e, m, []) = some (.inr (c0, (e', m', []))) ∧ st' = (pt_T P a0 (pt_pen po w fo ot t)).map (fun k => e' (vo k)) ∧ (∀ v, v < Vn → pt_wn P w B ot W t (ot t) v → e' (E t v) = cl' v) ∧ px_run P call ar n' (fo t') st' cl' m' = some r ∧ (n' < n ∨ (n' = n ∧ fo t' < ot t' ∧ ¬ fo t < ot t)) := by
      intro t p e m st cl ht hn hBt hr
      obtain ⟨p1, p2, p3, p4, p5, _⟩ := hbk.1 t ht hn
      have hfj : fo t ≤ pj t := by rw [p4]; exact (pt_fr_le (P := P) (a := a0) (pj t) p1).2
      have hps : pt_psn po w fo t = fo t := if_neg hn
      have hR0 : px_R P w a0 Vn B W vo fo ot S t (fo t) (pu_phs (F t).1 p e) [] st cl := by
        refine ⟨by rw [← hps]; exact hBt.1, by rw [p4, px_Q_fr hQc (pj t) p1 p2]; rfl, fun v hvn hw => ?_⟩
        rw [pt_nw_a _ _ _ _ _ _ _ (Nat.le_refl _)]
        exact hBt.2 v hvn (pt_wn_0 hp ht hvn hw)
      have hs0 : pu_steps call ar (px_sl P a0 vo (fo t) (fo t)) (pu_phs (F t).1 p e, m, []) = some (.inr (pu_phs (F t).1 p e, m, [])) := by
        show pu_steps call ar (pt_sl P (pt_lor P a0) (pt_ror P a0) vo (fo t) (fo t)) _ = _
        rw [pt_sl_a _ _ _ _ _ _ (Nat.le_refl _)]
        rfl
      rcases px_blk hM hQc ht hn (pj t - fo t) n (fo t) _ m [] st cl rfl (Nat.le_refl _) hfj hs0 hR0 hr with h | ⟨n1, e', m', q', st1, cl', k1, k2, k3, k4, k5⟩
      · left
        unfold pu_blk
        show (pu_steps call ar (F t).2.1 (pu_phs (F t).1 p e, m, [])).bind _ = _
        rw [h]
        rfl
      · have hq : q' = [] := by
          have h9 : pt_Q P a0 (pj t) = [] := Classical.byContradiction fun h => by
            rcases hQc.1 (pj t) p1 p2 h with h8 | h8
            · rcases p3 with (h | h | h | h) | h <;> (rw [h] at h8; exact absurd h8 (by decide))
            · rcases p3 with (h | h | h | h) | h <;> (rw [h] at h8; exact absurd h8 (by decide))
          have h8 := k4.2.1
          rw [h9] at h8
          exact h8
        rw [hq] at k3 k4
        have hall : pu_steps call ar (F t).2.1 (pu_phs (F t).1 p e, m, []) = some (.inr (e', m', [])) := by
          rw [(hf t ht).2.2.1.1, p5]
          by_cases h35 : P 9 (pj t) = 35
          · rw [pt_to_lab h35]; exact k3
          · have hn21 : ¬ P 9 (pj t) ≤ 21 := by
              rcases p3 with (h | h | h | h) | h
              · rw [h]; decide
              · rw [h]; decide
              · rw [h]; decide
              · rw [h]; decide
              · exact absurd h h35
            rw [pt_to_leap h35, pt_sl_s hfj, if_neg hn21, List.append_nil]
            exact k3
        have hblk : pu_blk F call ar t p (e, m, []) = some (pu_end (F t).2.2 (e', m', [])) := by
          unfold pu_blk
          show (pu_steps call ar (F t).2.1 (pu_phs (F t).1 p e, m, [])).bind _ = _
          rw [hall]
          rfl
        rcases px_cut hM hLa ht hn k4 k5 with h | ⟨c0, t', n', st', c1, c2, c3, c4, c5, c6, c7, c8⟩
        · left
          rw [hblk, h]
        · right
          refine ⟨c0, t', n', st', e', m', cl', c1, c2, c3, by rw [hblk, c4], c5, c6, c7, ?_⟩
          rcases c8 with ⟨h35, rfl, c9⟩ | c8
          · by_cases hlt : n' < n
            · exact Or.inl hlt
            · have hnn : n' = n := by omega
              have hfp := k2 hnn
              have hot : ot t = pj t := by rw [p5, pt_to_lab h35]
              exact Or.inr ⟨hnn, c9, by omega⟩
          · exact Or.inl (by omega)
    have hstep : ∀ k t p e m, pu_blk F call ar t p (e, m, []) = some (.inl r) → pu_run F call ar (k + 1) t p (e, m, []) = some r := fun k t p e m h => by
      unfold pu_run
      rw [h]
      rfl
    have hnx : ∀ k t p e m c0 e' m', pu_blk F call ar t p (e, m, []) = some (.inr (c0, (e', m', []))) → pu_run F call ar k c0 t (e', m', []) = some r → pu_run F call ar (k + 1) t p (e, m, []) = some r := fun k t p e m c0 e' m' h h2 => by
      show pu_run F call ar (k + 1) t p (e, m, []) = some r
      unfold pu_run
      rw [h, Option.bind_some]
      show (if ([] : List Int32) = [] then _ else none) = _
      rw [if_pos rfl]
      exact h2
    -- with ops
    have hN : ∀ (t p : Nat) (e : pu_E) (m : pu_M) (st : List Int32) (cl : Nat → Int32), t < B → ¬ po t < 0 → px_B P w a0 Vn W po vo fo S t (pu_phs (F t).1 p e) st cl → px_run P call ar n (fo t) st cl m = some r → fo t < ot t → pu_run F call ar (4 * n) t p (e, m, []) = some r := by
      intro t p e m st cl ht hn hBt hr hlt
      have hn0 : 0 < n := by
        cases n with
        | zero => cases hr
        | succ n => omega
      rcases hone t p e m st cl ht hn hBt hr with h | ⟨c0, t', n', st', e', m', cl', c1, c2, c3, c4, c5, c6, c7, c8 | ⟨_, _, c8⟩⟩
      · have h9 := hstep (4 * n - 1) t p e m h
        rw [show 4 * n - 1 + 1 = 4 * n by omega] at h9
        exact h9
      · have h8 := px_hop hM ht c1 c2 c3 c5 c6 c7 (k := 4 * n' + 2) (fun p' e9 hB9 => (ih n' c8 t' p' e9 m' st' cl' c3.1 c3.2.1 hB9 c7).1)
        have h9 := hnx _ t p e m c0 e' m' c4 h8
        exact pu_run_mono _ _ _ _ _ _ (by omega) h9
      · exact absurd hlt c8
    intro t p e m st cl ht hn hBt hr
    refine ⟨?_, hN t p e m st cl ht hn hBt hr⟩
    by_cases hlt : fo t < ot t
    · exact pu_run_mono _ _ _ _ _ _ (by omega) (hN t p e m st cl ht hn hBt hr hlt)
    · rcases hone t p e m st cl ht hn hBt hr with h | ⟨c0, t', n', st', e', m', cl', c1, c2, c3, c4, c5, c6, c7, c8 | ⟨c8, c9, _⟩⟩
      · exact hstep (4 * n + 1) t p e m h
      · have h8 := px_hop hM ht c1 c2 c3 c5 c6 c7 (k := 4 * n' + 2) (fun p' e9 hB9 => (ih n' c8 t' p' e9 m' st' cl' c3.1 c3.2.1 hB9 c7).1)
        have h9 := hnx _ t p e m c0 e' m' c4 h8
        exact pu_run_mono _ _ _ _ _ _ (by omega) h9
      · rw [c8] at c7
        have h8 := px_hop hM ht c1 c2 c3 c5 c6 c7 (k := 4 * n) (fun p' e9 hB9 => hN t' p' e9 m' st' cl' c3.1 c3.2.1 hB9 c7 c9)
        exact hnx _ t p e m c0 e' m' c4 h8
end SX
