/-! pure side, stores 50: fold, whole, between flows -/
/-- what is asked of one step -/
def pv_sq (Lm fs na : Nat) (s : pu_Stp) : Prop :=
  ((pu_ul s.1 = true → ixb s.2.2.1 250 = true) ∧ (pu_ur s.1 = true → ixb s.2.2.2 250 = true)) ∧ (pu_gk s.1 = true ↔ ¬ s.2.1 < 0) ∧ (s.2.1 < 0 ∨ ixb s.2.1 250 = true) ∧ (¬ s.2.1 < 0 → nn s.2.1 < Lm) ∧ ((s.1 = 20 → ixb s.2.2.1 fs = true) ∧ (s.1 = 21 → ixb s.2.2.1 na = true) ∧ (s.2.1 < 0 → s.2.1 = -1))
theorem pv_sq_num {Lm fs na : Nat} {v c : Int32} (hv : ixb v 250 = true) (hL : nn v < Lm) : pv_sq Lm fs na (0, v, c, -1) :=
  ⟨⟨fun h => absurd h (show ¬ pu_ul (0 : Int32) = true by decide), fun h => absurd h (show ¬ pu_ur (0 : Int32) = true by decide)⟩, ⟨fun _ => (pv_ixn hv).1, fun _ => (show pu_gk (0 : Int32) = true by decide)⟩, Or.inr hv, fun _ => hL, ⟨fun h => absurd h (show ¬ (0 : Int32) = 20 by decide), fun h => absurd h (show ¬ (0 : Int32) = 21 by decide), fun h => absurd h (pv_ixn hv).1⟩⟩
theorem pv_nd_map {f : Nat → Nat} : ∀ l : List Nat, l.Nodup → (∀ a ∈ l, ∀ z ∈ l, f a = f z → a = z) → (l.map f).Nodup := by
  intro l
  induction l with
  | nil => intro _ _; exact List.nodup_nil
  | cons a l ih =>
    intro hn hf
    have hn := List.nodup_cons.mp hn
    rw [List.map_cons]
    refine List.nodup_cons.mpr ⟨fun h => ?_, ih hn.2 fun x hx z hz e => hf x (List.mem_cons_of_mem _ hx) z (List.mem_cons_of_mem _ hz) e⟩
    obtain ⟨z, hz, e⟩ := List.mem_map.mp h
    have := hf z (List.mem_cons_of_mem _ hz) a List.mem_cons_self e
    rw [this] at hz
    exact hn.1 hz
section FE
variable {B N M Lm fs na : Nat} {D : Nat → Nat → Prop} {l gl : SL} {g w w2 s : ST} {n n2 : Nat → Nat} {ch ph : Nat → List Nat} {wb dm : Nat → Nat}
/-- what was learnt is what the pass asks -/
theorem pv_fok_of (hok : pv_ok n w n2 w2 B N M ch ph) (hrg : pv_rg w2 B ch) (hgk : pv_gks w2 B ch) (hw : pv_wys B w wb) (htk : pv_tk B w wb ph) (hek : pv_ek B w) (hev : ∀ p, p < B → w 8 p = 23 → ixb (w 9 p) 250 = true) (hcl : ∀ b c, b < B → pu_sc (pv_F w w2 ch ph) b c → c < B) (hfv : pv_fv g) {x : Int64} (hx0 : pv_bt x 0 = true) (hcf : ∀ b, b < B → pv_bt x b = true → pv_cfb B w w2 g x ch ph wb b) :
    pu_fok (pv_F w w2 ch ph) (fun b => b < B) (fun b => decide (b < B) && pv_bt x b) (pv_stt g) (pv_num g) := by
  obtain ⟨⟨hw0, hB0, hB⟩, _, _, _, _, _, _, hix, hix2⟩ := id hok
  have hR : ∀ b, (decide (b < B) && pv_bt x b) = true ↔ (b < B ∧ pv_bt x b = true) := fun b => by rw [Bool.and_eq_true, decide_eq_true_iff]
  -- a way of the flow is one of the tables
  have hway : ∀ b c, b < B → pv_bt x b = true → c < B → pu_sc (pv_F w w2 ch ph) b c → pu_way (pv_F w w2 ch ph) (pv_stt g) (pv_num g) b c → pv_iw g x w b (pu_I c) = true := by
    intro b c hb hbx hc hsc hwy
    have hwy : w 8 b ≠ 23 ∨ pv_stt g (w 9 b) = 2 ∨ (pv_stt g (w 9 b) = 1 ∧ c = nn (if pv_num g (w 9 b) = 0 then w 11 b else w 10 b)) := hwy
    unfold pv_iw
    rw [hbx, Bool.true_and]
    by_cases h23 : w 8 b = 23
    · have hv := hev b hb h23
      rw [if_pos h23]
      rw [pv_stt_v hv] at hwy
      rcases hwy with h | h | ⟨h1, h2⟩
      · exact absurd h23 h
      · rw [if_neg (by rw [h]; decide), decide_eq_true h]
      · rw [if_pos h1, decide_eq_true_iff]
        have hnn := (hek b hb).2.2.1 h23
        have h2 : c = nn (if g 5 (nn (w 9 b)) = 0 then w 11 b else w 10 b) := h2
        rw [h2]
        by_cases h0 : g 5 (nn (w 9 b)) = 0
        · rw [if_pos h0]; exact pu_of hnn.2
        · rw [if_neg h0]; exact pu_of hnn.1
    · rw [if_neg h23]
  refine ⟨(hR 0).mpr ⟨hB0, hx0⟩, fun b hb => ((hR b).mp hb).1, fun v => ?_, fun b hb s hs hgs => ?_, fun b c hb hsc hwy => ?_, fun b p z hb hp hsc hwy hz => ?_⟩
  · by_cases hv : ixb v 250 = true
    · rw [pv_stt_v hv]; exact hfv _ (pv_ixn hv).2
    · exact Or.inl (if_neg hv)
  · obtain ⟨hbB, hbx⟩ := (hR b).mp hb
    obtain ⟨a, ha, rfl⟩ := List.mem_map.mp hs
    have h0 : ¬ w2 3 a < 0 := (hgk b hbB a ha).mp hgs
    have hgv := (hix2 b hbB a ha).resolve_left h0
    obtain ⟨c1, c2, c3⟩ := (hcf b hbB hbx).2.1 a ha h0
    show (w2 2 a = 0 → pv_stt g (w2 3 a) = 2 ∨ (pv_stt g (w2 3 a) = 1 ∧ pv_num g (w2 3 a) = w2 4 a)) ∧ (w2 2 a ≠ 0 → pu_isop (w2 2 a) = false → pv_stt g (w2 3 a) = 2) ∧ (pu_isop (w2 2 a) = true → _)
    rw [pv_stt_v hgv]
    refine ⟨c1, c2, fun hop => ?_⟩
    have hu := pu_op_u hop
    have hr := hrg b hbB a ha
    obtain ⟨d1, d2⟩ := c3 hop
    show ((pv_stt g (w2 4 a) = 2 ∨ pv_stt g (w2 5 a) = 2 ∨ (pv_stt g (w2 5 a) = 1 ∧ pu_fail (w2 2 a) (pv_num g (w2 5 a)) = true)) → pv_stt g (w2 3 a) = 2) ∧ (pv_stt g (w2 4 a) = 1 → pv_stt g (w2 5 a) = 1 → pu_fail (w2 2 a) (pv_num g (w2 5 a)) = false → pv_stt g (w2 3 a) = 2 ∨ (pv_stt g (w2 3 a) = 1 ∧ pv_num g (w2 3 a) = pu_cmp (w2 2 a) (pv_num g (w2 4 a)) (pv_num g (w2 5 a))))
    rw [pv_stt_v hgv, pv_stt_v (hr.1 hu.1), pv_stt_v (hr.2 hu.2)]
    exact ⟨d1, d2⟩
  · obtain ⟨hbB, hbx⟩ := (hR b).mp hb
    have hcB := hcl b c hbB hsc
    refine (hR c).mpr ⟨hcB, ?_⟩
    exact (hcf b hbB hbx).2.2 c hcB ((pv_eg_sc hek hbB (by omega)).mp hsc) (hway b c hbB hbx hcB hsc hwy)
  · obtain ⟨hbB, hbx⟩ := (hR b).mp hb
    obtain ⟨hpB, hpx⟩ := (hR p).mp hp
    obtain ⟨a, ha, rfl⟩ := List.mem_map.mp hz
    obtain ⟨j, j1, j2, j3⟩ := hw.2.2.2.2.1 b p hbB hpB ((pv_eg_sc hek hpB (by omega)).mp hsc)
    have hpn : nn (w 15 j) = p := by rw [j3, pu_nn (by omega)]
    have htv : pv_tv w a j = w 21 (a * 60 + p) := by unfold pv_tv; rw [hpn]
    have hxv := htk b hbB a ha j j1 j2
    rw [hpn] at hxv
    have h9 := (hcf b hbB hbx).1 a ha j j1 j2 (by rw [hpn]; exact hway p b hpB hpx hbB hsc hwy)
    rw [htv] at h9
    show pv_stt g (w 21 (a * 60 + p)) = 0 ∨ pv_stt g (w 19 a) = 2 ∨ (pv_stt g (w 19 a) = 1 ∧ pv_stt g (w 21 (a * 60 + p)) = 1 ∧ pv_num g (w 19 a) = pv_num g (w 21 (a * 60 + p)))
    rw [pv_stt_v hxv, pv_stt_v (hix b hbB a ha)]
    exact h9
theorem pv_fold (hfl : pv_fl n w l n2 w2 B N M Lm fs na D ch ph wb dm) (hpot : N + pv_sl ph B ≤ 650) :
    ∃ c g' gl' w' l' w2' n2' s' B' N' D' ch' ph' wb' dm', fX5_foldNumbers g gl n w l n2 w2 s = some (pu_I c, g', gl', w', l', w2', n2', s') ∧ c ≤ 120000 ∧ pv_fl n w' l' n2' w2' B' N' M Lm fs na D' ch' ph' wb' dm' ∧ N' + pv_sl ph' B' ≤ N + pv_sl ph B ∧ N ≤ N' ∧
      (∀ call ar k e m q r, pu_run (pv_F w w2 ch ph) call ar k 0 0 (e, m, q) = some r → pu_run (pv_F w' w2' ch' ph') call ar k 0 0 (e, m, q) = some r) := by
  obtain ⟨⟨hok, hrg, hgk, hw, htk⟩, hend, hsu, hS, hd, hdb, hlp, hdmw, hdm, ⟨hLw, hL, hLp, hLs⟩, hcp, hcn, hno, hnf⟩ := id hfl
  obtain ⟨⟨hw0, hB0, hB⟩, hNs, ⟨hM19, hM20, hM21, hM⟩, hstc, hdis, hphc, hdp, hix, hix2⟩ := id hok
  have hG := hS.2.1
  have hek : pv_ek B w := fun b hb => ⟨(hend b hb).2.2.1, (hend b hb).2.2.2⟩
  have hev : ∀ p, p < B → w 8 p = 23 → ixb (w 9 p) 250 = true := fun p hp h => (hend p hp).1 ((hend p hp).2.1 (Or.inl h))
  have hcl : ∀ b c, b < B → pu_sc (pv_F w w2 ch ph) b c → c < B := hG.1
  have hsv : pv_sv B w := by
    intro b hb
    have h := hek b hb
    have h10 : ∀ {x : Int32}, ¬ x < 0 → pu_sc (pv_F w w2 ch ph) b (nn x) → (x < 0 ∨ ∃ c, c < B ∧ x = pu_I c) := fun hx hs => Or.inr ⟨_, hcl b _ hb hs, pu_of hx⟩
    rcases h.1 with e | e | e
    · exact ⟨h10 (h.2.1 e).1 ⟨by show w 8 b ≠ 24; rw [e]; decide, Or.inl rfl⟩, Or.inl (h.2.1 e).2⟩
    · exact ⟨h10 (h.2.2.1 e).1 ⟨by show w 8 b ≠ 24; rw [e]; decide, Or.inl rfl⟩, h10 (h.2.2.1 e).2 ⟨by show w 8 b ≠ 24; rw [e]; decide, Or.inr ⟨e, rfl⟩⟩⟩
    · exact ⟨Or.inl (h.2.2.2 e).1, Or.inl (h.2.2.2 e).2⟩
  -- learning
  obtain ⟨f1, a1, a2⟩ := pv_fill (n := 250) (f := g 4) (v := 0) (by decide)
  have hfv0 : pv_fv (srw g 4 f1) := fun v hv => Or.inl (by rw [pv_srw_s]; exact a2 v hv)
  obtain ⟨g1, l1, b1, b2, b3, b4, b5, b6⟩ := pv_fo17 hok hrg hw htk hev hsv 1000 0 NF 1 (srw g 4 f1) (upl gl 0 7 1) hfv0 (fun _ => by omega) (fun h => absurd h (by decide)) (by omega) (by have := pv_NF; omega)
  have b1 : fX5_foldNumbers_L17 n w n2 w2 NF 1 0 (srw g 4 f1) (upl gl 0 7 1) = some (g1, l1) := b1
  have hx0 : pv_bt (l1 0 7) 0 = true := b4 0 (by rw [pv_upl, if_pos ⟨rfl, rfl⟩, pv_bt_one]; decide)
  have hfok := pv_fok_of hok hrg hgk hw htk hek hev hcl b2 hx0 b6
  -- folding
  have hopv : ∀ b, b < B → ∀ a ∈ ch b, pu_isop (w2 2 a) = true → ixb (w2 3 a) 250 = true := fun b hb a ha hop => (hix2 b hb a ha).resolve_left ((hgk b hb a ha).mp (pu_op_gk hop))
  have hun := pv_un_of hS hgk hix
  have hpl : ∀ b, b < B → (ph b).length ≤ 250 := by
    intro b hb
    have h1 : ((ph b).map (fun a => nn (w 19 a))).Nodup := pv_nd_map _ (hdp.2.1 b hb) fun a ha z hz e => hun.2.2 b b a z hb hb ha hz (pv_nn_inj (pv_ixn (hix b hb a ha)).1 (pv_ixn (hix b hb z hz)).1 e)
    have h2 := pv_len 250 _ h1 (fun x hx => by
      obtain ⟨a, ha, rfl⟩ := List.mem_map.mp hx
      exact (pv_ixn (hix b hb a ha)).2)
    rw [List.length_map] at h2
    exact h2
  obtain ⟨cnt, w1, w21, n21, N1, ch1, ph1, c1, c2, c3, c4, c4b, c5, c6, c7, c8, c9, c10, c11, c12⟩ := pv_fo82 (o17 := (g1, l1)) hok hopv hev hpl hpot hcn
  -- the flow behind
  have r19 : w1 19 = w 19 := c10 19 (by decide) (by decide) (by decide) (by decide) (by decide) (by decide) (by decide) (by decide) (by decide)
  have r21 : w1 21 = w 21 := c10 21 (by decide) (by decide) (by decide) (by decide) (by decide) (by decide) (by decide) (by decide) (by decide)
  have r00 : w1 0 = w 0 := c10 0 (by decide) (by decide) (by decide) (by decide) (by decide) (by decide) (by decide) (by decide) (by decide)
  have hP : pv_P w1 = pv_P w := by funext a; unfold pv_P; rw [r19, r21]
  have hF1 : ∀ b, b < B → pv_F w1 w21 ch1 ph1 b = pu_foF (pv_F w w2 ch ph) (fun b => decide (b < B) && pv_bt (l1 0 7) b) (pv_stt g1) (pv_num g1) b := by
    intro b hb
    by_cases hbx : pv_bt (l1 0 7) b = true
    · obtain ⟨u1, u2, u3⟩ := (c9 b hb).1 ⟨hb, hbx⟩
      rw [pu_fo_R (b := b) (show (decide (b < B) && pv_bt (l1 0 7) b) = true by rw [hbx, decide_eq_true hb]; rfl)]
      refine Prod.ext ?_ (Prod.ext ?_ ?_)
      · show (ph1 b).map (pv_P w1) = ((ph b).map (pv_P w)).filter _
        rw [u1, hP, pv_flt_map]
        refine congrArg _ (List.filter_congr fun a ha => ?_)
        show (!decide (g1 4 (nn (w 19 a)) = 1)) = !decide (pv_stt g1 (w 19 a) = 1)
        rw [pv_stt_v (hix b hb a ha)]
      · show (ch1 b).map (pv_S w21) = (((ph b).map (pv_P w)).filter _).map _ ++ ((ch b).map (pv_S w2)).map _
        rw [u2, pv_flt_map, List.map_map, List.map_map]
        show ((ph b).filter (pv_kn9 g1 w)).map (pv_nu9 g1 w) ++ (ch b).map _ = _
        have e1 : (ph b).filter (pv_kn9 g1 w) = (ph b).filter (fun a => decide (pv_stt g1 (pv_P w a).1 = 1)) := List.filter_congr fun a ha => by
          show decide (g1 4 (nn (w 19 a)) = 1) = decide (pv_stt g1 (w 19 a) = 1)
          rw [pv_stt_v (hix b hb a ha)]
        rw [e1]
        refine congrArg _ (List.map_congr_left fun a ha => ?_)
        show (if (pu_isop (w2 2 a) && decide (g1 4 (nn (w2 3 a)) = 1)) = true then ((0, w2 3 a, g1 5 (nn (w2 3 a)), -1) : pu_Stp) else pv_S w2 a) = (if pu_isop (w2 2 a) = true ∧ pv_stt g1 (w2 3 a) = 1 then (0, w2 3 a, g1 5 (nn (w2 3 a)), -1) else pv_S w2 a)
        by_cases hop : pu_isop (w2 2 a) = true
        · rw [hop, Bool.true_and, pv_stt_v (hopv b hb a ha hop)]
          by_cases h1 : g1 4 (nn (w2 3 a)) = 1
          · rw [if_pos (decide_eq_true h1), if_pos ⟨rfl, h1⟩]
          · rw [if_neg (by rw [decide_eq_true_iff]; exact h1), if_neg fun q => h1 q.2]
        · rw [if_neg (by rw [Bool.and_eq_true]; exact fun q => hop q.1), if_neg fun q => hop q.1]
      · exact u3
    · obtain ⟨u1, u2, u3, u4, u5, u6, u7⟩ := (c9 b hb).2 fun q => hbx q.2
      have hR : (decide (b < B) && pv_bt (l1 0 7) b) = false := by
        cases h9 : pv_bt (l1 0 7) b with
        | true => exact absurd h9 hbx
        | false => exact Bool.and_false _
      have e1 : pu_foF (pv_F w w2 ch ph) (fun b => decide (b < B) && pv_bt (l1 0 7) b) (pv_stt g1) (pv_num g1) b = pv_F w w2 ch ph b := if_neg (by show ¬ (decide (b < B) && pv_bt (l1 0 7) b) = true; rw [hR]; decide)
      rw [e1]
      show ((ph1 b).map (pv_P w1), (ch1 b).map (pv_S w21), (w1 8 b, w1 9 b, w1 10 b, w1 11 b)) = ((ph b).map (pv_P w), (ch b).map (pv_S w2), (w 8 b, w 9 b, w 10 b, w 11 b))
      rw [u1, u2, u3, u4, u5, u6, u7, hP]
  have hSub : ∀ b, b < B → ∀ a ∈ ph1 b, a ∈ ph b := by
    intro b hb a ha
    by_cases hbx : pv_bt (l1 0 7) b = true
    · rw [((c9 b hb).1 ⟨hb, hbx⟩).1] at ha
      exact (List.mem_filter.mp ha).1
    · rw [((c9 b hb).2 fun q => hbx q.2).1] at ha
      exact ha
  -- ends
  have hpe : ∀ b, b < B → ((w1 8 b, w1 9 b, w1 10 b, w1 11 b) = (w 8 b, w 9 b, w 10 b, w 11 b)) ∨ (w 8 b = 23 ∧ (w1 8 b, w1 9 b, w1 10 b, w1 11 b) = (22, -1, (if pv_num g1 (w 9 b) = 0 then w 11 b else w 10 b), -1)) := by
    intro b hb
    by_cases hbx : pv_bt (l1 0 7) b = true
    · have u3 : (w1 8 b, w1 9 b, w1 10 b, w1 11 b) = pu_fen (pv_stt g1) (pv_num g1) (w 8 b, w 9 b, w 10 b, w 11 b) := ((c9 b hb).1 ⟨hb, hbx⟩).2.2
      unfold pu_fen at u3
      by_cases hc9 : (w 8 b, w 9 b, w 10 b, w 11 b).1 = 23 ∧ pv_stt g1 (w 8 b, w 9 b, w 10 b, w 11 b).2.1 = 1
      · rw [if_pos hc9] at u3
        exact Or.inr ⟨hc9.1, u3⟩
      · rw [if_neg hc9] at u3
        exact Or.inl u3
    · obtain ⟨_, _, _, u4, u5, u6, u7⟩ := (c9 b hb).2 fun q => hbx q.2
      exact Or.inl (by rw [u4, u5, u6, u7])
  have hpe2 : ∀ b, b < B → (w1 8 b = w 8 b ∧ w1 9 b = w 9 b ∧ w1 10 b = w 10 b ∧ w1 11 b = w 11 b) ∨ (w 8 b = 23 ∧ w1 8 b = 22 ∧ w1 9 b = -1 ∧ (w1 10 b = w 11 b ∨ w1 10 b = w 10 b) ∧ w1 11 b = -1) := by
    intro b hb
    rcases hpe b hb with h | ⟨h23, h⟩
    · have h1 := congrArg (fun x : pu_End => x.1) h
      have h2 := congrArg (fun x : pu_End => x.2.1) h
      have h3 := congrArg (fun x : pu_End => x.2.2.1) h
      have h4 := congrArg (fun x : pu_End => x.2.2.2) h
      exact Or.inl ⟨h1, h2, h3, h4⟩
    · have h1 := congrArg (fun x : pu_End => x.1) h
      have h2 := congrArg (fun x : pu_End => x.2.1) h
      have h3 : w1 10 b = (if pv_num g1 (w 9 b) = 0 then w 11 b else w 10 b) := congrArg (fun x : pu_End => x.2.2.1) h
      have h4 := congrArg (fun x : pu_End => x.2.2.2) h
      refine Or.inr ⟨h23, h1, h2, ?_, h4⟩
      by_cases h0 : pv_num g1 (w 9 b) = 0
      · rw [if_pos h0] at h3; exact Or.inl h3
      · rw [if_neg h0] at h3; exact Or.inr h3
  have hend1 : pv_ends B w1 := by
    intro b hb
    have h := hend b hb
    rcases hpe2 b hb with ⟨e8, e9, e10, e11⟩ | ⟨h23, e8, e9, e10, e11⟩
    · rw [e8, e9, e10, e11]; exact h
    · have hp : ¬ w1 10 b < 0 := by
        rcases e10 with e | e <;> rw [e]
        · exact (h.2.2.2.2.1 h23).2
        · exact (h.2.2.2.2.1 h23).1
      rw [e8, e9, e11]
      refine ⟨fun q => absurd (show (-1 : Int32) < 0 by decide) q, fun q => ?_, Or.inl rfl, fun _ => ⟨hp, by decide⟩, fun q => absurd q (by decide), fun q => absurd q (by decide)⟩
      rcases q with q | q <;> exact absurd q (by decide)
  have hsv1 : pv_sv B w1 := by
    intro b hb
    have h := hsv b hb
    rcases hpe2 b hb with ⟨e8, e9, e10, e11⟩ | ⟨h23, e8, e9, e10, e11⟩
    · rw [e10, e11]; exact h
    · refine ⟨?_, Or.inl (by rw [e11]; decide)⟩
      rcases e10 with e | e <;> rw [e]
      · exact h.2
      · exact h.1
  have hnf1 : pv_nf B w1 ph1 := by
    refine ⟨fun b c hb hc h23 he => ?_, fun b hb => Nat.le_trans (pv_sub_len _ _ (c8.2.1 b hb) (hSub b hb)) (hnf.2.1 b hb), fun b hb h22 => ?_⟩
    rotate_left
    · rcases hpe2 b hb with ⟨e8, e9, e10, e11⟩ | ⟨_, e8, e9, _⟩
      · rw [e8] at h22
        rw [e9]
        exact hnf.2.2 b hb h22
      · rw [e9]; decide
    rcases hpe2 b hb with ⟨e8, e9, e10, e11⟩ | ⟨_, e8, _⟩
    · rw [e8] at h23
      rw [e10, e11] at he
      have h9 := hnf.1 b c hb hc h23 he
      cases h8 : ph1 c with
      | nil => rfl
      | cons a r =>
        have h7 := hSub c hc a (by rw [h8]; exact List.mem_cons_self)
        rw [h9] at h7
        cases h7
    · rw [e8] at h23
      exact absurd h23 (by decide)
  have heg1 : ∀ b p, b < B → p < B → pv_eg w1 p b → pv_eg w p b := by
    intro b p hb hp he
    rcases hpe2 p hp with ⟨e8, e9, e10, e11⟩ | ⟨h23, e8, e9, e10, e11⟩
    · unfold pv_eg at he
      rw [e10, e11] at he
      exact he
    · rcases he with he | he
      · rcases e10 with e | e
        · rw [e] at he; exact Or.inr he
        · rw [e] at he; exact Or.inl he
      · rw [e11] at he
        exact absurd (show (-1 : Int32) < 0 by decide) (by rw [he]; exact pu_ge (by omega))
  have htk1 : ∀ b p, b < B → p < B → pv_eg w1 p b → ∀ a ∈ ph1 b, ixb (w1 21 (a * 60 + p)) 250 = true := by
    intro b p hb hp he a ha
    obtain ⟨j, j1, j2, j3⟩ := hw.2.2.2.2.1 b p hb hp (heg1 b p hb hp he)
    have h9 := htk b hb a (hSub b hb a ha) j j1 j2
    rw [j3, pu_nn (by omega)] at h9
    rw [r21]
    exact h9
  -- steps
  have hsq0 : ∀ b, b < B → ∀ a ∈ ch b, pv_sq Lm fs na (pv_S w2 a) := fun b hb a ha => ⟨hrg b hb a ha, hgk b hb a ha, hix2 b hb a ha, hLs b hb a ha, hcp b hb a ha⟩
  have hsq1 : ∀ b, b < B → ∀ a ∈ ch1 b, pv_sq Lm fs na (pv_S w21 a) := by
    intro b hb a ha
    by_cases hbx : pv_bt (l1 0 7) b = true
    · have u2 := ((c9 b hb).1 ⟨hb, hbx⟩).2.1
      have hm : pv_S w21 a ∈ (pv_fob g1 w w2 ch ph b).2.1 := by rw [← u2]; exact List.mem_map_of_mem ha
      rcases List.mem_append.mp hm with h | h
      · obtain ⟨z, hz, e⟩ := List.mem_map.mp h
        rw [← e]
        have hz := (List.mem_filter.mp hz).1
        exact pv_sq_num (hix b hb z hz) (hLp b hb z hz)
      · obtain ⟨z, hz, e⟩ := List.mem_map.mp h
        rw [← e]
        by_cases ht : pv_tf9 g1 w2 z = true
        · rw [if_pos ht]
          have hop : pu_isop (w2 2 z) = true := by unfold pv_tf9 at ht; rw [Bool.and_eq_true] at ht; exact ht.1
          have h0 := (hgk b hb z hz).mp (pu_op_gk hop)
          exact pv_sq_num (hopv b hb z hz hop) (hLs b hb z hz h0)
        · rw [if_neg ht]
          exact hsq0 b hb z hz
    · obtain ⟨_, u2, u3, _⟩ := (c9 b hb).2 fun q => hbx q.2
      rw [u2] at ha
      have e : pv_S w21 a = pv_S w2 a := List.map_inj_left.mp u3 a ha
      rw [e]
      exact hsq0 b hb a ha
  have hN1 : N1 < 50000 := by have := Nat.zero_le (pv_sl ph1 B); omega
  obtain ⟨hc00, R, ⟨q2, q3, q4, q5, q6⟩, hNR, hR2⟩ := id c3
  have hok1 : pv_ok n w1 n21 w21 B N1 M ch1 ph1 := ⟨⟨by rw [r00]; exact hw0, hB0, hB⟩, ⟨by omega, by omega, by omega, by omega, by omega, hN1⟩, ⟨hM19, hM20, hM21, hM⟩, c5, c6, c7, c8, fun b hb a ha => by rw [r19]; exact hix b hb a (hSub b hb a ha), fun b hb a ha => (hsq1 b hb a ha).2.2.1⟩
  have hrg1 : pv_rg w21 B ch1 := fun b hb a ha => (hsq1 b hb a ha).1
  have hgk1 : pv_gks w21 B ch1 := fun b hb a ha => (hsq1 b hb a ha).2.1
  have hlim1 : w1 0 1 = pu_I Lm ∧ Lm ≤ 250 ∧ (∀ b, b < B → ∀ a ∈ ph1 b, nn (w1 19 a) < Lm) ∧ (∀ b, b < B → ∀ a ∈ ch1 b, ¬ w21 3 a < 0 → nn (w21 3 a) < Lm) := ⟨by rw [r00]; exact hLw, hL, fun b hb a ha => by rw [r19]; exact hLp b hb a (hSub b hb a ha), fun b hb a ha => (hsq1 b hb a ha).2.2.2.1⟩
  have hcp1 : ∀ b, b < B → ∀ a ∈ ch1 b, (w21 2 a = 20 → ixb (w21 4 a) fs = true) ∧ (w21 2 a = 21 → ixb (w21 4 a) na = true) ∧ (w21 3 a < 0 → w21 3 a = -1) := fun b hb a ha => (hsq1 b hb a ha).2.2.2.2
  have hclF : ∀ b c, b < B → pu_sc (pu_foF (pv_F w w2 ch ph) (fun b => decide (b < B) && pv_bt (l1 0 7) b) (pv_stt g1) (pv_num g1)) b c → c < B := by
    intro b c hb h
    have h : pu_sc (pv_F w1 w21 ch1 ph1) b c := by unfold pu_sc at h ⊢; rw [hF1 b hb]; exact h
    exact pv_sc_lt (fun b hb => ⟨(hend1 b hb).2.2.1, (hend1 b hb).2.2.2⟩) hsv1 hB hb h
  have hrun1 : ∀ call ar k e m q r, pu_run (pv_F w w2 ch ph) call ar k 0 0 (e, m, q) = some r → pu_run (pv_F w1 w21 ch1 ph1) call ar k 0 0 (e, m, q) = some r := fun call ar k e m q r h => pu_eqB_run hB0 hclF hF1 (pu_fo_run hS hfok h)
  have hpre : fX5_foldNumbers g gl n w l n2 w2 s = fX5_foldNumbers_G119_29 n l s (g1, l1) (pu_I cnt, w1, w21, n21) := by
    unfold fX5_foldNumbers
    rw [a1, Option.bind_some]
    simp only [lt9]
    rw [b1, Option.bind_some, c1, Option.bind_some]
  by_cases hcnt : cnt = 0
  · -- nothing was folded
    have hall := c12 hcnt
    have hsame : ∀ b, b < B → ph1 b = ph b ∧ (ch1 b).map (pv_S w21) = (ch b).map (pv_S w2) ∧ w1 8 b = w 8 b ∧ w1 9 b = w 9 b ∧ w1 10 b = w 10 b ∧ w1 11 b = w 11 b := by
      intro b hb
      by_cases hbx : pv_bt (l1 0 7) b = true
      · obtain ⟨u1, u2, u3⟩ := (c9 b hb).1 ⟨hb, hbx⟩
        obtain ⟨v1, v2, v3⟩ := hall b hb hbx
        have hk : ∀ a ∈ ph b, pv_kn9 g1 w a = false := fun a ha => by
          cases h : pv_kn9 g1 w a with
          | false => rfl
          | true =>
            have : a ∈ (ph b).filter (pv_kn9 g1 w) := List.mem_filter.mpr ⟨ha, h⟩
            rw [v1] at this
            cases this
        have ht : ∀ a ∈ ch b, ¬ pv_tf9 g1 w2 a = true := fun a ha h => by
          have : a ∈ (ch b).filter (pv_tf9 g1 w2) := List.mem_filter.mpr ⟨ha, h⟩
          rw [v2] at this
          cases this
        refine ⟨?_, ?_, ?_⟩
        · rw [u1]
          exact List.filter_eq_self.mpr fun a ha => by rw [hk a ha]; rfl
        · rw [u2]
          show ((ph b).filter (pv_kn9 g1 w)).map (pv_nu9 g1 w) ++ (ch b).map _ = _
          rw [v1, List.map_nil, List.nil_append]
          exact List.map_congr_left fun a ha => if_neg (ht a ha)
        · rcases hpe2 b hb with h | ⟨h23, h⟩
          · exact h
          · exfalso
            have hfe : (w1 8 b, w1 9 b, w1 10 b, w1 11 b) = pu_fen (pv_stt g1) (pv_num g1) (w 8 b, w 9 b, w 10 b, w 11 b) := u3
            unfold pu_fen at hfe
            rw [if_neg (by rintro ⟨_, q⟩; exact v3 ⟨h23, by rw [show (w 8 b, w 9 b, w 10 b, w 11 b).2.1 = w 9 b from rfl, pv_stt_v (hev b hb h23)] at q; exact q⟩)] at hfe
            have h8 : w1 8 b = w 8 b := congrArg (fun x : pu_End => x.1) hfe
            rw [h.1, h23] at h8
            exact absurd h8 (by decide)
      · obtain ⟨u1, u2, u3, u4, u5, u6, u7⟩ := (c9 b hb).2 fun q => hbx q.2
        exact ⟨u1, by rw [u2]; exact u3, u4, u5, u6, u7⟩
    have hFe : ∀ b, b < B → pv_F w1 w21 ch1 ph1 b = pv_F w w2 ch ph b := by
      intro b hb
      obtain ⟨u1, u2, u3, u4, u5, u6⟩ := hsame b hb
      show ((ph1 b).map (pv_P w1), (ch1 b).map (pv_S w21), (w1 8 b, w1 9 b, w1 10 b, w1 11 b)) = ((ph b).map (pv_P w), (ch b).map (pv_S w2), (w 8 b, w 9 b, w 10 b, w 11 b))
      rw [u1, u2, u3, u4, u5, u6, hP]
    have hscE : ∀ b c, b < B → (pu_sc (pv_F w1 w21 ch1 ph1) b c ↔ pu_sc (pv_F w w2 ch ph) b c) := fun b c hb => pu_eqB_sc hFe hb
    have r12 : w1 12 = w 12 := c10 12 (by decide) (by decide) (by decide) (by decide) (by decide) (by decide) (by decide) (by decide) (by decide)
    have r14 : w1 14 = w 14 := c10 14 (by decide) (by decide) (by decide) (by decide) (by decide) (by decide) (by decide) (by decide) (by decide)
    have r15 : w1 15 = w 15 := c10 15 (by decide) (by decide) (by decide) (by decide) (by decide) (by decide) (by decide) (by decide) (by decide)
    refine ⟨0, g1, l1, w1, l, w21, n21, s, B, N1, D, ch1, ph1, wb, dm, ?_, Nat.zero_le _, ⟨⟨hok1, hrg1, hgk1, ?_, fun b hb a ha => by rw [(hsame b hb).1] at ha; rw [r21, r15]; exact htk b hb a ha⟩, hend1, fun b c hb h => ?_, pu_eqB_ssa hFe hS, ?_, hdb, fun h hh hn => ?_, fun c hc hc0 => by rw [r12]; exact hdmw c hc hc0, hdm, hlim1, hcp1, c3, fun p hp h => hno p hp ((hscE p 0 hp).mp h), hnf1⟩, c4, c4b, hrun1⟩
    · rw [hpre, hcnt]
      rfl
    · refine ⟨fun b hb => by rw [r14]; exact hw.1 b hb, hw.2.1, hw.2.2.1, fun b j hb j1 j2 => ?_, fun b p hb hp he => ?_, fun b i j hb hi hij hj => ?_⟩
      · obtain ⟨p, p1, p2, p3⟩ := hw.2.2.2.1 b j hb j1 j2
        exact ⟨p, p1, by rw [r15]; exact p2, by rw [(hsame p p1).2.2.2.2.1, (hsame p p1).2.2.2.2.2]; exact p3⟩
      · rw [(hsame p hp).2.2.2.2.1, (hsame p hp).2.2.2.2.2] at he
        rw [r15]
        exact hw.2.2.2.2.1 b p hb hp he
      · rw [r15]
        exact hw.2.2.2.2.2 b i j hb hi hij hj
    · rw [(hsame b hb).2.2.2.2.1, (hsame b hb).2.2.2.2.2]
      exact hsu b c hb ((hscE b c hb).mp h)
    · refine ⟨fun c hc hc0 => ?_, fun X x0 xs c d hc hdB hX => hd.2 X x0 (fun p c d hp hc hc0 he h => xs p c d hp hc hc0 ((hscE p c hp).mpr he) h) c d hc hdB hX⟩
      obtain ⟨p, p1, p2⟩ := hd.1 c hc hc0
      exact ⟨p, p1, (hscE p c (by omega)).mpr p2⟩
    · obtain ⟨z1, z2, z3, z4⟩ := hlp h hh hn
      exact ⟨z1, z2, fun c p hc hch hp he => z3 c p hc hch hp ((hscE p c hp).mp he), fun p hp he hD => z4 p hp ((hscE p h hp).mp he) hD⟩
  · have hS1 : pu_ssa (pv_F w1 w21 ch1 ph1) (pu_rch (pv_F w1 w21 ch1 ph1)) D := by
      have h1 := pu_fo_ssa hS hfok
      have e1 := pu_rch_eq hB0 hF1 hclF
      rw [e1]
      refine pu_eqL_ssa (fun b hb => hF1 b ?_) h1
      exact hb (fun b => b < B) hB0 fun b c hb hs => hclF b c hb hs
    obtain ⟨s', w', l', B', D', ch', ph', wb', dm', z1, z2, z3, z4, z5, z6⟩ := pv_rn_fl (s := s) (l := l) (Lm := Lm) (fs := fs) hok1 hrg1 hgk1 htk1 hend1 hsv1 hS1 hlim1 hcp1 c3 (fun p hp h => hno p hp ((pv_eg_sc hek hp (by decide)).mpr (heg1 0 p hB0 hp ((pv_eg_sc (fun b hb => ⟨(hend1 b hb).2.2.1, (hend1 b hb).2.2.2⟩) hp (by decide)).mp h)))) hnf1
    refine ⟨cnt, g1, l1, w', l', w21, n21, s', B', N1, D', ch', ph', wb', dm', ?_, c2, z2, by omega, c4b, fun call ar k e m q r h => z6 call ar k e m q r (hrun1 call ar k e m q r h)⟩
    rw [hpre]
    unfold fX5_foldNumbers_G119_29 fX5_foldNumbers_J131
    show (if pu_I cnt ≤ 0 then _ else ((fX8_renumber s n w1 l).bind _)) = _
    rw [if_neg (by rw [show (0 : Int32) = pu_I 0 from rfl, pu_le (by omega) (by decide)]; omega), z1, Option.bind_some]
end FE
