/-! pure side, the made function 7: whiles with counters; all lines -/
section MDW
variable {dr : Nat → Nat → Nat}
theorem md_ct_ne {m n : Nat} (hm : m < 3) (hn : n < 3) (h : m ≠ n) : md_ct m ≠ md_ct n := by
  rcases (by omega : m = 0 ∨ m = 1 ∨ m = 2) with e | e | e <;> rcases (by omega : n = 0 ∨ n = 1 ∨ n = 2) with e2 | e2 | e2 <;> subst e <;> subst e2 <;> first | (exact absurd rfl h) | decide
theorem md_sw_new {sv : rd_sv} {c V : Nat} (h : md_sw sv c) (hc : c < 3) : md_sw (sv ++ [(md_ct c, V)]) (c + 1) :=
  ⟨fun k hk => (h.1 k hk).elim fun v hv => ⟨v, hv.1, rd_lk_app _ _ hv.2⟩, fun m h1 h2 => by rw [rd_lk_old (md_ct_ne hc h2 (by omega))]; exact h.2 m (by omega) h2⟩
theorem md_wh_lk {h C m q c v : Nat} {s t2 F2 : md_S} {e : RE} {F : md_G} {B g I : Nat} (hC : 50 ≤ C) (hm : m ≤ 2) (h46 : t2.2.1 < 46) (h8 : t2.2.2.1 < 8) (hc : t2.2.2.2 = c) (hc3 : c < 3) (ht : md_pk 2 s.2.1 t2.2.1 I s.2.2.1 t2.2.2.1 s.2.2.2 t2.2.2.2 e B g) (hF : md_lk h m C (q, t2.2.1, t2.2.2.1 + 1, t2.2.2.2 + 1) F2 F) : md_lk (h + 1) 1 (C + 4) s F2 (md_wh c v F) := by
  obtain ⟨h1, _, ⟨h5, h6, h7⟩, ⟨h8', h9, h10⟩, ⟨h11, h12, h13, h14⟩, h15, h16, h17⟩ := ht
  obtain ⟨X, J, W, Fk, gL, ⟨a1, a2, a3⟩, ⟨a4, a5, a6, a7, a8⟩, a9, a10⟩ := hF
  have hT0 : rb_N (rs_cons (rs_set (md_ct c) (re_bn 43 1 3 (re_vr (md_ct c)) (re_nm 1))) rs_nil) 3 0 2 := rb_N_mono (rb_N_cons (rs_N_set (re_N_bn re_N_vr re_N_nm sg_add ⟨(by decide : 3 < 6), (by decide : 3 < 6)⟩) (by decide)) rb_N_nil) (Nat.le_of_ble_eq_true rfl) (Nat.le_of_ble_eq_true rfl) (Nat.le_of_ble_eq_true rfl)
  obtain ⟨T0, hT⟩ : ∃ T0, T0 = rs_cons (rs_set (md_ct c) (re_bn 43 1 3 (re_vr (md_ct c)) (re_nm 1))) rs_nil := ⟨_, rfl⟩
  rw [← hT] at hT0
  obtain ⟨c1, ⟨c2, c3, c4, c5, c6⟩, ⟨c7, c8⟩, ⟨c9, c10⟩, c11⟩ := a10 T0 3 0 2 hT0
  dsimp only at a1 a2 a3 a4 a5 a7 a8 a9 c5 c6 c11
  have z1 : rs_sL T0 = 0 := by rw [hT]; rfl
  have z2 : rs_sV T0 = 0 := by rw [hT]; rfl
  have z3 : rs_ln T0 = 4 := by rw [hT]; rfl
  have z4 : (rs_tks T0).length = 6 := by rw [hT]; rfl
  have z5 : rs_cn T0 = 0 := by rw [hT]; rfl
  have z6 : ∀ n, rs_cl T0 n = [] := by rw [hT]; exact fun _ => rfl
  have z7 : rs_br T0 = 0 := by rw [hT]; rfl
  have z8 : rs_dp T0 = 25 := by rw [hT]; rfl
  rw [z1] at c2; rw [z2] at c3; rw [z3] at c4 c5; rw [z4] at c6; rw [z5] at c7; rw [z7] at c9; rw [z8] at c10
  obtain ⟨_, ar⟩ := md_ar6 (p := s.2.1) h46 a2 hm hC
  obtain ⟨e1, e2, e3⟩ := md_ar8 h
  clear h6 a2
  have hE : re_N (re_bn 60 11 2 (re_vr (md_ct c)) (re_nm (pu_I v))) 2 2 2 := re_N_mono (re_N_bn re_N_vr re_N_nm sg_lt ⟨(by decide : 2 < 6), (by decide : 2 < 6)⟩) (Nat.le_of_ble_eq_true rfl) (Nat.le_of_ble_eq_true rfl) (Nat.le_of_ble_eq_true rfl)
  refine ⟨X, I + J, W + 1, re_ss e + 1 + Fk, gL + 5, ⟨by omega, ar, by omega⟩, ⟨by omega, by omega, by omega, fun q => a7 (by omega), fun q => a8 (by omega)⟩, by omega, fun b Bb fb gb hb => ?_⟩
  obtain ⟨Wh, hWh⟩ : ∃ Wh, Wh = rs_wh (re_bn 60 11 2 (re_vr (md_ct c)) (re_nm (pu_I v))) (F T0) := ⟨_, rfl⟩
  have hG : md_wh c v F b = rs_cons (rs_var (md_ct c) (re_nm 0)) (rs_cons Wh b) := by rw [hWh, hT]; rfl
  have hNW : rs_N Wh (2 + max (15 * (2 ^ h - 1) + 6 + 9 * X) 3 + 6) (0 + 1 + (Fk + 0)) (2 + (gL + 2)) := by rw [hWh]; exact rs_N_wh hE (by decide) c1
  have w1 : rs_sL Wh = 2 + 0 + rs_sL (F T0) := by rw [hWh]; rfl
  have w2 : rs_sV Wh = 0 + rs_sV (F T0) := by rw [hWh]; rfl
  have w3 : rs_ln Wh = 3 + rs_ln (F T0) + 5 := by rw [hWh]; rfl
  have w4 : (rs_tks Wh).length = 3 + (rs_tks (F T0)).length + 3 := by
    rw [hWh]
    show (_ :: ([_, _, _] ++ (_ :: (rs_tks (F T0) ++ [_])))).length = _
    simp only [List.length_append, List.length_cons, List.length_nil]; omega
  have w5 : rs_cn Wh = 0 + rs_cn (F T0) := by rw [hWh]; rfl
  have w6 : ∀ n, rs_cl Wh n = [] ++ rs_cl (F T0) (n + 2 + 3 + 1) := by rw [hWh]; exact fun _ => rfl
  have w7 : rs_br Wh = max 0 (rs_br (F T0) + 1) := by rw [hWh]; rfl
  have w8 : rs_dp Wh = max 24 (rs_dp (F T0)) + 3 := by rw [hWh]; rfl
  rw [hG]
  have g1 : rs_sL (rs_cons (rs_var (md_ct c) (re_nm 0)) (rs_cons Wh b)) = 0 + (rs_sL Wh + rs_sL b) := rfl
  have g2 : rs_sV (rs_cons (rs_var (md_ct c) (re_nm 0)) (rs_cons Wh b)) = 0 + 1 + (rs_sV Wh + rs_sV b) := rfl
  have g3 : rs_ln (rs_cons (rs_var (md_ct c) (re_nm 0)) (rs_cons Wh b)) = 1 + 1 + (rs_ln Wh + rs_ln b) := rfl
  have g4 : (rs_tks (rs_cons (rs_var (md_ct c) (re_nm 0)) (rs_cons Wh b))).length = 5 + ((rs_tks Wh).length + (rs_tks b).length) := by
    show ([_, _, _, _, _] ++ (rs_tks Wh ++ rs_tks b)).length = _
    rw [List.length_append, List.length_append]; rfl
  have hmax : max (15 * (2 ^ h - 1) + 6 + 9 * X) 3 ≤ 15 * 2 ^ h - 9 + 9 * X := Nat.max_le.mpr ⟨by omega, by omega⟩
  refine ⟨rb_N_mono (rb_N_var re_N_nm (by decide) (rb_N_cons hNW hb)) ?_ ?_ ?_, ⟨?_, ?_, ?_, ?_, ?_⟩, ⟨?_, fun hq n => ?_⟩, ⟨?_, ?_⟩, fun sv hsv hb2 => ?_⟩
  · refine Nat.max_le.mpr ⟨Nat.le_trans ?_ (Nat.le_max_left _ _), Nat.max_le.mpr ⟨Nat.le_trans ?_ (Nat.le_max_left _ _), Nat.le_max_right _ _⟩⟩
    · omega
    · omega
  · show 0 + (0 + 1 + (Fk + 0) + fb) ≤ re_ss e + 1 + Fk + fb; omega
  · omega
  · rw [g1, w1]; omega
  · rw [g2, w2]; omega
  · rw [g3, w3]; omega
  · rw [g3, w3]; omega
  · rw [g4, w4]; omega
  · show 0 + (rs_cn Wh + rs_cn b) = rs_cn b
    rw [w5]; omega
  · show [] ++ (rs_cl Wh _ ++ rs_cl b _) = []
    rw [w6, c8 z6, hq]; rfl
  · show max 0 (max (rs_br Wh) (rs_br b)) ≤ _
    have : rs_br (F T0) ≤ 3 + h := Nat.le_trans c9 (Nat.max_le.mpr ⟨Nat.le_refl _, Nat.zero_le _⟩)
    refine Nat.max_le.mpr ⟨Nat.zero_le _, Nat.max_le.mpr ⟨Nat.le_trans ?_ (Nat.le_max_left _ _), Nat.le_max_right _ _⟩⟩
    rw [w7]
    exact Nat.max_le.mpr ⟨Nat.zero_le _, by omega⟩
  · show max 13 (max (rs_dp Wh) (rs_dp b)) ≤ _
    have : rs_dp (F T0) ≤ 61 + 3 * h := Nat.le_trans c10 (Nat.max_le.mpr ⟨Nat.le_refl _, by omega⟩)
    refine Nat.max_le.mpr ⟨Nat.le_trans ?_ (Nat.le_max_left _ _), Nat.max_le.mpr ⟨Nat.le_trans ?_ (Nat.le_max_left _ _), Nat.le_max_right _ _⟩⟩
    · omega
    · rw [w8]
      have : max 24 (rs_dp (F T0)) ≤ 61 + 3 * h := Nat.max_le.mpr ⟨by omega, by omega⟩
      omega
  · rw [← h10, hc] at hsv
    rw [hc] at c11 a5
    refine ⟨⟨⟨(by decide : 1 ≤ 9), trivial⟩, hsv.2 c (Nat.le_refl c) hc3⟩, fun V hV => ?_⟩
    replace hV : V + 1 ≤ 320 := hV
    have hsw := md_sw_new (V := V + 0) hsv hc3
    have hlk : ∀ sv2, ∃ v, v < 320 ∧ rd_lk (sv ++ [(md_ct c, V + 0)] ++ sv2) (md_ct c) = some v := fun sv2 => ⟨V + 0, by omega, rd_lk_app _ _ (rd_lk_new (hsv.2 c (Nat.le_refl c) hc3))⟩
    have hlk0 : ∃ v, v < 320 ∧ rd_lk (sv ++ [(md_ct c, V + 0)]) (md_ct c) = some v := ⟨V + 0, by omega, rd_lk_new (hsv.2 c (Nat.le_refl c) hc3)⟩
    show rs_sn (rs_cons Wh b) (sv ++ [(md_ct c, V + 0)])
    refine ⟨?_, fun U _ => ?_⟩
    · rw [hWh]
      refine ⟨⟨(by decide : 2 ≤ 9), hlk0, trivial⟩, c11 _ hsw fun sv2 _ => ?_⟩
      rw [hT]
      exact ⟨⟨⟨(by decide : 2 ≤ 9), hlk sv2, trivial⟩, hlk sv2⟩, fun _ _ => trivial⟩
    · rw [hNW.1.2.2.2.2 U, List.append_nil]
      exact hb2 _ (md_sw_mono hsw (by omega))
/-- all lines -/
theorem md_line_ok (hd : ∀ k n, 0 < n → dr k n < n) : ∀ h s, md_lk h 1 (50 + 4 * h) s (md_line dr h s).2 (md_line dr h s).1 := by
  intro h
  induction h with
  | zero =>
    intro s
    exact md_flat hd (Nat.le_refl 50) (fun q => by have := q.1; cases this)
  | succ h ih =>
    intro s
    show md_lk (h + 1) 1 (50 + 4 * (h + 1)) s (md_step dr (decide (h = 0)) true (md_line dr h) s).2 (md_step dr (decide (h = 0)) true (md_line dr h) s).1
    by_cases hn : true = true ∧ (md_part dr 2 (s.1 + 1, s.2)).2.2.1 < 46 ∧ (md_part dr 2 (s.1 + 1, s.2)).2.2.2.1 < 8 ∧ 6 < dr s.1 10
    · obtain ⟨B, g, I, ht⟩ := md_pk_of hd (Nat.le_refl 2) (s.1 + 1, s.2)
      have hm := fun m s => (md_many_ok (Q := fun _ => True) (fun s _ => ⟨ih s, trivial⟩) m s trivial).1
      have hC : 50 ≤ 50 + 4 * h := Nat.le_add_right _ _
      have hC4 : 50 + 4 * (h + 1) = 50 + 4 * h + 4 := by omega
      rw [hC4]
      unfold md_step
      generalize md_part dr 2 (s.1 + 1, s.2) = t at hn ht ⊢
      dsimp only at ht ⊢
      rw [if_pos hn]
      obtain ⟨_, n1, n2, n3⟩ := hn
      have d2 : ∀ k, 1 + dr k 2 ≤ 2 := fun k => by have := hd k 2 (by decide); omega
      by_cases c1 : dr s.1 10 = 9 ∧ t.2.2.2.2 < 3
      · rw [if_pos c1]
        exact md_wh_lk hC (d2 _) n1 n2 rfl c1.2 ht (hm _ _)
      · rw [if_neg c1]
        have hF := hm (1 + dr (t.2.1 + 1) 2) (t.2.1 + 2, t.2.2.1, t.2.2.2.1 + 1, t.2.2.2.2)
        generalize md_many (md_line dr h) (1 + dr (t.2.1 + 1) 2) (t.2.1 + 2, t.2.2.1, t.2.2.2.1 + 1, t.2.2.2.2) = F at hF ⊢
        by_cases c2 : dr F.2.1 2 = 0
        · rw [if_pos c2]
          exact md_if_lk hC (d2 _) n1 n2 ht hF
        · rw [if_neg c2]
          exact md_ife_lk hC (d2 _) n1 n2 ht hF (hm 1 (F.2.1 + 1, F.2.2))
    · exact md_flat hd (by omega) hn
end MDW
