/-! pure side: the text is on the tape: readProgram reads it -/
section RPG
variable {dr : Nat → Nat → Nat}
theorem mp_tks (hd : ∀ k n, 0 < n → dr k n < n) {d0 : Nat} {k : Int32} : (rp_ts (mp_F dr d0 k) 3 0).length ≤ 600 := by
  have h1 := (mf_nm hd (d0 := d0) (F := mp_F dr d0 k) (i := 0) rfl rfl).2.2
  have e0 : (mp_F dr d0 k).2.2 0 = mf_b dr d0 := rfl
  have e1 : (rs_tks ((mp_F dr d0 k).2.2 1)).length ≤ 55 := Nat.le_of_ble_eq_true rfl
  have e2 : (rs_tks ((mp_F dr d0 k).2.2 2)).length ≤ 55 := Nat.le_of_ble_eq_true rfl
  have p0 : (rp_tk 0 ((mp_F dr d0 k).2.1 0)).length = 3 := rfl
  have p1 : (rp_tk 0 ((mp_F dr d0 k).2.1 1)).length = 5 := rfl
  have p2 : (rp_tk 0 ((mp_F dr d0 k).2.1 2)).length = 3 := rfl
  have s : ∀ m i, (rp_ts (mp_F dr d0 k) (m + 1) i).length = 3 + ((rp_tk 0 ((mp_F dr d0 k).2.1 i)).length + (2 + ((rs_tks ((mp_F dr d0 k).2.2 i)).length + (1 + (rp_ts (mp_F dr d0 k) m (i + 1)).length)))) := fun m i => by
    show (_ :: _ :: _ :: (rp_tk 0 ((mp_F dr d0 k).2.1 i) ++ (_ :: _ :: (rs_tks ((mp_F dr d0 k).2.2 i) ++ (_ :: rp_ts (mp_F dr d0 k) m (i + 1)))))).length = _
    simp only [List.length_cons, List.length_append]
    omega
  have z : (rp_ts (mp_F dr d0 k) 0 3).length = 0 := rfl
  rw [s 2 0, s 1 1, s 0 2, z, p0, p1, p2, e0]
  omega
/-- the reader begins with the tokens ts -/
theorem rd_bg {tw : ST} {tl : SL} {bs : List Int32} {ts : List Tok} (h1 : tk_b (upw (upw tw 0 6 0) 0 7 0) bs) (h2 : lx_s bs ts) (h3 : ts.length ≤ 600) : ∃ tw' tl', fX10_begin tw tl = some (tw', tl') ∧ tk_s tw' tl' ts := by
  have h : tk_s (upw (upw tw 0 6 0) 0 7 0) tl ((tw 0 2, tw 0 4, tl 0 5) :: ts) := by
    refine ⟨⟨rfl, fun _ => rfl, fun _ => rfl⟩, bs, 0, h1, h2, rfl, by omega⟩
  obtain ⟨tw', tl', e, k, _⟩ := tk_adv h
  refine ⟨tw', tl', ?_, k⟩
  unfold fX10_begin
  dsimp only [lt9]
  rw [e]; rfl
theorem rd_L46 {S0 S : rd_S} {m : Nat} (h : rp_st S0 3 S) (h2 : S.2.2.2.2.1 0 2 = 0) : fX7_readProgram_L46 (m + 4) 0 S0.1 S0.2.1 S0.2.2.1 S0.2.2.2.1 S0.2.2.2.2.1 S0.2.2.2.2.2 = some S := by
  obtain ⟨R2, ⟨R1, ⟨R0, e0, _, f0⟩, g1, f1⟩, g2, f2⟩ := h
  obtain rfl : R0 = S0 := e0
  show fX7_readProgram_J66 (fX7_readProgram_L46 (m + 3)) 0 R0.1 R0.2.1 R0.2.2.1 R0.2.2.2.1 R0.2.2.2.2.1 R0.2.2.2.2.2 = _
  unfold fX7_readProgram_J66
  rw [show fX7_readFunction ((rR 100).1) R0.1 R0.2.1 0 R0.2.2.1 R0.2.2.2.1 R0.2.2.2.2.1 R0.2.2.2.2.2 = some R1 from f0, Option.bind_some]
  show (if (R1.2.2.2.2.1 0 2) = 0 then some (R1.1, R1.2.1, R1.2.2.1, R1.2.2.2.1, R1.2.2.2.2.1, R1.2.2.2.2.2) else (fX7_readProgram_J66 (fX7_readProgram_L46 (m + 2)) (0 + 1) R1.1 R1.2.1 R1.2.2.1 R1.2.2.2.1 R1.2.2.2.2.1 R1.2.2.2.2.2)) = _
  rw [if_neg (g1 (by decide))]
  unfold fX7_readProgram_J66
  rw [show fX7_readFunction ((rR 100).1) R1.1 R1.2.1 (0 + 1) R1.2.2.1 R1.2.2.2.1 R1.2.2.2.2.1 R1.2.2.2.2.2 = some R2 from f1, Option.bind_some]
  show (if (R2.2.2.2.2.1 0 2) = 0 then some (R2.1, R2.2.1, R2.2.2.1, R2.2.2.2.1, R2.2.2.2.2.1, R2.2.2.2.2.2) else (fX7_readProgram_J66 (fX7_readProgram_L46 (m + 1)) (0 + 1 + 1) R2.1 R2.2.1 R2.2.2.1 R2.2.2.2.1 R2.2.2.2.2.1 R2.2.2.2.2.2)) = _
  rw [if_neg (g2 (by decide))]
  unfold fX7_readProgram_J66
  rw [show fX7_readFunction ((rR 100).1) R2.1 R2.2.1 (0 + 1 + 1) R2.2.2.1 R2.2.2.2.1 R2.2.2.2.2.1 R2.2.2.2.2.2 = some S from f2, Option.bind_some]
  show (if (S.2.2.2.2.1 0 2) = 0 then some (S.1, S.2.1, S.2.2.1, S.2.2.2.1, S.2.2.2.2.1, S.2.2.2.2.2) else (fX7_readProgram_J66 (fX7_readProgram_L46 m) (0 + 1 + 1 + 1) S.1 S.2.1 S.2.2.1 S.2.2.2.1 S.2.2.2.2.1 S.2.2.2.2.2)) = _
  rw [if_pos h2]
/-- THE MADE TEXT IS READ -/
theorem rd_made (hd : ∀ k n, 0 < n → dr k n < n) {d0 : Nat} {k : Int32} {p0w p1w tw : ST} {p0l p1l tl : SL} {bs : List Int32} (hr : p0w 0 3 = 0 ∧ p0w 0 9 = 0 ∧ p0w 0 12 = 0) (h1 : tk_b (upw (upw tw 0 6 0) 0 7 0) bs) (h2 : lx_s bs (rp_ts (mp_F dr d0 k) 3 0)) :
    ∃ (S : rd_S) (P : ST), fX7_readProgram p0w p0l p1w p1l tw tl = some (0, S.1, S.2.1, P, S.2.2.2.1, S.2.2.2.2.1, S.2.2.2.2.2) ∧ P 0 0 = pu_I 3 ∧ (∀ f, f < 3 → P 4 f = pu_I ((mp_F dr d0 k).2.1 f).length ∧ P 6 f = pu_I (rp_a (mp_F dr d0 k) f) ∧ P 7 f = pu_I (rp_a (mp_F dr d0 k) (f + 1))) ∧
      (∀ f, f < 3 → tq_fn P f (rp_a (mp_F dr d0 k) f) (rp_a (mp_F dr d0 k) (f + 1)) (((mp_F dr d0 k).2.1 f).length + rs_sV ((mp_F dr d0 k).2.2 f)) 3 ((mp_F dr d0 k).2.1 f).length) ∧
      ∃ A rk tk, pm_pg P 3 (rp_a (mp_F dr d0 k)) (fun f => rp_a (mp_F dr d0 k) (f + 1)) (fun f => ((mp_F dr d0 k).2.1 f).length + rs_sV ((mp_F dr d0 k).2.2 f)) A (fun f => ((mp_F dr d0 k).2.1 f).length) rk tk := by
  obtain ⟨tw', tl', e1, hs⟩ := rd_bg (tl := tl) h1 h2 (mp_tks hd)
  have hc : fX6_clear p1w = some (upw (upw (upw p1w 0 0 0) 0 7 0) 0 11 0) := rfl
  have hin : rp_in (mp_F dr d0 k) 3 0 (upw (upw (upw (upw (upw p0w 0 4 0) 0 5 (-1)) 0 6 0) 0 0 (-1)) 0 17 0, p0l, upw (upw (upw p1w 0 0 0) 0 7 0) 0 11 0, p1l, tw', tl') := by
    refine ⟨⟨0, [], 0, ⟨hr.1, rfl, (by decide : (-1 : Int32) < 0), rfl, hr.2.2⟩, ⟨by decide, by decide, by decide⟩, ⟨hr.2.1, by decide, fun k x h => (by simp at h)⟩, rfl, fun k x h => (by simp [rp_cs] at h)⟩, ⟨⟨rfl, rfl⟩, fun x hx => absurd hx (Nat.not_lt_zero x), fun x hx => absurd hx (Nat.not_lt_zero x)⟩, fun j hj => absurd hj (Nat.not_lt_zero j), fun k c h => (by simp [rp_W] at h), fun j hj => absurd hj (Nat.not_lt_zero j), fun h => absurd rfl h, hs⟩
  obtain ⟨S, P, s1, s2, s3, s4, s5, s6, s7, s8, s9⟩ := mp_prog hd hin
  refine ⟨S, P, ?_, s6, s7, s8, s9⟩
  have hl := rd_L46 (m := 4194300) s1 s2
  unfold fX7_readProgram
  rw [hc, Option.bind_some]
  dsimp only [lt9]
  rw [e1, Option.bind_some]
  dsimp only at hl ⊢
  rw [show fX7_readProgram_L46 NF 0 _ _ _ _ _ _ = some S from hl, Option.bind_some, if_pos s3, s5, Option.bind_some]
  dsimp only
  rw [s4]
end RPG
