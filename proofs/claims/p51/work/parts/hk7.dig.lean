/-! pure side, the law 4: the checksum is there, and what it rests on -/
theorem dg_bind {α β : Type} {x : Option α} {f : α → Option β} (h : ∃ d, x = some d) (h2 : ∀ o, ∃ e, f o = some e) : ∃ e, x.bind f = some e := by
  obtain ⟨d, rfl⟩ := h
  exact h2 d
theorem dg_step {n w : Nat → Nat} {x9 : ST} {i N : Nat} (hi : i < N) (hN : N < 50000) (h2 : N ≤ n 2) (h3 : N ≤ n 3) (h4 : N ≤ n 4) (h5 : N ≤ n 5) (a : Int64) : ∃ d, fX11_digestStep a n x9 (pu_I i) = some d := by
  unfold fX11_digestStep
  rw [if_pos ((pu_ix (by omega)).mpr (by omega)), if_pos ((pu_ix (by omega)).mpr (by omega)), if_pos ((pu_ix (by omega)).mpr (by omega)), if_pos ((pu_ix (by omega)).mpr (by omega))]
  exact ⟨_, rfl⟩
section DG
variable {n n2 : Nat → Nat} {w w2 : ST} {B N M : Nat} {ch ph : Nat → List Nat} {wb : Nat → Nat}
theorem dg_countSteps (hok : pv_ok n w n2 w2 B N M ch ph) {b : Nat} (hb : b < B) : ∃ d, fX1_countSteps w (pu_I b) n2 w2 = some d := by
  obtain ⟨⟨_, _, hB⟩, ⟨_, _, _, _, hN6, hN⟩, _, hst, hd, _⟩ := id hok
  have hb31 : b < 2147483648 := by omega
  obtain ⟨t, h1, _⟩ := pv_chl (G := fun k x (s : Int32) => fX1_countSteps_L9 n2 w2 k s x) (nx := w2 6) (Inv := fun _ rem (_ : Int32) => ∀ a ∈ rem, a < N) (Q := fun (_ : Int32) => True)
    (fun k a done rem s hI => by
      have ha := hI a List.mem_cons_self
      have ha31 : a < 2147483648 := by omega
      refine ⟨s + 1, ?_, fun z hz => hI z (List.mem_cons_of_mem _ hz)⟩
      show (if pu_I a < 0 then some s else (if ixb (pu_I a) (n2 6) = true then ((fX1_countSteps_L9 n2 w2 k) (s + 1) (w2 6 (nn (pu_I a)))) else none)) = _
      rw [if_neg (pu_ge ha31), if_pos ((pu_ix ha31).mpr (by omega)), pu_nn ha31])
    (fun k x done s hx hI => ⟨s, by
      show (if x < 0 then some s else _) = _
      rw [if_pos hx], trivial⟩) (ch b) [] (w 4 b) NF 0 (hst.1 b hb) (by have := pv_len N (ch b) (hd.2.1 b hb) (hd.1 b hb); have := pv_NF; omega) (hd.1 b hb)
  have h1 : fX1_countSteps_L9 n2 w2 NF 0 (w 4 b) = some t := h1
  unfold fX1_countSteps
  rw [if_pos ((pu_ix hb31).mpr (by omega)), pu_nn hb31, h1, Option.bind_some]
  exact ⟨t, rfl⟩
theorem dg_steps (hok : pv_ok n w n2 w2 B N M ch ph) {b : Nat} (hb : b < B) (s0 : Int64) : ∃ d, fX11_digestSteps s0 w (pu_I b) n2 w2 = some d := by
  obtain ⟨⟨_, _, hB⟩, ⟨hN2, hN3, hN4, hN5, hN6, hN⟩, _, hst, hd, _⟩ := id hok
  have hb31 : b < 2147483648 := by omega
  obtain ⟨t, h1, _⟩ := pv_chl (G := fun k x (s : Int64) => fX11_digestSteps_L11 n2 w2 k s x) (nx := w2 6) (Inv := fun _ rem (_ : Int64) => ∀ a ∈ rem, a < N) (Q := fun (_ : Int64) => True)
    (fun k a done rem s hI => by
      have ha := hI a List.mem_cons_self
      have ha31 : a < 2147483648 := by omega
      obtain ⟨d, hd⟩ := dg_step (w := n2) (x9 := w2) ha hN hN2 hN3 hN4 hN5 s
      refine ⟨d, ?_, fun z hz => hI z (List.mem_cons_of_mem _ hz)⟩
      show (if pu_I a < 0 then some s else ((fX11_digestStep s n2 w2 (pu_I a)).bind fun (o_3 : Int64) => (if ixb (pu_I a) (n2 6) = true then ((fX11_digestSteps_L11 n2 w2 k) o_3 (w2 6 (nn (pu_I a)))) else none))) = _
      rw [if_neg (pu_ge ha31), hd, Option.bind_some, if_pos ((pu_ix ha31).mpr (by omega)), pu_nn ha31])
    (fun k x done s hx hI => ⟨s, by
      show (if x < 0 then some s else _) = _
      rw [if_pos hx], trivial⟩) (ch b) [] (w 4 b) NF s0 (hst.1 b hb) (by have := pv_len N (ch b) (hd.2.1 b hb) (hd.1 b hb); have := pv_NF; omega) (hd.1 b hb)
  have h1 : fX11_digestSteps_L11 n2 w2 NF s0 (w 4 b) = some t := h1
  unfold fX11_digestSteps
  rw [if_pos ((pu_ix hb31).mpr (by omega)), pu_nn hb31, h1, Option.bind_some]
  exact ⟨t, rfl⟩
theorem dg_147 (hB : B ≤ 60) (hw : pv_wys B w wb) {b : Nat} (hb : b < B) (s0 : Int64) : ∃ d, fX11_digestBlock_L147 w (pu_I b) NF s0 0 = some d := by
  have h120 := hw.2.2.1 (b + 1) (by omega)
  have hwt := pv_waysTo hB hw hb
  obtain ⟨t, h1, _⟩ := pv_for (G := fun k i (s : Int64) => fX11_digestBlock_L147 w (pu_I b) k s i) (hi := wb (b + 1) - wb b) (Inv := fun _ _ => True) (Q := fun _ => True)
    (fun k i s hi _ => by
      refine ⟨(s * 31) + ((w 15 (wb b + i)).toInt64), ?_, trivial⟩
      show ((fX1_waysTo w (pu_I b)).bind fun (o_13 : Int32) => (if o_13 ≤ pu_I i then some s else ((fX1_wayFrom w (pu_I b) (pu_I i)).bind fun (o_16 : Int32) => ((fX11_digestBlock_L147 w (pu_I b) k) ((s * 31) + (o_16.toInt64)) (pu_I i + 1))))) = _
      rw [hwt, Option.bind_some, if_neg (by rw [pu_le (by omega) (by omega)]; omega), pv_wayFrom hB hw hb (by omega), Option.bind_some, pu_su])
    (fun k s _ => by
      refine ⟨s, ?_, trivial⟩
      show ((fX1_waysTo w (pu_I b)).bind fun (o_13 : Int32) => (if o_13 ≤ pu_I (wb (b + 1) - wb b) then some s else _)) = _
      rw [hwt, Option.bind_some, if_pos (Int32.le_refl _)]) (wb (b + 1) - wb b) 0 NF s0 (by omega) (by have := pv_NF; omega) trivial
  exact ⟨t, h1⟩
theorem dg_block (hok : pv_ok n w n2 w2 B N M ch ph) (hw : pv_wys B w wb) {b : Nat} (hb : b < B) (s0 : Int64) : ∃ d, fX11_digestBlock s0 n w (pu_I b) n2 w2 = some d := by
  have hB : B ≤ 60 := hok.1.2.2
  have hx : ixb (pu_I b) 60 = true := (pu_ix (by omega)).mpr (by omega)
  obtain ⟨cs, hcs⟩ := dg_countSteps hok hb
  unfold fX11_digestBlock
  rw [if_pos hx, if_pos hx, pv_countPhis hok hb, Option.bind_some, hcs, Option.bind_some, if_pos hx, if_pos hx, if_pos hx, if_pos hx, pv_waysTo hB hw hb, Option.bind_some]
  exact dg_bind (dg_147 hB hw hb _) fun o => ⟨o, rfl⟩
theorem dg_36 (hok : pv_ok n w n2 w2 B N M ch ph) (hw : pv_wys B w wb) {b a : Nat} (hb : b < B) (ha : a < M) (s0 : Int64) : ∃ d, fX11_digestPhis_L36 n w (pu_I b) (pu_I a) NF s0 0 = some d := by
  obtain ⟨⟨_, _, hB⟩, _, ⟨_, _, hM21, hM⟩, _⟩ := id hok
  have h120 := hw.2.2.1 (b + 1) (by omega)
  have hwt := pv_waysTo hB hw hb
  obtain ⟨t, h1, _⟩ := pv_for (G := fun k i (s : Int64) => fX11_digestPhis_L36 n w (pu_I b) (pu_I a) k s i) (hi := wb (b + 1) - wb b) (Inv := fun _ _ => True) (Q := fun _ => True)
    (fun k i s hi _ => by
      obtain ⟨p, hp, hp2, _⟩ := hw.2.2.2.1 b (wb b + i) hb (by omega) (by omega)
      have htk : fX1_take n w (pu_I a) (pu_I p) = some (w 21 (a * 60 + p)) := by
        unfold fX1_take
        have hm : pu_I a * 60 + pu_I p = pu_I (a * 60 + p) := by rw [show (60 : Int32) = pu_I 60 from rfl, pv_mul, pv_add]
        rw [hm, if_pos ((pu_ix (by omega)).mpr (by omega)), pu_nn (by omega)]
      refine ⟨(s * 31) + ((w 21 (a * 60 + p)).toInt64), ?_, trivial⟩
      show ((fX1_waysTo w (pu_I b)).bind fun (o_4 : Int32) => (if o_4 ≤ pu_I i then some s else ((fX1_wayFrom w (pu_I b) (pu_I i)).bind fun (o_7 : Int32) => ((fX1_take n w (pu_I a) o_7).bind fun (o_9 : Int32) => ((fX11_digestPhis_L36 n w (pu_I b) (pu_I a) k) ((s * 31) + (o_9.toInt64)) (pu_I i + 1)))))) = _
      rw [hwt, Option.bind_some, if_neg (by rw [pu_le (by omega) (by omega)]; omega), pv_wayFrom hB hw hb (by omega), Option.bind_some, hp2, htk, Option.bind_some, pu_su])
    (fun k s _ => by
      refine ⟨s, ?_, trivial⟩
      show ((fX1_waysTo w (pu_I b)).bind fun (o_4 : Int32) => (if o_4 ≤ pu_I (wb (b + 1) - wb b) then some s else _)) = _
      rw [hwt, Option.bind_some, if_pos (Int32.le_refl _)]) (wb (b + 1) - wb b) 0 NF s0 (by omega) (by have := pv_NF; omega) trivial
  exact ⟨t, h1⟩
theorem dg_phis (hok : pv_ok n w n2 w2 B N M ch ph) (hw : pv_wys B w wb) {b : Nat} (hb : b < B) (s0 : Int64) : ∃ d, fX11_digestPhis s0 n w (pu_I b) = some d := by
  obtain ⟨⟨_, _, hB⟩, _, ⟨hM19, hM20, hM21, hM⟩, _, _, hph, hdp, _⟩ := id hok
  have hb31 : b < 2147483648 := by omega
  obtain ⟨t, h1, _⟩ := pv_chl (G := fun k x (s : Int64) => fX11_digestPhis_L11 n w (pu_I b) k s x) (nx := w 20) (Inv := fun _ rem (_ : Int64) => ∀ a ∈ rem, a < M) (Q := fun (_ : Int64) => True)
    (fun k a done rem s hI => by
      have ha := hI a List.mem_cons_self
      have ha31 : a < 2147483648 := by omega
      obtain ⟨d, hd⟩ := dg_36 hok hw hb ha ((s * 31) + ((w 19 a).toInt64))
      refine ⟨d, ?_, fun z hz => hI z (List.mem_cons_of_mem _ hz)⟩
      show (if pu_I a < 0 then some s else (if ixb (pu_I a) (n 19) = true then ((fX11_digestPhis_L36 n w (pu_I b) (pu_I a) NF ((s * 31) + (((w 19 (nn (pu_I a))) : Int32).toInt64)) 0).bind fun (o36 : Int64) => (if ixb (pu_I a) (n 20) = true then ((fX11_digestPhis_L11 n w (pu_I b) k) o36 (w 20 (nn (pu_I a)))) else none)) else none)) = _
      rw [if_neg (pu_ge ha31), if_pos ((pu_ix ha31).mpr (by omega)), pu_nn ha31, hd, Option.bind_some, if_pos ((pu_ix ha31).mpr (by omega))])
    (fun k x done s hx hI => ⟨s, by
      show (if x < 0 then some s else _) = _
      rw [if_pos hx], trivial⟩) (ph b) [] (w 6 b) NF s0 (hph.1 b hb) (by have := pv_len M (ph b) (hdp.2.1 b hb) (hdp.1 b hb); have := pv_NF; omega) (hdp.1 b hb)
  have h1 : fX11_digestPhis_L11 n w (pu_I b) NF s0 (w 6 b) = some t := h1
  unfold fX11_digestPhis
  rw [if_pos ((pu_ix hb31).mpr (by omega)), pu_nn hb31, h1, Option.bind_some]
  exact ⟨t, rfl⟩
end DG
section DF
variable {P aw : ST} {np : Nat → Nat} {F0 : Nat → pu_Flow} {Ns N2 : Nat → Nat → Nat} {W W2 : Nat → ST} {L : Nat → SL} {Cn : Nat → Nat → Nat} {Cw : Nat → ST}
theorem dg_177 (hcls : pv_cls 3 3 np F0 Ns W L N2 W2) {f : Nat} (hf : f < 3) (s0 : Int64) : ∃ d, fX11_digestFunction_L177 Ns W N2 W2 f NF s0 0 = some d := by
  obtain ⟨B, N, M, Lm, D, ch, ph, wb, dm, hfl, _⟩ := hcls f hf
  obtain ⟨⟨hok, _, _, hw, _⟩, _⟩ := hfl
  obtain ⟨hw0, _, hB⟩ := hok.1
  obtain ⟨t, h1, _⟩ := pv_for (G := fun k i (s : Int64) => fX11_digestFunction_L177 Ns W N2 W2 f k s i) (hi := B) (Inv := fun _ _ => True) (Q := fun _ => True)
    (fun k i s hi _ => by
      obtain ⟨d1, e1⟩ := dg_block hok hw hi s
      obtain ⟨d2, e2⟩ := dg_phis hok hw hi d1
      obtain ⟨d3, e3⟩ := dg_steps hok hi d2
      refine ⟨d3, ?_, trivial⟩
      show (if ((W f) 0 0) ≤ pu_I i then some s else ((fX11_digestBlock s (Ns f) (W f) (pu_I i) (N2 f) (W2 f)).bind _)) = _
      rw [hw0, if_neg (by rw [pu_le (by omega) (by omega)]; omega), e1, Option.bind_some, e2, Option.bind_some, e3, Option.bind_some, pu_su])
    (fun k s _ => by
      refine ⟨s, ?_, trivial⟩
      show (if ((W f) 0 0) ≤ pu_I B then some s else _) = _
      rw [hw0, if_pos (Int32.le_refl _)]) B 0 NF s0 (by omega) (by have := pv_NF; omega) trivial
  exact ⟨t, h1⟩
/-- the lines of code -/
def dg_C (aw : ST) (Cn : Nat → Nat → Nat) (Cw : Nat → ST) : Prop := aw 0 5 = 0 ∨ (aw 0 5 = 1 ∧ ∀ h, h < 3 → ∃ M, Cw h 0 0 = pu_I M ∧ M < 50000 ∧ M ≤ Cn h 2 ∧ M ≤ Cn h 3 ∧ M ≤ Cn h 4 ∧ M ≤ Cn h 5)
theorem dg_lc (hc : dg_C aw Cn Cw) {f : Nat} (hf : f < 3) : ∃ M, fX11_lineCount (pu_I f) aw Cw = some (pu_I M) ∧ M < 50000 ∧ (M = 0 ∨ (M ≤ Cn f 2 ∧ M ≤ Cn f 3 ∧ M ≤ Cn f 4 ∧ M ≤ Cn f 5)) := by
  rcases hc with h5 | ⟨h5, hc⟩
  · refine ⟨0, ?_, by omega, Or.inl rfl⟩
    unfold fX11_lineCount
    rw [h5, if_pos rfl]
    rfl
  · obtain ⟨M, m0, m1, m2, m3, m4, m5⟩ := hc f hf
    exact ⟨M, lw_lc (by omega) h5 m0, m1, Or.inr ⟨m2, m3, m4, m5⟩⟩
theorem dg_240 (hc : dg_C aw Cn Cw) {f : Nat} (hf : f < 3) (s0 : Int64) : ∃ d, fX11_digestFunction_L240 (pu_I f) aw Cn Cw f NF s0 0 = some d := by
  obtain ⟨M, hlc, hM, hm⟩ := dg_lc hc hf
  obtain ⟨t, h1, _⟩ := pv_for (G := fun k i (s : Int64) => fX11_digestFunction_L240 (pu_I f) aw Cn Cw f k s i) (hi := M) (Inv := fun _ _ => True) (Q := fun _ => True)
    (fun k i s hi _ => by
      obtain ⟨m2, m3, m4, m5⟩ := hm.resolve_left (by omega)
      obtain ⟨d, hd⟩ := dg_step (w := Cn f) (x9 := Cw f) hi hM m2 m3 m4 m5 s
      refine ⟨d, ?_, trivial⟩
      show ((fX11_lineCount (pu_I f) aw Cw).bind fun (o_17 : Int32) => (if o_17 ≤ pu_I i then some s else ((fX11_digestStep s (Cn f) (Cw f) (pu_I i)).bind _))) = _
      rw [hlc, Option.bind_some, if_neg (by rw [pu_le (by omega) (by omega)]; omega), hd, Option.bind_some, pu_su])
    (fun k s _ => by
      refine ⟨s, ?_, trivial⟩
      show ((fX11_lineCount (pu_I f) aw Cw).bind fun (o_17 : Int32) => (if o_17 ≤ pu_I M then some s else _)) = _
      rw [hlc, Option.bind_some, if_pos (Int32.le_refl _)]) M 0 NF s0 (by omega) (by have := pv_NF; omega) trivial
  exact ⟨t, h1⟩
theorem dg_fun (hcls : pv_cls 3 3 np F0 Ns W L N2 W2) (hc : dg_C aw Cn Cw) {f : Nat} (hf : f < 3) (s0 : Int64) : ∃ d, fX11_digestFunction s0 (pu_I f) Ns W N2 W2 P aw Cn Cw = some d := by
  obtain ⟨B, N, M, Lm, D, ch, ph, wb, dm, hfl, _⟩ := id (hcls f hf)
  obtain ⟨⟨hok, _⟩, _⟩ := hfl
  have hx : ixb (pu_I f) 6 = true := (pu_ix (by omega)).mpr (by omega)
  have hnn : nn (pu_I f) = f := pu_nn (by omega)
  obtain ⟨M9, hlc, _⟩ := dg_lc hc hf
  have h155 : ∀ a b, ∃ d, fX11_digestFunction_J155 (pu_I f) Ns W N2 W2 aw Cn Cw f a b = some d := fun a b => by
    unfold fX11_digestFunction_J155
    refine dg_bind (dg_177 hcls hf _) fun o => ?_
    rw [if_pos hx]
    simp only [lt9]
    rw [hnn]
    exact dg_bind (dg_240 hc hf _) fun o => ⟨o, rfl⟩
  have h122 : ∀ a b, ∃ d, fX11_digestFunction_J122 (pu_I f) Ns W N2 W2 aw Cn Cw f a b = some d := fun a b => by
    unfold fX11_digestFunction_J122
    by_cases h5 : aw 0 5 = 0
    · rw [if_pos h5]
      exact h155 _ _
    · rw [if_neg h5, if_pos hx]
      exact h155 _ _
  have h89 : ∀ a b, ∃ d, fX11_digestFunction_J89 (pu_I f) Ns W N2 W2 aw Cn Cw f a b = some d := fun a b => by
    unfold fX11_digestFunction_J89
    by_cases h5 : aw 0 5 = 0
    · rw [if_pos h5]
      exact h122 _ _
    · rw [if_neg h5, if_pos hx]
      exact h122 _ _
  unfold fX11_digestFunction
  rw [if_pos hx]
  simp only [lt9]
  rw [hnn, if_pos hx, pv_countValues hok, Option.bind_some, hlc, Option.bind_some]
  by_cases h5 : aw 0 5 = 0
  · rw [if_pos h5]
    exact h89 _ _
  · rw [if_neg h5, if_pos hx]
    exact h89 _ _
theorem dg_78 {w w' : ST} (h : ∀ z, z < 16 → w' 4 z = w 4 z) : ∀ (k : Nat) (a : Int64) (v : Int32), fX11_digest_L78 w' k a v = fX11_digest_L78 w k a v := by
  intro k
  induction k with
  | zero => intro a v; rfl
  | succ k ih =>
    intro a v
    show (if 16 ≤ v then some a else (if ixb v 16 = true then ((fX11_digest_L78 w' k) ((a * 31) + (((w' 4 (nn v)) : Int32).toInt64)) (v + 1)) else none)) = (if 16 ≤ v then some a else (if ixb v 16 = true then ((fX11_digest_L78 w k) ((a * 31) + (((w 4 (nn v)) : Int32).toInt64)) (v + 1)) else none))
    by_cases h16 : 16 ≤ v
    · rw [if_pos h16, if_pos h16]
    · rw [if_neg h16, if_neg h16]
      by_cases hx : ixb v 16 = true
      · rw [if_pos hx, if_pos hx, ih, h _ (pv_ixn hx).2]
      · rw [if_neg hx, if_neg hx]
theorem dg_78s (w : ST) (s0 : Int64) : ∃ d, fX11_digest_L78 w NF s0 0 = some d := by
  obtain ⟨t, h1, _⟩ := pv_for (G := fun k i (s : Int64) => fX11_digest_L78 w k s i) (hi := 16) (Inv := fun _ _ => True) (Q := fun _ => True)
    (fun k i s hi _ => by
      refine ⟨(s * 31) + ((w 4 i).toInt64), ?_, trivial⟩
      show (if (16 : Int32) ≤ pu_I i then some s else (if ixb (pu_I i) 16 = true then ((fX11_digest_L78 w k) ((s * 31) + (((w 4 (nn (pu_I i))) : Int32).toInt64)) (pu_I i + 1)) else none)) = _
      rw [if_neg (fun h => by have := (pu_le (a := 16) (by decide) (by omega)).mp h; omega), if_pos ((pu_ix (by omega)).mpr hi), pu_nn (by omega), pu_su])
    (fun k s _ => by
      refine ⟨s, ?_, trivial⟩
      rfl) 16 0 NF s0 (by omega) (by have := pv_NF; omega) trivial
  exact ⟨t, h1⟩
theorem dg_all (hP : P 0 0 = pu_I 3) (hcls : pv_cls 3 3 np F0 Ns W L N2 W2) (hc : dg_C aw Cn Cw) (pw w : ST) : ∃ d, fX11_digest pw P w Ns W N2 W2 aw Cn Cw = some d := by
  unfold fX11_digest
  refine dg_bind (dg_78s w _) fun s0 => dg_bind ?_ fun o => ⟨o, rfl⟩
  obtain ⟨t, h1, _⟩ := pv_for (G := fun k i (s : Int64) => fX11_digest_L109 P Ns W N2 W2 aw Cn Cw k s i) (hi := 3) (Inv := fun _ _ => True) (Q := fun _ => True)
    (fun k i s hi _ => by
      obtain ⟨d, hd⟩ := dg_fun (P := P) hcls hc hi s
      refine ⟨d, ?_, trivial⟩
      show (if (P 0 0) ≤ pu_I i then some s else ((fX11_digestFunction s (pu_I i) Ns W N2 W2 P aw Cn Cw).bind _)) = _
      rw [hP, if_neg (by rw [pu_le (by omega) (by omega)]; omega), hd, Option.bind_some, pu_su])
    (fun k s _ => by
      refine ⟨s, ?_, trivial⟩
      show (if (P 0 0) ≤ pu_I 3 then some s else _) = _
      rw [hP, if_pos (Int32.le_refl _)]) 3 0 NF s0 (by omega) (by have := pv_NF; omega) trivial
  exact ⟨t, h1⟩
theorem dg_same {w w' : ST} (pw : ST) (h0 : w' 0 0 = w 0 0) (h1 : w' 0 1 = w 0 1) (h2 : w' 0 2 = w 0 2) (h4 : ∀ z, z < 16 → w' 4 z = w 4 z) : fX11_digest pw P w' Ns W N2 W2 aw Cn Cw = fX11_digest pw P w Ns W N2 W2 aw Cn Cw := by
  unfold fX11_digest
  rw [h0, h1, h2, dg_78 h4]
end DF
