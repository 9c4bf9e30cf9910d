/-! pure side, the allocator 15: two become one -/
/-- the one that goes becomes the one that stays -/
def pa_ro (stays goes : Int32) : Int32 → Int32 := fun v => if v = goes then stays else v
section UNI
variable {n2 : Nat → Nat} {B N V : Nat} {st go : Int32}
def pa_kp (st go : Int32) (x9 : ST) (a : Nat) : Bool := !pu_idl (pa_ro st go) (pv_S x9 a)
/-- a step, renamed -/
def pa_rs (st go : Int32) (x9 : ST) (a : Nat) : ST :=
  let x1 := if x9 3 a = go then upw x9 3 a st else x9
  let x2 := if pu_ul (x9 2 a) = true ∧ x9 4 a = go then upw x1 4 a st else x1
  if pu_ur (x9 2 a) = true ∧ x9 5 a = go then upw x2 5 a st else x2
theorem pa_rs_r {x9 : ST} {a : Nat} : ∀ r, r ≠ 3 → r ≠ 4 → r ≠ 5 → pa_rs st go x9 a r = x9 r := by
  intro r h3 h4 h5
  unfold pa_rs
  by_cases c1 : x9 3 a = go <;> by_cases c2 : pu_ul (x9 2 a) = true ∧ x9 4 a = go <;> by_cases c3 : pu_ur (x9 2 a) = true ∧ x9 5 a = go <;> simp only [c1, c2, c3, if_true, if_false, and_self] <;> simp only [pv_upw_n h3, pv_upw_n h4, pv_upw_n h5]
theorem pa_rs_z {x9 : ST} {a z : Nat} (hz : z ≠ a) (r : Nat) : pa_rs st go x9 a r z = x9 r z := by
  have h : ∀ (x : ST) (q : Nat) (v : Int32), upw x q a v r z = x r z := fun x q v => by rw [pv_upw, if_neg fun h => hz h.2]
  unfold pa_rs
  by_cases c1 : x9 3 a = go <;> by_cases c2 : pu_ul (x9 2 a) = true ∧ x9 4 a = go <;> by_cases c3 : pu_ur (x9 2 a) = true ∧ x9 5 a = go <;> simp only [c1, c2, c3, if_true, if_false, and_self, h]
theorem pa_rs_a {x9 : ST} {a : Nat} (hg : pu_gw (x9 2 a) = false → x9 3 a ≠ go) : pv_S (pa_rs st go x9 a) a = pu_rns (pa_ro st go) (pv_S x9 a) := by
  have h3 : pa_rs st go x9 a 3 a = (if pu_gw (x9 2 a) = true then pa_ro st go (x9 3 a) else x9 3 a) := by
    have : pa_rs st go x9 a 3 a = if x9 3 a = go then st else x9 3 a := by
      unfold pa_rs
      by_cases c1 : x9 3 a = go <;> by_cases c2 : pu_ul (x9 2 a) = true ∧ x9 4 a = go <;> by_cases c3 : pu_ur (x9 2 a) = true ∧ x9 5 a = go <;> simp only [c1, c2, c3, if_true, if_false, and_self] <;> simp [pv_upw]
      all_goals first | exact c1 | rfl
    rw [this]
    unfold pa_ro
    cases e : pu_gw (x9 2 a) with
    | true => rw [if_pos rfl]
    | false => rw [if_neg (hg e), if_neg (by decide)]
  have h4 : pa_rs st go x9 a 4 a = (if pu_ul (x9 2 a) = true then pa_ro st go (x9 4 a) else x9 4 a) := by
    have : pa_rs st go x9 a 4 a = if pu_ul (x9 2 a) = true ∧ x9 4 a = go then st else x9 4 a := by
      unfold pa_rs
      by_cases c1 : x9 3 a = go <;> by_cases c2 : pu_ul (x9 2 a) = true ∧ x9 4 a = go <;> by_cases c3 : pu_ur (x9 2 a) = true ∧ x9 5 a = go <;> simp only [c1, c2, c3, if_true, if_false, and_self] <;> simp [pv_upw]
    rw [this]
    unfold pa_ro
    by_cases e : pu_ul (x9 2 a) = true
    · rw [if_pos e]
      by_cases e2 : x9 4 a = go
      · rw [if_pos ⟨e, e2⟩, if_pos e2]
      · rw [if_neg fun h => e2 h.2, if_neg e2]
    · rw [if_neg fun h => e h.1, if_neg e]
  have h5 : pa_rs st go x9 a 5 a = (if pu_ur (x9 2 a) = true then pa_ro st go (x9 5 a) else x9 5 a) := by
    have : pa_rs st go x9 a 5 a = if pu_ur (x9 2 a) = true ∧ x9 5 a = go then st else x9 5 a := by
      unfold pa_rs
      by_cases c1 : x9 3 a = go <;> by_cases c2 : pu_ul (x9 2 a) = true ∧ x9 4 a = go <;> by_cases c3 : pu_ur (x9 2 a) = true ∧ x9 5 a = go <;> simp only [c1, c2, c3, if_true, if_false, and_self] <;> simp [pv_upw]
    rw [this]
    unfold pa_ro
    by_cases e : pu_ur (x9 2 a) = true
    · rw [if_pos e]
      by_cases e2 : x9 5 a = go
      · rw [if_pos ⟨e, e2⟩, if_pos e2]
      · rw [if_neg fun h => e2 h.2, if_neg e2]
    · rw [if_neg fun h => e h.1, if_neg e]
  show (pa_rs st go x9 a 2 a, pa_rs st go x9 a 3 a, pa_rs st go x9 a 4 a, pa_rs st go x9 a 5 a) = _
  rw [h3, h4, h5, pa_rs_r 2 (by decide) (by decide) (by decide)]
  rfl
theorem pa_un34 (hB : B ≤ 60) (h2 : N ≤ n2 2) (h3 : N ≤ n2 3) (h4 : N ≤ n2 4) (h5 : N ≤ n2 5) (h6 : N ≤ n2 6) (hN : N < 100000) {b : Nat} (hb : b < B) :
    ∀ (rem : List Nat) (ch : Nat → List Nat) (fw x9 : ST) (k : Nat) (x : Int32), rem.length < k → pv_stc B fw x9 ch → pv_dis B N ch → pv_ch (x9 6) x rem → (∀ a ∈ rem, a < N ∧ ∀ c, c < B → a ∉ ch c) → rem.Nodup → (∀ a ∈ rem, pu_gw (x9 2 a) = false → x9 3 a ≠ go) →
      ∃ fw' x9', fX0_unite_L34 st go n2 (pu_I b) k x fw x9 = some (fw', x9') ∧ pv_stc B fw' x9' (pv_up ch b (ch b ++ rem.filter (pa_kp st go x9))) ∧ pv_dis B N (pv_up ch b (ch b ++ rem.filter (pa_kp st go x9))) ∧ (∀ r, r ≠ 4 → r ≠ 5 → fw' r = fw r) ∧ (∀ a, a ∈ rem → pv_S x9' a = pu_rns (pa_ro st go) (pv_S x9 a)) ∧ (∀ a, a ∉ rem → pv_S x9' a = pv_S x9 a) ∧ (x9' 2 = x9 2 ∧ x9' 0 = x9 0) ∧ (∀ a, (∀ c, c < B → a ∉ pv_up ch b (ch b ++ rem.filter (pa_kp st go x9)) c) → x9' 6 a = x9 6 a) := by
  intro rem
  induction rem with
  | nil =>
    intro ch fw x9 k x hk hst hd hch _ _ _
    obtain ⟨k', rfl⟩ : ∃ k', k = k' + 1 := ⟨k - 1, by have : 0 < k := hk; omega⟩
    have hid : pv_up ch b (ch b ++ ([] : List Nat).filter (pa_kp st go x9)) = ch := pv_up_id (by simp)
    refine ⟨fw, x9, ?_, by rw [hid]; exact hst, by rw [hid]; exact hd, fun _ _ _ => rfl, fun a ha => (by cases ha), fun _ _ => rfl, ⟨rfl, rfl⟩, fun _ _ => rfl⟩
    show (if x < 0 then some (fw, x9) else _) = _
    rw [if_pos (pv_n1 hch)]
  | cons a rem ih =>
    intro ch fw x9 k x hk hst hd hch hrem hnd hgw
    obtain ⟨k', rfl⟩ : ∃ k', k = k' + 1 := ⟨k - 1, by have : 0 < k := Nat.lt_of_le_of_lt (Nat.zero_le _) hk; omega⟩
    obtain ⟨rfl, hch⟩ := hch
    have ha := hrem a List.mem_cons_self
    have hnd2 := List.nodup_cons.mp hnd
    have hga := hgw a List.mem_cons_self
    obtain ⟨x1, hx1⟩ : ∃ x1, x1 = pa_rs st go x9 a := ⟨_, rfl⟩
    have hx1r : ∀ r, r ≠ 3 → r ≠ 4 → r ≠ 5 → x1 r = x9 r := fun r h3 h4 h5 => by rw [hx1]; exact pa_rs_r r h3 h4 h5
    have hx1z : ∀ z, z ≠ a → pv_S x1 z = pv_S x9 z := fun z hz => by
      unfold pv_S
      rw [hx1, pa_rs_z hz, pa_rs_z hz, pa_rs_z hz, pa_rs_z hz]
    have hx1a : pv_S x1 a = pu_rns (pa_ro st go) (pv_S x9 a) := by rw [hx1]; exact pa_rs_a hga
    have hst1 : pv_stc B fw x1 ch := by
      unfold pv_stc
      rw [hx1r 6 (by decide) (by decide) (by decide)]
      exact hst
    have hix : ∀ y, N ≤ y → ixb (pu_I a) y = true := fun y hy => (pu_ix (by omega)).mpr (by omega)
    have hna : nn (pu_I a) = a := pu_nn (by omega)
    have hkeep : (x1 2 a = 25 ∧ x1 3 a = x1 4 a) ↔ ¬ pa_kp st go x9 a = true := by
      have e2 : x1 2 a = x9 2 a := by rw [hx1r 2 (by decide) (by decide) (by decide)]
      have e3 : x1 3 a = (pu_rns (pa_ro st go) (pv_S x9 a)).2.1 := congrArg (fun s => s.2.1) hx1a
      have e4 : x1 4 a = (pu_rns (pa_ro st go) (pv_S x9 a)).2.2.1 := congrArg (fun s => s.2.2.1) hx1a
      rw [e2, e3, e4]
      unfold pa_kp pu_idl pu_rns
      show (x9 2 a = 25 ∧ (if pu_gw (x9 2 a) = true then pa_ro st go (x9 3 a) else x9 3 a) = (if pu_ul (x9 2 a) = true then pa_ro st go (x9 4 a) else x9 4 a)) ↔ ¬ (!decide (x9 2 a = 25 ∧ pa_ro st go (x9 3 a) = pa_ro st go (x9 4 a))) = true
      constructor
      · rintro ⟨q1, q2⟩
        rw [q1, if_pos (by decide), if_pos (by decide)] at q2
        rw [decide_eq_true ⟨q1, q2⟩]
        decide
      · intro q
        have q : (x9 2 a = 25 ∧ pa_ro st go (x9 3 a) = pa_ro st go (x9 4 a)) := by
          refine Classical.byContradiction fun h => q ?_
          rw [decide_eq_false h]
          rfl
        refine ⟨q.1, ?_⟩
        rw [q.1, if_pos (by decide), if_pos (by decide)]
        exact q.2
    have hrun : fX0_unite_L34 st go n2 (pu_I b) (k' + 1) (pu_I a) fw x9 = (if x1 2 a = 25 ∧ x1 3 a = x1 4 a then fX0_unite_L34 st go n2 (pu_I b) k' (x9 6 a) fw x1 else ((fX1_link fw (pu_I b) (pu_I a) n2 x1).bind fun (o : ST × ST) => fX0_unite_L34 st go n2 (pu_I b) k' (x9 6 a) o.1 o.2)) := by
      have hJ131 : ∀ y : ST, fX0_unite_J131 (fX0_unite_L34 st go n2 (pu_I b) k') n2 (pu_I b) (pu_I a) fw x9 y = (if y 2 a = 25 ∧ y 3 a = y 4 a then fX0_unite_L34 st go n2 (pu_I b) k' (x9 6 a) fw y else ((fX1_link fw (pu_I b) (pu_I a) n2 y).bind fun (o : ST × ST) => fX0_unite_L34 st go n2 (pu_I b) k' (x9 6 a) o.1 o.2)) := fun y => by
        have hJ160 : fX0_unite_J160 (fX0_unite_L34 st go n2 (pu_I b) k') n2 (pu_I b) (pu_I a) fw x9 y = ((fX1_link fw (pu_I b) (pu_I a) n2 y).bind fun (o : ST × ST) => fX0_unite_L34 st go n2 (pu_I b) k' (x9 6 a) o.1 o.2) := by
          unfold fX0_unite_J160 fX0_unite_J171
          rw [hna]
        unfold fX0_unite_J131
        rw [if_pos (hix _ h2), hna, if_pos (hix _ h3), if_pos (hix _ h4), hJ160]
        unfold fX0_unite_J171
        rw [hna]
        by_cases q1 : y 2 a = 25
        · rw [if_pos q1]
          by_cases q2 : y 3 a = y 4 a
          · rw [if_pos q2, if_pos ⟨q1, q2⟩]
          · rw [if_neg q2, if_neg fun h => q2 h.2]
        · rw [if_neg q1, if_neg fun h => q1 h.1]
      have hJ99 : ∀ y : ST, y 2 = x9 2 → fX0_unite_J99 (fX0_unite_L34 st go n2 (pu_I b) k') st go n2 (pu_I b) (pu_I a) fw x9 y = fX0_unite_J131 (fX0_unite_L34 st go n2 (pu_I b) k') n2 (pu_I b) (pu_I a) fw x9 (if pu_ur (x9 2 a) = true ∧ y 5 a = go then upw y 5 a st else y) := fun y hy => by
        unfold fX0_unite_J99
        rw [if_pos (hix _ h2), hna, hy, pv_ur, Option.bind_some]
        cases e : pu_ur (x9 2 a) with
        | false => rw [if_pos (show pv_b false = 0 from rfl), if_neg fun h => (by cases h.1)]
        | true =>
          rw [if_neg (show ¬ pv_b true = 0 by decide), if_pos (hix _ h5), if_pos (hix _ h5)]
          by_cases q : y 5 a = go
          · rw [if_pos q, if_pos ⟨rfl, q⟩]
            rfl
          · rw [if_neg q, if_neg fun h => q h.2]
      have hJ67 : ∀ y : ST, y 2 = x9 2 → fX0_unite_J67 (fX0_unite_L34 st go n2 (pu_I b) k') st go n2 (pu_I b) (pu_I a) fw x9 y = fX0_unite_J99 (fX0_unite_L34 st go n2 (pu_I b) k') st go n2 (pu_I b) (pu_I a) fw x9 (if pu_ul (x9 2 a) = true ∧ y 4 a = go then upw y 4 a st else y) := fun y hy => by
        unfold fX0_unite_J67
        rw [if_pos (hix _ h2), hna, hy, pv_ul, Option.bind_some]
        cases e : pu_ul (x9 2 a) with
        | false => rw [if_pos (show pv_b false = 0 from rfl), if_neg fun h => (by cases h.1)]
        | true =>
          rw [if_neg (show ¬ pv_b true = 0 by decide), if_pos (hix _ h4), if_pos (hix _ h4)]
          by_cases q : y 4 a = go
          · rw [if_pos q, if_pos ⟨rfl, q⟩]
            rfl
          · rw [if_neg q, if_neg fun h => q h.2]
      obtain ⟨y1, hy1⟩ : ∃ y1 : ST, y1 = if x9 3 a = go then upw x9 3 a st else x9 := ⟨_, rfl⟩
      have y12 : y1 2 = x9 2 ∧ y1 4 = x9 4 ∧ y1 5 = x9 5 := by
        rw [hy1]
        by_cases q : x9 3 a = go
        · rw [if_pos q, pv_upw_n (by decide), pv_upw_n (by decide), pv_upw_n (by decide)]
          exact ⟨rfl, rfl, rfl⟩
        · rw [if_neg q]
          exact ⟨rfl, rfl, rfl⟩
      obtain ⟨y2, hy2⟩ : ∃ y2 : ST, y2 = if pu_ul (x9 2 a) = true ∧ y1 4 a = go then upw y1 4 a st else y1 := ⟨_, rfl⟩
      have y22 : y2 2 = x9 2 ∧ y2 5 = x9 5 := by
        rw [hy2]
        by_cases q : pu_ul (x9 2 a) = true ∧ y1 4 a = go
        · rw [if_pos q, pv_upw_n (by decide), pv_upw_n (by decide)]
          exact ⟨y12.1, y12.2.2⟩
        · rw [if_neg q]
          exact ⟨y12.1, y12.2.2⟩
      have hx1' : x1 = if pu_ur (x9 2 a) = true ∧ y2 5 a = go then upw y2 5 a st else y2 := by
        rw [hx1, y22.2, hy2, y12.2.1, hy1]
        rfl
      have hstart : fX0_unite_L34 st go n2 (pu_I b) (k' + 1) (pu_I a) fw x9 = fX0_unite_J67 (fX0_unite_L34 st go n2 (pu_I b) k') st go n2 (pu_I b) (pu_I a) fw x9 y1 := by
        show (if pu_I a < 0 then some (fw, x9) else (if ixb (pu_I a) (n2 6) = true then (if ixb (pu_I a) (n2 3) = true then (if (x9 3 (nn (pu_I a))) = go then (if ixb (pu_I a) (n2 3) = true then (lt9 (upw x9 3 (nn (pu_I a)) st) fun (w31 : ST) => (fX0_unite_J67 (fX0_unite_L34 st go n2 (pu_I b) k') st go n2 (pu_I b) (pu_I a) fw x9 w31)) else none) else (fX0_unite_J67 (fX0_unite_L34 st go n2 (pu_I b) k') st go n2 (pu_I b) (pu_I a) fw x9 x9)) else none) else none)) = _
        rw [if_neg (pu_ge (by omega)), if_pos (hix _ h6), if_pos (hix _ h3), hna, if_pos (hix _ h3), hy1]
        by_cases q : x9 3 a = go
        · rw [if_pos q, if_pos q]
          rfl
        · rw [if_neg q, if_neg q]
      rw [hstart, hJ67 y1 y12.1, ← hy2, hJ99 y2 y22.1, ← hx1', hJ131]
    have hkz : ∀ z, z ≠ a → pa_kp st go x1 z = pa_kp st go x9 z := fun z hz => by
      unfold pa_kp
      rw [hx1z z hz]
    have hfil : ∀ (y : ST), (∀ z, z ∈ rem → pa_kp st go y z = pa_kp st go x9 z) → rem.filter (pa_kp st go y) = rem.filter (pa_kp st go x9) := fun y hy => List.filter_congr hy
    have hzne : ∀ z, z ∈ rem → z ≠ a := fun z hz e => hnd2.1 (by rw [← e]; exact hz)
    rw [hrun]
    by_cases hm : x1 2 a = 25 ∧ x1 3 a = x1 4 a
    · rw [if_pos hm]
      have hmk : ¬ pa_kp st go x9 a = true := hkeep.mp hm
      obtain ⟨fw', x9', g1, g2, g3, g4, g5, g6, g7, g8⟩ := ih ch fw x1 k' (x9 6 a) (by rw [List.length_cons] at hk; omega) hst1 hd (by rw [hx1r 6 (by decide) (by decide) (by decide)]; exact hch) (fun z hz => hrem z (List.mem_cons_of_mem _ hz)) hnd2.2 (fun z hz => by
        rw [hx1r 2 (by decide) (by decide) (by decide)]
        have h9 := congrArg (fun s => s.2.1) (hx1z z (hzne z hz))
        have h9 : x1 3 z = x9 3 z := h9
        rw [h9]
        exact hgw z (List.mem_cons_of_mem _ hz))
      have hid : rem.filter (pa_kp st go x1) = (a :: rem).filter (pa_kp st go x9) := by
        rw [List.filter_cons, if_neg hmk]
        exact hfil x1 fun z hz => hkz z (hzne z hz)
      rw [hid] at g2 g3 g8
      refine ⟨fw', x9', g1, g2, g3, g4, fun z hz => ?_, fun z hz => ?_, ⟨by rw [g7.1, hx1r 2 (by decide) (by decide) (by decide)], by rw [g7.2, hx1r 0 (by decide) (by decide) (by decide)]⟩, fun z hz => by rw [g8 z hz, hx1r 6 (by decide) (by decide) (by decide)]⟩
      · rcases List.mem_cons.mp hz with rfl | hz
        · rw [g6 z hnd2.1, hx1a]
        · rw [g5 z hz, hx1z z (hzne z hz)]
      · rw [g6 z (fun h => hz (List.mem_cons_of_mem _ h)), hx1z z (fun e => hz (by rw [e]; exact List.mem_cons_self))]
    · rw [if_neg hm]
      have hmk : pa_kp st go x9 a = true := by
        cases e : pa_kp st go x9 a with
        | true => rfl
        | false => exact absurd (hkeep.mpr (by rw [e]; decide)) hm
      obtain ⟨w1, w3, l1, l2, l3, l4, l5, l6, l7⟩ := pv_link hB h6 (by omega) hst1 hd hb ha.1 ha.2
      rw [l1, Option.bind_some]
      have hS3 : ∀ z, pv_S w3 z = pv_S x1 z := fun z => by
        unfold pv_S
        rw [l6 2 (by decide), l6 3 (by decide), l6 4 (by decide), l6 5 (by decide)]
      have hrem2 : ∀ z ∈ rem, z < N ∧ ∀ c, c < B → z ∉ pv_up ch b (ch b ++ [a]) c := by
        intro z hz
        have hz2 := hrem z (List.mem_cons_of_mem _ hz)
        refine ⟨hz2.1, fun c hc hin => ?_⟩
        by_cases hcb : c = b
        · subst hcb
          rw [pv_up_s] at hin
          rcases List.mem_append.mp hin with h | h
          · exact hz2.2 c hc h
          · exact hnd2.1 (List.mem_singleton.mp h ▸ hz)
        · rw [pv_up_n hcb] at hin
          exact hz2.2 c hc hin
      obtain ⟨fw', x9', g1, g2, g3, g4, g5, g6, g7, g8⟩ := ih (pv_up ch b (ch b ++ [a])) w1 w3 k' (x9 6 a) (by rw [List.length_cons] at hk; omega) l2 l3 (pv_ch_fr _ _ (fun z hz => by rw [l7 z (hrem2 z hz).2, hx1r 6 (by decide) (by decide) (by decide)]) hch) hrem2 hnd2.2 (fun z hz => by
        rw [l6 2 (by decide), l6 3 (by decide), hx1r 2 (by decide) (by decide) (by decide)]
        have h9 := congrArg (fun s => s.2.1) (hx1z z (hzne z hz))
        have h9 : x1 3 z = x9 3 z := h9
        rw [h9]
        exact hgw z (List.mem_cons_of_mem _ hz))
      have hid : pv_up (pv_up ch b (ch b ++ [a])) b (pv_up ch b (ch b ++ [a]) b ++ rem.filter (pa_kp st go w3)) = pv_up ch b (ch b ++ (a :: rem).filter (pa_kp st go x9)) := by
        rw [pv_up_up, pv_up_s, List.filter_cons, if_pos hmk, List.append_assoc, hfil w3 fun z hz => by
          unfold pa_kp
          rw [hS3 z, hx1z z (hzne z hz)]]
        rfl
      rw [hid] at g2 g3 g8
      refine ⟨fw', x9', g1, g2, g3, fun r r4 r5 => by rw [g4 r r4 r5, l4 r r4 r5], fun z hz => ?_, fun z hz => ?_, ⟨by rw [g7.1, l6 2 (by decide), hx1r 2 (by decide) (by decide) (by decide)], by rw [g7.2, l6 0 (by decide), hx1r 0 (by decide) (by decide) (by decide)]⟩, fun z hz => ?_⟩
      · rcases List.mem_cons.mp hz with rfl | hz
        · rw [g6 z hnd2.1, hS3, hx1a]
        · rw [g5 z hz, hS3, hx1z z (hzne z hz)]
      · rw [g6 z (fun h => hz (List.mem_cons_of_mem _ h)), hS3, hx1z z (fun e => hz (by rw [e]; exact List.mem_cons_self))]
      · rw [g8 z hz, l7 z (fun c hc hin => hz c hc ?_), hx1r 6 (by decide) (by decide) (by decide)]
        by_cases hcb : c = b
        · subst hcb
          rw [pv_up_s] at hin ⊢
          rw [List.filter_cons, if_pos hmk]
          rcases List.mem_append.mp hin with h | h
          · exact List.mem_append_left _ h
          · rw [List.mem_singleton.mp h]
            exact List.mem_append_right _ List.mem_cons_self
        · rw [pv_up_n hcb] at hin ⊢
          exact hin
end UNI
