/-! pure side, stores 37: ways and rows by the new numbers -/
/-- the row of new numbers -/
def pv_rnr (Fi : List Nat) (rn : Nat → Nat) (s : ST) : Prop := ∀ p, p < 60 → (p ∉ Fi ∧ s 1 p < 0) ∨ (p ∈ Fi ∧ s 1 p = pu_I (rn p))
/-- the new numbers are those below their count -/
def pv_rni (B : Nat) (Fi : List Nat) (rn od : Nat → Nat) : Prop := (∀ p ∈ Fi, p < B ∧ rn p < Fi.length ∧ od (rn p) = p) ∧ (∀ i, i < Fi.length → od i ∈ Fi ∧ rn (od i) = i) ∧ Fi.length ≤ B
theorem pv_rnr_e {Fi : List Nat} {rn : Nat → Nat} {s s' : ST} (h : s' 1 = s 1) (hr : pv_rnr Fi rn s) : pv_rnr Fi rn s' := by
  intro p hp
  rw [h]
  exact hr p hp
def pv_rs (rn : Nat → Nat) (x : Int32) : Int32 := if x < 0 then -1 else pu_I (rn (nn x))
section RW
variable {B : Nat} {Fi : List Nat} {rn od : Nat → Nat}
theorem pv_rn_inj (hR : pv_rni B Fi rn od) {p q : Nat} (hp : p ∈ Fi) (hq : q ∈ Fi) (h : rn p = rn q) : p = q := by
  rw [← (hR.1 p hp).2.2, h, (hR.1 q hq).2.2]
/-- one row is moved -/
theorem pv_move (hB : B ≤ 60) (hR : pv_rni B Fi rn od) {s : ST} (hs : pv_rnr Fi rn s) (f : RI) :
    ∃ s' f', fX8_move s 60 f (pu_I B) (pu_I Fi.length) = some (s', f') ∧ (∀ r, r ≠ 5 → s' r = s r) ∧ (∀ b ∈ Fi, f' (rn b) = f b) ∧ (∀ i, Fi.length ≤ i → f' i = f i) := by
  have hlen := hR.2.2
  obtain ⟨s1, e1, h1, h2⟩ := pv_for (G := fun k x t => fX8_move_L3 60 f (pu_I B) k x t) (hi := B) (Inv := fun k t => (∀ r, r ≠ 5 → t r = s r) ∧ ∀ p, p < k → p ∈ Fi → t 5 (rn p) = f p) (Q := fun t => (∀ r, r ≠ 5 → t r = s r) ∧ ∀ p, p ∈ Fi → t 5 (rn p) = f p)
    (fun n k t hk hI => by
      have h60 : ixb (pu_I k) 60 = true := (pu_ix (by omega)).mpr (by omega)
      have hform : fX8_move_L3 60 f (pu_I B) (n + 1) (pu_I k) t = (if t 1 k < 0 then fX8_move_L3 60 f (pu_I B) n (pu_I (k + 1)) t else (if ixb (t 1 k) 60 = true then fX8_move_L3 60 f (pu_I B) n (pu_I (k + 1)) (upw t 5 (nn (t 1 k)) (f k)) else none)) := by
        show (if pu_I B ≤ pu_I k then some t else (if ixb (pu_I k) 60 = true then (if (t 1 (nn (pu_I k))) < 0 then (fX8_move_J35 (fX8_move_L3 60 f (pu_I B) n) (pu_I k) t) else (if ixb (pu_I k) 60 = true then (if ixb (pu_I k) 60 = true then (if ixb (t 1 (nn (pu_I k))) 60 = true then (lt9 (upw t 5 (nn (t 1 (nn (pu_I k)))) (f (nn (pu_I k)))) fun (w7 : ST) => (fX8_move_J35 (fX8_move_L3 60 f (pu_I B) n) (pu_I k) w7)) else none) else none) else none)) else none)) = _
        unfold fX8_move_J35
        rw [if_neg (by rw [pu_le (by omega) (by omega)]; omega), if_pos h60, pu_nn (by omega), if_pos h60, if_pos h60, pu_su]
        simp only [lt9]
      rw [hform]
      rcases pv_rnr_e (hI.1 1 (by decide)) hs k (by omega) with ⟨q1, q2⟩ | ⟨q1, q2⟩
      · rw [if_pos q2]
        refine ⟨t, rfl, hI.1, fun p hp hpF => ?_⟩
        by_cases e : p = k
        · exact absurd (e ▸ hpF) q1
        · exact hI.2 p (by omega) hpF
      · have hk9 := hR.1 k q1
        rw [q2, if_neg (pu_ge (by omega)), if_pos ((pu_ix (by omega)).mpr (by omega)), pu_nn (by omega)]
        refine ⟨_, rfl, fun r hr => by rw [pv_upw_n hr, hI.1 r hr], fun p hp hpF => ?_⟩
        rw [pv_upw]
        by_cases e : rn p = rn k
        · rw [if_pos ⟨rfl, e⟩, pv_rn_inj hR hpF q1 e]
        · rw [if_neg fun h => e h.2]
          by_cases e2 : p = k
          · exact absurd (by rw [e2]) e
          · exact hI.2 p (by omega) hpF)
    (fun n t hI => ⟨t, by
      show (if pu_I B ≤ pu_I B then some t else _) = _
      rw [if_pos (Int32.le_refl _)], hI.1, fun p hp => hI.2 p (hR.1 p hp).1 hp⟩)
    B 0 NF s (by omega) (by have := pv_NF; omega) ⟨fun r _ => rfl, fun p hp => by omega⟩
  have e1 : fX8_move_L3 60 f (pu_I B) NF 0 s = some s1 := e1
  refine ⟨s1, va_cpy (s1 5) f 0 0 Fi.length, ?_, h1, fun b hb => ?_, fun i hi => ?_⟩
  · unfold fX8_move
    rw [e1, Option.bind_some]
    have hz : nn (0 : Int32) = 0 := rfl
    have hc : cpk 0 0 (pu_I Fi.length) 60 60 = true := by
      unfold cpk
      rw [decide_eq_true_iff, pu_nn (by omega), hz]
      exact ⟨by decide, by decide, pu_ge (by omega), by omega, by omega⟩
    rw [if_pos hc, hz, pu_nn (by omega)]
    simp only [lt9]
  · have h9 := hR.1 b hb
    unfold va_cpy
    rw [if_pos ⟨by omega, by omega⟩, Nat.sub_zero, Nat.zero_add]
    exact h2 b hb
  · unfold va_cpy
    rw [if_neg fun h => by omega]
/-- what a phi takes, by the new numbers -/
theorem pv_rw80 (hB : B ≤ 60) (hR : pv_rni B Fi rn od) {n : Nat → Nat} {w s : ST} (hs : pv_rnr Fi rn s) {a : Nat} (ha : a * 60 + 60 ≤ n 21) (ha2 : a < 50000) :
    ∃ s', fX8_renameWays_L80 n (pu_I a) w NF 0 s = some s' ∧ (∀ r, r ≠ 5 → s' r = s r) ∧ ∀ p, p ∈ Fi → s' 5 (rn p) = w 21 (a * 60 + p) := by
  have hlen := hR.2.2
  obtain ⟨s1, e1, h1, h2⟩ := pv_for (G := fun k x t => fX8_renameWays_L80 n (pu_I a) w k x t) (hi := 60) (Inv := fun k t => (∀ r, r ≠ 5 → t r = s r) ∧ ∀ p, p < k → p ∈ Fi → t 5 (rn p) = w 21 (a * 60 + p)) (Q := fun t => (∀ r, r ≠ 5 → t r = s r) ∧ ∀ p, p ∈ Fi → t 5 (rn p) = w 21 (a * 60 + p))
    (fun m k t hk hI => by
      have h60 : ixb (pu_I k) 60 = true := (pu_ix (by omega)).mpr (by omega)
      have hak : pu_I a * 60 + pu_I k = pu_I (a * 60 + k) := by rw [show (60 : Int32) = pu_I 60 from rfl, pv_mul, pv_add]
      have hform : fX8_renameWays_L80 n (pu_I a) w (m + 1) (pu_I k) t = (if t 1 k < 0 then fX8_renameWays_L80 n (pu_I a) w m (pu_I (k + 1)) t else (if ixb (t 1 k) 60 = true then fX8_renameWays_L80 n (pu_I a) w m (pu_I (k + 1)) (upw t 5 (nn (t 1 k)) (w 21 (a * 60 + k))) else none)) := by
        show (if 60 ≤ pu_I k then some t else (if ixb (pu_I k) 60 = true then (if (t 1 (nn (pu_I k))) < 0 then (fX8_renameWays_J119 (fX8_renameWays_L80 n (pu_I a) w m) (pu_I k) t) else (if ixb (pu_I k) 60 = true then (if ixb ((pu_I a * 60) + pu_I k) (n 21) = true then (if ixb (t 1 (nn (pu_I k))) 60 = true then (lt9 (upw t 5 (nn (t 1 (nn (pu_I k)))) (w 21 (nn ((pu_I a * 60) + pu_I k)))) fun (w15 : ST) => (fX8_renameWays_J119 (fX8_renameWays_L80 n (pu_I a) w m) (pu_I k) w15)) else none) else none) else none)) else none)) = _
        unfold fX8_renameWays_J119
        rw [if_neg (by rw [show (60 : Int32) = pu_I 60 from rfl, pu_le (by decide) (by omega)]; omega), if_pos h60, pu_nn (show k < 2147483648 by omega), if_pos h60, hak, if_pos ((pu_ix (by omega)).mpr (by omega)), pu_nn (show a * 60 + k < 2147483648 by omega), pu_su]
        simp only [lt9]
      rw [hform]
      rcases pv_rnr_e (hI.1 1 (by decide)) hs k (by omega) with ⟨q1, q2⟩ | ⟨q1, q2⟩
      · rw [if_pos q2]
        refine ⟨t, rfl, hI.1, fun p hp hpF => ?_⟩
        by_cases e : p = k
        · exact absurd (e ▸ hpF) q1
        · exact hI.2 p (by omega) hpF
      · have hk9 := hR.1 k q1
        rw [q2, if_neg (pu_ge (by omega)), if_pos ((pu_ix (by omega)).mpr (by omega)), pu_nn (by omega)]
        refine ⟨_, rfl, fun r hr => by rw [pv_upw_n hr, hI.1 r hr], fun p hp hpF => ?_⟩
        rw [pv_upw]
        by_cases e : rn p = rn k
        · rw [if_pos ⟨rfl, e⟩, pv_rn_inj hR hpF q1 e]
        · rw [if_neg fun h => e h.2]
          by_cases e2 : p = k
          · exact absurd (by rw [e2]) e
          · exact hI.2 p (by omega) hpF)
    (fun m t hI => ⟨t, rfl, hI.1, fun p hp => hI.2 p (by have := (hR.1 p hp).1; omega) hp⟩)
    60 0 NF s (by omega) (by have := pv_NF; omega) ⟨fun r _ => rfl, fun p hp => by omega⟩
  exact ⟨s1, e1, h1, h2⟩
/-- all phis of a block -/
theorem pv_rw67 (hB : B ≤ 60) (hR : pv_rni B Fi rn od) {n : Nat → Nat} {w0 s0 : ST} (hs : pv_rnr Fi rn s0) {M : Nat} (hM20 : M ≤ n 20) (hM21 : M * 60 ≤ n 21) (hM : M < 50000) {l : List Nat} (hl : ∀ a ∈ l, a < M) (hnd : l.Nodup) {x : Int32} (hx : pv_ch (w0 20) x l) (hlen : l.length < NF) :
    ∃ s' w', fX8_renameWays_L67 n NF x s0 w0 = some (s', w') ∧ (∀ r, r ≠ 5 → s' r = s0 r) ∧ (∀ r, r ≠ 21 → w' r = w0 r) ∧ (∀ a ∈ l, ∀ p ∈ Fi, w' 21 (a * 60 + rn p) = w0 21 (a * 60 + p)) ∧ (∀ y, (∀ a ∈ l, ¬ (a * 60 ≤ y ∧ y < a * 60 + 60)) → w' 21 y = w0 21 y) := by
  obtain ⟨t, e1, h1⟩ := pv_chl (G := fun k x (t : ST × ST) => fX8_renameWays_L67 n k x t.1 t.2) (nx := w0 20)
    (Inv := fun done rem (t : ST × ST) => (done ++ rem = l) ∧ (∀ r, r ≠ 5 → t.1 r = s0 r) ∧ (∀ r, r ≠ 21 → t.2 r = w0 r) ∧ (∀ a ∈ done, ∀ p ∈ Fi, t.2 21 (a * 60 + rn p) = w0 21 (a * 60 + p)) ∧ (∀ y, (∀ a ∈ done, ¬ (a * 60 ≤ y ∧ y < a * 60 + 60)) → t.2 21 y = w0 21 y))
    (Q := fun t : ST × ST => (∀ r, r ≠ 5 → t.1 r = s0 r) ∧ (∀ r, r ≠ 21 → t.2 r = w0 r) ∧ (∀ a ∈ l, ∀ p ∈ Fi, t.2 21 (a * 60 + rn p) = w0 21 (a * 60 + p)) ∧ (∀ y, (∀ a ∈ l, ¬ (a * 60 ≤ y ∧ y < a * 60 + 60)) → t.2 21 y = w0 21 y))
    (fun k a done rem t hI => by
      obtain ⟨hdr, i1, i2, i3, i4⟩ := hI
      have hal : a ∈ l := by rw [← hdr]; exact List.mem_append_right _ List.mem_cons_self
      have haM := hl a hal
      have hm : pu_I a * 60 = pu_I (a * 60) := by rw [show (60 : Int32) = pu_I 60 from rfl, pv_mul]
      obtain ⟨s1, f1, f2, f3⟩ := pv_rw80 (w := t.2) hB hR (pv_rnr_e (i1 1 (by decide)) hs) (n := n) (a := a) (by omega) (by omega)
      have hz : nn (0 : Int32) = 0 := rfl
      have h60 : nn (60 : Int32) = 60 := rfl
      have hc : cpk 0 (pu_I (a * 60)) 60 60 (n 21) = true := by
        unfold cpk
        rw [decide_eq_true_iff, pu_nn (show a * 60 < 2147483648 by omega), hz, h60]
        exact ⟨by decide, pu_ge (by omega), by decide, by omega, by omega⟩
      have hform : fX8_renameWays_L67 n (k + 1) (pu_I a) t.1 t.2 = fX8_renameWays_L67 n k (w0 20 a) s1 (srw t.2 21 (va_cpy (s1 5) (t.2 21) 0 (a * 60) 60)) := by
        show (if pu_I a < 0 then some (t.1, t.2) else ((fX8_renameWays_L80 n (pu_I a) t.2 NF 0 t.1).bind fun (o80 : ST) => (if cpk 0 (pu_I a * 60) 60 60 (n 21) = true then (lt9 (srw t.2 21 (va_cpy (o80 5) (t.2 21) (nn 0) (nn (pu_I a * 60)) (nn 60))) fun (w17 : ST) => (if ixb (pu_I a) (n 20) = true then ((fX8_renameWays_L67 n k) (w17 20 (nn (pu_I a))) o80 w17) else none)) else none))) = _
        rw [if_neg (pu_ge (by omega)), f1, Option.bind_some, hm, if_pos hc, hz, h60, pu_nn (show a * 60 < 2147483648 by omega)]
        simp only [lt9]
        rw [if_pos ((pu_ix (by omega)).mpr (by omega)), pu_nn (show a < 2147483648 by omega), pv_srw_n (by decide), i2 20 (by decide)]
      refine ⟨(s1, srw t.2 21 (va_cpy (s1 5) (t.2 21) 0 (a * 60) 60)), hform, by rw [← hdr]; simp, fun r hr => (f2 r hr).trans (i1 r hr), fun r hr => (pv_srw_n hr).trans (i2 r hr), fun a' ha' p hp => ?_, fun y hy => ?_⟩
      · show srw t.2 21 (va_cpy (s1 5) (t.2 21) 0 (a * 60) 60) 21 (a' * 60 + rn p) = _
        rw [pv_srw_s]
        unfold va_cpy
        have hp9 := hR.1 p hp
        have hlen9 := hR.2.2
        rcases List.mem_append.mp ha' with h | h
        · have hne : a' ≠ a := by
            rintro rfl
            rw [← hdr] at hnd
            exact (List.nodup_append.mp hnd).2.2 a' h a' List.mem_cons_self rfl
          rw [if_neg fun c => by omega]
          exact i3 a' h p hp
        · rw [List.mem_singleton.mp h, if_pos ⟨by omega, by omega⟩, show 0 + (a * 60 + rn p - a * 60) = rn p by omega, f3 p hp]
          refine i4 _ fun a2 ha2 => ?_
          have hne : a2 ≠ a := by
            rintro rfl
            rw [← hdr] at hnd
            exact (List.nodup_append.mp hnd).2.2 a2 ha2 a2 List.mem_cons_self rfl
          omega
      · show srw t.2 21 (va_cpy (s1 5) (t.2 21) 0 (a * 60) 60) 21 y = _
        rw [pv_srw_s]
        unfold va_cpy
        have h9 := hy a (List.mem_append_right _ (List.mem_singleton.mpr rfl))
        rw [if_neg fun c => h9 ⟨c.1, c.2⟩]
        exact i4 y fun a' ha' => hy a' (List.mem_append_left _ ha'))
    (fun k x done t hx hI => ⟨t, by
      show (if x < 0 then some (t.1, t.2) else _) = _
      rw [if_pos hx], by
      obtain ⟨hdr, i1, i2, i3, i4⟩ := hI
      rw [List.append_nil] at hdr
      subst hdr
      exact ⟨i1, i2, i3, i4⟩⟩)
    l [] x NF (s0, w0) hx hlen ⟨rfl, fun r _ => rfl, fun r _ => rfl, fun a ha => (by cases ha), fun y _ => rfl⟩
  exact ⟨t.1, t.2, e1, h1⟩
/-- one block's ways -/
theorem pv_renameWays (hB : B ≤ 60) (hR : pv_rni B Fi rn od) {n : Nat → Nat} {w s : ST} (hs : pv_rnr Fi rn s) {M : Nat} (hM20 : M ≤ n 20) (hM21 : M * 60 ≤ n 21) (hM : M < 50000) {b : Nat} (hb : b < B) {l : List Nat} (hl : ∀ a ∈ l, a < M) (hnd : l.Nodup) (hx : pv_ch (w 20) (w 6 b) l) (hlen : l.length < NF)
    (h10 : w 10 b < 0 ∨ ∃ c, c ∈ Fi ∧ w 10 b = pu_I c) (h11 : w 11 b < 0 ∨ ∃ c, c ∈ Fi ∧ w 11 b = pu_I c) :
    ∃ s' w', fX8_renameWays s n w (pu_I b) = some (s', w') ∧ (∀ r, r ≠ 5 → s' r = s r) ∧ (∀ r, r ≠ 10 → r ≠ 11 → r ≠ 21 → w' r = w r) ∧ (∀ c, w' 10 c = if c = b then pv_rs rn (w 10 b) else w 10 c) ∧ (∀ c, w' 11 c = if c = b then pv_rs rn (w 11 b) else w 11 c) ∧ (∀ a ∈ l, ∀ p ∈ Fi, w' 21 (a * 60 + rn p) = w 21 (a * 60 + p)) ∧ (∀ y, (∀ a ∈ l, ¬ (a * 60 ≤ y ∧ y < a * 60 + 60)) → w' 21 y = w 21 y) := by
  have hib : ixb (pu_I b) 60 = true := (pu_ix (by omega)).mpr (by omega)
  have hnb : nn (pu_I b) = b := pu_nn (by omega)
  have hget : ∀ x : Int32, (x < 0 ∨ ∃ c, c ∈ Fi ∧ x = pu_I c) → (¬ x < 0 → ixb x 60 = true ∧ s 1 (nn x) = pv_rs rn x) := by
    intro x hx h0
    obtain ⟨c, c1, rfl⟩ := hx.resolve_left h0
    have hc := hR.1 c c1
    refine ⟨(pu_ix (by omega)).mpr (by omega), ?_⟩
    unfold pv_rs
    rw [if_neg h0, pu_nn (by omega)]
    rcases hs c (by omega) with ⟨q, _⟩ | ⟨_, q⟩
    · exact absurd c1 q
    · exact q
  obtain ⟨s', w', e1, e2, e3, e4, e5⟩ := pv_rw67 hB hR (w0 := upw (upw w 10 b (pv_rs rn (w 10 b))) 11 b (pv_rs rn (w 11 b))) hs hM20 hM21 hM hl hnd (x := w 6 b) (by rw [pv_upw_n (by decide), pv_upw_n (by decide)]; exact hx) hlen
  have h59 : fX8_renameWays_J59 s n (pu_I b) (upw w 10 b (pv_rs rn (w 10 b))) (pv_rs rn (w 11 b)) = some (s', w') := by
    unfold fX8_renameWays_J59
    rw [if_pos hib, hnb]
    simp only [lt9]
    rw [if_pos hib, pv_upw_n (q := 6) (by decide), pv_upw_n (q := 6) (by decide), e1, Option.bind_some]
  have h29 : fX8_renameWays_J29 s n w (pu_I b) (pv_rs rn (w 10 b)) = some (s', w') := by
    unfold fX8_renameWays_J29
    rw [if_pos hib, hnb]
    simp only [lt9]
    rw [if_pos hib, pv_upw_n (q := 11) (by decide)]
    by_cases h0 : w 11 b < 0
    · have h9 : pv_rs rn (w 11 b) = -1 := if_pos h0
      rw [if_neg (Int32.not_le.mpr h0)]
      rw [h9] at h59
      exact h59
    · have h9 := hget _ h11 h0
      rw [if_pos (Int32.not_lt.mp h0), if_pos hib, if_pos h9.1, h9.2]
      exact h59
  refine ⟨s', w', ?_, e2, fun r h1 h2 h3 => by rw [e3 r h3, pv_upw_n h2, pv_upw_n h1], fun c => ?_, fun c => ?_, fun a ha p hp => ?_, fun y hy => ?_⟩
  · unfold fX8_renameWays
    rw [if_pos hib, hnb]
    by_cases h0 : w 10 b < 0
    · have h9 : pv_rs rn (w 10 b) = -1 := if_pos h0
      rw [if_neg (Int32.not_le.mpr h0)]
      rw [h9] at h29
      exact h29
    · have h9 := hget _ h10 h0
      rw [if_pos (Int32.not_lt.mp h0), if_pos hib, if_pos h9.1, h9.2]
      exact h29
  · rw [e3 10 (by decide), pv_upw_n (by decide), pv_upw]
    by_cases h : c = b
    · rw [if_pos ⟨rfl, h⟩, if_pos h]
    · rw [if_neg fun q => h q.2, if_neg h]
  · rw [e3 11 (by decide), pv_upw]
    by_cases h : c = b
    · rw [if_pos ⟨rfl, h⟩, if_pos h]
    · rw [if_neg fun q => h q.2, if_neg h, pv_upw_n (by decide)]
  · rw [e4 a ha p hp, pv_upw_n (by decide), pv_upw_n (by decide)]
  · rw [e5 y hy, pv_upw_n (by decide), pv_upw_n (by decide)]
end RW
