/-! pure side, the made function 1: parts of tests, out of draws -/
section MDP
/-- draws so far, parts so far, forks, counters -/
abbrev md_S := Nat × Nat × Nat × Nat
/-- an operator by its number: its token, its row -/
def md_op (k : Nat) : Int32 × Nat :=
  if k = 1 then (43, 3) else if k = 2 then (45, 3) else if k = 3 then (42, 4) else if k = 4 then (47, 4) else if k = 5 then (37, 4) else if k = 6 then (38, 4) else if k = 7 then (124, 3) else if k = 8 then (94, 3) else if k = 9 then (316, 4) else if k = 10 then (318, 4) else
  if k = 11 then (60, 2) else if k = 12 then (572, 2) else if k = 13 then (62, 2) else if k = 14 then (574, 2) else if k = 15 then (573, 2) else (545, 2)
def md_nm (k : Nat) : Int64 := if k = 0 then 97 else if k = 1 then 98 else if k = 2 then 99 else 100
/-- a part without parts -/
def md_leaf (dr : Nat → Nat → Nat) (sort : Nat) (s : md_S) : RE × md_S :=
  if sort % 2 = 0 then (if dr s.1 4 = 0 then (re_nm (pu_I (dr (s.1 + 1) 5000)), (s.1 + 2, s.2)) else (re_nm (pu_I (dr (s.1 + 1) 9)), (s.1 + 2, s.2))) else (re_vr (md_nm (dr s.1 4)), (s.1 + 1, s.2))
/-- a part -/
def md_part (dr : Nat → Nat → Nat) : Nat → md_S → RE × md_S
  | 0, s => md_leaf dr (dr s.1 10) (s.1 + 1, s.2.1 + 1, s.2.2)
  | d + 1, s =>
    if 46 < s.2.1 + 1 ∨ dr s.1 10 < 2 then md_leaf dr (dr s.1 10) (s.1 + 1, s.2.1 + 1, s.2.2)
    else if dr s.1 10 = 2 then (re_pr (if dr (s.1 + 1) 2 = 0 then re_ng (md_part dr d (s.1 + 2, s.2.1 + 1, s.2.2)).1 else re_nt (md_part dr d (s.1 + 2, s.2.1 + 1, s.2.2)).1), (md_part dr d (s.1 + 2, s.2.1 + 1, s.2.2)).2)
    else if dr s.1 10 = 3 then (re_ld (md_part dr d (s.1 + 1, s.2.1 + 1, s.2.2)).1, (md_part dr d (s.1 + 1, s.2.1 + 1, s.2.2)).2)
    else if dr s.1 10 = 4 ∧ s.2.2.1 < 8 then
      (fun l : RE × md_S => (fun r : RE × md_S => (re_pr (re_sc (decide (dr l.2.1 2 = 0)) l.1 r.1), r.2)) (md_part dr d (l.2.1 + 1, l.2.2))) (md_part dr d (s.1 + 1, s.2.1 + 1, s.2.2.1 + 1, s.2.2.2))
    else (fun k : Nat => (fun l : RE × md_S =>
      if k = 4 ∨ k = 5 then (if dr l.2.1 5 = 0 then (fun r : RE × md_S => (re_pr (re_bn (md_op k).1 (pu_I k) (md_op k).2 l.1 r.1), r.2)) (md_part dr d (l.2.1 + 1, l.2.2))
        else (re_pr (re_bn (md_op k).1 (pu_I k) (md_op k).2 l.1 (re_nm (pu_I (1 + dr (l.2.1 + 1) 9)))), (l.2.1 + 2, l.2.2)))
      else (fun r : RE × md_S => (re_pr (re_bn (md_op k).1 (pu_I k) (md_op k).2 l.1 r.1), r.2)) (md_part dr d l.2)) (md_part dr d (s.1 + 2, s.2.1 + 1, s.2.2))) (1 + dr (s.1 + 1) 16)
/-- a, b, c, d are seen -/
def md_sv (sv : rd_sv) : Prop := ∀ k, k < 4 → ∃ v, v < 320 ∧ rd_lk sv (md_nm k) = some v
/-- what a part is; I: parts within that have parts of their own -/
def md_ok (d : Nat) (s s' : md_S) (e : RE) : Prop :=
  ∃ B g I, re_N e (d + 1) B g ∧ (re_lv e = 6 ∧ re_cn e = 0 ∧ (∀ n, re_cl e n = []) ∧ ∀ sv, md_sv sv → re_sn e sv) ∧
    (s.2.1 + 1 ≤ s'.2.1 ∧ s'.2.1 ≤ max (s.2.1 + 1) (46 + d + 1)) ∧ (I + min s.2.1 46 ≤ min s'.2.1 46 ∧ (s'.2.1 ≤ 46 → I + 1 + s.2.1 ≤ s'.2.1)) ∧
    (s'.2.2.1 = s.2.2.1 + re_ss e ∧ (s.2.2.1 ≤ 8 → s'.2.2.1 ≤ 8) ∧ s'.2.2.2 = s.2.2.2) ∧
    (B ≤ 1 + 2 * d + 9 * re_ss e ∧ g + s.2.1 ≤ s'.2.1 + I + 2 * re_ss e ∧ re_ln e + s.2.1 ≤ s'.2.1 + I + 7 * re_ss e ∧ (re_tks e).length + s.2.1 ≤ s'.2.1 + 4 * I) ∧
    (re_dp e ≤ 12 + 24 * d ∧ re_ht e ≤ d + 1 ∧ re_br e ≤ d)
theorem md_op_sg : ∀ k, 1 ≤ k → k ≤ 16 → re_sg (md_op k).1 (pu_I k) (md_op k).2 := by
  intro k h1 h2
  rcases (by omega : k = 1 ∨ k = 2 ∨ k = 3 ∨ k = 4 ∨ k = 5 ∨ k = 6 ∨ k = 7 ∨ k = 8 ∨ k = 9 ∨ k = 10 ∨ k = 11 ∨ k = 12 ∨ k = 13 ∨ k = 14 ∨ k = 15 ∨ k = 16) with e | e | e | e | e | e | e | e | e | e | e | e | e | e | e | e <;> subst e <;> (unfold re_sg; decide)
variable {dr : Nat → Nat → Nat}
theorem md_leaf_ok (hd : ∀ k n, 0 < n → dr k n < n) {d sort : Nat} {s : md_S} : md_ok d s (md_leaf dr sort (s.1 + 1, s.2.1 + 1, s.2.2)).2 (md_leaf dr sort (s.1 + 1, s.2.1 + 1, s.2.2)).1 := by
  have hm := Nat.le_max_left (s.2.1 + 1) (46 + d + 1)
  have hn : ∀ (v : Int32) (q : Nat), md_ok d s (q, s.2.1 + 1, s.2.2) (re_nm v) := fun v q => by
    refine ⟨1, 1, 0, re_N_mono re_N_nm (by omega) (by omega) (Nat.le_refl 1), ⟨rfl, rfl, fun _ => rfl, fun _ _ => trivial⟩, ⟨Nat.le_refl _, hm⟩, ⟨?_, fun _ => ?_⟩, ⟨rfl, fun h => h, rfl⟩, ⟨?_, ?_, ?_, ?_⟩, ?_, ?_, Nat.zero_le _⟩
    · show 0 + min s.2.1 46 ≤ min (s.2.1 + 1) 46; omega
    · show 0 + 1 + s.2.1 ≤ s.2.1 + 1; omega
    · show 1 ≤ 1 + 2 * d + 9 * 0; omega
    · show 1 + s.2.1 ≤ s.2.1 + 1 + 0 + 2 * 0; omega
    · show 1 + s.2.1 ≤ s.2.1 + 1 + 0 + 7 * 0; omega
    · show 1 + s.2.1 ≤ s.2.1 + 1 + 4 * 0; omega
    · show 12 ≤ 12 + 24 * d; omega
    · show 1 ≤ d + 1; omega
  unfold md_leaf
  by_cases e : sort % 2 = 0
  · rw [if_pos e]
    by_cases e2 : dr (s.1 + 1) 4 = 0
    · rw [if_pos e2]; exact hn _ _
    · rw [if_neg e2]; exact hn _ _
  · rw [if_neg e]
    refine ⟨1, 0, 0, re_N_mono re_N_vr (by omega) (by omega) (Nat.le_refl 0), ⟨rfl, rfl, fun _ => rfl, fun sv h => h _ (hd _ 4 (by decide))⟩, ⟨Nat.le_refl _, hm⟩, ⟨?_, fun _ => ?_⟩, ⟨rfl, fun h => h, rfl⟩, ⟨?_, ?_, ?_, ?_⟩, ?_, ?_, Nat.zero_le _⟩
    · show 0 + min s.2.1 46 ≤ min (s.2.1 + 1) 46; omega
    · show 0 + 1 + s.2.1 ≤ s.2.1 + 1; omega
    · show 1 ≤ 1 + 2 * d + 9 * 0; omega
    · show 0 + s.2.1 ≤ s.2.1 + 1 + 0 + 2 * 0; omega
    · show 1 + s.2.1 ≤ s.2.1 + 1 + 0 + 7 * 0; omega
    · show 1 + s.2.1 ≤ s.2.1 + 1 + 4 * 0; omega
    · show 12 ≤ 12 + 24 * d; omega
    · show 1 ≤ d + 1; omega
/-- one part within -/
theorem md_one {d q : Nat} {s s' : md_S} {e e' : RE} (h46 : s.2.1 + 1 ≤ 46) (h : md_ok d (q, s.2.1 + 1, s.2.2) s' e) (hN : ∀ B g, re_N e (d + 1) B g → re_N e' (d + 2) (B + 2) (g + 2)) (hs : re_lv e' = 6 ∧ re_cn e' = re_cn e ∧ (∀ n, ∃ m, re_cl e' n = re_cl e m) ∧ ∀ sv, re_sn e sv → re_sn e' sv) (hss : re_ss e' = re_ss e)
    (hnum : re_ln e' ≤ re_ln e + 2 ∧ (re_tks e').length ≤ (re_tks e).length + 4 ∧ re_dp e' ≤ max (re_dp e) 12 + 24 ∧ re_ht e' ≤ max (re_ht e) 1 + 1 ∧ re_br e' ≤ re_br e + 1) : md_ok (d + 1) s s' e' := by
  obtain ⟨B, g, I, h1, ⟨h2, h3, h4, h5⟩, ⟨h6, h7⟩, ⟨h8, h9⟩, ⟨h10, h11, h12⟩, ⟨h13, h14, h15, h16⟩, h17, h18, h19⟩ := h
  obtain ⟨s1, s2, s3, s4⟩ := hs
  obtain ⟨n1, n2, n3, n4, n5⟩ := hnum
  dsimp only at h6 h7 h8 h9 h10 h11 h12 h13 h14 h15 h16
  refine ⟨B + 2, g + 2, I + 1, hN B g h1, ⟨s1, s2.trans h3, fun n => (s3 n).elim fun m hm => hm.trans (h4 m), fun sv h => s4 sv (h5 sv h)⟩, ⟨by omega, by omega⟩, ⟨by omega, fun q => by have := h9 q; omega⟩, ⟨by rw [hss]; exact h10, h11, h12⟩, ⟨by rw [hss]; omega, by rw [hss]; omega, by rw [hss]; omega, by omega⟩, by omega, by omega, by omega⟩
theorem md_ar1 {p p1 p2 d : Nat} (h46 : p + 1 ≤ 46) (h : p1 ≤ max (p + 1 + 1) (46 + d + 1)) (k : p2 ≤ max (p1 + 1) (46 + d + 1)) : p2 ≤ max (p + 1) (46 + (d + 1) + 1) := by omega
theorem md_ar2 {p p1 p2 I I2 : Nat} (h46 : p + 1 ≤ 46) (h : I + min (p + 1) 46 ≤ min p1 46) (k : I2 + min p1 46 ≤ min p2 46) : I + I2 + 1 + min p 46 ≤ min p2 46 := by omega
/-- two parts within -/
theorem md_two {d q c : Nat} {s s1 s' : md_S} {e1 e2 e' : RE} (h46 : s.2.1 + 1 ≤ 46) (hc : c ≤ 1) (hc8 : c = 1 → s.2.2.1 < 8) (h : md_ok d (q, s.2.1 + 1, s.2.2.1 + c, s.2.2.2) s1 e1) {q2 : Nat} (h' : md_ok d (q2, s1.2) s' e2)
    (hN : ∀ B1 g1 B2 g2, re_N e1 (d + 1) B1 g1 → re_N e2 (d + 1) B2 g2 → ∃ B', re_N e' (d + 2) B' (g1 + g2 + 1 + 3 * c) ∧ (B' ≤ max B1 (B2 + 1) ∨ (c = 1 ∧ B' ≤ B1 + B2 + 8))) (hs : re_lv e' = 6 ∧ re_cn e' = re_cn e1 + re_cn e2 ∧ (∀ n, ∃ m m', re_cl e' n = re_cl e1 m ++ re_cl e2 m') ∧ ∀ sv, re_sn e1 sv → re_sn e2 sv → re_sn e' sv) (hss : re_ss e' = re_ss e1 + re_ss e2 + c)
    (hnum : re_ln e' ≤ re_ln e1 + re_ln e2 + 1 + 8 * c ∧ (re_tks e').length ≤ (re_tks e1).length + (re_tks e2).length + 3 ∧ re_dp e' ≤ max (re_dp e1) (re_dp e2) + 24 ∧ re_ht e' ≤ max (re_ht e1) (re_ht e2) + 1 ∧ re_br e' ≤ max (re_br e1) (re_br e2) + 1) (hd : d ≤ 1) : md_ok (d + 1) s s' e' := by
  obtain ⟨B, g, I, h1, ⟨h2, h3, h4, h5⟩, ⟨h6, h7⟩, ⟨h8, h9⟩, ⟨h10, h11, h12⟩, ⟨h13, h14, h15, h16⟩, h17, h18, h19⟩ := h
  obtain ⟨B2, g2, I2, k1, ⟨k2, k3, k4, k5⟩, ⟨k6, k7⟩, ⟨k8, k9⟩, ⟨k10, k11, k12⟩, ⟨k13, k14, k15, k16⟩, k17, k18, k19⟩ := h'
  obtain ⟨s1', s2, s3, s4⟩ := hs
  obtain ⟨n1, n2, n3, n4, n5⟩ := hnum
  dsimp only at h6 h7 h8 h9 h10 h11 h12 h13 h14 h15 h16 k6 k7 k8 k9 k10 k11 k12 k13 k14 k15 k16
  have r3 := Nat.le_trans n3 (Nat.add_le_add_right (Nat.max_le.mpr ⟨h17, k17⟩) 24)
  have r4 := Nat.le_trans n4 (Nat.add_le_add_right (Nat.max_le.mpr ⟨h18, k18⟩) 1)
  have r5 := Nat.le_trans n5 (Nat.add_le_add_right (Nat.max_le.mpr ⟨h19, k19⟩) 1)
  have r7 := md_ar1 h46 h7 k7
  have r8 := md_ar2 h46 h8 k8
  clear n3 n4 n5 h7 k7 h8 k8 h17 k17 h18 k18 h19 k19
  obtain ⟨B', hB1, hB2⟩ := hN B g B2 g2 h1 k1
  have hB : B' ≤ 1 + 2 * (d + 1) + 9 * re_ss e' := by
    rw [hss]
    rcases hB2 with e | ⟨e, e2⟩
    · exact Nat.le_trans e (Nat.max_le.mpr ⟨by omega, by omega⟩)
    · omega
  clear hB2
  refine ⟨B', _, I + I2 + 1, hB1, ⟨s1', by rw [s2, h3, k3], fun n => (s3 n).elim fun m hm => hm.elim fun m' hm => by rw [hm, h4, k4]; rfl, fun sv h => s4 sv (h5 sv h) (k5 sv h)⟩, ⟨by omega, r7⟩, ⟨r8, fun q => by have := k9 q; have := h9 (by omega); omega⟩, ⟨by rw [hss]; omega, fun q => k11 (h11 (by rcases (by omega : c = 0 ∨ c = 1) with e | e <;> omega)), k12.trans h12⟩, ⟨hB, by rw [hss]; omega, by rw [hss]; omega, by omega⟩, by omega, by omega, by omega⟩
end MDP
