/-! pure side, the reader 5: statements in shape -/
section TYS
variable {P : ST} {a0 a1 Vn fs np : Nat} {vis : Int32 → Prop}
/-- a statement, or a row of them, in shape: nothing waits ahead of it and behind it -/
def tq_s (P : ST) (a0 a1 Vn fs np : Nat) (vis : Int32 → Prop) (i j B : Nat) : Prop :=
  (a0 ≤ i ∧ i ≤ j ∧ j ≤ a1) ∧ (i < j → tq_k P i) ∧ (pt_Q P a0 i = [] → pt_T P a0 i = [] → ∃ S, tq_i P a0 a1 Vn fs np vis i j B S (fun _ => False) ∧ pt_T P a0 j = [] ∧ pt_Q P a0 j = [])
theorem tq_s_mono {i j B B' : Nat} (h : tq_s P a0 a1 Vn fs np vis i j B) (hB : B ≤ B') : tq_s P a0 a1 Vn fs np vis i j B' := by
  obtain ⟨h1, h5, h6⟩ := h
  refine ⟨h1, h5, fun hQ hl => ?_⟩
  obtain ⟨S, q1, q2, q3⟩ := h6 hQ hl
  exact ⟨S, tq_B q1 hB, q2, q3⟩
theorem tq_s_nil {i B : Nat} (h1 : a0 ≤ i) (h2 : i ≤ a1) : tq_s P a0 a1 Vn fs np vis i i B :=
  ⟨⟨h1, Nat.le_refl i, h2⟩, fun h => absurd h (Nat.lt_irrefl i), fun hQ hT => ⟨[], tq_B (tq_nil h1 h2) (Nat.zero_le _), hT, hQ⟩⟩
theorem tq_s_app {i m j B : Nat} (h1 : tq_s P a0 a1 Vn fs np vis i m B) (h2 : tq_s P a0 a1 Vn fs np vis m j B) : tq_s P a0 a1 Vn fs np vis i j B := by
  by_cases e : m < j
  · obtain ⟨⟨a1', a2', a3'⟩, a4', a5'⟩ := h1
    obtain ⟨⟨b1, b2, b3⟩, b4, b5⟩ := h2
    refine ⟨⟨a1', by omega, b3⟩, fun _ => ?_, fun hQ hT => ?_⟩
    · by_cases e2 : i < m
      · exact a4' e2
      · rw [show i = m by omega]; exact b4 e
    · obtain ⟨S1, q1, q2, q3⟩ := a5' hQ hT
      obtain ⟨S2, r1, r2, r3⟩ := b5 q3 q2
      exact ⟨_, tq_ff (tq_appk q1 r1 (b4 e) (Nat.le_refl B) (Nat.le_refl B)), r2, r3⟩
  · obtain rfl : m = j := by have := h2.1; omega
    exact h1
/-- a variable that is new, and what follows -/
theorem tq_s_decl {v : Int32} {i a j B : Nat} (h1 : tq_s P a0 a1 Vn fs np vis i (a + 1) B) (h2 : tq_s P a0 a1 Vn fs np (fun u => u = v ∨ vis u) (a + 1) j B) (hi : i ≤ a) (has : tq_as P v a) : tq_s P a0 a1 Vn fs np vis i j B := by
  obtain ⟨⟨a1', a2', a3'⟩, a4', a5'⟩ := h1
  obtain ⟨⟨b1, b2, b3⟩, b4, b5⟩ := h2
  refine ⟨⟨a1', by omega, b3⟩, fun _ => a4' (by omega), fun hQ hT => ?_⟩
  obtain ⟨S1, q1, q2, q3⟩ := a5' hQ hT
  obtain ⟨S2, r1, r2, r3⟩ := b5 q3 q2
  by_cases e : a + 1 < j
  · exact ⟨_, tq_ff (tq_decl q1 r1 hi has B (tq_appk (tq_vis q1 fun u h => Or.inr h) r1 (b4 e) (Nat.le_refl B) (Nat.le_refl B))), r2, r3⟩
  · obtain rfl : a + 1 = j := by omega
    exact ⟨S1, q1, q2, q3⟩
/-- x = test -/
theorem tq_s_set (hG : tq_G P a0 a1) {i m k B : Nat} (h : tq_e P a0 a1 Vn fs np vis i m k B) (hk : k ≤ 60) (hm : m < a1) (hK : P 9 m = 31) (hv : ∃ u, u < Vn ∧ P 10 m = pu_I u) : tq_s P a0 a1 Vn fs np vis i (m + 1) (B + 1) := by
  obtain ⟨⟨a1', a2', a3', a4'⟩, a5', a6'⟩ := h
  refine ⟨⟨a1', by omega, hm⟩, fun _ => a5', fun hQ hT => ?_⟩
  obtain ⟨S, t, q1, q2, q3⟩ := a6' hQ (by rw [hT]; simpa using hk)
  rw [hT] at q2
  obtain ⟨p1, p2, p3⟩ := tq_set (Vn := Vn) (fs := fs) (np := np) (vis := vis) hG (by omega) hm hK hv q2 (by decide) q3
  exact ⟨_, tq_ff (tq_app q1 p1), p2, p3⟩
/-- [test] = test -/
theorem tq_s_wr (hG : tq_G P a0 a1) {i m q k1 k2 B1 B2 : Nat} (h1 : tq_e P a0 a1 Vn fs np vis i m k1 B1) (h2 : tq_e P a0 a1 Vn fs np vis m q k2 B2) (hk1 : k1 ≤ 59) (hk2 : k2 ≤ 59) (hm : q < a1) (hK : P 9 q = 18) : tq_s P a0 a1 Vn fs np vis i (q + 1) (max B1 (B2 + 1)) := by
  obtain ⟨⟨a1', a2', a3', a4'⟩, a5', a6'⟩ := h1
  obtain ⟨⟨b1, b2, b3, b4⟩, b5, b6⟩ := h2
  refine ⟨⟨a1', by omega, hm⟩, fun _ => a5', fun hQ hT => ?_⟩
  obtain ⟨S, t, q1, q2, q3⟩ := a6' hQ (by rw [hT, List.length_nil]; omega)
  rw [hT] at q2
  obtain ⟨S2, t2, r1, r2, r3⟩ := b6 q3 (by rw [q2, List.length_cons, List.length_nil]; omega)
  rw [q2] at r2
  have hp : pt_pop P q = 2 := by unfold pt_pop; rw [hK]; rfl
  have hlen : (pt_T P a0 q).length = 2 := by rw [r2]; rfl
  obtain ⟨p1, p2, p3⟩ := tq_1 (Vn := Vn) (fs := fs) (np := np) (vis := vis) hG (by omega) hm hK (by decide) (by decide) (by rw [hp]; omega) (fun q => absurd q (by decide)) (by omega) (fun q => absurd q (by decide)) (fun q => absurd q (by decide)) r3 (fun q => absurd q (by decide))
  refine ⟨_, tq_ff (tq_appk q1 (tq_ff (tq_app r1 p1)) b5 (Nat.le_max_left _ _) (Nat.le_max_right _ _)), ?_, p3⟩
  rw [p2]
  unfold pt_nx
  rw [hK, if_neg (by decide), hp, r2]
  rfl
/-- the end of a function -/
theorem tq_s_ret (hG : tq_G P a0 a1) {i m k B : Nat} (h : tq_e P a0 a1 Vn fs np vis i m k B) (hk : k ≤ 60) (hm : m < a1) (hK : P 9 m = 24) : tq_s P a0 a1 Vn fs np vis i (m + 1) (B + 1) := by
  obtain ⟨hL, h3, hTk⟩ := id hG
  obtain ⟨⟨a1', a2', a3', a4'⟩, a5', a6'⟩ := h
  refine ⟨⟨a1', by omega, hm⟩, fun _ => a5', fun hQ hT => ?_⟩
  obtain ⟨S, t, q1, q2, q3⟩ := a6' hQ (by rw [hT]; simpa using hk)
  rw [hT] at q2
  have hp : pt_pop P m = 1 := by unfold pt_pop; rw [hK]; rfl
  have hlen : (pt_T P a0 m).length = 1 := by rw [q2]; rfl
  have hx0 : a0 ≤ m := by omega
  have hne : ∀ z : Int32, (24 : Int32) ≠ z → P 9 m ≠ z := fun z hz e => hz (hK.symm.trans e)
  have hone := tq_one0 (P := P) (Vn := Vn) (fs := fs) (np := np) (vis := vis) hL h3 hx0 hm ⟨⟨fun q => absurd q (by rw [hK]; decide), Or.inr (Or.inr (Or.inl hK))⟩, ⟨⟨by rw [hp]; omega, fun q => absurd q (hne _ (by decide)), fun q => absurd q (hne _ (by decide)), fun q => absurd q (hne _ (by decide)), by omega⟩, by omega, fun _ => hlen⟩, fun q => (by
      rcases q with q | q | q | q
      · exact absurd q (hne _ (by decide))
      · exact absurd q (hne _ (by decide))
      · exact absurd q (hne _ (by decide))
      · exact absurd q (hne _ (by decide))), fun q => (by
      rcases q with q | q | q | q
      · exact absurd q (hne _ (by decide))
      · exact absurd q (hne _ (by decide))
      · exact absurd q (hne _ (by decide))
      · exact absurd q (hne _ (by decide))), ⟨fun q => absurd q (hne _ (by decide)), fun q => absurd q (hne _ (by decide))⟩, hTk m hx0 hm, ⟨fun q => absurd q3 q, fun q => absurd q (hne _ (by decide))⟩⟩ (fun q => (by
      rcases q with q | q | q
      · exact absurd q (hne _ (by decide))
      · exact absurd q (hne _ (by decide))
      · exact absurd q (hne _ (by decide)))) (hne _ (by decide)) (fun q => absurd q (hne _ (by decide)))
  refine ⟨_, tq_ff (tq_app q1 hone), ?_, ?_⟩
  · rw [pt_T_s hx0]
    unfold pt_nx
    rw [hK, if_neg (by decide), hp, q2]
    rfl
  · rw [pt_Q_s hx0, if_neg (hne _ (by decide)), if_neg (hne _ (by decide)), q3]
/-- a leap that is taken -/
theorem tq_gop (hG : tq_G P a0 a1) {m : Nat} (hm0 : a0 ≤ m) (hm : m < a1) (hK : P 9 m = 22) (hlb : ∃ n, n < 640 ∧ P 10 m = pu_I n) (hl : (pt_T P a0 m).length ≤ 60) (hQ : pt_Q P a0 m = []) :
    tq_lc P a0 Vn fs np m ∧ tq_i P a0 a1 Vn fs np vis m (m + 1) 1 [] (fun x => x = m) ∧ pt_T P a0 (m + 1) = pt_T P a0 m ∧ pt_Q P a0 (m + 1) = [] := by
  obtain ⟨hL, h3, hTk⟩ := hG
  obtain ⟨n, hn, hn2⟩ := hlb
  have hixb : ixb (P 10 m) 640 = true := by rw [hn2]; exact (pu_ix (by omega)).mpr hn
  have hp : pt_pop P m = 0 := by unfold pt_pop; rw [hK]; rfl
  have hne : ∀ z : Int32, (22 : Int32) ≠ z → P 9 m ≠ z := fun z hz e => hz (hK.symm.trans e)
  have hlc : tq_lc P a0 Vn fs np m := ⟨⟨fun q => absurd q (by rw [hK]; decide), Or.inr (Or.inl hK)⟩, ⟨⟨by rw [hp]; omega, fun q => absurd q (hne _ (by decide)), fun q => absurd q (hne _ (by decide)), fun q => absurd q (hne _ (by decide)), by omega⟩, hl, fun q => absurd q (hne _ (by decide))⟩, fun q => (by
      rcases q with q | q | q | q
      · exact absurd q (hne _ (by decide))
      · exact absurd q (hne _ (by decide))
      · exact absurd q (hne _ (by decide))
      · exact absurd q (hne _ (by decide))), fun _ => hixb, ⟨fun q => absurd q (hne _ (by decide)), fun q => absurd q (hne _ (by decide))⟩, hTk m hm0 hm, ⟨fun q => absurd hQ q, fun q => absurd q (hne _ (by decide))⟩⟩
  have hone := tq_one (P := P) (Vn := Vn) (fs := fs) (np := np) (vis := vis) hL h3 hm0 hm hlc (fun q => absurd q (hne _ (by decide)))
  rw [show tq_w P m = 1 from if_neg (hne _ (by decide))] at hone
  refine ⟨hlc, tq_Xm hone fun x _ _ h => h.1, ?_, ?_⟩
  · rw [pt_T_s hm0]
    unfold pt_nx
    rw [hK, if_neg (by decide), hp]
    rfl
  · rw [pt_Q_s hm0, if_neg (hne _ (by decide)), if_neg (hne _ (by decide)), hQ]
/-- a piece, and a row of statements behind it -/
theorem tq_appS {i m j B1 B2 : Nat} {S1 S2 : List (Int32 × Nat × Nat)} {X : Nat → Prop} (h1 : tq_i P a0 a1 Vn fs np vis i m B1 S1 X) (h2 : tq_i P a0 a1 Vn fs np vis m j B2 S2 (fun _ => False)) (hk : m < j → tq_k P m) : tq_i P a0 a1 Vn fs np vis i j (max B1 B2) (S1 ++ S2) X := by
  by_cases e : m < j
  · exact tq_Xm (tq_appk h1 h2 (hk e) (Nat.le_max_left _ _) (Nat.le_max_right _ _)) fun x _ _ h => h.elim id fun h => h.elim
  · obtain rfl : m = j := by have := h2.1; omega
    refine tq_B (tq_Xm (tq_app h1 (B2 := 0) ⟨h2.1, h2.2.1, h2.2.2.1, h2.2.2.2.1, h2.2.2.2.2.1, fun c _ _ x _ _ => by omega⟩) fun x _ _ h => h.elim id fun h => h.elim) (Nat.le_max_left _ _)
/-- if -/
theorem tq_s_if (hG : tq_G P a0 a1) {i m q k B1 B2 : Nat} (h1 : tq_e P a0 a1 Vn fs np vis i m k B1) (hk : k ≤ 60) (hm : P 9 m = 33 ∧ ∃ n, n < 640 ∧ P 10 m = pu_I n) (h2 : tq_s P a0 a1 Vn fs np vis (m + 1) q B2) (hq : q < a1) (hl : P 9 q = 35 ∧ P 10 q = P 10 m) : tq_s P a0 a1 Vn fs np vis i (q + 1) (B1 + B2 + 2) := by
  obtain ⟨⟨a1', a2', a3', a4'⟩, a5', a6'⟩ := h1
  obtain ⟨⟨b1, b2, b3⟩, b4, b5⟩ := h2
  refine ⟨⟨a1', by omega, hq⟩, fun _ => a5', fun hQ hT => ?_⟩
  obtain ⟨S, t, q1, q2, q3⟩ := a6' hQ (by rw [hT, List.length_nil]; omega)
  rw [hT] at q2
  obtain ⟨u1, u2, u3⟩ := tq_skp (Vn := Vn) (fs := fs) (np := np) (vis := vis) hG (by omega) (by omega) hm.1 (Or.inl rfl) hm.2 q2 (by decide) q3
  obtain ⟨S2, r1, r2, r3⟩ := b5 u3 u2
  have hA := tq_appS u1 r1 b4
  obtain ⟨z1, z2, z3⟩ := tq_no (Vn := Vn) (fs := fs) (np := np) (vis := vis) hG (m := q) (by omega) hq hl.1 (Or.inl rfl) (by rw [r2]; decide) r3
  have hB := tq_lab hG.1 hG.2.1 hA hq (z1.2.1 q (Nat.le_refl _) (by omega)) hl.1 (fun x y1 y2 hj hX h10 => by rw [hX, r2, u2])
  have hC := tq_Xm (X' := fun _ => False) hB fun x _ _ h => h.2 (by rw [h.1]; exact hl.2.symm)
  refine ⟨_, tq_B (tq_ff (tq_app q1 hC)) ?_, by rw [z2, r2], z3⟩
  have : max 1 B2 ≤ B2 + 1 := by omega
  omega
/-- if .. else -/
theorem tq_s_ife (hG : tq_G P a0 a1) {i m q r k B1 B2 B3 : Nat} (h1 : tq_e P a0 a1 Vn fs np vis i m k B1) (hk : k ≤ 60) (hm : P 9 m = 33 ∧ ∃ n, n < 640 ∧ P 10 m = pu_I n) (h2 : tq_s P a0 a1 Vn fs np vis (m + 1) q B2) (hq : P 9 q = 22 ∧ ∃ n, n < 640 ∧ P 10 q = pu_I n) (hl : P 9 (q + 1) = 35 ∧ P 10 (q + 1) = P 10 m)
    (h3 : tq_s P a0 a1 Vn fs np vis (q + 2) r B3) (hr : r < a1) (hl2 : P 9 r = 35 ∧ P 10 r = P 10 q) : tq_s P a0 a1 Vn fs np vis i (r + 1) (B1 + (B2 + B3) + 4) := by
  obtain ⟨⟨a1', a2', a3', a4'⟩, a5', a6'⟩ := h1
  obtain ⟨⟨b1, b2, b3⟩, b4, b5⟩ := h2
  obtain ⟨⟨c1, c2, c3⟩, c4, c5⟩ := h3
  refine ⟨⟨a1', by omega, hr⟩, fun _ => a5', fun hQ hT => ?_⟩
  obtain ⟨S, t, q1, q2, q3⟩ := a6' hQ (by rw [hT, List.length_nil]; omega)
  rw [hT] at q2
  obtain ⟨u1, u2, u3⟩ := tq_skp (Vn := Vn) (fs := fs) (np := np) (vis := vis) hG (by omega) (by omega) hm.1 (Or.inl rfl) hm.2 q2 (by decide) q3
  obtain ⟨S2, r1, r2, r3⟩ := b5 u3 u2
  have hA := tq_appS u1 r1 b4
  obtain ⟨_, g1, g2, g3⟩ := tq_gop (Vn := Vn) (fs := fs) (np := np) (vis := vis) hG (m := q) (by omega) (by omega) hq.1 hq.2 (by rw [r2]; decide) r3
  rw [r2] at g2
  have hB := tq_app hA g1
  obtain ⟨z1, z2, z3⟩ := tq_no (Vn := Vn) (fs := fs) (np := np) (vis := vis) hG (m := q + 1) (by omega) (by omega) hl.1 (Or.inl rfl) (by rw [g2]; decide) g3
  rw [g2] at z2
  have hC := tq_lab hG.1 hG.2.1 hB (by omega) (z1.2.1 (q + 1) (Nat.le_refl _) (by omega)) hl.1 (fun x y1 y2 hj hX h10 => by
    rcases hX with h | h
    · rw [h, u2, g2]
    · rw [h])
  obtain ⟨S3, w1, w2, w3⟩ := c5 z3 z2
  have hD := tq_appS hC w1 c4
  obtain ⟨y1, y2, y3⟩ := tq_no (Vn := Vn) (fs := fs) (np := np) (vis := vis) hG (m := r) (by omega) hr hl2.1 (Or.inl rfl) (by rw [w2]; decide) w3
  have hE := tq_lab hG.1 hG.2.1 hD hr (y1.2.1 r (Nat.le_refl _) (by omega)) hl2.1 (fun x _ _ hj hX h10 => by
    rcases hX.1 with h | h
    · rw [h, u2, w2]
    · rw [h, g2, w2])
  have hF := tq_Xm (X' := fun _ => False) hE fun x _ _ h => by
    rcases h.1.1 with e | e
    · exact h.1.2 (by rw [e]; exact hl.2.symm)
    · exact h.2 (by rw [e]; exact hl2.2.symm)
  refine ⟨_, tq_B (tq_ff (tq_app q1 hF)) ?_, by rw [y2, w2], y3⟩
  have : max 1 B2 ≤ B2 + 1 := by omega
  have : max (max 1 B2 + 1 + 1) B3 ≤ B2 + B3 + 3 := by omega
  omega
/-- while -/
theorem tq_s_while (hG : tq_G P a0 a1) {i m q k B1 B2 : Nat} (h0 : P 9 i = 37) (hi0 : a0 ≤ i) (hki : tq_k P i) (hh : P 9 (i + 1) = 35) (h1 : tq_e P a0 a1 Vn fs np vis (i + 2) m k B1) (hk : k ≤ 60) (hm : P 9 m = 33 ∧ ∃ n, n < 640 ∧ P 10 m = pu_I n) (h2 : tq_s P a0 a1 Vn fs np vis (m + 1) q B2) (hq : P 9 q = 22 ∧ P 10 q = P 10 (i + 1)) (hl : P 9 (q + 1) = 35 ∧ P 10 (q + 1) = P 10 m) (hq1 : q + 1 < a1) : tq_s P a0 a1 Vn fs np vis i (q + 2) (B1 + B2 + 6) := by
  obtain ⟨⟨a1', a2', a3', a4'⟩, a5', a6'⟩ := h1
  obtain ⟨⟨b1, b2, b3⟩, b4, b5⟩ := h2
  refine ⟨⟨hi0, by omega, hq1⟩, fun _ => hki, fun hQ hT => ?_⟩
  obtain ⟨n1, n2, n3⟩ := tq_no (Vn := Vn) (fs := fs) (np := np) (vis := vis) hG hi0 (by omega) h0 (Or.inr rfl) (by rw [hT]; decide) hQ
  rw [hT] at n2
  obtain ⟨l1, l2, l3⟩ := tq_no (Vn := Vn) (fs := fs) (np := np) (vis := vis) hG (m := i + 1) (by omega) (by omega) hh (Or.inl rfl) (by rw [n2]; decide) n3
  rw [n2] at l2
  have hA := tq_ff (tq_app n1 l1)
  obtain ⟨S, t, q1, q2, q3⟩ := a6' l3 (by rw [show i + 2 = i + 1 + 1 by omega, l2, List.length_nil]; omega)
  rw [show pt_T P a0 (i + 2) = [] from l2] at q2
  have hB := tq_ff (tq_appk hA q1 a5' (B := B1 + 2) (by omega) (by omega))
  obtain ⟨u1, u2, u3⟩ := tq_skp (Vn := Vn) (fs := fs) (np := np) (vis := vis) hG (by omega) (by omega) hm.1 (Or.inl rfl) hm.2 q2 (by decide) q3
  have hC := tq_Xm (X' := fun x => x = m) (tq_app hB u1) fun x _ _ h => h.elim (fun h => h.elim) id
  obtain ⟨S2, r1, r2, r3⟩ := b5 u3 u2
  have hD := tq_appS hC r1 b4
  obtain ⟨nh, nh1, nh2, _⟩ := hG.1 (i + 1) (by omega) (by omega) hh
  obtain ⟨g0, _, g2, g3⟩ := tq_gop (Vn := Vn) (fs := fs) (np := np) (vis := vis) hG (m := q) (by omega) (by omega) hq.1 ⟨nh, nh1, by rw [hq.2, nh2]⟩ (by rw [r2]; decide) r3
  rw [r2] at g2
  have hE := tq_go hG.1 hG.2.1 hD (by omega) g0 hq.1 (s := i + 1) (by omega) (by omega) hh hq.2.symm (by rw [n2, g2]) a5' (fun v a e hs => by
    rcases List.mem_append.mp hs with h | h
    · rcases List.mem_append.mp h with h | h
      · rcases List.mem_append.mp h with h | h
        · cases h
        · have := (q1.2.2.2.1 v a e h).1; omega
      · cases h
    · have := (r1.2.2.2.1 v a e h).1; omega)
  obtain ⟨z1, z2, z3⟩ := tq_no (Vn := Vn) (fs := fs) (np := np) (vis := vis) hG (m := q + 1) (by omega) hq1 hl.1 (Or.inl rfl) (by rw [g2]; decide) g3
  have hF := tq_lab hG.1 hG.2.1 hE hq1 (z1.2.1 (q + 1) (Nat.le_refl _) (by omega)) hl.1 (fun x _ _ hj hX h10 => by rw [hX, u2, g2])
  have hH := tq_Xm (X' := fun _ => False) hF fun x _ _ h => h.2 (by rw [h.1]; exact hl.2.symm)
  refine ⟨_, tq_B (i := i) (j := q + 2) hH ?_, by rw [z2, g2], z3⟩
  have : max (B1 + 2 + 1) B2 ≤ B1 + B2 + 3 := by omega
  omega
end TYS
