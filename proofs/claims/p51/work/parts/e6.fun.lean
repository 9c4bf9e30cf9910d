/-! pure side, the reader 6: a function in shape -/
section TYN
variable {P : ST} {a0 a1 Vn fs np f b B : Nat}
/-- what is asked of a function's text, put together by pieces -/
def tq_fn (P : ST) (f a0 a1 Vn fs np : Nat) : Prop :=
  (∃ A, pt_fn P f a0 a1 Vn fs A) ∧ (∀ x, a0 ≤ x → x < a1 → tq_lc P a0 Vn fs np x) ∧ (∀ x, a0 ≤ x → x < a1 → tq_r P a0 a1 187 x) ∧ tq_r P a0 a1 4 a0 ∧ P 9 (a1 - 1) = 24 ∧ a0 < a1
theorem tq_pars (hG : tq_G P a0 a1) (h21 : ∀ n, n < np → P 9 (a0 + n) = 21 ∧ P 10 (a0 + n) = pu_I n) (hnp : np ≤ 4) (hV : np ≤ Vn) {j : Nat} {S : List (Int32 × Nat × Nat)} (hj : a0 + np ≤ j)
    (hb : pt_Q P a0 (a0 + np) = [] → pt_T P a0 (a0 + np) = [] → ∃ S, tq_i P a0 a1 Vn fs np (fun u => ∃ n, n < np ∧ u = pu_I n) (a0 + np) j B S (fun _ => False) ∧ pt_T P a0 j = [] ∧ pt_Q P a0 j = []) (ha : a0 + np < a1) :
    ∀ m n, n + m = np → pt_Q P a0 (a0 + n) = [] → pt_T P a0 (a0 + n) = [] → ∃ S, tq_i P a0 a1 Vn fs np (fun u => ∃ k, k < n ∧ u = pu_I k) (a0 + n) j (B + m) S (fun _ => False) ∧ pt_T P a0 j = [] ∧ pt_Q P a0 j = [] := by
  intro m
  induction m with
  | zero =>
    intro n hn hQ hT
    obtain rfl : n = np := by omega
    exact hb hQ hT
  | succ m ih =>
    intro n hn hQ hT
    obtain ⟨e9, e10⟩ := h21 n (by omega)
    have hp : pt_pop P (a0 + n) = 0 := by unfold pt_pop; rw [e9]; rfl
    obtain ⟨q1, q2, q3⟩ := tq_1 (Vn := Vn) (fs := fs) (np := np) (vis := fun u => ∃ k, k < n ∧ u = pu_I k) hG (by omega) (by omega) e9 (by decide) (by decide) (by rw [hp]; omega) (fun q => absurd q (by decide)) (by rw [hT]; decide) (fun _ => ⟨n, by omega, e10⟩) (fun _ => by rw [e10]; exact (pu_ix (by omega)).mpr (by omega)) hQ (fun q => absurd q (by decide))
    have hT2 : pt_T P a0 (a0 + (n + 1)) = [] := by
      show pt_T P a0 (a0 + n + 1) = []
      rw [q2, hT]
      unfold pt_nx
      rw [e9, if_neg (by decide), hp]
      rfl
    obtain ⟨S, r1, r2, r3⟩ := ih (n + 1) (by omega) q3 hT2
    have hv : ∀ u, (∃ k, k < n + 1 ∧ u = pu_I k) ↔ (u = pu_I n ∨ ∃ k, k < n ∧ u = pu_I k) := fun u => by
      constructor
      · rintro ⟨k, k1, k2⟩
        by_cases e : k = n
        · exact Or.inl (by rw [k2, e])
        · exact Or.inr ⟨k, by omega, k2⟩
      · rintro (h | ⟨k, k1, k2⟩)
        · exact ⟨n, Nat.lt_succ_self n, h⟩
        · exact ⟨k, by omega, k2⟩
    have r1 := tq_vis (vis' := fun u => u = pu_I n ∨ ∃ k, k < n ∧ u = pu_I k) r1 fun u h => (hv u).mp h
    have hd := tq_decl (v := pu_I n) q1 r1 (Nat.le_refl _) ⟨Or.inr (Or.inr e9), e10⟩ _ (tq_app (tq_vis q1 fun u h => Or.inr h) r1)
    exact ⟨_, tq_B (tq_ff hd) (by omega), r2, r3⟩
theorem tq_fin (hG : tq_G P a0 a1) (hf : f < 6 ∧ P 5 f = pu_I Vn ∧ P 6 f = pu_I a0 ∧ P 7 f = pu_I a1 ∧ Vn ≤ 16) (h4 : P 4 f = pu_I np) (h21 : ∀ n, n < np → P 9 (a0 + n) = 21 ∧ P 10 (a0 + n) = pu_I n) (hnp : np ≤ 4) (hV : np ≤ Vn)
    (hb : tq_s P a0 a1 Vn fs np (fun u => ∃ n, n < np ∧ u = pu_I n) (a0 + np) b B) (hB : B ≤ 150) (hb0 : a0 + np < b) (h0 : P 9 b = 0) (h24 : P 9 (b + 1) = 24) (ha : a1 = b + 2)
    (hcnt : 1 + (pt_ks P a0 a1 pt_q35).length + 3 * (pt_ks P a0 a1 pt_q33).length ≤ 60 ∧ pt_c P a0 a1 ≤ 640 ∧ Vn * ((pt_ks P a0 a1 pt_q33).length + 1) + pt_gc P a0 a1 ≤ 250) : tq_fn P f a0 a1 Vn fs np := by
  obtain ⟨⟨b1, b2, b3⟩, b4, b5⟩ := hb
  obtain ⟨S, q1, q2, q3⟩ := tq_pars (B := B) (S := []) hG h21 hnp hV (by omega) b5 (by omega) np 0 (by omega) (pt_Q_a P a0 (a0 + 0) (Nat.le_refl _)) (pt_T_a P a0 (a0 + 0) (Nat.le_refl _))
  have q1 := tq_vis (vis' := fun _ => False) q1 fun u ⟨k, k1, _⟩ => absurd k1 (Nat.not_lt_zero k)
  obtain ⟨r1, r2, r3⟩ := tq_lf (Vn := Vn) (fs := fs) (np := np) (vis := fun _ => False) hG (by omega) (by omega) h0 (Or.inl rfl) (by rw [q2]; decide) q3
  rw [q2] at r2
  have hA := tq_ff (tq_app q1 r1)
  -- the last op
  have hlast : tq_lc P a0 Vn fs np (b + 1) := by
    obtain ⟨hL, h3, hTk⟩ := hG
    have hp : pt_pop P (b + 1) = 1 := by unfold pt_pop; rw [h24]; rfl
    have hlen : (pt_T P a0 (b + 1)).length = 1 := by rw [r2]; rfl
    have hne : ∀ z : Int32, (24 : Int32) ≠ z → P 9 (b + 1) ≠ z := fun z hz e => hz (h24.symm.trans e)
    exact ⟨⟨fun q => absurd q (by rw [h24]; decide), Or.inr (Or.inr (Or.inl h24))⟩, ⟨⟨by rw [hp]; omega, fun q => absurd q (hne _ (by decide)), fun q => absurd q (hne _ (by decide)), fun q => absurd q (hne _ (by decide)), by omega⟩, by omega, fun _ => hlen⟩, fun q => (by
      rcases q with q | q | q | q
      · exact absurd q (hne _ (by decide))
      · exact absurd q (hne _ (by decide))
      · exact absurd q (hne _ (by decide))
      · exact absurd q (hne _ (by decide))), fun q => (by
      rcases q with q | q | q | q
      · exact absurd q (hne _ (by decide))
      · exact absurd q (hne _ (by decide))
      · exact absurd q (hne _ (by decide))
      · exact absurd q (hne _ (by decide))), ⟨fun q => absurd q (hne _ (by decide)), fun q => absurd q (hne _ (by decide))⟩, hTk _ (by omega) (by omega), ⟨fun q => absurd r3 q, fun q => absurd q (hne _ (by decide))⟩⟩
  have hrl : tq_r P a0 a1 (0 + 1) (b + 1) := by
    have h9 := tq_r_s hG.1 hG.2.1 (i := b + 1) (c := 0) (fun _ q => absurd h24 q) fun hj => (by
      rcases hj with q | q | q
      · rw [h24] at q; exact absurd q (by decide)
      · rw [h24] at q; exact absurd q (by decide)
      · rw [h24] at q; exact absurd q (by decide))
    rw [show tq_w P (b + 1) = 1 from if_neg (by rw [h24]; decide)] at h9
    exact h9
  obtain ⟨⟨c1, c2, c3⟩, hlc, hjm, hsc, hgt, hrk⟩ := hA
  have hin : ∀ x, a0 ≤ x → x < a1 → x < b + 1 ∨ x = b + 1 := fun x _ _ => by omega
  have hlc2 : ∀ x, a0 ≤ x → x < a1 → tq_lc P a0 Vn fs np x := fun x x0 x1 => by
    rcases hin x x0 x1 with h | h
    · exact hlc x x0 h
    · rw [h]; exact hlast
  have hr2 : ∀ x, a0 ≤ x → x < a1 → tq_r P a0 a1 187 x := fun x x0 x1 => by
    rcases hin x x0 x1 with h | h
    · exact tq_r_mono (hrk (0 + 1) hrl (fun y _ _ h => h.elim) x x0 h) (by omega)
    · rw [h]; exact tq_r_mono hrl (by omega)
  have hj2 : ∀ x, a0 ≤ x → x < a1 → tq_j P x → ∃ s, pt_lab P a0 a1 x s ∧ tq_to P a0 S x s := fun x x0 x1 hj => by
    rcases hin x x0 x1 with h | h
    · rcases hjm x x0 h hj with q | ⟨s, s1, s2, s3⟩
      · exact q.elim
      · rw [List.append_nil] at s3
        exact ⟨s, ⟨s3.1, s1, by omega, s3.2.1⟩, s3⟩
    · rw [h] at hj
      rcases hj with q | q | q
      · rw [h24] at q; exact absurd q (by decide)
      · rw [h24] at q; exact absurd q (by decide)
      · rw [h24] at q; exact absurd q (by decide)
  have hju : ∀ x s, a0 ≤ x → x < a1 → tq_j P x → pt_lab P a0 a1 x s → tq_to P a0 S x s := fun x s x0 x1 hj hs => by
    obtain ⟨s', h1, h2⟩ := hj2 x x0 x1 hj
    rw [tq_lab_u hG.1 hG.2.1 hs h1]
    exact h2
  have h00 : tq_r P a0 a1 4 a0 := by
    have : ∀ m n, n + m = np → tq_r P a0 a1 m (a0 + n) := by
      intro m
      induction m with
      | zero =>
        intro n hn
        rw [show n = np by omega]
        exact tq_r_k (b4 hb0)
      | succ m ih =>
        intro n hn
        have e9 := (h21 n (by omega)).1
        have h9 := tq_r_s hG.1 hG.2.1 (i := a0 + n) (c := m) (fun _ _ => ih (n + 1) (by omega)) fun hj => (by
          rcases hj with q | q | q
          · rw [e9] at q; exact absurd q (by decide)
          · rw [e9] at q; exact absurd q (by decide)
          · rw [e9] at q; exact absurd q (by decide))
        rw [show tq_w P (a0 + n) = 1 from if_neg (by rw [e9]; decide)] at h9
        exact h9
    exact tq_r_mono (this np 0 (by omega)) (by omega)
  refine ⟨⟨fun i v => ∃ a e, (pu_I v, a, e) ∈ S ∧ a < i ∧ i ≤ e, ⟨hf.1, hf.2.1, hf.2.2.1, hf.2.2.2.1, hG.2.1, hf.2.2.2.2⟩, ⟨fun i i0 i1 => (hlc2 i i0 i1).1.1, fun i i0 i1 => (hlc2 i i0 i1).2.1.1, fun i i0 i1 => (hlc2 i i0 i1).2.2.1, ⟨fun v ⟨a, e, h1, h2, _⟩ => ?_, fun i v i0 i1 _ _ h => ?_, fun i s v i0 i1 hj hs ⟨a, e, h1, h2, h3⟩ => ?_, fun i u i0 i1 h30 hu => ?_⟩, fun i s i0 i1 hj hs => (hju i s i0 i1 hj hs).2.2.1, fun i i0 i1 hj => ?_, by omega, by rw [ha]; exact h24⟩,
    fun i i0 i1 => (hlc2 i i0 i1).2.2.2.1, fun i j i0 i1 j0 j1 h1 h2 h3 => tq_lab_u (x := i) hG.1 hG.2.1 ⟨h1, i0, i1, rfl⟩ ⟨h2, j0, j1, h3.symm⟩, fun j s j0 j1 hj hs => ?_, hcnt, ⟨fun i i0 i1 => (hlc2 i i0 i1).2.2.2.2.2.2.1, fun i i0 i1 => (hlc2 i i0 i1).2.2.2.2.2.2.2⟩, fun i i0 i1 => ?_⟩, hlc2, hr2, h00, by rw [ha]; exact h24, by omega⟩
  · have := (hsc _ a e (List.mem_append_left _ h1)).1
    omega
  · obtain ⟨a, e, h1, h2, h3⟩ := h
    by_cases e1 : a < i
    · exact Or.inl ⟨a, e, h1, e1, by omega⟩
    · right
      obtain ⟨_, _, h4, h5⟩ := hsc _ a e (List.mem_append_left _ h1)
      obtain rfl : a = i := by omega
      exact ⟨h4, h5⟩
  · obtain ⟨h4, h5⟩ := (hju i s i0 i1 hj hs).2.2.2 _ a e h1 h2 h3
    exact ⟨a, e, h1, h4, h5⟩
  · rcases hin i i0 i1 with h | h
    · rcases hgt i i0 h h30 with q | ⟨a, e, h1, h2⟩
      · exact q.elim
      · rw [List.append_nil, hu] at h1
        exact ⟨a, e, h1, h2⟩
    · rw [h, h24] at h30
      exact absurd h30 (by decide)
  · obtain ⟨s, h1, _⟩ := hj2 i i0 i1 hj
    exact ⟨s, h1⟩
  · obtain ⟨n, n1, n2, n3⟩ := hG.1 s hs.2.1 hs.2.2.1 hs.1
    rw [← hs.2.2.2, n2, pu_nn (by omega)]
    exact n3
  · refine ⟨(hlc2 i i0 i1).2.2.2.2.1.1, fun h => ?_⟩
    rw [h4, pu_nn (by omega)]
    exact (hlc2 i i0 i1).2.2.2.2.1.2 h
/-- three functions in shape, one behind the other: a program in shape -/
theorem tq_pg {a : Nat → Nat} {Vs nps : Nat → Nat} (hfn : ∀ f, f < 3 → tq_fn P f (a f) (a (f + 1)) (Vs f) 3 (nps f) ∧ P 4 f = pu_I (nps f) ∧ nps f ≤ 4) : ∃ A rk tk, pm_pg P 3 a (fun f => a (f + 1)) Vs A nps rk tk := by
  obtain ⟨A, hA⟩ : ∃ A : Nat → Nat → Nat → Prop, ∀ f, f < 3 → pt_fn P f (a f) (a (f + 1)) (Vs f) 3 (A f) := by
    obtain ⟨A0, h0⟩ := (hfn 0 (by decide)).1.1
    obtain ⟨A1, h1⟩ := (hfn 1 (by decide)).1.1
    obtain ⟨A2, h2⟩ := (hfn 2 (by decide)).1.1
    refine ⟨fun f => if f = 0 then A0 else if f = 1 then A1 else A2, fun f hf => ?_⟩
    rcases (show f = 0 ∨ f = 1 ∨ f = 2 by omega) with rfl | rfl | rfl
    · exact h0
    · exact h1
    · exact h2
  obtain ⟨rk0, hk0⟩ := tq_rk P (a 0) (a 1)
  obtain ⟨rk1, hk1⟩ := tq_rk P (a 1) (a 2)
  obtain ⟨rk2, hk2⟩ := tq_rk P (a 2) (a 3)
  have l0 := (hfn 0 (by decide)).1.2.2.2.2.2
  have l1 := (hfn 1 (by decide)).1.2.2.2.2.2
  have l2 := (hfn 2 (by decide)).1.2.2.2.2.2
  have l0 : a 0 < a 1 := l0
  have l1 : a 1 < a 2 := l1
  have l2 : a 2 < a 3 := l2
  obtain ⟨rk, hrk⟩ : ∃ rk : Nat → Nat, rk = fun i => if i < a 1 then rk0 i else if i < a 2 then rk1 i else rk2 i := ⟨_, rfl⟩
  have hR : ∀ f, f < 3 → ∃ rkf : Nat → Nat, (∀ i, a f ≤ i → i < a (f + 1) → rk i = rkf i) ∧ ∀ i, (∀ c, tq_r P (a f) (a (f + 1)) c i → rkf i ≤ c) ∧ ((∃ c, tq_r P (a f) (a (f + 1)) c i) → ¬ tq_k P i → (P 9 i ≠ 22 → P 9 i ≠ 24 → rkf (i + 1) + tq_w P i ≤ rkf i) ∧ (tq_j P i → ∀ s, pt_lab P (a f) (a (f + 1)) i s → rkf s + tq_w P i ≤ rkf i) ∧ tq_w P i ≤ rkf i) := by
    intro f hf
    rcases (show f = 0 ∨ f = 1 ∨ f = 2 by omega) with rfl | rfl | rfl
    · refine ⟨rk0, fun i h1 h2 => ?_, hk0⟩
      rw [hrk]
      exact if_pos h2
    · refine ⟨rk1, fun i h1 h2 => ?_, hk1⟩
      rw [hrk]
      show (if i < a 1 then _ else if i < a 2 then _ else _) = _
      rw [if_neg (by omega), if_pos h2]
    · refine ⟨rk2, fun i h1 h2 => ?_, hk2⟩
      rw [hrk]
      show (if i < a 1 then _ else if i < a 2 then _ else _) = _
      rw [if_neg (by omega), if_neg (by omega)]
  have hst : ∀ f, f < 3 → rk (a f) ≤ 4 := fun f hf => by
    obtain ⟨rkf, e1, e2⟩ := hR f hf
    obtain ⟨_, _, _, h4, _, h6⟩ := (hfn f hf).1
    rw [e1 (a f) (Nat.le_refl _) h6]
    exact (e2 (a f)).1 4 h4
  refine ⟨A, rk, fun i => nn (P 11 i), by decide, fun f hf => ⟨hA f hf, (hfn f hf).2.1, (hfn f hf).2.2, Nat.le_trans (hst f hf) (by decide), fun i i0 i1 => ?_⟩⟩
  have i1 : i < a (f + 1) := i1
  obtain ⟨rkf, e1, e2⟩ := hR f hf
  obtain ⟨⟨_, hlc, hr, _, h24, h6⟩, h4, hn4⟩ := hfn f hf
  obtain ⟨d1, ⟨d2, d3, d4⟩, d5, d6, d7, ⟨t, ht, d8⟩, d9⟩ := hlc i i0 i1
  have hnt : nn (P 11 i) = t := by rw [d8, pu_nn (by omega)]
  have hrki : rk i = rkf i := e1 i i0 i1
  have hnext : P 9 i ≠ 24 → i + 1 < a (f + 1) := fun h => by
    by_cases e : i + 1 < a (f + 1)
    · exact e
    · exact absurd (show P 9 i = 24 by rw [show i = a (f + 1) - 1 by omega]; exact h24) h
  have hb : ∀ x, a f ≤ x → x < a (f + 1) → rk x ≤ 187 := fun x x0 x1 => by
    rw [e1 x x0 x1]
    exact (e2 x).1 187 (hr x x0 x1)
  have htk : tq_k P i → 1 ≤ t := fun ⟨t', t1, t2, t3⟩ => by
    rw [d8] at t3
    have := pu_inj (by omega) (by omega) t3
    omega
  have hw : P 9 i ≠ 20 → tq_w P i = 1 := fun h => if_neg h
  dsimp only
  rw [hnt]
  refine ⟨⟨d8, ht⟩, ⟨d3, d4⟩, d1.2, fun h => (pv_ixn (d7.2 h)).2, fun n22 n24 n20 => ?_, fun s hj hs => ?_, fun h20 g hg hgi => ?_, fun h24' => ?_⟩
  · have hn := hnext n24
    have := hb (i + 1) (by omega) hn
    by_cases hk : tq_k P i
    · have := htk hk
      omega
    · have h9 := ((e2 i).2 ⟨187, hr i i0 i1⟩ hk).1 n22 n24
      rw [hw n20, ← e1 (i + 1) (by omega) hn, ← hrki] at h9
      omega
  · have := hb s hs.2.1 hs.2.2.1
    by_cases hk : tq_k P i
    · have := htk hk
      omega
    · have h9 := ((e2 i).2 ⟨187, hr i i0 i1⟩ hk).2.1 hj s hs
      rw [hw (by rcases hj with q | q | q <;> rw [q] <;> decide), ← e1 s hs.2.1 hs.2.2.1, ← hrki] at h9
      omega
  · have hn := hnext (by rw [h20]; decide)
    have := hb (i + 1) (by omega) hn
    have := hst g hg
    by_cases hk : tq_k P i
    · have := htk hk
      omega
    · have h9 := ((e2 i).2 ⟨187, hr i i0 i1⟩ hk).1 (by rw [h20]; decide) (by rw [h20]; decide)
      rw [show tq_w P i = 12 from if_pos h20, ← e1 (i + 1) (by omega) hn, ← hrki] at h9
      omega
  · by_cases hk : tq_k P i
    · have := htk hk
      omega
    · have h9 := ((e2 i).2 ⟨187, hr i i0 i1⟩ hk).2.2
      rw [hw (by rw [h24']; decide), ← hrki] at h9
      omega
end TYN
