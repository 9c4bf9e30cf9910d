/-! pure side, the maker 38: nothing leads to the first block; how many values there are -/
section N0
variable {P w : ST} {a0 a1 B : Nat} {F G po : Nat → Int32} {fo ot pj : Nat → Nat}
theorem pt_no0 (hK : pt_c P a0 a1 ≤ 640) (hB : B ≤ 60) (hps : ∀ j, a0 ≤ j → j < a1 → pt_cut P j → pt_ps P a0 a1 F G j) (hb : pt_nbk (pt_c P a0 a1) F G w po B) (hpr : ∀ c, c < B → c ≠ 0 → ∃ p, p < c ∧ pv_eg w p c) : ∀ p, p < B → ¬ pv_eg w p 0 := by
  obtain ⟨n1, n2, n3, n4, n5⟩ := hb
  have hpos : ∀ q, q < pt_c P a0 a1 → (F q < 0 ∨ ∃ z, F q = pu_I (z + 1) ∧ z + 1 < pt_c P a0 a1) ∧ (G q < 0 ∨ ∃ z, G q = pu_I (z + 1) ∧ z + 1 < pt_c P a0 a1) := by
    intro q hq
    obtain ⟨j, j1, j2, j3, rfl⟩ := pt_cut_of a1 hq
    obtain ⟨h1, h2, h3, h4, h5⟩ := hps j j1 j2 j3
    rcases j3 with (h | h | h | h) | h
    · obtain ⟨q, s, c0, _, c2, c3, c4⟩ := h2 h
      have := pt_st_lt c2
      rw [c0] at c3 this
      exact ⟨Or.inr ⟨_, c3, this⟩, Or.inl c4⟩
    · obtain ⟨q, q', s, ⟨c0, c0'⟩, _, c2, c2', c3, c4⟩ := h3 h
      have h7 := pt_st_lt c2
      have h8 := pt_st_lt c2'
      rw [c0] at c3 h7
      rw [c0'] at c4 h8
      exact ⟨Or.inr ⟨_, c3, h7⟩, Or.inr ⟨_, c4, h8⟩⟩
    · obtain ⟨q, q', s, ⟨c0, c0'⟩, _, c2, c2', c3, c4⟩ := h4 h
      have h7 := pt_st_lt c2
      have h8 := pt_st_lt c2'
      rw [c0] at c3 h7
      rw [c0'] at c4 h8
      exact ⟨Or.inr ⟨_, c3, h7⟩, Or.inr ⟨_, c4, h8⟩⟩
    · exact ⟨Or.inl (h5 h).1, Or.inl (h5 h).2⟩
    · obtain ⟨q, c0, c2, c3, c4⟩ := h1 h
      have := pt_st_lt c2
      rw [c0] at c3 this
      exact ⟨Or.inr ⟨_, c3, this⟩, Or.inl c4⟩
  have hm1 : ∀ q, q < pt_c P a0 a1 → (-1 : Int32) ≠ pu_I q := fun q hq e => (pt_m1 (n := q) (by omega)) e.symm
  -- a way of a piece's block: what is at its end is not piece 0
  have hway : ∀ p q, p < B → q < pt_c P a0 a1 → po p = pu_I q → ∀ r, r = 10 ∨ r = 11 → ∀ c, c < B → w r p = pu_I c → (∃ z, z + 1 < pt_c P a0 a1 ∧ po c = pu_I (z + 1)) ∨ (po c = -1 ∧ ∃ t z, t < B ∧ z + 1 < pt_c P a0 a1 ∧ po t = pu_I (z + 1) ∧ w 10 c = pu_I t) := by
    intro p q hp hq hpq r hr c hc he
    obtain ⟨k1, k2, k3, k4, k5⟩ := n2 p q hp hq hpq
    obtain ⟨g1, g2⟩ := hpos q hq
    have key : ∀ x, (∃ z, x = z + 1 ∧ z + 1 < pt_c P a0 a1) → (∃ t, t < B ∧ po t = pu_I x ∧ (w r p = pu_I t ∨ ∃ s, s < B ∧ po s = -1 ∧ w r p = pu_I s ∧ w 10 s = pu_I t)) → (∃ z, z + 1 < pt_c P a0 a1 ∧ po c = pu_I (z + 1)) ∨ (po c = -1 ∧ ∃ t z, t < B ∧ z + 1 < pt_c P a0 a1 ∧ po t = pu_I (z + 1) ∧ w 10 c = pu_I t) := by
      rintro x ⟨z, rfl, z1⟩ ⟨t, t1, t2, h | ⟨s, s1, s2, s3, s4⟩⟩
      · have : c = t := pu_inj (by omega) (by omega) (he.symm.trans h)
        rw [this]
        exact Or.inl ⟨z, z1, t2⟩
      · have : c = s := pu_inj (by omega) (by omega) (he.symm.trans s3)
        rw [this]
        exact Or.inr ⟨s2, t, z, t1, z1, t2, s4⟩
    have hng : ∀ x : Int32, x < 0 → x = pu_I c → False := fun x h h' => by rw [h'] at h; exact pu_ge (by omega) h
    rcases hr with rfl | rfl
    · rcases g1 with h | ⟨z, z1, z2⟩
      · exact (hng _ (k2 h) he).elim
      · exact key (z + 1) ⟨z, rfl, z2⟩ (k4 (z + 1) z2 z1)
    · rcases g2 with h | ⟨z, z1, z2⟩
      · exact (hng _ (k3 h) he).elim
      · exact key (z + 1) ⟨z, rfl, z2⟩ (k5 (z + 1) z2 z1)
  have hr : ∀ {p c}, pv_eg w p c → ∃ r, (r = 10 ∨ r = 11) ∧ w r p = pu_I c := by
    rintro p c (h | h)
    · exact ⟨10, Or.inl rfl, h⟩
    · exact ⟨11, Or.inr rfl, h⟩
  have hB0 : 0 < B ∨ B = 0 := by omega
  have hz : ∀ z, z + 1 < pt_c P a0 a1 → po 0 ≠ pu_I (z + 1) := fun z hz e => by
    rw [n1] at e
    have := pu_inj (a := 0) (b := z + 1) (by decide) (by omega) e
    omega
  intro p hp he
  obtain ⟨r, hr1, hr2⟩ := hr he
  rcases n3 p hp with ⟨q, q1, q2⟩ | ⟨q1, _, h11, t, q, t1, t2, t3, t4⟩
  · rcases hway p q hp q1 q2 r hr1 0 (by omega) hr2 with ⟨z, z1, z2⟩ | ⟨z1, _⟩
    · exact hz z z1 z2
    · rw [n1] at z1
      exact pt_m1 (n := 0) (by decide) z1
  · have hp0 : p ≠ 0 := fun e => by
      rw [e, n1] at q1
      exact pt_m1 (n := 0) (by decide) q1
    obtain ⟨o, o1, o2⟩ := hpr p hp hp0
    obtain ⟨r', hr1', hr2'⟩ := hr o2
    have hor : ∃ q', q' < pt_c P a0 a1 ∧ po o = pu_I q' := by
      rcases n3 o (by omega) with h | ⟨h1, _, h11', t', p', t1', _, t3', t4'⟩
      · exact h
      · exfalso
        rcases hr1' with rfl | rfl
        · have : p = t' := pu_inj (by omega) (by omega) (hr2'.symm.trans t4')
          rw [this, t3'] at q1
          exact pt_m1 (by omega) q1
        · rw [hr2'] at h11'
          exact pu_ge (by omega) h11'
    obtain ⟨q', q1', q2'⟩ := hor
    rcases hway o q' (by omega) q1' q2' r' hr1' p hp hr2' with ⟨z, z1, z2⟩ | ⟨_, t', z, t1', z1, t2', t3'⟩
    · rw [q1] at z2
      exact pt_m1 (n := z + 1) (by omega) z2.symm
    · rcases hr1 with rfl | rfl
      · have : (0 : Nat) = t' := pu_inj (by decide) (by omega) (hr2.symm.trans t3')
        rw [← this] at t2'
        exact hz z z1 t2'
      · rw [hr2] at h11
        exact pu_ge (by decide) h11
def pt_gi (P : ST) (a t i : Nat) : Nat := if a ≤ i ∧ i < t then (if pu_gk (P 9 i) = true then 1 else 0) else 0
theorem pt_gc_S (P : ST) (a t : Nat) : ∀ m, pt_S (pt_gi P a t) m = pt_gc P a (min m t) := by
  intro m
  induction m with
  | zero => rw [Nat.zero_min]; rfl
  | succ m ih =>
    show pt_S (pt_gi P a t) m + pt_gi P a t m = _
    rw [ih]
    unfold pt_gi
    by_cases hm : m < t
    · rw [show min m t = m by omega, show min (m + 1) t = m + 1 by omega]
      by_cases ha : a ≤ m
      · rw [if_pos ⟨ha, hm⟩, pt_gc_s ha]
      · rw [if_neg fun h => ha h.1, pt_gc_a P a m (by omega), pt_gc_a P a (m + 1) (by omega)]
    · rw [show min m t = t by omega, show min (m + 1) t = t by omega, if_neg fun h => hm h.2]
      rfl
def pt_li (f t i : Nat) : Nat := if f ≤ i ∧ i < t then 1 else 0
theorem pt_li_S (f t : Nat) : ∀ m, pt_S (pt_li f t) m = min m t - f := by
  intro m
  induction m with
  | zero => show 0 = min 0 t - f; omega
  | succ m ih =>
    show pt_S (pt_li f t) m + pt_li f t m = _
    rw [ih]
    unfold pt_li
    by_cases h : f ≤ m ∧ m < t
    · rw [if_pos h]; omega
    · rw [if_neg h]; omega
theorem pt_in_one (hod : ∀ b c i, b < B → c < B → fo b ≤ i → i < ot b → fo c ≤ i → i < ot c → b = c) (i : Nat) : pt_S (fun b => pt_li (fo b) (ot b) i) B ≤ 1 := by
  have h9 := pt_S_one (q := fun b => decide (fo b ≤ i ∧ i < ot b)) B fun b c hb hc h1 h2 => by
    have h1 := of_decide_eq_true h1
    have h2 := of_decide_eq_true h2
    exact hod b c i hb hc h1.1 h1.2 h2.1 h2.2
  refine Nat.le_trans (Nat.le_of_eq (pt_S_e B fun b _ => ?_)) h9
  unfold pt_li
  by_cases h : fo b ≤ i ∧ i < ot b
  · rw [if_pos h, if_pos (decide_eq_true h)]
  · rw [if_neg h, if_neg fun h9 => h (of_decide_eq_true h9)]
/-- disjoint parts of the text have no more than the whole -/
theorem pt_gc_sum (hod : ∀ b c i, b < B → c < B → fo b ≤ i → i < ot b → fo c ≤ i → i < ot c → b = c) (hin : ∀ b i, b < B → fo b ≤ i → i < ot b → a0 ≤ i ∧ i < a1) (hot : ∀ b, b < B → ot b ≤ a1) : pt_S (fun b => pt_gc P (fo b) (ot b)) B ≤ pt_gc P a0 a1 := by
  have h1 : pt_S (fun b => pt_gc P (fo b) (ot b)) B = pt_S (fun b => pt_S (fun i => pt_gi P (fo b) (ot b) i) a1) B := pt_S_e B fun b hb => by
    have h9 := pt_gc_S P (fo b) (ot b) a1
    rw [show min a1 (ot b) = ot b by have := hot b hb; omega] at h9
    exact h9.symm
  have h2 := pt_gc_S P a0 a1 a1
  rw [Nat.min_self] at h2
  rw [h1, pt_S_swap (fun i b => pt_gi P (fo b) (ot b) i) a1 B, ← h2]
  refine pt_S_mono a1 fun i hi => ?_
  by_cases hex : ∃ b, b < B ∧ fo b ≤ i ∧ i < ot b
  · obtain ⟨b, hb, b1, b2⟩ := hex
    have hi9 := hin b i hb b1 b2
    have h8 : pt_gi P a0 a1 i = if pu_gk (P 9 i) = true then 1 else 0 := if_pos hi9
    rw [h8]
    by_cases hg : pu_gk (P 9 i) = true
    · rw [if_pos hg]
      refine Nat.le_trans (Nat.le_of_eq (pt_S_e B fun c _ => ?_)) (pt_in_one hod i)
      unfold pt_gi pt_li
      rw [if_pos hg]
    · rw [if_neg hg]
      have h7 : pt_S (fun b => pt_gi P (fo b) (ot b) i) B = pt_S (fun _ => 0) B := pt_S_e B fun c _ => by
        unfold pt_gi
        rw [if_neg hg]
        by_cases h : fo c ≤ i ∧ i < ot c
        · rw [if_pos h]
        · rw [if_neg h]
      rw [h7, pt_S_c]
      exact Nat.le_refl _
  · have h7 : pt_S (fun b => pt_gi P (fo b) (ot b) i) B = pt_S (fun _ => 0) B := pt_S_e B fun c hc => if_neg fun h => hex ⟨c, hc, h⟩
    rw [h7, pt_S_c]
    exact Nat.zero_le _
theorem pt_ln_sum (hod : ∀ b c i, b < B → c < B → fo b ≤ i → i < ot b → fo c ≤ i → i < ot c → b = c) (hot : ∀ b, b < B → fo b ≤ ot b ∧ ot b ≤ a1) : pt_ln fo ot B ≤ a1 := by
  have h0 : ∀ n, pt_ln fo ot n = pt_S (fun b => ot b - fo b) n := by
    intro n
    induction n with
    | zero => rfl
    | succ n ih =>
      show pt_ln fo ot n + _ = pt_S _ n + _
      rw [ih]
  have h1 : pt_S (fun b => ot b - fo b) B = pt_S (fun b => pt_S (fun i => pt_li (fo b) (ot b) i) a1) B := pt_S_e B fun b hb => by
    have h9 := pt_li_S (fo b) (ot b) a1
    rw [show min a1 (ot b) = ot b by have := (hot b hb).2; omega] at h9
    exact h9.symm
  rw [h0, h1, pt_S_swap (fun i b => pt_li (fo b) (ot b) i) a1 B]
  have h9 : pt_S (fun i => pt_S (fun b => pt_li (fo b) (ot b) i) B) a1 ≤ pt_S (fun _ => 1) a1 := pt_S_mono a1 fun i _ => pt_in_one hod i
  rw [pt_S_c, Nat.mul_one] at h9
  exact h9
theorem pt_nb_S (P : ST) (fo ot : Nat → Nat) (ph : Nat → List Nat) : ∀ n, pt_nb P fo ot ph n = pt_S (fun b => (ph b).length) n + pt_S (fun b => pt_gc P (fo b) (ot b)) n := by
  intro n
  induction n with
  | zero => rfl
  | succ n ih =>
    show pt_nb P fo ot ph n + ((ph n).length + pt_gc P (fo n) (ot n)) = pt_S (fun b => (ph b).length) n + (ph n).length + (pt_S (fun b => pt_gc P (fo b) (ot b)) n + pt_gc P (fo n) (ot n))
    rw [ih]
    omega
theorem pt_filter_S (q : Nat → Bool) : ∀ n, ((List.range n).filter q).length = pt_S (fun u => if q u = true then 1 else 0) n := by
  intro n
  induction n with
  | zero => rfl
  | succ n ih =>
    rw [List.range_succ, List.filter_append, List.length_append, ih]
    show _ + _ = pt_S _ n + _
    congr 1
    rw [List.filter_cons]
    by_cases h : q n = true
    · rw [if_pos h]
      exact (if_pos h).symm
    · rw [if_neg h]
      exact (if_neg h).symm
end N0
