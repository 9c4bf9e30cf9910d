/-! pure side, the maker 36: counting -/
def pt_S (f : Nat → Nat) : Nat → Nat
  | 0 => 0
  | n + 1 => pt_S f n + f n
theorem pt_S_mono {f g : Nat → Nat} : ∀ n, (∀ i, i < n → f i ≤ g i) → pt_S f n ≤ pt_S g n := by
  intro n
  induction n with
  | zero => intro _; exact Nat.le_refl _
  | succ n ih => intro h; exact Nat.add_le_add (ih fun i hi => h i (by omega)) (h n (Nat.lt_succ_self n))
theorem pt_S_e {f g : Nat → Nat} : ∀ n, (∀ i, i < n → f i = g i) → pt_S f n = pt_S g n := by
  intro n
  induction n with
  | zero => intro _; rfl
  | succ n ih =>
    intro h
    show pt_S f n + f n = pt_S g n + g n
    rw [ih fun i hi => h i (by omega), h n (Nat.lt_succ_self n)]
theorem pt_S_add (f g : Nat → Nat) : ∀ n, pt_S (fun i => f i + g i) n = pt_S f n + pt_S g n := by
  intro n
  induction n with
  | zero => rfl
  | succ n ih =>
    show pt_S (fun i => f i + g i) n + (f n + g n) = pt_S f n + f n + (pt_S g n + g n)
    rw [ih]
    omega
theorem pt_S_c (c : Nat) : ∀ n, pt_S (fun _ => c) n = n * c := by
  intro n
  induction n with
  | zero => exact (Nat.zero_mul c).symm
  | succ n ih =>
    show pt_S (fun _ => c) n + c = (n + 1) * c
    rw [ih, Nat.succ_mul]
theorem pt_S_swap (f : Nat → Nat → Nat) (m : Nat) : ∀ n, pt_S (fun b => pt_S (fun p => f p b) m) n = pt_S (fun p => pt_S (fun b => f p b) n) m := by
  intro n
  induction n with
  | zero =>
    have h := pt_S_c 0 m
    rw [Nat.mul_zero] at h
    exact h.symm
  | succ n ih =>
    show pt_S (fun b => pt_S (fun p => f p b) m) n + pt_S (fun p => f p n) m = pt_S (fun p => pt_S (fun b => f p b) n + f p n) m
    rw [ih, pt_S_add]
theorem pt_S_one {q : Nat → Bool} : ∀ n, (∀ b c, b < n → c < n → q b = true → q c = true → b = c) → pt_S (fun b => if q b = true then 1 else 0) n ≤ 1 := by
  intro n
  induction n with
  | zero => intro _; exact Nat.zero_le _
  | succ n ih =>
    intro h
    show pt_S (fun b => if q b = true then 1 else 0) n + (if q n = true then 1 else 0) ≤ 1
    by_cases hq : q n = true
    · have h0 : pt_S (fun b => if q b = true then 1 else 0) n = pt_S (fun _ => 0) n := pt_S_e n fun i hi => if_neg fun h9 => by
        have := h i n (by omega) (Nat.lt_succ_self n) h9 hq
        omega
      rw [h0, pt_S_c, if_pos hq]
      omega
    · rw [if_neg hq]
      exact ih fun b c hb hc => h b c (by omega) (by omega)
theorem pt_S_ge {f : Nat → Nat} {i : Nat} : ∀ n, i < n → f i ≤ pt_S f n := by
  intro n
  induction n with
  | zero => intro h; omega
  | succ n ih =>
    intro h
    show f i ≤ pt_S f n + f n
    by_cases e : i = n
    · rw [e]; omega
    · have := ih (by omega); omega
theorem pt_S_ge2 {f : Nat → Nat} {i j : Nat} (hij : i < j) : ∀ n, j < n → f i + f j ≤ pt_S f n := by
  intro n
  induction n with
  | zero => intro h; omega
  | succ n ih =>
    intro h
    show f i + f j ≤ pt_S f n + f n
    by_cases e : j = n
    · rw [e]
      have := pt_S_ge (f := f) (i := i) n (by omega)
      omega
    · have := ih (by omega); omega
theorem pt_bn_S (V : Int64) : ∀ n, pt_bn V n = pt_S (fun b => if pv_bt V b = true then 1 else 0) n := by
  intro n
  induction n with
  | zero => rfl
  | succ n ih =>
    show pt_bn V n + _ = pt_S _ n + _
    rw [ih]
theorem pt_sn_S (Ph : Nat → Int64) (B : Nat) : ∀ m, pt_sn Ph B m = pt_S (fun v => pt_bn (Ph v) B) m := by
  intro m
  induction m with
  | zero => rfl
  | succ m ih =>
    show pt_sn Ph B m + _ = pt_S _ m + _
    rw [ih]
theorem pt_nsub : ∀ (l m : List Nat), l.Nodup → (∀ x ∈ l, x ∈ m) → l.length ≤ m.length := by
  intro l m h1 h2
  have h9 := pt_sum_le (fun _ => 1) l m h1 h2
  have h8 : ∀ l : List Nat, pt_sum (fun _ => 1) l = l.length := by
    intro l
    induction l with
    | nil => rfl
    | cons x l ih =>
      show 1 + pt_sum (fun _ => 1) l = l.length + 1
      rw [ih]
      omega
  rw [h8, h8] at h9
  exact h9
/-- how many places of a text are of a kind -/
def pt_ks (P : ST) (a0 a1 : Nat) (q : Int32 → Bool) : List Nat := (List.range a1).filter fun j => decide (a0 ≤ j) && q (P 9 j)
abbrev pt_q35 (k : Int32) : Bool := decide (k = 35)
abbrev pt_q33 (k : Int32) : Bool := decide (k = 33 ∨ k = 34)
theorem pt_ks_mem {P : ST} {a0 a1 j : Nat} {q : Int32 → Bool} : j ∈ pt_ks P a0 a1 q ↔ a0 ≤ j ∧ j < a1 ∧ q (P 9 j) = true := by
  unfold pt_ks
  rw [List.mem_filter, List.mem_range, Bool.and_eq_true, decide_eq_true_iff]
  exact ⟨fun h => ⟨h.2.1, h.1, h.2.2⟩, fun h => ⟨h.2.1, h.1, h.2.2⟩⟩
theorem pt_ks_nd {P : ST} {a0 a1 : Nat} {q : Int32 → Bool} : (pt_ks P a0 a1 q).Nodup := List.Pairwise.sublist List.filter_sublist List.nodup_range
/-- the pieces that can be reached at the most -/
def pt_X (P : ST) (a0 a1 : Nat) (q : Nat) : Prop := q = 0 ∨ ∃ j, a0 ≤ j ∧ j < a1 ∧ (P 9 j = 35 ∨ P 9 j = 33 ∨ P 9 j = 34) ∧ q = pt_c P a0 j + 1
section CT
variable {P w : ST} {a0 a1 : Nat}
theorem pt_X_cl {F G : Nat → Int32} (hK : pt_c P a0 a1 ≤ 640) (hps : ∀ j, a0 ≤ j → j < a1 → pt_cut P j → pt_ps P a0 a1 F G j) : ∀ p q, p < pt_c P a0 a1 → pt_X P a0 a1 p → (F p = pu_I q ∨ G p = pu_I q) → q < 2147483648 → pt_X P a0 a1 q := by
  intro p q hp _ he hq
  obtain ⟨j, j1, j2, j3, rfl⟩ := pt_cut_of a1 hp
  obtain ⟨h1, h2, h3, h4, h5⟩ := hps j j1 j2 j3
  have hin : ∀ {x : Int32} {z : Nat}, z ≤ 640 → x = pu_I z → x = pu_I q → q = z := fun hz h h' => pu_inj hq (by omega) (h'.symm.trans h)
  have hle : ∀ z, z < a1 → pt_c P a0 z ≤ pt_c P a0 a1 := fun z hz => pt_c_le (by omega)
  have hlt : ∀ q' s, pt_st P a0 a1 q' s → q' ≤ 640 := fun q' s h => by have := pt_st_lt h; omega
  have hno : ∀ {x : Int32}, x < 0 → x = pu_I q → False := fun h h' => by rw [h'] at h; exact pu_ge hq h
  rcases j3 with (h | h | h | h) | h
  · obtain ⟨q', s, c0, c1, c2, c3, c4⟩ := h2 h
    rcases he with he | he
    · exact Or.inr ⟨s, c1.2.1, c1.2.2.1, Or.inl c1.1, by rw [hin (hlt _ _ c2) c3 he, c0]⟩
    · exact (hno c4 he).elim
  · obtain ⟨q', q'', s, ⟨c0, c0'⟩, c1, c2, c3, c4, c5⟩ := h3 h
    rcases he with he | he
    · exact Or.inr ⟨j, j1, j2, Or.inr (Or.inl h), by rw [hin (hlt _ _ c2) c4 he, c0]⟩
    · exact Or.inr ⟨s, c1.2.1, c1.2.2.1, Or.inl c1.1, by rw [hin (hlt _ _ c3) c5 he, c0']⟩
  · obtain ⟨q', q'', s, ⟨c0, c0'⟩, c1, c2, c3, c4, c5⟩ := h4 h
    rcases he with he | he
    · exact Or.inr ⟨s, c1.2.1, c1.2.2.1, Or.inl c1.1, by rw [hin (hlt _ _ c2) c4 he, c0]⟩
    · exact Or.inr ⟨j, j1, j2, Or.inr (Or.inr h), by rw [hin (hlt _ _ c3) c5 he, c0']⟩
  · obtain ⟨c1, c2⟩ := h5 h
    rcases he with he | he
    · exact (hno c1 he).elim
    · exact (hno c2 he).elim
  · obtain ⟨q', c0, c1, c2, c3⟩ := h1 h
    rcases he with he | he
    · exact Or.inr ⟨j, j1, j2, Or.inl h, by rw [hin (hlt _ _ c1) c2 he, c0]⟩
    · exact (hno c3 he).elim
theorem pt_h60 {F G : Nat → Int32} (hps : ∀ j, a0 ≤ j → j < a1 → pt_cut P j → pt_ps P a0 a1 F G j) (hc : 1 + (pt_ks P a0 a1 pt_q35).length + 3 * (pt_ks P a0 a1 pt_q33).length ≤ 60) (fl : List Nat) (hnd : fl.Nodup) (hfl : ∀ p ∈ fl, p < pt_c P a0 a1 ∧ pt_X P a0 a1 p) : fl.length + pt_sS F G (pt_wy F G fl) fl ≤ 60 := by
  have h1 : fl.length ≤ 1 + (pt_ks P a0 a1 pt_q35).length + (pt_ks P a0 a1 pt_q33).length := by
    have h9 := pt_nsub fl (0 :: ((pt_ks P a0 a1 pt_q35).map (fun j => pt_c P a0 j + 1) ++ (pt_ks P a0 a1 pt_q33).map (fun j => pt_c P a0 j + 1))) hnd fun p hp => by
      rcases (hfl p hp).2 with h | ⟨j, j1, j2, j3, j4⟩
      · rw [h]; exact List.mem_cons_self
      · refine List.mem_cons_of_mem _ ?_
        rcases j3 with h | h
        · exact List.mem_append_left _ (List.mem_map.mpr ⟨j, pt_ks_mem.mpr ⟨j1, j2, decide_eq_true h⟩, j4.symm⟩)
        · exact List.mem_append_right _ (List.mem_map.mpr ⟨j, pt_ks_mem.mpr ⟨j1, j2, decide_eq_true h⟩, j4.symm⟩)
    rw [List.length_cons, List.length_append, List.length_map, List.length_map] at h9
    omega
  have h2 : pt_sS F G (pt_wy F G fl) fl ≤ 2 * (pt_ks P a0 a1 pt_q33).length := by
    rw [pt_sS_sum]
    have key : ∀ l : List Nat, pt_sum (fun p => pt_s1 F G (pt_wy F G fl) p + pt_s1 G G (pt_wy F G fl) p) l ≤ 2 * (l.filter fun p => decide (¬ G p < 0)).length := by
      intro l
      induction l with
      | nil => exact Nat.zero_le _
      | cons x l ih =>
        show (pt_s1 F G (pt_wy F G fl) x + pt_s1 G G (pt_wy F G fl) x) + pt_sum _ l ≤ _
        by_cases hx : G x < 0
        · rw [List.filter_cons, if_neg (show ¬ decide (¬ G x < 0) = true from fun h => (of_decide_eq_true h) hx)]
          have e1 : pt_s1 F G (pt_wy F G fl) x = 0 := if_neg fun h => h.1 hx
          have e2 : pt_s1 G G (pt_wy F G fl) x = 0 := if_neg fun h => h.1 hx
          omega
        · rw [List.filter_cons, if_pos (show decide (¬ G x < 0) = true from decide_eq_true hx), List.length_cons]
          have e1 := pt_s1_le F G (pt_wy F G fl) x
          have e2 := pt_s1_le G G (pt_wy F G fl) x
          omega
    have h9 := pt_nsub (fl.filter fun p => decide (¬ G p < 0)) ((pt_ks P a0 a1 pt_q33).map (fun j => pt_c P a0 j)) (List.Pairwise.sublist List.filter_sublist hnd) fun p hp => by
      obtain ⟨p1, p2⟩ := List.mem_filter.mp hp
      have p2 : ¬ G p < 0 := of_decide_eq_true p2
      obtain ⟨j, j1, j2, j3, rfl⟩ := pt_cut_of a1 (hfl p p1).1
      obtain ⟨g1, g2, g3, g4, g5⟩ := hps j j1 j2 j3
      refine List.mem_map.mpr ⟨j, pt_ks_mem.mpr ⟨j1, j2, ?_⟩, rfl⟩
      rcases j3 with (h | h | h | h) | h
      · obtain ⟨q', s, c0, c1, c2, c3, c4⟩ := g2 h
        exact absurd c4 p2
      · exact decide_eq_true (Or.inl h)
      · exact decide_eq_true (Or.inr h)
      · exact absurd (g5 h).2 p2
      · obtain ⟨q', c0, c1, c2, c3⟩ := g1 h
        exact absurd c3 p2
    rw [List.length_map] at h9
    have h8 := key fl
    omega
  omega
end CT
section MU
variable {P w : ST} {a0 a1 B : Nat} {po : Nat → Int32} {fo ot pj : Nat → Nat} {D : Nat → Nat → Prop} {F : pu_Flow} {dm : Nat → Nat}
/-- where a border is, two ways lead -/
theorem pt_multi (hd : pt_dd F w B D dm) {b p d : Nat} (hb : b < B) (hp : p < B) (hdB : d < B) (he : pv_eg w p b) (hD : D p d) (hbr : d = b ∨ ¬ D b d) : ∃ p', p' < B ∧ p' ≠ p ∧ pv_eg w p' b := by
  obtain ⟨hsw, hG, hdom, _, h0⟩ := hd
  refine Classical.byContradiction fun hno => ?_
  have hun : ∀ q, q < B → pv_eg w q b → q = p := fun q hq h => Classical.byContradiction fun hne => hno ⟨q, hq, hne, h⟩
  have hb0 : b ≠ 0 := fun e => h0 p hp (by rw [← e]; exact he)
  rcases hbr with rfl | hnD
  · obtain ⟨p', p1, p2⟩ := hdom.1 d hb hb0
    have h9 := hun p' (by omega) ((hsw.1 p' d (by omega) hb).mp p2)
    have h8 := (hG.2.1 p d hp hD).1
    omega
  · refine hnD (hdom.2 (fun c d' => (D c d' ∧ c < B) ∨ (c = b ∧ d' = d)) (fun d' h => ?_) (fun q c d' hq hc hc0 hs h => ?_) b d hb hdB (Or.inr ⟨rfl, rfl⟩))
    · rcases h with h | h
      · have := (hG.2.1 0 d' (by omega) h.1).1; omega
      · exact absurd h.1.symm hb0
    · rcases h with h | ⟨rfl, rfl⟩
      · by_cases e : d' = c
        · exact Or.inl e
        · exact Or.inr (Or.inl ⟨hG.2.2.2.2 q c d' hq hs h.1 e, hq⟩)
      · rw [hun q hq ((hsw.1 q c hq hc).mp hs)]
        exact Or.inr (Or.inl ⟨hD, hp⟩)
/-- how many blocks two ways lead to -/
theorem pt_multi_n (hB : B ≤ 60) (hB0 : 0 < B) (hbk : pt_bk P a0 a1 w po B fo ot pj) (hd : pt_dd F w B D dm) (q : Nat → Bool) (hq : ∀ b, b < B → q b = true → ∃ p p', p < p' ∧ p' < B ∧ pv_eg w p b ∧ pv_eg w p' b) :
    pt_S (fun b => if q b = true then 1 else 0) B ≤ (pt_ks P a0 a1 pt_q33).length + 1 := by
  obtain ⟨hsw, hG, hdom, _, h0⟩ := hd
  obtain ⟨b1, b2, b3, _⟩ := hbk
  let pc : Nat → Nat → Nat := fun p b => (if w 10 p = pu_I b then 1 else 0) + (if w 11 p = pu_I b then 1 else 0)
  have hpc : ∀ p b, pv_eg w p b → 1 ≤ pc p b := by
    intro p b h
    show 1 ≤ (if w 10 p = pu_I b then 1 else 0) + (if w 11 p = pu_I b then 1 else 0)
    rcases h with h | h
    · rw [if_pos h]; omega
    · rw [if_pos h]; omega
  -- from below
  have hlow : ∀ b, b < B → (if q b = true then 1 else 0) + 1 ≤ pt_S (fun p => pc p b) B + (if b = 0 then 1 else 0) := by
    intro b hb
    by_cases hqb : q b = true
    · obtain ⟨p, p', h1, h2, h3, h4⟩ := hq b hb hqb
      have h9 := pt_S_ge2 (f := fun p => pc p b) h1 B h2
      have h8 := hpc p b h3
      have h7 := hpc p' b h4
      have h9 : pc p b + pc p' b ≤ pt_S (fun p => pc p b) B := h9
      rw [if_pos hqb]
      omega
    · rw [if_neg hqb]
      by_cases hb0 : b = 0
      · rw [if_pos hb0]; omega
      · obtain ⟨p, p1, p2⟩ := hdom.1 b hb hb0
        have h9 := pt_S_ge (f := fun p => pc p b) (i := p) B (by omega)
        have h8 := hpc p b ((hsw.1 p b (by omega) hb).mp p2)
        have h9 : pc p b ≤ pt_S (fun p => pc p b) B := h9
        omega
  have hl := pt_S_mono B hlow
  rw [pt_S_add, pt_S_add, pt_S_c, Nat.mul_one, pt_S_swap pc B B] at hl
  -- from above
  have hone : ∀ x : Int32, pt_S (fun b => if x = pu_I b then 1 else 0) B ≤ 1 := by
    intro x
    have h9 := pt_S_one (q := fun b => decide (x = pu_I b)) B fun b c hb hc h1 h2 => pu_inj (by omega) (by omega) ((of_decide_eq_true h1).symm.trans (of_decide_eq_true h2))
    refine Nat.le_trans (Nat.le_of_eq (pt_S_e B fun b _ => ?_)) h9
    by_cases h : x = pu_I b
    · rw [if_pos h, if_pos (decide_eq_true h)]
    · rw [if_neg h, if_neg fun h9 => h (of_decide_eq_true h9)]
  have hup : ∀ p, p < B → pt_S (fun b => pc p b) B ≤ 1 + (if decide (w 8 p = 23) = true then 1 else 0) := by
    intro p hp
    show pt_S (fun b => (if w 10 p = pu_I b then 1 else 0) + (if w 11 p = pu_I b then 1 else 0)) B ≤ _
    rw [pt_S_add]
    have h1 := hone (w 10 p)
    by_cases h23 : w 8 p = 23
    · rw [if_pos (decide_eq_true h23)]
      have h2 := hone (w 11 p)
      omega
    · have hneg : w 11 p < 0 := by
        by_cases hn : po p < 0
        · exact (b2 p hp hn).2.2.2.1
        · obtain ⟨_, _, c3, _, _, g1, g2, g3, g4, g5⟩ := b1 p hp hn
          rcases c3 with (h | h | h | h) | h
          · exact (g2 h).2.1
          · exact absurd (g3 h).1 h23
          · exact absurd (g4 h).1 h23
          · exact (g5 h).2.2
          · exact (g1 h).2.1
      have h2 : pt_S (fun b => if w 11 p = pu_I b then 1 else 0) B = pt_S (fun _ => 0) B := pt_S_e B fun b hb => if_neg fun h => by
        rw [h] at hneg
        exact pu_ge (by omega) hneg
      rw [h2, pt_S_c, if_neg fun h => h23 (of_decide_eq_true h)]
      omega
  have hu := pt_S_mono B hup
  rw [pt_S_add, pt_S_c, Nat.mul_one] at hu
  -- the forks
  have hfk : pt_S (fun p => if decide (w 8 p = 23) = true then 1 else 0) B ≤ (pt_ks P a0 a1 pt_q33).length := by
    have hlen : ∀ n, n ≤ B → pt_S (fun p => if decide (w 8 p = 23) = true then 1 else 0) n = (((List.range n).filter fun p => decide (w 8 p = 23)).map pj).length := by
      intro n
      induction n with
      | zero => intro _; rfl
      | succ n ih =>
        intro hn
        rw [List.range_succ, List.filter_append, List.map_append, List.length_append, ← ih (by omega)]
        show _ + _ = _ + _
        congr 1
        rw [List.filter_cons]
        by_cases h : decide (w 8 n = 23) = true
        · rw [if_pos h]
          exact if_pos h
        · rw [if_neg h]
          exact if_neg h
    rw [hlen B (Nat.le_refl _)]
    have hpc23 : ∀ p, p < B → w 8 p = 23 → ¬ po p < 0 ∧ a0 ≤ pj p ∧ pj p < a1 ∧ (P 9 (pj p) = 33 ∨ P 9 (pj p) = 34) := by
      intro p hp h23
      have hn : ¬ po p < 0 := fun h => by
        rw [(b2 p hp h).2.2.1] at h23
        exact absurd h23 (by decide)
      obtain ⟨c1, c2, c3, _, _, g1, g2, g3, g4, g5⟩ := b1 p hp hn
      refine ⟨hn, c1, c2, ?_⟩
      rcases c3 with (h | h | h | h) | h
      · rw [(g2 h).1] at h23; exact absurd h23 (by decide)
      · exact Or.inl h
      · exact Or.inr h
      · rw [(g5 h).1] at h23; exact absurd h23 (by decide)
      · rw [(g1 h).1] at h23; exact absurd h23 (by decide)
    refine pt_nsub _ _ ?_ fun x hx => ?_
    · refine List.pairwise_map.mpr (List.Pairwise.imp_of_mem (fun {x y} hx hy hxy e => ?_) (List.Pairwise.sublist List.filter_sublist (List.nodup_range (n := B))))
      obtain ⟨x1, x2⟩ := List.mem_filter.mp hx
      obtain ⟨y1, y2⟩ := List.mem_filter.mp hy
      have x1 := List.mem_range.mp x1
      have y1 := List.mem_range.mp y1
      exact hxy (b3 x y x1 y1 (hpc23 x x1 (of_decide_eq_true x2)).1 (hpc23 y y1 (of_decide_eq_true y2)).1 e)
    · obtain ⟨p, p1, rfl⟩ := List.mem_map.mp hx
      obtain ⟨p2, p3⟩ := List.mem_filter.mp p1
      have p2 := List.mem_range.mp p2
      obtain ⟨_, c1, c2, c3⟩ := hpc23 p p2 (of_decide_eq_true p3)
      exact pt_ks_mem.mpr ⟨c1, c2, decide_eq_true c3⟩
  have h00 : pt_S (fun b => if b = 0 then 1 else 0) B ≤ 1 := by
    have h9 := pt_S_one (q := fun b => decide (b = 0)) B fun b c _ _ h1 h2 => by rw [of_decide_eq_true h1, of_decide_eq_true h2]
    refine Nat.le_trans (Nat.le_of_eq (pt_S_e B fun b _ => ?_)) h9
    by_cases h : b = 0
    · rw [if_pos h, if_pos (decide_eq_true h)]
    · rw [if_neg h, if_neg fun h9 => h (of_decide_eq_true h9)]
  omega
end MU
