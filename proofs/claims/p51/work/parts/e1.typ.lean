/-! pure side, the reader 1: a text that is in shape, piece by piece -/
section TYA
/-- a step of the text begins here -/
def tq_k (P : ST) (i : Nat) : Prop := ∃ t, 1 ≤ t ∧ t ≤ 1000 ∧ P 11 i = pu_I t
/-- what an op costs -/
def tq_w (P : ST) (i : Nat) : Nat := if P 9 i = 20 then 12 else 1
abbrev tq_j (P : ST) (x : Nat) : Prop := P 9 x = 22 ∨ P 9 x = 33 ∨ P 9 x = 34
/-- within n ops, at a cost of c at most, a step begins -/
def tq_rb (P : ST) (a0 a1 : Nat) : Nat → Nat → Nat → Prop
  | 0, _, i => tq_k P i
  | n + 1, c, i => tq_k P i ∨ ∃ c', c' + tq_w P i ≤ c ∧ (P 9 i ≠ 22 → P 9 i ≠ 24 → tq_rb P a0 a1 n c' (i + 1)) ∧ (tq_j P i → ∀ s, pt_lab P a0 a1 i s → tq_rb P a0 a1 n c' s)
theorem tq_rb_mono {P : ST} {a0 a1 : Nat} : ∀ n n' c c' i, n ≤ n' → c ≤ c' → tq_rb P a0 a1 n c i → tq_rb P a0 a1 n' c' i := by
  intro n
  induction n with
  | zero =>
    intro n' c c' i _ _ h
    cases n' with
    | zero => exact h
    | succ n' => exact Or.inl h
  | succ n ih =>
    intro n' c c' i hn hc h
    obtain ⟨n', rfl⟩ : ∃ m, n' = m + 1 := ⟨n' - 1, by omega⟩
    rcases h with h | ⟨d, h1, h2, h3⟩
    · exact Or.inl h
    · exact Or.inr ⟨d, by omega, fun a b => ih n' d d _ (by omega) (Nat.le_refl d) (h2 a b), fun a s hs => ih n' d d _ (by omega) (Nat.le_refl d) (h3 a s hs)⟩
def tq_r (P : ST) (a0 a1 c i : Nat) : Prop := ∃ n, tq_rb P a0 a1 n c i
theorem tq_r_mono {P : ST} {a0 a1 c c' i : Nat} (h : tq_r P a0 a1 c i) (hc : c ≤ c') : tq_r P a0 a1 c' i := by
  obtain ⟨n, hn⟩ := h
  exact ⟨n, tq_rb_mono n n c c' i (Nat.le_refl n) hc hn⟩
theorem tq_r_k {P : ST} {a0 a1 c i : Nat} (h : tq_k P i) : tq_r P a0 a1 c i := ⟨0, h⟩
/-- labels are where the table says -/
def tq_L (P : ST) (a0 a1 : Nat) : Prop := ∀ x, a0 ≤ x → x < a1 → P 9 x = 35 → ∃ n, n < 640 ∧ P 10 x = pu_I n ∧ P 13 n = pu_I x
theorem tq_lab_u {P : ST} {a0 a1 x s s' : Nat} (hL : tq_L P a0 a1) (ha : a1 ≤ 3200) (h1 : pt_lab P a0 a1 x s) (h2 : pt_lab P a0 a1 x s') : s = s' := by
  obtain ⟨n, n1, n2, n3⟩ := hL s h1.2.1 h1.2.2.1 h1.1
  obtain ⟨m, m1, m2, m3⟩ := hL s' h2.2.1 h2.2.2.1 h2.1
  have e : pu_I n = pu_I m := by rw [← n2, ← m2, h1.2.2.2, h2.2.2.2]
  have e := pu_inj (by omega) (by omega) e
  rw [e, m3] at n3
  have := h1.2.2.1
  have := h2.2.2.1
  exact (pu_inj (by omega) (by omega) n3).symm
theorem tq_r_s {P : ST} {a0 a1 c i : Nat} (hL : tq_L P a0 a1) (ha : a1 ≤ 3200) (h1 : P 9 i ≠ 22 → P 9 i ≠ 24 → tq_r P a0 a1 c (i + 1)) (h2 : tq_j P i → ∀ s, pt_lab P a0 a1 i s → tq_r P a0 a1 c s) : tq_r P a0 a1 (c + tq_w P i) i := by
  obtain ⟨n1, hn1⟩ : ∃ n, P 9 i ≠ 22 → P 9 i ≠ 24 → tq_rb P a0 a1 n c (i + 1) := by
    by_cases a : P 9 i ≠ 22 ∧ P 9 i ≠ 24
    · obtain ⟨n, hn⟩ := h1 a.1 a.2
      exact ⟨n, fun _ _ => hn⟩
    · exact ⟨0, fun x y => absurd ⟨x, y⟩ a⟩
  obtain ⟨n2, hn2⟩ : ∃ n, tq_j P i → ∀ s, pt_lab P a0 a1 i s → tq_rb P a0 a1 n c s := by
    by_cases a : tq_j P i ∧ ∃ s, pt_lab P a0 a1 i s
    · obtain ⟨a1', s, hs⟩ := a
      obtain ⟨n, hn⟩ := h2 a1' s hs
      exact ⟨n, fun _ s' hs' => by rw [← tq_lab_u hL ha hs hs']; exact hn⟩
    · exact ⟨0, fun x s hs => absurd ⟨x, s, hs⟩ a⟩
  refine ⟨(n1 + n2) + 1, Or.inr ⟨c, Nat.le_refl _, fun a b => tq_rb_mono n1 _ c c _ (by omega) (Nat.le_refl c) (hn1 a b), fun a s hs => tq_rb_mono n2 _ c c _ (by omega) (Nat.le_refl c) (hn2 a s hs)⟩⟩
theorem tq_least {p : Nat → Prop} : ∀ c, p c → ∃ d, d ≤ c ∧ p d ∧ ∀ e, p e → d ≤ e := by
  intro c
  induction c with
  | zero => intro h; exact ⟨0, Nat.le_refl 0, h, fun e _ => Nat.zero_le e⟩
  | succ c ih =>
    intro h
    by_cases hx : ∃ e, e ≤ c ∧ p e
    · obtain ⟨e, e1, e2⟩ := hx
      by_cases hc : p c
      · obtain ⟨d, d1, d2⟩ := ih hc
        exact ⟨d, by omega, d2⟩
      · -- the least of those below
        have : ∀ k e, e ≤ k → p e → ∃ d, d ≤ k ∧ p d ∧ ∀ f, p f → d ≤ f := by
          intro k
          induction k with
          | zero =>
            intro e he hp
            obtain rfl : e = 0 := by omega
            exact ⟨0, Nat.le_refl 0, hp, fun f _ => Nat.zero_le f⟩
          | succ k ik =>
            intro e he hp
            by_cases hk : ∃ f, f ≤ k ∧ p f
            · obtain ⟨f, f1, f2⟩ := hk
              obtain ⟨d, d1, d2⟩ := ik f f1 f2
              exact ⟨d, by omega, d2⟩
            · refine ⟨e, he, hp, fun f hf => ?_⟩
              have h1 : ¬ f ≤ k := fun q => hk ⟨f, q, hf⟩
              omega
        obtain ⟨d, d1, d2⟩ := this c e e1 e2
        exact ⟨d, by omega, d2⟩
    · refine ⟨c + 1, Nat.le_refl _, h, fun f hf => ?_⟩
      have h1 : ¬ f ≤ c := fun q => hx ⟨f, q, hf⟩
      omega
/-- ranks -/
theorem tq_rk (P : ST) (a0 a1 : Nat) : ∃ rk : Nat → Nat, ∀ i, (∀ c, tq_r P a0 a1 c i → rk i ≤ c) ∧ ((∃ c, tq_r P a0 a1 c i) → ¬ tq_k P i → (P 9 i ≠ 22 → P 9 i ≠ 24 → rk (i + 1) + tq_w P i ≤ rk i) ∧ (tq_j P i → ∀ s, pt_lab P a0 a1 i s → rk s + tq_w P i ≤ rk i) ∧ tq_w P i ≤ rk i) := by
  have hex : ∀ i, ∃ d, (∀ c, tq_r P a0 a1 c i → d ≤ c) ∧ ((∃ c, tq_r P a0 a1 c i) → tq_r P a0 a1 d i) := fun i => by
    by_cases h : ∃ c, tq_r P a0 a1 c i
    · obtain ⟨c, hc⟩ := h
      obtain ⟨d, d1, d2, d3⟩ := tq_least (p := fun c => tq_r P a0 a1 c i) c hc
      exact ⟨d, d3, fun _ => d2⟩
    · exact ⟨0, fun c _ => Nat.zero_le c, fun q => absurd q h⟩
  obtain ⟨rk, hrk⟩ := Classical.axiomOfChoice hex
  refine ⟨rk, fun i => ⟨(hrk i).1, fun h hk => ?_⟩⟩
  obtain ⟨n, hn⟩ := (hrk i).2 h
  cases n with
  | zero => exact absurd hn hk
  | succ n =>
    rcases hn with hn | ⟨c', h1, h2, h3⟩
    · exact absurd hn hk
    · refine ⟨fun a b => ?_, fun a s hs => ?_, by omega⟩
      · have := (hrk (i + 1)).1 c' ⟨n, h2 a b⟩
        omega
      · have := (hrk s).1 c' ⟨n, h3 a s hs⟩
        omega
end TYA
section TYP
/-- an op in shape -/
def tq_lc (P : ST) (a0 Vn fs np x : Nat) : Prop :=
  ((P 9 x ≤ 21 → pu_gk (P 9 x) = true ∨ P 9 x = 18 ∨ P 9 x = 19) ∧ (P 9 x ≤ 21 ∨ P 9 x = 22 ∨ P 9 x = 24 ∨ 30 ≤ P 9 x)) ∧
  (pt_en P x (pt_T P a0 x) ∧ (pt_T P a0 x).length ≤ 60 ∧ (P 9 x = 24 → (pt_T P a0 x).length = 1)) ∧
  ((P 9 x = 30 ∨ P 9 x = 31 ∨ P 9 x = 32 ∨ P 9 x = 21) → ∃ u, u < Vn ∧ P 10 x = pu_I u) ∧
  (P 9 x = 35 ∨ P 9 x = 22 ∨ P 9 x = 33 ∨ P 9 x = 34 → ixb (P 10 x) 640 = true) ∧
  ((P 9 x = 20 → ixb (P 10 x) fs = true) ∧ (P 9 x = 21 → ixb (P 10 x) np = true)) ∧
  (∃ t, t ≤ 1000 ∧ P 11 x = pu_I t) ∧
  ((pt_Q P a0 x ≠ [] → P 9 x = 19 ∨ P 9 x = 20) ∧ (P 9 x = 20 → pt_Q P a0 x = ((pt_T P a0 x).take (px_n P x)).reverse))
/-- a variable gets a value -/
def tq_as (P : ST) (v : Int32) (a : Nat) : Prop := (P 9 a = 31 ∨ P 9 a = 32 ∨ P 9 a = 21) ∧ P 10 a = v
/-- a leap and its label -/
def tq_to (P : ST) (a0 : Nat) (S : List (Int32 × Nat × Nat)) (x s : Nat) : Prop :=
  P 9 s = 35 ∧ P 10 s = P 10 x ∧ pt_T P a0 s = pt_T P a0 (x + 1) ∧ ∀ v a e, (v, a, e) ∈ S → a < s → s ≤ e → a < x ∧ x ≤ e
/-- a piece of a text in shape: vis the variables that are seen, S where its own are, X the leaps out of it, B what it costs -/
def tq_i (P : ST) (a0 a1 Vn fs np : Nat) (vis : Int32 → Prop) (i j B : Nat) (S : List (Int32 × Nat × Nat)) (X : Nat → Prop) : Prop :=
  (a0 ≤ i ∧ i ≤ j ∧ j ≤ a1) ∧ (∀ x, i ≤ x → x < j → tq_lc P a0 Vn fs np x) ∧
  (∀ x, i ≤ x → x < j → tq_j P x → X x ∨ ∃ s, i ≤ s ∧ s < j ∧ tq_to P a0 S x s) ∧
  (∀ v a e, (v, a, e) ∈ S → i ≤ a ∧ e < j ∧ tq_as P v a) ∧
  (∀ x, i ≤ x → x < j → P 9 x = 30 → vis (P 10 x) ∨ ∃ a e, (P 10 x, a, e) ∈ S ∧ a < x ∧ x ≤ e) ∧
  (∀ c, tq_r P a0 a1 c j → (∀ x, i ≤ x → x < j → X x → ∀ s, pt_lab P a0 a1 x s → tq_r P a0 a1 c s) → ∀ x, i ≤ x → x < j → tq_r P a0 a1 (c + B) x)
variable {P : ST} {a0 a1 Vn fs np : Nat} {vis : Int32 → Prop} {i m j B B1 B2 : Nat} {S S1 S2 : List (Int32 × Nat × Nat)} {X X1 X2 : Nat → Prop}
theorem tq_app0 (h1 : tq_i P a0 a1 Vn fs np vis i m B1 S1 X1) (h2 : tq_i P a0 a1 Vn fs np vis m j B2 S2 X2) :
    (a0 ≤ i ∧ i ≤ j ∧ j ≤ a1) ∧ (∀ x, i ≤ x → x < j → tq_lc P a0 Vn fs np x) ∧
    (∀ x, i ≤ x → x < j → tq_j P x → (X1 x ∨ X2 x) ∨ ∃ s, i ≤ s ∧ s < j ∧ tq_to P a0 (S1 ++ S2) x s) ∧
    (∀ v a e, (v, a, e) ∈ S1 ++ S2 → i ≤ a ∧ e < j ∧ tq_as P v a) ∧
    (∀ x, i ≤ x → x < j → P 9 x = 30 → vis (P 10 x) ∨ ∃ a e, (P 10 x, a, e) ∈ S1 ++ S2 ∧ a < x ∧ x ≤ e) := by
  obtain ⟨⟨a1', a2', a3'⟩, b1, c1, d1, e1, f1⟩ := h1
  obtain ⟨⟨a4', a5', a6'⟩, b2, c2, d2, e2, f2⟩ := h2
  refine ⟨⟨a1', by omega, a6'⟩, fun x hx hxj => ?_, fun x hx hxj hj => ?_, fun v a e hs => ?_, fun x hx hxj h9 => ?_⟩
  · by_cases h : x < m
    · exact b1 x hx h
    · exact b2 x (by omega) hxj
  · by_cases h : x < m
    · rcases c1 x hx h hj with q | ⟨s, s1, s2, s3, s4, s5, s6⟩
      · exact Or.inl (Or.inl q)
      · refine Or.inr ⟨s, s1, by omega, s3, s4, s5, fun v a e hs h1 h2 => ?_⟩
        rcases List.mem_append.mp hs with q | q
        · exact s6 v a e q h1 h2
        · have := (d2 v a e q).1; omega
    · rcases c2 x (by omega) hxj hj with q | ⟨s, s1, s2, s3, s4, s5, s6⟩
      · exact Or.inl (Or.inr q)
      · refine Or.inr ⟨s, by omega, s2, s3, s4, s5, fun v a e hs h1 h2 => ?_⟩
        rcases List.mem_append.mp hs with q | q
        · have := (d1 v a e q).2.1; omega
        · exact s6 v a e q h1 h2
  · rcases List.mem_append.mp hs with q | q
    · obtain ⟨q1, q2, q3⟩ := d1 v a e q
      exact ⟨q1, by omega, q3⟩
    · obtain ⟨q1, q2, q3⟩ := d2 v a e q
      exact ⟨by omega, q2, q3⟩
  · by_cases h : x < m
    · rcases e1 x hx h h9 with q | ⟨a, e, q1, q2⟩
      · exact Or.inl q
      · exact Or.inr ⟨a, e, List.mem_append_left _ q1, q2⟩
    · rcases e2 x (by omega) hxj h9 with q | ⟨a, e, q1, q2⟩
      · exact Or.inl q
      · exact Or.inr ⟨a, e, List.mem_append_right _ q1, q2⟩
/-- one behind the other -/
theorem tq_app (h1 : tq_i P a0 a1 Vn fs np vis i m B1 S1 X1) (h2 : tq_i P a0 a1 Vn fs np vis m j B2 S2 X2) : tq_i P a0 a1 Vn fs np vis i j (B1 + B2) (S1 ++ S2) (fun x => X1 x ∨ X2 x) := by
  obtain ⟨q1, q2, q3, q4, q5⟩ := tq_app0 h1 h2
  refine ⟨q1, q2, q3, q4, q5, fun c hc hX x hx hxj => ?_⟩
  have g2 := h2.2.2.2.2.2 c hc fun x y1 y2 hx s hs => hX x (by have := h1.1; omega) y2 (Or.inr hx) s hs
  have hm : tq_r P a0 a1 (c + B2) m := by
    by_cases e : m < j
    · exact g2 m (Nat.le_refl m) e
    · obtain rfl : m = j := by have := h2.1; omega
      exact tq_r_mono hc (by omega)
  by_cases e : x < m
  · have g1 := h1.2.2.2.2.2 (c + B2) hm (fun y y1 y2 hy s hs => tq_r_mono (hX y y1 (by have := h2.1; omega) (Or.inl hy) s hs) (by omega)) x hx e
    exact tq_r_mono g1 (by omega)
  · exact tq_r_mono (g2 x (by omega) hxj) (by omega)
/-- .. where the latter begins a step -/
theorem tq_appk (h1 : tq_i P a0 a1 Vn fs np vis i m B1 S1 X1) (h2 : tq_i P a0 a1 Vn fs np vis m j B2 S2 X2) (hk : tq_k P m) (hB1 : B1 ≤ B) (hB2 : B2 ≤ B) : tq_i P a0 a1 Vn fs np vis i j B (S1 ++ S2) (fun x => X1 x ∨ X2 x) := by
  obtain ⟨q1, q2, q3, q4, q5⟩ := tq_app0 h1 h2
  refine ⟨q1, q2, q3, q4, q5, fun c hc hX x hx hxj => ?_⟩
  have g2 := h2.2.2.2.2.2 c hc fun x y1 y2 hx s hs => hX x (by have := h1.1; omega) y2 (Or.inr hx) s hs
  by_cases e : x < m
  · exact tq_r_mono (h1.2.2.2.2.2 c (tq_r_k hk) (fun y y1 y2 hy s hs => hX y y1 (by have := h2.1; omega) (Or.inl hy) s hs) x hx e) (by omega)
  · exact tq_r_mono (g2 x (by omega) hxj) (by omega)
theorem tq_nil (ha : a0 ≤ i) (h1 : i ≤ a1) : tq_i P a0 a1 Vn fs np vis i i 0 [] X :=
  ⟨⟨ha, Nat.le_refl i, h1⟩, fun x _ _ => by omega, fun x _ _ => by omega, fun v a e h => (by cases h), fun x _ _ => by omega, fun c _ _ x _ _ => by omega⟩
/-- one op -/
theorem tq_one (hL : tq_L P a0 a1) (h32 : a1 ≤ 3200) (ha : a0 ≤ i) (h1 : i < a1) (hl : tq_lc P a0 Vn fs np i) (hv : P 9 i = 30 → vis (P 10 i)) : tq_i P a0 a1 Vn fs np vis i (i + 1) (tq_w P i) [] (fun x => x = i ∧ tq_j P i) := by
  have hx : ∀ x, i ≤ x → x < i + 1 → x = i := fun x _ _ => by omega
  refine ⟨⟨ha, by omega, h1⟩, fun x y1 y2 => by rw [hx x y1 y2]; exact hl, fun x y1 y2 hj => ?_, fun v a e h => (by cases h), fun x y1 y2 h9 => ?_, fun c hc hX x y1 y2 => ?_⟩
  · rw [hx x y1 y2] at hj ⊢
    exact Or.inl ⟨rfl, hj⟩
  · rw [hx x y1 y2] at h9 ⊢
    exact Or.inl (hv h9)
  · rw [hx x y1 y2]
    exact tq_r_s hL h32 (fun _ _ => hc) fun hj s hs => hX i (Nat.le_refl i) (by omega) ⟨rfl, hj⟩ s hs
/-- one op that doesn't leap -/
theorem tq_one0 (hL : tq_L P a0 a1) (h32 : a1 ≤ 3200) (ha : a0 ≤ i) (h1 : i < a1) (hl : tq_lc P a0 Vn fs np i) (hj : ¬ tq_j P i) (hw : P 9 i ≠ 20) (hv : P 9 i = 30 → vis (P 10 i)) : tq_i P a0 a1 Vn fs np vis i (i + 1) 1 [] (fun _ => False) := by
  obtain ⟨q1, q2, q3, q4, q5, q6⟩ := tq_one hL h32 ha h1 hl hv
  have ew : tq_w P i = 1 := if_neg hw
  rw [ew] at q6
  refine ⟨q1, q2, fun x y1 y2 hx => ?_, q4, q5, fun c hc _ x y1 y2 => q6 c hc (fun x _ _ h => absurd h.2 hj) x y1 y2⟩
  obtain rfl : x = i := by omega
  exact absurd hx hj
/-- a label behind a piece: leaps to it are leaps within -/
theorem tq_lab (hL : tq_L P a0 a1) (h32 : a1 ≤ 3200) (h : tq_i P a0 a1 Vn fs np vis i m B S X) (hm : m < a1) (hl : tq_lc P a0 Vn fs np m) (h35 : P 9 m = 35) (hT : ∀ x, i ≤ x → x < m → tq_j P x → X x → P 10 x = P 10 m → pt_T P a0 m = pt_T P a0 (x + 1)) :
    tq_i P a0 a1 Vn fs np vis i (m + 1) (B + 1) S (fun x => X x ∧ P 10 x ≠ P 10 m) := by
  obtain ⟨⟨b1, b2, b3⟩, q2, q3, q4, q5, q6⟩ := h
  have hmj : ¬ tq_j P m := fun h => by rcases h with h | h | h <;> (rw [h35] at h; exact absurd h (by decide))
  have hlb : ∀ x, P 10 x = P 10 m → pt_lab P a0 a1 x m := fun x hx => ⟨h35, by omega, hm, hx.symm⟩
  refine ⟨⟨b1, by omega, hm⟩, fun x y1 y2 => ?_, fun x y1 y2 hj => ?_, fun v a e hs => ?_, fun x y1 y2 h9 => ?_, fun c hc hX x y1 y2 => ?_⟩
  · by_cases e : x < m
    · exact q2 x y1 e
    · rw [show x = m by omega]; exact hl
  · by_cases e : x < m
    · rcases q3 x y1 e hj with q | ⟨s, s1, s2, s3⟩
      · by_cases e2 : P 10 x = P 10 m
        · refine Or.inr ⟨m, by omega, by omega, h35, e2.symm, hT x y1 e hj q e2, fun v a e hs z1 z2 => ?_⟩
          have := (q4 v a e hs).2.1
          omega
        · exact Or.inl ⟨q, e2⟩
      · exact Or.inr ⟨s, s1, by omega, s3⟩
    · rw [show x = m by omega] at hj
      exact absurd hj hmj
  · obtain ⟨z1, z2, z3⟩ := q4 v a e hs
    exact ⟨z1, by omega, z3⟩
  · by_cases e : x < m
    · exact q5 x y1 e h9
    · rw [show x = m by omega, h35] at h9
      exact absurd h9 (by decide)
  · have hw : tq_w P m = 1 := if_neg (by rw [h35]; decide)
    have hr : tq_r P a0 a1 (c + 1) m := by
      have h9 := tq_r_s hL h32 (i := m) (c := c) (fun _ _ => hc) fun hj => absurd hj hmj
      rw [hw] at h9
      exact h9
    by_cases e : x < m
    · have h9 := q6 (c + 1) hr (fun y z1 z2 hy s hs => ?_) x y1 e
      · exact tq_r_mono h9 (by omega)
      · by_cases e2 : P 10 y = P 10 m
        · rw [tq_lab_u hL h32 hs (hlb y e2)]
          exact hr
        · exact tq_r_mono (hX y z1 (by omega) ⟨hy, e2⟩ s hs) (by omega)
    · rw [show x = m by omega]
      exact tq_r_mono hr (by omega)
/-- a leap back behind a piece -/
theorem tq_go (hL : tq_L P a0 a1) (h32 : a1 ≤ 3200) (h : tq_i P a0 a1 Vn fs np vis i m B S X) (hm : m < a1) (hl : tq_lc P a0 Vn fs np m) (h22 : P 9 m = 22) {s : Nat} (hs1 : i ≤ s) (hs2 : s < m) (h35 : P 9 s = 35) (h10 : P 10 s = P 10 m) (hT : pt_T P a0 s = pt_T P a0 (m + 1)) (hk : tq_k P (s + 1)) (hS : ∀ v a e, (v, a, e) ∈ S → s ≤ a) :
    tq_i P a0 a1 Vn fs np vis i (m + 1) (B + 2) S X := by
  obtain ⟨⟨b1, b2, b3⟩, q2, q3, q4, q5, q6⟩ := h
  refine ⟨⟨b1, by omega, hm⟩, fun x y1 y2 => ?_, fun x y1 y2 hj => ?_, fun v a e hs => ?_, fun x y1 y2 h9 => ?_, fun c hc hX x y1 y2 => ?_⟩
  · by_cases e : x < m
    · exact q2 x y1 e
    · rw [show x = m by omega]; exact hl
  · by_cases e : x < m
    · rcases q3 x y1 e hj with q | ⟨s, s1, s2, s3⟩
      · exact Or.inl q
      · exact Or.inr ⟨s, s1, by omega, s3⟩
    · rw [show x = m by omega]
      refine Or.inr ⟨s, hs1, by omega, h35, h10, hT, fun v a e hs z1 z2 => ?_⟩
      have := hS v a e hs
      omega
  · obtain ⟨z1, z2, z3⟩ := q4 v a e hs
    exact ⟨z1, by omega, z3⟩
  · by_cases e : x < m
    · exact q5 x y1 e h9
    · rw [show x = m by omega, h22] at h9
      exact absurd h9 (by decide)
  · have hw : tq_w P m = 1 := if_neg (by rw [h22]; decide)
    have hws : tq_w P s = 1 := if_neg (by rw [h35]; decide)
    have hrs : tq_r P a0 a1 (0 + 1) s := by
      have h9 := tq_r_s hL h32 (i := s) (c := 0) (fun _ _ => tq_r_k hk) fun hj => by rcases hj with h | h | h <;> (rw [h35] at h; exact absurd h (by decide))
      rw [hws] at h9
      exact h9
    have hr : tq_r P a0 a1 (0 + 1 + 1) m := by
      have h9 := tq_r_s hL h32 (i := m) (c := 0 + 1) (fun q _ => absurd h22 q) fun _ s' hs' => by
        rw [tq_lab_u hL h32 hs' ⟨h35, by omega, by omega, h10⟩]
        exact hrs
      rw [hw] at h9
      exact h9
    by_cases e : x < m
    · have h9 := q6 (c + 2) (tq_r_mono hr (by omega)) (fun y z1 z2 hy s hs => tq_r_mono (hX y z1 (by omega) hy s hs) (by omega)) x y1 e
      exact tq_r_mono h9 (by omega)
    · rw [show x = m by omega]
      exact tq_r_mono hr (by omega)
/-- a variable that is seen from here on -/
theorem tq_decl {v : Int32} {a : Nat} (h1 : tq_i P a0 a1 Vn fs np vis i (a + 1) B1 S1 X1) (h2 : tq_i P a0 a1 Vn fs np (fun u => u = v ∨ vis u) (a + 1) j B2 S2 X2) (hi : i ≤ a) (has : tq_as P v a) :
    (∀ B, tq_i P a0 a1 Vn fs np (fun u => u = v ∨ vis u) i j B (S1 ++ S2) (fun x => X1 x ∨ X2 x) → tq_i P a0 a1 Vn fs np vis i j B (S1 ++ S2 ++ [(v, a, j - 1)]) (fun x => X1 x ∨ X2 x)) := by
  intro B h
  obtain ⟨⟨b1, b2, b3⟩, q2, q3, q4, q5, q6⟩ := h
  have hj := h2.1
  refine ⟨⟨b1, b2, b3⟩, q2, fun x y1 y2 hx => ?_, fun u c e hs => ?_, fun x y1 y2 h9 => ?_, q6⟩
  · by_cases e : x < a + 1
    · rcases h1.2.2.1 x y1 e hx with q | ⟨s, s1, s2, s3, s4, s5, s6⟩
      · exact Or.inl (Or.inl q)
      · refine Or.inr ⟨s, s1, by omega, s3, s4, s5, fun u c e hs z1 z2 => ?_⟩
        rcases List.mem_append.mp hs with q | q
        · rcases List.mem_append.mp q with q | q
          · exact s6 u c e q z1 z2
          · have := (h2.2.2.2.1 u c e q).1; omega
        · have q := List.mem_singleton.mp q
          have e1 : c = a := congrArg (fun z => z.2.1) q
          omega
    · rcases h2.2.2.1 x (by omega) y2 hx with q | ⟨s, s1, s2, s3, s4, s5, s6⟩
      · exact Or.inl (Or.inr q)
      · refine Or.inr ⟨s, by omega, s2, s3, s4, s5, fun u c e hs z1 z2 => ?_⟩
        rcases List.mem_append.mp hs with q | q
        · rcases List.mem_append.mp q with q | q
          · have := (h1.2.2.2.1 u c e q).2.1; omega
          · exact s6 u c e q z1 z2
        · have q := List.mem_singleton.mp q
          have e1 : c = a := congrArg (fun z => z.2.1) q
          have e2 : e = j - 1 := congrArg (fun z => z.2.2) q
          omega
  · rcases List.mem_append.mp hs with q | q
    · exact q4 u c e q
    · have q := List.mem_singleton.mp q
      have e0 : u = v := congrArg (fun z => z.1) q
      have e1 : c = a := congrArg (fun z => z.2.1) q
      have e2 : e = j - 1 := congrArg (fun z => z.2.2) q
      exact ⟨by omega, by omega, by rw [e0, e1]; exact has⟩
  · by_cases e : x < a + 1
    · rcases h1.2.2.2.2.1 x y1 e h9 with q | ⟨c, d, q1, q2⟩
      · exact Or.inl q
      · exact Or.inr ⟨c, d, List.mem_append_left _ (List.mem_append_left _ q1), q2⟩
    · rcases h2.2.2.2.2.1 x (by omega) y2 h9 with (q | q) | ⟨c, d, q1, q2⟩
      · exact Or.inr ⟨a, j - 1, List.mem_append_right _ (by rw [q]; exact List.mem_singleton.mpr rfl), by omega, by omega⟩
      · exact Or.inl q
      · exact Or.inr ⟨c, d, List.mem_append_left _ (List.mem_append_right _ q1), q2⟩
end TYP
