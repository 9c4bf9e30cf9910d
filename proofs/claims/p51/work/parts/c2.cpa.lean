/-! pure side, the allocator 14: the copies of all ways -/
theorem pa_pm_free : ∀ (cs : List pu_Stp) (l : List (Int32 × Int32)) (k k' : Nat), pu_pmr cs l k k' → (∀ y ∈ l, nn y.1 < k) → k' < 1000000 → k' ≤ k + l.length ∧ (∀ x c, l = x :: c → (∀ y ∈ l, y.2 ≠ x.1) → k' + 1 ≤ k + l.length) := by
  intro cs
  induction cs with
  | nil =>
    intro l k k' h hl hk
    obtain ⟨rfl, rfl⟩ : l = [] ∧ k' = k := h
    exact ⟨by omega, fun x c e => (by cases e)⟩
  | cons s cs ih =>
    intro l k k' h hl hk
    rcases h with ⟨a, x, c, rfl, h1, _, h3⟩ | ⟨x, c, rfl, h1, _, h3⟩
    · rw [List.length_append, List.length_cons]
      have h9 := (ih (a ++ c) k k' h3 (fun y hy => hl y (by
        rcases List.mem_append.mp hy with h | h
        · exact List.mem_append_left _ h
        · exact List.mem_append_right _ (List.mem_cons_of_mem _ h))) hk).1
      rw [List.length_append] at h9
      exact ⟨by omega, fun _ _ _ _ => by omega⟩
    · have hx := hl x List.mem_cons_self
      have hlen : ((x :: c).map (fun y => if y.2 = x.1 then (y.1, pu_I k) else y)).length = (x :: c).length := List.length_map _
      have h9 := (ih _ (k + 1) k' h3 (fun y hy => by
        obtain ⟨z, hz, rfl⟩ := List.mem_map.mp hy
        have h8 := hl z hz
        have e : (if z.2 = x.1 then (z.1, pu_I k) else z).1 = z.1 := by by_cases e : z.2 = x.1 <;> simp only [e, if_true, if_false]
        rw [e]; omega) hk).2 (if x.2 = x.1 then (x.1, pu_I k) else x) (c.map _) rfl (fun y hy => by
        obtain ⟨z, hz, rfl⟩ := List.mem_map.mp hy
        have e1 : (if x.2 = x.1 then (x.1, pu_I k) else x).1 = x.1 := by by_cases e : x.2 = x.1 <;> simp only [e, if_true, if_false]
        rw [e1]
        by_cases e : z.2 = x.1
        · rw [if_pos e]
          show pu_I k ≠ x.1
          intro e9
          have hkk := pu_pmr_k _ _ _ _ h3
          rw [← e9, pu_nn (by omega)] at hx
          omega
        · rw [if_neg e]; exact e)
      rw [hlen] at h9
      refine ⟨by omega, fun x' c' e hn => ?_⟩
      obtain ⟨rfl, _⟩ := List.cons.inj e
      obtain ⟨y, hy, e9⟩ := h1
      exact absurd e9 (hn y hy)
section CPJ
variable {B M V0 N0 : Nat} {n : Nat → Nat} {F : pu_Flow} {w0 fw0 : ST} {q : Nat → List Nat} {wb : Nat → Nat}
/-- the ways that were gone through, b the block, i the place -/
def pa_K (B : Nat) (fw0 : ST) (wb : Nat → Nat) (b i p : Nat) : Prop := ∃ c, c < B ∧ pv_eg fw0 p c ∧ (c < b ∨ (c = b ∧ ∃ j, wb b ≤ j ∧ j < wb b + i ∧ fw0 15 j = pu_I p))
def pa_cpj (B V0 N0 : Nat) (F : pu_Flow) (w0 fw0 : ST) (q : Nat → List Nat) (wb : Nat → Nat) (b i : Nat) (w fw x9 : ST) (m2 : Nat → Nat) : Prop :=
  ∃ (χ : Nat → Nat) (qs : Nat → List Nat) (V N : Nat), (∀ p, χ p ≤ 1) ∧ (w 0 8 = pu_I V ∧ V0 ≤ V ∧ V ≤ V0 + 16 * pv_sm χ B) ∧ (N ≤ N0 + 32 * pv_sm χ B ∧ x9 0 0 = pu_I N ∧ (∃ R, pv_sR m2 R ∧ N ≤ R ∧ R ≤ 12770)) ∧ (pv_stc B fw x9 qs ∧ pv_dis B N qs) ∧
    ((∀ r, r ≠ 0 → r ≠ 15 → r ≠ 16 → w r = w0 r) ∧ (∀ j, j ≠ 8 → w 0 j = w0 0 j)) ∧ ((∀ r, r ≠ 4 → r ≠ 5 → r ≠ 6 → r ≠ 7 → fw r = fw0 r) ∧ pv_phc B fw (pv_fst b (fun _ => []) q)) ∧
    (∀ p, p < B → ∃ cs, (qs p).map (pv_S x9) = (F p).2.1 ++ cs ∧ ((χ p = 1 ∧ fw0 8 p = 22 ∧ ∃ c V1 V2, c < B ∧ pv_eg fw0 p c ∧ pu_pmr cs (pa_ml F p c) V1 V2 ∧ V0 ≤ V1 ∧ V2 ≤ V) ∨ (χ p = 0 ∧ cs = []))) ∧
    (∀ p, p < B → fw0 8 p = 22 → (χ p = 1 ↔ pa_K B fw0 wb b i p))
/-- what is asked of the flow ahead of copies -/
def pa_cph (B M V0 N0 : Nat) (n : Nat → Nat) (F : pu_Flow) (fw0 : ST) (q : Nat → List Nat) (wb : Nat → Nat) : Prop :=
  B ≤ 60 ∧ (∀ c, c < B → ∀ p, p < B → pa_mvs fw0 p (q c) = pa_ml F p c) ∧ (∀ p c, p < B → c < B → fw0 8 p = 23 → pv_eg fw0 p c → q c = []) ∧ (∀ p c, p < B → c < B → pv_eg fw0 p c → fw0 8 p = 22 ∨ fw0 8 p = 23) ∧
  (∀ p c c', p < B → c < B → c' < B → fw0 8 p = 22 → pv_eg fw0 p c → pv_eg fw0 p c' → c = c') ∧ (∀ c, c < B → (q c).length ≤ 16) ∧ (∀ c, c < B → ∀ a, a ∈ q c → ∃ u, u < V0 ∧ fw0 19 a = pu_I u) ∧
  ((∀ c, c < B → ∀ a, a ∈ q c → a < M) ∧ M ≤ n 19 ∧ M ≤ n 20 ∧ M * 60 ≤ n 21 ∧ M < 50000) ∧ pv_wys B fw0 wb ∧ V0 < 50000 ∧ N0 + 32 * 61 < 8500 ∧ fw0 0 0 = pu_I B
theorem pa_34 (H : pa_cph B M V0 N0 n F fw0 q wb) {b : Nat} (hb : b < B) {o1 : ST × (Nat → Nat) × ST × (Nat → Nat)} (ho : o1.2.1 = n) :
    ∀ (mes i k : Nat) (w fw x9 : ST) (m2 : Nat → Nat), wb b + i + mes = wb (b + 1) → mes < k → pa_cpj B V0 N0 F w0 fw0 q wb b i w fw x9 m2 →
      ∃ w' fw' x9' m2', fX0_makeFunction_L34 o1 (pu_I b) k (pu_I i) w fw x9 m2 = some (w', fw', x9', m2') ∧ pa_cpj B V0 N0 F w0 fw0 q wb b (i + mes) w' fw' x9' m2' := by
  obtain ⟨hB, hq, hnf, h24, huq, hl16, hgv, ⟨hqM, hn19, hn20, hn21, hM⟩, hw, hV0, hN0, hfw0⟩ := H
  intro mes
  induction mes with
  | zero =>
    intro i k w fw x9 m2 hi hk hJ
    obtain ⟨k', rfl⟩ : ∃ k', k = k' + 1 := ⟨k - 1, by omega⟩
    obtain ⟨χ, qs, V, N, j1, j2, j3, j4, j5, ⟨j6, j6'⟩, j7, j8⟩ := id hJ
    have hw1 : pv_wys B fw wb := pv_wys_e (j6 10 (by decide) (by decide) (by decide) (by decide)) (j6 11 (by decide) (by decide) (by decide) (by decide)) (j6 14 (by decide) (by decide) (by decide) (by decide)) (j6 15 (by decide) (by decide) (by decide) (by decide)) hw
    refine ⟨w, fw, x9, m2, ?_, hJ⟩
    show ((fX1_waysTo fw (pu_I b)).bind fun (o_21 : Int32) => (if o_21 ≤ pu_I i then some (w, fw, x9, m2) else _)) = _
    have h120 := hw.2.2.1 (b + 1) (by omega)
    rw [pv_waysTo hB hw1 hb, Option.bind_some, if_pos (by rw [pu_le (by omega) (by omega)]; omega)]
  | succ mes ih =>
    intro i k w fw x9 m2 hi hk hJ
    obtain ⟨k', rfl⟩ : ∃ k', k = k' + 1 := ⟨k - 1, by omega⟩
    obtain ⟨χ, qs, V, N, j1, ⟨j2, j2a, j2b⟩, ⟨j3, j3a, j3b⟩, ⟨j4, j4a⟩, ⟨j5, j5a⟩, ⟨j6, j6'⟩, j7, j8⟩ := hJ
    have hw1 : pv_wys B fw wb := pv_wys_e (j6 10 (by decide) (by decide) (by decide) (by decide)) (j6 11 (by decide) (by decide) (by decide) (by decide)) (j6 14 (by decide) (by decide) (by decide) (by decide)) (j6 15 (by decide) (by decide) (by decide) (by decide)) hw
    have h120 := hw.2.2.1 (b + 1) (by omega)
    obtain ⟨p, p1, p2, p3⟩ := hw.2.2.2.1 b (wb b + i) hb (by omega) (by omega)
    have p3 : pv_eg fw0 p b := p3
    have f15 : fw 15 = fw0 15 := j6 15 (by decide) (by decide) (by decide) (by decide)
    have f19 : fw 19 = fw0 19 := j6 19 (by decide) (by decide) (by decide) (by decide)
    have f21 : fw 21 = fw0 21 := j6 21 (by decide) (by decide) (by decide) (by decide)
    have hfst : pv_fst b (fun _ => ([] : List Nat)) q b = q b := pv_fst_k
    have hchq : pv_ch (fw 20) (fw 6 b) (q b) := by
      have h9 := j6'.1 b hb
      rw [hfst] at h9
      exact h9
    have hsm1 : pv_sm χ B ≤ 1 * B := pv_sm_le j1 B
    have hlenb := hl16 b hb
    have hsmall : N + 2 * (q b).length < 8500 := by omega
    obtain ⟨cs, V', w', fw', x9', m2', new, N', e1, e2, e3, e4, e5, e6, e7, e8⟩ := pa_putCopies (w := w) (x9 := x9) (n2 := m2) (ch := qs) (V := V) (fw := fw) (ph := q) hB hb p1 hn19 hn20 hn21 hM hchq (hqM b hb) (by omega) (fun a ha => by
      obtain ⟨u, u1, u2⟩ := hgv b hb a ha
      exact ⟨u, by omega, by rw [f19]; exact u2⟩) j2 (by omega) hsmall j3a j3b j4 j4a
    have hmvs : pa_mvs fw p (q b) = pa_ml F p b := by
      rw [← hq b hb p p1]
      unfold pa_mvs pa_mv
      rw [f19, f21]
    rw [hmvs] at e2
    have hlen2 : (pa_ml F p b).length ≤ (q b).length := by
      rw [← hmvs]
      unfold pa_mvs
      refine Nat.le_trans (List.length_filter_le _ _) ?_
      rw [List.length_map]
      exact Nat.le_refl _
    have hV' : V' ≤ V + (q b).length ∧ V ≤ V' := by
      refine ⟨?_, pu_pmr_k _ _ _ _ e2⟩
      have h9 := (pa_pm_free cs _ V V' e2 (fun y hy => by
        rw [← hmvs] at hy
        obtain ⟨a, ha, rfl⟩ := List.mem_map.mp (List.mem_filter.mp hy).1
        obtain ⟨u, u1, u2⟩ := hgv b hb a ha
        show nn (fw 19 a) < V
        rw [f19, u2, pu_nn (by omega)]
        omega) (by omega)).1
      omega
    obtain ⟨d1, d2, d3, d4, d5, d6, d7, d8, d9⟩ := e8
    -- the copies that were there stay
    have hold : ∀ c, c < B → ∀ a, a ∈ qs c → pv_S x9' a = pv_S x9 a := fun c hc a ha => by
      have haN := j4a.1 c hc a ha
      unfold pv_S
      rw [d5 2 a (by decide) (by decide) haN, d5 3 a (by decide) (by decide) haN, d5 4 a (by decide) (by decide) haN, d5 5 a (by decide) (by decide) haN]
    have hrow6 : ∀ r, r ≠ 4 → r ≠ 5 → r ≠ 6 → r ≠ 7 → fw' r = fw0 r := fun r r4 r5 r6 r7 => by rw [d6 r r4 r5, j6 r r4 r5 r6 r7]
    have hphc' : pv_phc B fw' (pv_fst b (fun _ => []) q) := by
      unfold pv_phc
      rw [d6 6 (by decide) (by decide), d6 7 (by decide) (by decide), d6 20 (by decide) (by decide)]
      exact j6'
    have hwrow : (∀ r, r ≠ 0 → r ≠ 15 → r ≠ 16 → w' r = w0 r) ∧ (∀ j, j ≠ 8 → w' 0 j = w0 0 j) := ⟨fun r r0 r15 r16 => by rw [e5 r r0 r15 r16, j5 r r0 r15 r16], fun j hj => by rw [e6 j hj, j5a j hj]⟩
    have hKs : ∀ p', p' < B → (pa_K B fw0 wb b (i + 1) p' ↔ pa_K B fw0 wb b i p' ∨ p' = p) := by
      intro p' hp'
      constructor
      · rintro ⟨c, c1, c2, c3⟩
        rcases c3 with c3 | ⟨c3, j, a1, a2, a3⟩
        · exact Or.inl ⟨c, c1, c2, Or.inl c3⟩
        · by_cases e : j = wb b + i
          · right
            rw [e, p2] at a3
            exact (pu_inj (by omega) (by omega) a3).symm
          · exact Or.inl ⟨c, c1, c2, Or.inr ⟨c3, j, a1, by omega, a3⟩⟩
      · rintro (⟨c, c1, c2, c3⟩ | rfl)
        · exact ⟨c, c1, c2, c3.imp id fun ⟨c3, j, a1, a2, a3⟩ => ⟨c3, j, a1, by omega, a3⟩⟩
        · exact ⟨b, hb, p3, Or.inr ⟨rfl, wb b + i, by omega, by omega, p2⟩⟩
    have hJ2 : pa_cpj B V0 N0 F w0 fw0 q wb b (i + 1) w' fw' x9' m2' := by
      rcases h24 p b p1 hb p3 with h22 | h23
      · -- the one way of a block that goes on
        have hχp : χ p = 0 := by
          have h9 := j1 p
          by_cases e : χ p = 1
          · exfalso
            obtain ⟨c, c1, c2, c3⟩ := (j8 p p1 h22).mp e
            have hcb := huq p c b p1 c1 hb h22 c2 p3
            rcases c3 with c3 | ⟨_, j, a1, a2, a3⟩
            · omega
            · exact hw.2.2.2.2.2 b j (wb b + i) hb a1 a2 (by omega) (by rw [a3, p2])
          · omega
        obtain ⟨cs0, s1, s2⟩ := j7 p p1
        have hcs0 : cs0 = [] := by
          rcases s2 with s2 | s2
          · omega
          · exact s2.2
        subst hcs0
        rw [List.append_nil] at s1
        refine ⟨fun z => if z = p then 1 else χ z, pv_up qs p (qs p ++ new), V', N', fun z => ?_, ⟨e3, by omega, ?_⟩, ⟨?_, d1, d2⟩, ⟨d3, d4⟩, hwrow, ⟨hrow6, hphc'⟩, fun p' hp' => ?_, fun p' hp' h22' => ?_⟩
        · by_cases e : z = p
          · simp only [e, if_true]; exact Nat.le_refl 1
          · simp only [e, if_false]; exact j1 z
        · have h9 := pv_sm_up (f := χ) (g := fun z => if z = p then 1 else χ z) (x := p) (d := 1) (fun z hz => if_neg hz) (by simp only [if_true]; omega) B p1
          rw [h9]
          omega
        · have h9 := pv_sm_up (f := χ) (g := fun z => if z = p then 1 else χ z) (x := p) (d := 1) (fun z hz => if_neg hz) (by simp only [if_true]; omega) B p1
          rw [h9]
          omega
        · by_cases e : p' = p
          · subst e
            rw [pv_up_s]
            refine ⟨cs, ?_, Or.inl ⟨by simp only [if_true], h22, b, V, V', hb, p3, e2, j2a, Nat.le_refl _⟩⟩
            rw [List.map_append, d7, ← s1]
            congr 1
            exact List.map_congr_left fun a ha => hold p' p1 a ha
          · rw [pv_up_n e]
            obtain ⟨cs1, t1, t2⟩ := j7 p' hp'
            refine ⟨cs1, ?_, ?_⟩
            · rw [← t1]
              exact List.map_congr_left fun a ha => hold p' hp' a ha
            · simp only [e, if_false]
              rcases t2 with ⟨t2, t3, c, V1, V2, t4, t5, t6, t7, t8⟩ | t2
              · exact Or.inl ⟨t2, t3, c, V1, V2, t4, t5, t6, t7, by omega⟩
              · exact Or.inr t2
        · rw [hKs p' hp']
          by_cases e : p' = p
          · simp only [e, if_true, or_true]
          · simp only [e, if_false, or_false]
            exact j8 p' hp' h22'
      · -- a fork leads to no phis
        have hqb : q b = [] := hnf p b p1 hb h23 p3
        have hml : pa_ml F p b = [] := by
          rw [← hmvs, hqb]; rfl
        rw [hqb, List.length_nil] at hV' e7
        have hcs : cs = [] := by
          cases cs with
          | nil => rfl
          | cons s cs =>
            rw [hml] at e2
            rcases e2 with ⟨a, x, c, h9, _⟩ | ⟨x, c, h9, _⟩
            · exact absurd (congrArg List.length h9) (by rw [List.length_append, List.length_cons]; show (0 : Nat) ≠ _; omega)
            · cases h9
        subst hcs
        have hnew : new = [] := List.map_eq_nil_iff.mp d7
        subst hnew
        have hup : pv_up qs p (qs p ++ []) = qs := pv_up_id (List.append_nil _)
        rw [hup] at d3 d4
        refine ⟨χ, qs, V', N', j1, ⟨e3, by omega, by omega⟩, ⟨by omega, d1, d2⟩, ⟨d3, d4⟩, hwrow, ⟨hrow6, hphc'⟩, fun p' hp' => ?_, fun p' hp' h22' => ?_⟩
        · obtain ⟨cs1, t1, t2⟩ := j7 p' hp'
          refine ⟨cs1, ?_, ?_⟩
          · rw [← t1]
            exact List.map_congr_left fun a ha => hold p' hp' a ha
          · rcases t2 with ⟨t2, t3, c, V1, V2, t4, t5, t6, t7, t8⟩ | t2
            · exact Or.inl ⟨t2, t3, c, V1, V2, t4, t5, t6, t7, by omega⟩
            · exact Or.inr t2
        · rw [hKs p' hp', j8 p' hp' h22']
          refine ⟨Or.inl, fun h => h.elim id fun e => ?_⟩
          rw [e, h23] at h22'
          exact absurd h22' (by decide)
    obtain ⟨w9, fw9, x99, m29, r1, r2⟩ := ih (i + 1) k' w' fw' x9' m2' (by omega) (by omega) hJ2
    refine ⟨w9, fw9, x99, m29, ?_, by rw [show i + (mes + 1) = i + 1 + mes by omega]; exact r2⟩
    show ((fX1_waysTo fw (pu_I b)).bind fun (o_21 : Int32) => (if o_21 ≤ pu_I i then some (w, fw, x9, m2) else ((fX1_wayFrom fw (pu_I b) (pu_I i)).bind fun (o_24 : Int32) => ((fX0_putCopies w (pu_I b) o_24 (o1.2.1) fw m2 x9).bind fun (o_26 : ST × ST × ST × (Nat → Nat)) => (fX0_makeFunction_G60_37 (fX0_makeFunction_L34 o1 (pu_I b) k') (pu_I i) o_26))))) = _
    rw [pv_waysTo hB hw1 hb, Option.bind_some, if_neg (by rw [pu_le (by omega) (by omega)]; omega), pv_wayFrom hB hw1 hb (by omega), Option.bind_some, f15, p2, ho, e1, Option.bind_some]
    unfold fX0_makeFunction_G60_37
    rw [pu_su]
    exact r1
/-- all blocks -/
theorem pa_21 (H : pa_cph B M V0 N0 n F fw0 q wb) {o1 : ST × (Nat → Nat) × ST × (Nat → Nat)} (ho : o1.2.1 = n) :
    ∀ (mes b k : Nat) (w fw x9 : ST) (m2 : Nat → Nat), b + mes = B → mes < k → pa_cpj B V0 N0 F w0 fw0 q wb b 0 w fw x9 m2 →
      ∃ w' fw' x9' m2', fX0_makeFunction_L21 o1 k (pu_I b) w fw x9 m2 = some (w', fw', x9', m2') ∧ pa_cpj B V0 N0 F w0 fw0 q wb B 0 w' fw' x9' m2' := by
  have hB := H.1
  have hw := H.2.2.2.2.2.2.2.2.1
  have hfw0 := H.2.2.2.2.2.2.2.2.2.2.2
  intro mes
  induction mes with
  | zero =>
    intro b k w fw x9 m2 hb hk hJ
    obtain ⟨k', rfl⟩ : ∃ k', k = k' + 1 := ⟨k - 1, by omega⟩
    obtain rfl : b = B := by omega
    refine ⟨w, fw, x9, m2, ?_, hJ⟩
    obtain ⟨χ, qs, V, N, j1, j2, j3, j4, j5, ⟨j6, j6'⟩, j7, j8⟩ := hJ
    show (if (fw 0 0) ≤ pu_I b then some (w, fw, x9, m2) else _) = _
    rw [j6 0 (by decide) (by decide) (by decide) (by decide), hfw0, if_pos (Int32.le_refl _)]
  | succ mes ih =>
    intro b k w fw x9 m2 hb hk hJ
    obtain ⟨k', rfl⟩ : ∃ k', k = k' + 1 := ⟨k - 1, by omega⟩
    have hbB : b < B := by omega
    have hm := hw.2.1 b hbB
    have hf0 : fw 0 0 = pu_I B := by
      obtain ⟨χ, qs, V, N, j1, j2, j3, j4, j5, ⟨j6, j6'⟩, j7, j8⟩ := hJ
      rw [j6 0 (by decide) (by decide) (by decide) (by decide), hfw0]
    obtain ⟨w1, fw1, x1, m1, e1, e2⟩ := pa_34 (w0 := w0) H hbB ho (wb (b + 1) - wb b) 0 NF w fw x9 m2 (by omega) (by have := hw.2.2.1 (b + 1) (by omega); have := pv_NF; omega) hJ
    rw [Nat.zero_add] at e2
    obtain ⟨χ, qs, V, N, j1, j2, j3, ⟨j4, j4a⟩, j5, ⟨j6, j6'⟩, j7, j8⟩ := e2
    obtain ⟨fw2, t1, t2, t3, t4⟩ := pv_takePhis hB hbB j6'
    have hst2 : pv_stc B fw2 x1 qs := by
      unfold pv_stc
      rw [t3 4 (by decide) (by decide), t3 5 (by decide) (by decide)]
      exact j4
    have hf1 : pv_up (pv_fst b (fun _ => ([] : List Nat)) q) b [] = pv_fst (b + 1) (fun _ => []) q := pv_fst_su
    rw [hf1] at t2
    have hJ2 : pa_cpj B V0 N0 F w0 fw0 q wb (b + 1) 0 w1 fw2 x1 m1 := by
      refine ⟨χ, qs, V, N, j1, j2, j3, ⟨hst2, j4a⟩, j5, ⟨fun r r4 r5 r6 r7 => by rw [t3 r r6 r7, j6 r r4 r5 r6 r7], t2⟩, j7, fun p hp h22 => ?_⟩
      rw [j8 p hp h22]
      constructor
      · rintro ⟨c, c1, c2, c3⟩
        exact ⟨c, c1, c2, Or.inl (by rcases c3 with c3 | c3 <;> omega)⟩
      · rintro ⟨c, c1, c2, c3⟩
        rcases c3 with c3 | ⟨_, j, a1, a2, _⟩
        · by_cases e : c = b
          · subst e
            obtain ⟨j, a1, a2, a3⟩ := hw.2.2.2.2.1 c p c1 hp c2
            exact ⟨c, c1, c2, Or.inr ⟨rfl, j, a1, by omega, a3⟩⟩
          · exact ⟨c, c1, c2, Or.inl (by omega)⟩
        · omega
    obtain ⟨w', fw', x9', m2', r1, r2⟩ := ih (b + 1) k' w1 fw2 x1 m1 (by omega) (by omega) hJ2
    refine ⟨w', fw', x9', m2', ?_, r2⟩
    show (if (fw 0 0) ≤ pu_I b then some (w, fw, x9, m2) else ((fX0_makeFunction_L34 o1 (pu_I b) NF 0 w fw x9 m2).bind fun (o34 : ST × ST × ST × (Nat → Nat)) => (fX0_makeFunction_G66_38 (fX0_makeFunction_L21 o1 k') (pu_I b) o34))) = _
    have e1 : fX0_makeFunction_L34 o1 (pu_I b) NF 0 w fw x9 m2 = some (w1, fw1, x1, m1) := e1
    rw [hf0, if_neg (by rw [pu_le (by omega) (by omega)]; omega), e1, Option.bind_some]
    unfold fX0_makeFunction_G66_38
    rw [t1, Option.bind_some, pu_su]
    exact r1
end CPJ
