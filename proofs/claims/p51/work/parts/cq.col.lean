/-! pure side, the graph 20: colours -/
theorem pg_sm_ad2 {f g : Nat → Nat} : ∀ k, pv_sm (fun i => f i + g i) k = pv_sm f k + pv_sm g k := by
  intro k
  induction k with
  | zero => rfl
  | succ k ih =>
    show pv_sm (fun i => f i + g i) k + (f k + g k) = (pv_sm f k + f k) + (pv_sm g k + g k)
    rw [ih]
    omega
theorem pg_sm_x {f g : Nat → Nat} {x k : Nat} (hx : x < k) (h : ∀ i, i < k → f i + (if i = x then 1 else 0) ≤ g i) : pv_sm f k + 1 ≤ pv_sm g k := by
  have h1 := pg_sm_mono k h
  rw [pg_sm_ad2, pg_sm_1, if_pos hx] at h1
  exact h1
theorem pg_sm_mem : ∀ (os : List Nat) (k : Nat), pv_sm (fun v => if v ∈ os then 1 else 0) k ≤ os.length := by
  intro os
  induction os with
  | nil =>
    intro k
    have h := pg_sm_mono (f := fun v => if v ∈ ([] : List Nat) then 1 else 0) (g := fun _ => 0) k (fun i _ => by show (if i ∈ ([] : List Nat) then 1 else 0) ≤ 0; rw [if_neg (by intro h; cases h)]; exact Nat.le_refl 0)
    have h2 := pv_sm_le (f := fun _ => 0) (c := 0) (fun _ => Nat.le_refl 0) k
    show _ ≤ 0
    omega
  | cons a os ih =>
    intro k
    have h := pg_sm_mono (f := fun v => if v ∈ a :: os then 1 else 0) (g := fun v => (if v ∈ os then 1 else 0) + (if v = a then 1 else 0)) k (fun i _ => by
      show (if i ∈ a :: os then 1 else 0) ≤ (if i ∈ os then 1 else 0) + (if i = a then 1 else 0)
      by_cases e : i = a
      · rw [if_pos e]
        have := pg_if1 (i ∈ a :: os)
        omega
      · by_cases e2 : i ∈ os
        · rw [if_pos e2]
          have := pg_if1 (i ∈ a :: os)
          omega
        · rw [if_neg (fun h => (List.mem_cons.mp h).elim e e2)]
          omega)
    rw [pg_sm_ad2, pg_sm_1] at h
    have := ih k
    have := pg_if1 (a < k)
    show _ ≤ os.length + 1
    omega
/-- as many as there are keys -/
theorem pg_keys {V : Nat} {p : Nat → Prop} [DecidablePred p] {key : Nat → Int32} : ∀ K, K ≤ 8 → (∀ r, r < K → ∃ u, u < V ∧ p u ∧ key u = pu_I r) → K ≤ pv_sm (fun u => if p u ∧ key u < pu_I K ∧ ¬ key u < 0 then 1 else 0) V := by
  intro K
  induction K with
  | zero => intro _ _; exact Nat.zero_le _
  | succ K ih =>
    intro hK h
    have h1 := ih (by omega) fun r hr => h r (by omega)
    obtain ⟨u, hu, hp, hk⟩ := h K (Nat.lt_succ_self K)
    have h2 := pg_sm_x (f := fun u => if p u ∧ key u < pu_I K ∧ ¬ key u < 0 then 1 else 0) (g := fun u => if p u ∧ key u < pu_I (K + 1) ∧ ¬ key u < 0 then 1 else 0) hu (fun i hi => by
      show (if p i ∧ key i < pu_I K ∧ ¬ key i < 0 then 1 else 0) + (if i = u then 1 else 0) ≤ (if p i ∧ key i < pu_I (K + 1) ∧ ¬ key i < 0 then 1 else 0)
      by_cases e : i = u
      · rw [e, if_neg (fun h => by have := h.2.1; rw [hk] at this; have := (pu_lt (by omega) (by omega)).mp this; omega), if_pos rfl, if_pos ⟨hp, by rw [hk]; exact (pu_lt (by omega) (by omega)).mpr (Nat.lt_succ_self K), by rw [hk]; exact pu_ge (by omega)⟩]
        exact Nat.le_refl _
      · rw [if_neg e]
        by_cases e2 : p i ∧ key i < pu_I K ∧ ¬ key i < 0
        · rw [if_pos e2, if_pos ⟨e2.1, Int32.lt_trans e2.2.1 ((pu_lt (by omega) (by omega)).mpr (Nat.lt_succ_self K)), e2.2.2⟩]
          exact Nat.le_refl _
        · rw [if_neg e2]
          exact Nat.zero_le _)
    omega
section COL
variable {n : Nat → Nat} {w : ST} {l : SL} {V H wd : Nat} {ct : Nat → Nat}
/-- neighbours that aren't taken yet -/
def pg_unt (w : ST) (l : SL) (H V wd : Nat) (ct : Nat → Nat) (os : List Nat) (v : Nat) : Nat := pv_sm (fun u => if pg_ad w l H wd v u = true ∧ ct u ≠ 0 ∧ u ∉ os then 1 else 0) V
theorem pg_unt_c {os : List Nat} {c v : Nat} (hc : c < V) (hg : ct c ≠ 0) (hos : c ∉ os) (ha : pg_ad w l H wd v c = true) : pg_unt w l H V wd ct (os ++ [c]) v + 1 ≤ pg_unt w l H V wd ct os v := by
  refine pg_sm_x hc fun i hi => ?_
  by_cases e : i = c
  · rw [e, if_neg (fun h => h.2.2 (List.mem_append_right _ List.mem_cons_self)), if_pos rfl, if_pos ⟨ha, hg, hos⟩]
    exact Nat.le_refl _
  · rw [if_neg e]
    by_cases e2 : pg_ad w l H wd v i = true ∧ ct i ≠ 0 ∧ i ∉ os
    · rw [if_pos e2]
      exact pg_if1 _
    · rw [if_neg (fun h => e2 ⟨h.1, h.2.1, fun q => h.2.2 (List.mem_append_left _ q)⟩)]
      exact Nat.zero_le _
theorem pg_unt_n {os : List Nat} {c v : Nat} : pg_unt w l H V wd ct (os ++ [c]) v ≤ pg_unt w l H V wd ct os v := by
  refine pg_sm_mono V fun i hi => ?_
  by_cases e2 : pg_ad w l H wd v i = true ∧ ct i ≠ 0 ∧ i ∉ os
  · rw [if_pos e2]
    exact pg_if1 _
  · rw [if_neg (fun h => e2 ⟨h.1, h.2.1, fun q => h.2.2 (List.mem_append_left _ q)⟩)]
    exact Nat.zero_le _
/-- what stands when some are taken away -/
def pg_tk (w : ST) (l : SL) (H V wd K : Nat) (ct : Nat → Nat) (os : List Nat) (s : ST) : Prop :=
  os.Nodup ∧ (∀ v, v ∈ os → v < V ∧ ct v ≠ 0) ∧ (∀ r, r ≠ 18 → r ≠ 19 → s r = w r) ∧ (∀ o1 c o2, os = o1 ++ c :: o2 → s 19 o1.length = pu_I c) ∧
  (∀ v, v < V → (v ∈ os ∨ ct v = 0) → s 18 v = -1) ∧ (∀ v, v < V → v ∉ os → ct v ≠ 0 → ∃ k, s 18 v = pu_I k ∧ k < 1000000 ∧ pg_unt w l H V wd ct os v ≤ k) ∧
  (∀ o1 g o2, os = o1 ++ g :: o2 → H ≤ g → pg_unt w l H V wd ct o1 g < K)
theorem pg_tk_s (hsh : pg_shp n w l H V wd) (hsym : ∀ v u, v < V → u < V → pg_ad w l H wd v u = true → pg_ad w l H wd u v = true) {K : Nat} (hK2 : 2 ≤ K) (hK : K ≤ 8) {os : List Nat} {s : ST} (hT : pg_tk w l H V wd K ct os s) (hlt : os.length < pv_sm (fun v => if ct v ≠ 0 then 1 else 0) V) (hlV : os.length < V) :
    ∃ c s', fX2_nextToTake n s l (pu_I K) = some (pu_I c) ∧ c < V ∧ fX2_takeAway n (upw s 19 os.length (pu_I c)) l (pu_I c) = some s' ∧ pg_tk w l H V wd K ct (os ++ [c]) s' := by
  obtain ⟨t1, t2, t3, t4, t5, t6, t7⟩ := hT
  obtain ⟨⟨a0, a1, a2⟩, ⟨b1, b2, b3, b4⟩, ⟨c1, c2⟩, ⟨d12, d13, d14, d15, d16, d17, d18, d19⟩, hcol, hmt⟩ := id hsh
  have hshp : ∀ x : ST, (∀ r, r ≠ 18 → r ≠ 19 → x r = w r) → pg_shp n x l H V wd := fun x hx => by
    unfold pg_shp pg_in
    rw [hx 0 (by decide) (by decide), hx 12 (by decide) (by decide)]
    exact hsh
  have hadx : ∀ x : ST, (∀ r, r ≠ 18 → r ≠ 19 → x r = w r) → ∀ v u, pg_ad x l H wd v u = pg_ad w l H wd v u := fun x hx v u => by
    unfold pg_ad
    rw [hx 12 (by decide) (by decide)]
  have hex : ∃ u, u < V ∧ s 18 u ≠ -1 := by
    refine Classical.byContradiction fun hno => ?_
    have h1 := pg_sm_mono (f := fun v => if ct v ≠ 0 then 1 else 0) (g := fun v => if v ∈ os then 1 else 0) V (fun i hi => by
      show (if ct i ≠ 0 then 1 else 0) ≤ (if i ∈ os then 1 else 0)
      by_cases e : ct i ≠ 0
      · have : i ∈ os := by
          refine Classical.byContradiction fun hni => hno ⟨i, hi, ?_⟩
          obtain ⟨k, k1, k2, _⟩ := t6 i hi hni e
          rw [k1]
          exact pg_In1 (by omega)
        rw [if_pos this]
        exact pg_if1 _
      · rw [if_neg e]
        exact Nat.zero_le _)
    have h2 := pg_sm_mem os V
    omega
  obtain ⟨c, hc, n1, n2, n3⟩ := pg_nextToTake (hshp s t3) (pu_I K) hex
  have hco : c ∉ os := fun h => n2 (t5 c hc (Or.inl h))
  have hcg : ct c ≠ 0 := fun h => n2 (t5 c hc (Or.inr h))
  obtain ⟨s1, hs1⟩ : ∃ s1, s1 = upw s 19 os.length (pu_I c) := ⟨_, rfl⟩
  have hs1r : ∀ r, r ≠ 19 → s1 r = s r := fun r hr => by rw [hs1, pv_upw_n hr]
  have hs1w : ∀ r, r ≠ 18 → r ≠ 19 → s1 r = w r := fun r h1 h2 => by rw [hs1r r h2, t3 r h1 h2]
  obtain ⟨s', e1, e2, e3, e4⟩ := pg_takeAway (hshp s1 hs1w) hc
  refine ⟨c, s', n1, hc, by rw [← hs1]; exact e1, List.nodup_append.mpr ⟨t1, pg_nd1 c, fun x hx y hy e => hco (by rw [← List.mem_singleton.mp hy, ← e]; exact hx)⟩, fun v hv => ?_, fun r h1 h2 => by rw [e2 r h1, hs1w r h1 h2], fun o1 c' o2 ho => ?_, fun v hv h => ?_, fun v hv hno hg => ?_, fun o1 g o2 ho hg => ?_⟩
  · rcases List.mem_append.mp hv with hv | hv
    · exact t2 v hv
    · rw [List.mem_singleton.mp hv]; exact ⟨hc, hcg⟩
  · rw [e2 19 (by decide)]
    rcases List.eq_nil_or_concat o2 with rfl | ⟨o3, x, rfl⟩
    · have h9 := List.append_inj' ho rfl
      rw [← h9.1, hs1, pv_upw, if_pos ⟨rfl, rfl⟩]
      have := List.singleton_inj.mp h9.2
      rw [this]
    · rw [List.concat_eq_append] at ho
      have h9 := List.append_inj' (s₁ := os) (s₂ := o1 ++ c' :: o3) (t₁ := [c]) (t₂ := [x]) (by rw [ho]; simp) rfl
      have hl : o1.length ≠ os.length := by rw [h9.1]; simp
      rw [hs1, pv_upw, if_neg (fun q => hl q.2)]
      exact t4 o1 c' o3 h9.1
  · by_cases e : v = c
    · rw [e]; exact e3
    · have h8 : s1 18 v = -1 := by
        rw [hs1r 18 (by decide)]
        rcases h with h | h
        · rcases List.mem_append.mp h with h | h
          · exact t5 v hv (Or.inl h)
          · exact absurd (List.mem_singleton.mp h) e
        · exact t5 v hv (Or.inr h)
      rw [e4 v hv e, if_neg (fun q => q.2 h8)]
      exact h8
  · have hvo : v ∉ os := fun h => hno (List.mem_append_left _ h)
    have hvc : v ≠ c := fun h => hno (by rw [h]; exact List.mem_append_right _ List.mem_cons_self)
    obtain ⟨k, k1, k2, k3⟩ := t6 v hv hvo hg
    have h8 : s1 18 v = pu_I k := by rw [hs1r 18 (by decide)]; exact k1
    rw [e4 v hv hvc, h8, hadx s1 hs1w]
    by_cases e : pg_ad w l H wd c v = true
    · have h7 := pg_unt_c (V := V) hc hcg hco (hsym c v hc hv e)
      rw [if_pos ⟨e, pg_In1 (by omega)⟩]
      refine ⟨k - 1, ?_, by omega, by omega⟩
      obtain ⟨k', rfl⟩ : ∃ k', k = k' + 1 := ⟨k - 1, by omega⟩
      rw [← pu_su, Nat.add_sub_cancel]
      exact Int32.add_sub_cancel _ _
    · rw [if_neg (fun q => e q.1)]
      exact ⟨k, rfl, k2, Nat.le_trans pg_unt_n k3⟩
  · rcases List.eq_nil_or_concat o2 with rfl | ⟨o3, x, rfl⟩
    · have h9 := List.append_inj' ho rfl
      have h8 := List.singleton_inj.mp h9.2
      rw [← h9.1, ← h8]
      rw [← h8] at hg
      rcases n3 with q | q | q
      · obtain ⟨k, k1, k2, k3⟩ := t6 c hc hco hcg
        rw [k1] at q
        have := (pu_lt (by omega) (by omega)).mp q
        omega
      · omega
      · have h7 : pg_unt w l H V wd ct os c ≤ 1 := by
          rcases hmt c hc with q2 | ⟨_, u0, ⟨u1, u2⟩, u3, u4, u5⟩
          · have h6 := pg_sm_mono (f := fun u => if pg_ad w l H wd c u = true ∧ ct u ≠ 0 ∧ u ∉ os then 1 else 0) (g := fun u => if u = V then 1 else 0) V (fun i hi => by
              show (if pg_ad w l H wd c i = true ∧ ct i ≠ 0 ∧ i ∉ os then 1 else 0) ≤ (if i = V then 1 else 0)
              rw [if_neg]
              · exact Nat.zero_le _
              · rintro ⟨p1, p2, p3⟩
                by_cases e : i < H
                · obtain ⟨k, k1, k2, _⟩ := t6 i hi p3 p2
                  rw [q i e] at k1
                  exact pg_In1 (by omega) k1.symm
                · unfold pg_ad at p1
                  rw [if_neg e, if_neg (by omega), q2] at p1
                  exact pg_In1 (by omega) (of_decide_eq_true p1).symm)
            rw [pg_sm_1, if_neg (Nat.lt_irrefl V)] at h6
            exact Nat.le_trans h6 (Nat.zero_le _)
          · have h6 := pg_sm_mono (f := fun u => if pg_ad w l H wd c u = true ∧ ct u ≠ 0 ∧ u ∉ os then 1 else 0) (g := fun u => if u = u0 then 1 else 0) V (fun i hi => by
              show (if pg_ad w l H wd c i = true ∧ ct i ≠ 0 ∧ i ∉ os then 1 else 0) ≤ (if i = u0 then 1 else 0)
              by_cases e0 : i = u0
              · rw [if_pos e0]; exact pg_if1 _
              rw [if_neg]
              · exact Nat.zero_le _
              · rintro ⟨p1, p2, p3⟩
                by_cases e : i < H
                · obtain ⟨k, k1, k2, _⟩ := t6 i hi p3 p2
                  rw [q i e] at k1
                  exact pg_In1 (by omega) k1.symm
                · unfold pg_ad at p1
                  rw [if_neg e, if_neg (by omega), u4] at p1
                  exact e0 (pu_inj (by omega) (by omega) (of_decide_eq_true p1)).symm)
            rw [pg_sm_1, if_pos u2] at h6
            exact h6
        omega
    · rw [List.concat_eq_append] at ho
      have h9 := List.append_inj' (s₁ := os) (s₂ := o1 ++ g :: o3) (t₁ := [c]) (t₂ := [x]) (by rw [ho]; simp) rfl
      exact t7 o1 g o3 h9.1 hg
end COL
