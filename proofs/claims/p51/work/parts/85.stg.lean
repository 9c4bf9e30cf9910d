/-! pure side, stores 16: who stands in for whom -/
def pv_so (g : ST) : Nat → Int32 → Int32
  | 0, v => v
  | k + 1, v => if g 6 (nn v) < 0 then v else pv_so g k (g 6 (nn v))
def pv_sn (g : ST) : Nat := ((List.range 250).filter (fun v => !decide (g 6 v < 0))).length
def pv_skr (g : ST) (rk : Nat → Nat) (c : Nat) : Prop :=
  ∀ v, v < 250 → rk v ≤ c ∧ (g 6 v < 0 → rk v = 0) ∧ (¬ g 6 v < 0 → ixb (g 6 v) 250 = true ∧ rk (nn (g 6 v)) + 1 = rk v)
def pv_sk (g : ST) : Prop := ∃ rk, pv_skr g rk (pv_sn g)
theorem pv_sn_le (g : ST) : pv_sn g ≤ 250 := by
  unfold pv_sn
  have := List.length_filter_le (fun v => !decide (g 6 v < 0)) (List.range 250)
  rw [List.length_range] at this
  exact this
theorem pv_so_0 {g : ST} {v : Int32} (h : g 6 (nn v) < 0) : ∀ k, pv_so g k v = v := by
  intro k
  cases k with
  | zero => rfl
  | succ k => exact if_pos h
theorem pv_so_root {g : ST} {rk : Nat → Nat} {c : Nat} (h : pv_skr g rk c) : ∀ (k : Nat) (v : Int32), ixb v 250 = true → rk (nn v) ≤ k → ixb (pv_so g k v) 250 = true ∧ g 6 (nn (pv_so g k v)) < 0 := by
  intro k
  induction k with
  | zero =>
    intro v hv hk
    have h1 := h _ (pv_ixn hv).2
    by_cases h0 : g 6 (nn v) < 0
    · exact ⟨hv, h0⟩
    · have := (h1.2.2 h0).2
      omega
  | succ k ih =>
    intro v hv hk
    have h1 := h _ (pv_ixn hv).2
    show ixb (if g 6 (nn v) < 0 then v else pv_so g k (g 6 (nn v))) 250 = true ∧ g 6 (nn (if g 6 (nn v) < 0 then v else pv_so g k (g 6 (nn v)))) < 0
    by_cases h0 : g 6 (nn v) < 0
    · rw [if_pos h0]; exact ⟨hv, h0⟩
    · rw [if_neg h0]
      have h2 := h1.2.2 h0
      exact ih _ h2.1 (by omega)
theorem pv_so_fuel {g : ST} {rk : Nat → Nat} {c : Nat} (h : pv_skr g rk c) : ∀ (k k' : Nat) (v : Int32), ixb v 250 = true → rk (nn v) ≤ k → rk (nn v) ≤ k' → pv_so g k v = pv_so g k' v := by
  intro k
  induction k with
  | zero =>
    intro k' v hv hk _
    have h1 := h _ (pv_ixn hv).2
    by_cases h0 : g 6 (nn v) < 0
    · rw [pv_so_0 h0, pv_so_0 h0]
    · have := (h1.2.2 h0).2
      omega
  | succ k ih =>
    intro k' v hv hk hk'
    have h1 := h _ (pv_ixn hv).2
    by_cases h0 : g 6 (nn v) < 0
    · rw [pv_so_0 h0, pv_so_0 h0]
    · have h2 := h1.2.2 h0
      obtain ⟨k2, rfl⟩ : ∃ k2, k' = k2 + 1 := ⟨k' - 1, by omega⟩
      show (if g 6 (nn v) < 0 then v else pv_so g k (g 6 (nn v))) = (if g 6 (nn v) < 0 then v else pv_so g k2 (g 6 (nn v)))
      rw [if_neg h0, if_neg h0]
      exact ih k2 _ h2.1 (by omega) (by omega)
/-- the value that stands -/
def pv_sg (g : ST) (v : Int32) : Int32 := pv_so g 250 v
theorem pv_sg_root {g : ST} (h : pv_sk g) {v : Int32} (hv : ixb v 250 = true) : ixb (pv_sg g v) 250 = true ∧ g 6 (nn (pv_sg g v)) < 0 := by
  obtain ⟨rk, h⟩ := h
  exact pv_so_root h 250 v hv (Nat.le_trans (h _ (pv_ixn hv).2).1 (pv_sn_le g))
theorem pv_sg_0 {g : ST} {v : Int32} (h : g 6 (nn v) < 0) : pv_sg g v = v := pv_so_0 h 250
theorem pv_sg_s {g : ST} (h : pv_sk g) {v : Int32} (hv : ixb v 250 = true) (h0 : ¬ g 6 (nn v) < 0) : ixb (g 6 (nn v)) 250 = true ∧ pv_sg g v = pv_sg g (g 6 (nn v)) := by
  obtain ⟨rk, h⟩ := h
  have h1 := h _ (pv_ixn hv).2
  have h2 := h1.2.2 h0
  have hle := pv_sn_le g
  refine ⟨h2.1, ?_⟩
  show (if g 6 (nn v) < 0 then v else pv_so g 249 (g 6 (nn v))) = pv_so g 250 (g 6 (nn v))
  rw [if_neg h0]
  exact pv_so_fuel h 249 250 _ h2.1 (by omega) (by omega)
theorem pv_sg_i {g : ST} (h : pv_sk g) {v : Int32} (hv : ixb v 250 = true) : pv_sg g (pv_sg g v) = pv_sg g v := pv_sg_0 (pv_sg_root h hv).2
theorem pv_standInOf {g : ST} (h : pv_sk g) {v : Int32} (hv : ixb v 250 = true) : fX5_standInOf g v = some (pv_sg g v) := by
  obtain ⟨rk, h⟩ := h
  have hL : ∀ (m k : Nat) (v : Int32) (j : Nat), j + m = 250 → m < k → ixb v 250 = true → fX5_standInOf_L4 g k v (pu_I j) = some (pv_so g m v) := by
    intro m
    induction m with
    | zero =>
      intro k v j hj hk hv
      obtain ⟨k', rfl⟩ : ∃ k', k = k' + 1 := ⟨k - 1, by omega⟩
      have : j = 250 := by omega
      subst this
      rfl
    | succ m ih =>
      intro k v j hj hk hv
      obtain ⟨k', rfl⟩ : ∃ k', k = k' + 1 := ⟨k - 1, by omega⟩
      show (if (250 : Int32) ≤ pu_I j then some v else (if ixb v 250 = true then (if (g 6 (nn v)) < 0 then some v else (if ixb v 250 = true then ((fX5_standInOf_L4 g k') (g 6 (nn v)) (pu_I j + 1)) else none)) else none)) = some (if g 6 (nn v) < 0 then v else pv_so g m (g 6 (nn v)))
      rw [show (250 : Int32) = pu_I 250 from rfl, if_neg (by rw [pu_le (by decide) (by omega)]; omega), if_pos hv, if_pos hv]
      by_cases h0 : g 6 (nn v) < 0
      · rw [if_pos h0, if_pos h0]
      · rw [if_neg h0, if_neg h0, pu_su]
        exact ih k' _ (j + 1) (by omega) (by omega) ((h _ (pv_ixn hv).2).2.2 h0).1
  unfold fX5_standInOf
  have h1 : fX5_standInOf_L4 g NF v 0 = some (pv_so g 250 v) := hL 250 NF v 0 (by decide) (by have := pv_NF; omega) hv
  rw [h1]
  rfl
theorem pv_sk_0 {g : ST} (h : ∀ v, v < 250 → g 6 v < 0) : pv_sk g :=
  ⟨fun _ => 0, fun v hv => ⟨Nat.zero_le _, fun _ => rfl, fun c => absurd (h v hv) c⟩⟩
theorem pv_sg_e {g g' : ST} (h : ∀ v, g' 6 v = g 6 v) (v : Int32) : pv_sg g' v = pv_sg g v := by
  have : ∀ (k : Nat) (v : Int32), pv_so g' k v = pv_so g k v := by
    intro k
    induction k with
    | zero => intro v; rfl
    | succ k ih =>
      intro v
      show (if g' 6 (nn v) < 0 then v else pv_so g' k (g' 6 (nn v))) = (if g 6 (nn v) < 0 then v else pv_so g k (g 6 (nn v)))
      rw [h, ih]
  exact this 250 v
theorem pv_sk_e {g g' : ST} (h : ∀ v, g' 6 v = g 6 v) (hk : pv_sk g) : pv_sk g' := by
  obtain ⟨rk, hk⟩ := hk
  have hn : pv_sn g' = pv_sn g := by unfold pv_sn; simp only [h]
  refine ⟨rk, fun v hv => ?_⟩
  rw [hn, h]
  exact hk v hv
/-- one more stands in for a value -/
theorem pv_sk_set {g : ST} (hk : pv_sk g) {v x : Int32} (hv : ixb v 250 = true) (hx : ixb x 250 = true) (hrv : g 6 (nn v) < 0) (hrx : g 6 (nn x) < 0) (hne : x ≠ v) :
    pv_sk (upw g 6 (nn v) x) ∧ ∀ u, ixb u 250 = true → pv_sg (upw g 6 (nn v) x) u = if pv_sg g u = v then x else pv_sg g u := by
  have hk0 := hk
  obtain ⟨rk, hk⟩ := hk
  have hx0 := (pv_ixn hx).1
  have hv0 := (pv_ixn hv).1
  have hnx : nn x ≠ nn v := fun e => hne (pv_nn_inj hx0 hv0 e)
  have hup : ∀ u, upw g 6 (nn v) x 6 u = if u = nn v then x else g 6 u := by
    intro u
    rw [pv_upw]
    by_cases h : u = nn v
    · rw [if_pos ⟨rfl, h⟩, if_pos h]
    · rw [if_neg (fun c => h c.2), if_neg h]
  have hlt : pv_sn g < pv_sn (upw g 6 (nn v) x) := by
    refine pv_flt_lt _ (fun u _ hu => ?_) ⟨nn v, List.mem_range.mpr (pv_ixn hv).2, ?_, ?_⟩
    · rw [hup]
      by_cases h : u = nn v
      · rw [if_pos h]; simpa using hx0
      · rw [if_neg h]; exact hu
    · rw [hup, if_pos rfl]; simpa using hx0
    · simpa using hrv
  have hsk : pv_sk (upw g 6 (nn v) x) := by
    refine ⟨fun u => rk u + (if pv_sg g (pu_I u) = v then 1 else 0), fun u hu => ?_⟩
    have h1 := hk u hu
    have hux : ixb (pu_I u) 250 = true := (pu_ix (by omega)).mpr hu
    have hun : nn (pu_I u) = u := pu_nn (by omega)
    refine ⟨?_, fun h0 => ?_, fun h0 => ?_⟩
    · have h9 : (if pv_sg g (pu_I u) = v then 1 else 0) ≤ 1 := by
        by_cases h : pv_sg g (pu_I u) = v
        · rw [if_pos h]; exact Nat.le_refl _
        · rw [if_neg h]; exact Nat.zero_le _
      have := h1.1
      show rk u + (if pv_sg g (pu_I u) = v then 1 else 0) ≤ _
      omega
    · show rk u + (if pv_sg g (pu_I u) = v then 1 else 0) = 0
      rw [hup] at h0
      by_cases h : u = nn v
      · rw [if_pos h] at h0; exact absurd h0 hx0
      · rw [if_neg h] at h0
        have hs : pv_sg g (pu_I u) = pu_I u := pv_sg_0 (by rw [hun]; exact h0)
        rw [h1.2.1 h0, hs, if_neg fun e => h (by rw [← e, hun])]
    · rw [hup] at h0 ⊢
      by_cases h : u = nn v
      · rw [if_pos h] at h0 ⊢
        refine ⟨hx, ?_⟩
        have e1 : pv_sg g (pu_I (nn x)) = x := by rw [← pu_of hx0]; exact pv_sg_0 hrx
        have e2 : pv_sg g (pu_I u) = v := by rw [h, ← pu_of hv0]; exact pv_sg_0 hrv
        show rk (nn x) + (if pv_sg g (pu_I (nn x)) = v then 1 else 0) + 1 = rk u + (if pv_sg g (pu_I u) = v then 1 else 0)
        rw [e1, e2, if_neg hne, if_pos rfl, (hk _ (pv_ixn hx).2).2.1 hrx, h, (hk _ (pv_ixn hv).2).2.1 hrv]
      · rw [if_neg h] at h0 ⊢
        have h2 := h1.2.2 h0
        refine ⟨h2.1, ?_⟩
        have hs := (pv_sg_s hk0 hux (by rw [hun]; exact h0)).2
        rw [hun] at hs
        show rk (nn (g 6 u)) + (if pv_sg g (pu_I (nn (g 6 u))) = v then 1 else 0) + 1 = rk u + (if pv_sg g (pu_I u) = v then 1 else 0)
        rw [← pu_of (pv_ixn h2.1).1, hs]
        omega
  refine ⟨hsk, ?_⟩
  have key : ∀ (n : Nat) (u : Int32), ixb u 250 = true → rk (nn u) ≤ n → pv_sg (upw g 6 (nn v) x) u = if pv_sg g u = v then x else pv_sg g u := by
    intro n
    induction n with
    | zero =>
      intro u hu hn
      have h1 := hk _ (pv_ixn hu).2
      have hru : g 6 (nn u) < 0 := by
        by_cases h0 : g 6 (nn u) < 0
        · exact h0
        · have := (h1.2.2 h0).2
          omega
      rw [pv_sg_0 hru]
      by_cases h : u = v
      · subst h
        rw [if_pos rfl]
        have h3 := (pv_sg_s hsk hu (by rw [hup, if_pos rfl]; exact hx0)).2
        rw [h3, hup, if_pos rfl]
        exact pv_sg_0 (by rw [hup, if_neg hnx]; exact hrx)
      · rw [if_neg h]
        exact pv_sg_0 (by rw [hup, if_neg fun e => h (pv_nn_inj (pv_ixn hu).1 hv0 e)]; exact hru)
    | succ n ih =>
      intro u hu hn
      have h1 := hk _ (pv_ixn hu).2
      by_cases h0 : g 6 (nn u) < 0
      · exact ih u hu (by rw [h1.2.1 h0]; exact Nat.zero_le _)
      · have h2 := h1.2.2 h0
        have huv : nn u ≠ nn v := fun e => h0 (by rw [e]; exact hrv)
        have h3 := (pv_sg_s hsk hu (by rw [hup, if_neg huv]; exact h0)).2
        rw [h3, hup, if_neg huv, (pv_sg_s hk0 hu h0).2]
        exact ih _ h2.1 (by omega)
  intro u hu
  exact key _ u hu (Nat.le_refl _)
