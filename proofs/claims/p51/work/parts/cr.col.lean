/-! pure side, the graph 21: colours, whole -/
theorem pg_ifc {α : Type} {p q : Prop} [Decidable p] [Decidable q] {a b : α} (h : p ↔ q) : (if p then a else b) = if q then a else b := by
  by_cases e : p
  · rw [if_pos e, if_pos (h.mp e)]
  · rw [if_neg e, if_neg (fun c => e (h.mpr c))]
section COW
variable {n n2 : Nat → Nat} {w fw x9 : ST} {l : SL} {V H wd B N K : Nat} {ct : Nat → Nat} {qs : Nat → List Nat}
theorem pg_col10 (hsh : pg_shp n w l H V wd) (hct : ∀ v, v < V → w 15 v = pu_I (ct v) ∧ ct v < 1000000) :
    ∃ w', fX2_colour_L10 n NF 0 0 w = some (pu_I (pv_sm (fun v => if ct v ≠ 0 then 1 else 0) V), w') ∧ (∀ r, r ≠ 17 → r ≠ 18 → w' r = w r) ∧ ∀ v, v < V → w' 18 v = (if ct v ≠ 0 then w 13 v else -1) ∧ w' 17 v = -1 := by
  obtain ⟨⟨a0, a1, a2⟩, ⟨b1, b2, b3, b4⟩, ⟨c1, c2⟩, ⟨d12, d13, d14, d15, d16, d17, d18, d19⟩, hcol, hmt⟩ := hsh
  obtain ⟨t, e1, e2, e3, e4⟩ := pv_for (σ := Int32 × ST) (G := fun k i (s : Int32 × ST) => fX2_colour_L10 n k s.1 i s.2) (hi := V)
    (Inv := fun i s => s.1 = pu_I (pv_sm (fun v => if ct v ≠ 0 then 1 else 0) i) ∧ (∀ r, r ≠ 17 → r ≠ 18 → s.2 r = w r) ∧ ∀ v, v < i → s.2 18 v = (if ct v ≠ 0 then w 13 v else -1) ∧ s.2 17 v = -1)
    (Q := fun s => s.1 = pu_I (pv_sm (fun v => if ct v ≠ 0 then 1 else 0) V) ∧ (∀ r, r ≠ 17 → r ≠ 18 → s.2 r = w r) ∧ ∀ v, v < V → s.2 18 v = (if ct v ≠ 0 then w 13 v else -1) ∧ s.2 17 v = -1)
    (fun k i s hi hI => by
      obtain ⟨i1, i2, i3⟩ := hI
      have q15 : s.2 15 i = pu_I (ct i) := by rw [i2 15 (by decide) (by decide)]; exact (hct i hi).1
      have h15 : ixb (pu_I i) (n 15) = true := (pu_ix (by omega)).mpr (by omega)
      have h13 : ixb (pu_I i) (n 13) = true := (pu_ix (by omega)).mpr (by omega)
      have h17 : ixb (pu_I i) (n 17) = true := (pu_ix (by omega)).mpr (by omega)
      have h18 : ixb (pu_I i) (n 18) = true := (pu_ix (by omega)).mpr (by omega)
      have hle : pu_I (ct i) ≤ 0 ↔ ct i = 0 := by
        have := pu_le (a := ct i) (b := 0) (by have := (hct i hi).2; omega) (by decide)
        exact this.trans ⟨fun h => by omega, fun h => by omega⟩
      have hJ : ∀ y : Int32, fX2_colour_J46 (fX2_colour_L10 n k) n s.1 (pu_I i) s.2 y (pu_I i) = (if ct i = 0 then fX2_colour_L10 n k (s.1 + 0) (pu_I (i + 1)) (upw (upw s.2 18 i y) 17 i (-1)) else fX2_colour_L10 n k (s.1 + 1) (pu_I (i + 1)) (upw (upw s.2 18 i y) 17 i (-1))) := fun y => by
        unfold fX2_colour_J46 fX2_colour_J71
        rw [if_pos h18, pu_nn (show i < 2147483648 by omega), pu_su]
        unfold lt9
        dsimp only
        rw [if_pos h17, if_pos h15, show upw (upw s.2 18 i y) 17 i (-1) 15 i = pu_I (ct i) by rw [pv_upw, if_neg (fun h => absurd h.1 (by decide)), pv_upw, if_neg (fun h => absurd h.1 (by decide))]; exact q15]
        by_cases e : ct i = 0
        · rw [if_pos (hle.mpr e), if_pos e]
        · rw [if_neg (fun h => e (hle.mp h)), if_neg e]
      have hgo : fX2_colour_L10 n (k + 1) s.1 (pu_I i) s.2 = (if ct i = 0 then fX2_colour_J46 (fX2_colour_L10 n k) n s.1 (pu_I i) s.2 (-1) (pu_I i) else fX2_colour_J46 (fX2_colour_L10 n k) n s.1 (pu_I i) s.2 (s.2 13 i) (pu_I i)) := by
        show (if (s.2 0 1) ≤ pu_I i then some (s.1, s.2) else (if ixb (pu_I i) (n 15) = true then (if (s.2 15 (nn (pu_I i))) ≤ 0 then (fX2_colour_J46 (fX2_colour_L10 n k) n s.1 (pu_I i) s.2 (-1) (pu_I i)) else (if ixb (pu_I i) (n 13) = true then (fX2_colour_J46 (fX2_colour_L10 n k) n s.1 (pu_I i) s.2 (s.2 13 (nn (pu_I i))) (pu_I i)) else none)) else none)) = _
        rw [i2 0 (by decide) (by decide), a1, if_neg (by rw [pu_le (by omega) (by omega)]; omega), if_pos h15, pu_nn (show i < 2147483648 by omega), q15, if_pos h13]
        by_cases e : ct i = 0
        · rw [if_pos (hle.mpr e), if_pos e]
        · rw [if_neg (fun h => e (hle.mp h)), if_neg e]
      obtain ⟨y, hy⟩ : ∃ y : Int32, y = if ct i ≠ 0 then w 13 i else -1 := ⟨_, rfl⟩
      refine ⟨(pu_I (pv_sm (fun v => if ct v ≠ 0 then 1 else 0) (i + 1)), upw (upw s.2 18 i y) 17 i (-1)), ?_, rfl, fun r h1 h2 => ?_, fun v hv => ?_⟩
      · show fX2_colour_L10 n (k + 1) s.1 (pu_I i) s.2 = fX2_colour_L10 n k (pu_I (pv_sm (fun v => if ct v ≠ 0 then 1 else 0) i + (if ct i ≠ 0 then 1 else 0))) (pu_I (i + 1)) (upw (upw s.2 18 i y) 17 i (-1))
        rw [hgo, hJ, hJ, i2 13 (by decide) (by decide), hy, i1]
        by_cases e : ct i = 0
        · rw [if_pos e, if_pos e, if_neg (fun h => h e), if_neg (fun h => h e), Int32.add_zero]
          rfl
        · rw [if_neg e, if_neg e, if_pos e, if_pos e, pu_su]
      · show upw (upw s.2 18 i y) 17 i (-1) r = _
        rw [pv_upw_n h1, pv_upw_n h2, i2 r h1 h2]
      · show upw (upw s.2 18 i y) 17 i (-1) 18 v = _ ∧ upw (upw s.2 18 i y) 17 i (-1) 17 v = -1
        have u18 : upw (upw s.2 18 i y) 17 i (-1) 18 v = if v = i then y else s.2 18 v := by
          rw [pv_upw_n (by decide), pv_upw]
          exact pg_ifc ⟨fun h => h.2, fun h => ⟨rfl, h⟩⟩
        have u17 : upw (upw s.2 18 i y) 17 i (-1) 17 v = if v = i then -1 else s.2 17 v := by
          rw [pv_upw, pv_upw_n (by decide)]
          exact pg_ifc ⟨fun h => h.2, fun h => ⟨rfl, h⟩⟩
        rw [u18, u17]
        by_cases e : v = i
        · rw [if_pos e, if_pos e, e]
          exact ⟨hy, rfl⟩
        · rw [if_neg e, if_neg e]
          exact i3 v (by omega))
    (fun k s hI => ⟨s, by
      show (if (s.2 0 1) ≤ pu_I V then some (s.1, s.2) else _) = _
      rw [hI.2.1 0 (by decide) (by decide), a1, if_pos (Int32.le_refl _)], hI⟩)
    V 0 NF (0, w) (by omega) (by have := pv_NF; omega) ⟨rfl, fun _ _ _ => rfl, fun v hv => by omega⟩
  refine ⟨t.2, ?_, e3, e4⟩
  rw [← e2]
  exact e1
theorem pg_col82 (hsh : pg_shp n w l H V wd) (hsym : ∀ v u, v < V → u < V → pg_ad w l H wd v u = true → pg_ad w l H wd u v = true) (hK2 : 2 ≤ K) (hK : K ≤ 8) {o1 : ST × SL} (ho1 : o1.2 = l) {o10 : Int32 × ST} (ho10 : o10.1 = pu_I (pv_sm (fun v => if ct v ≠ 0 then 1 else 0) V)) (hT : pg_tk w l H V wd K ct [] w) :
    ∃ s os, fX2_colour_L82 n (pu_I K) o1 o10 NF 0 w = some s ∧ os.length = pv_sm (fun v => if ct v ≠ 0 then 1 else 0) V ∧ pg_tk w l H V wd K ct os s := by
  have hcnV : pv_sm (fun v => if ct v ≠ 0 then 1 else 0) V ≤ V := pg_sm_bd (fun i => pg_if1 _) V
  obtain ⟨⟨a0, a1, a2⟩, ⟨b1, b2, b3, b4⟩, ⟨c1, c2⟩, ⟨d12, d13, d14, d15, d16, d17, d18, d19⟩, hcol, hmt⟩ := id hsh
  generalize hcn : pv_sm (fun v => if ct v ≠ 0 then 1 else 0) V = cn at *
  obtain ⟨t, e1, os, e2, e3⟩ := pv_for (σ := ST) (G := fun k i (s : ST) => fX2_colour_L82 n (pu_I K) o1 o10 k i s) (hi := cn)
    (Inv := fun i s => ∃ os, os.length = i ∧ pg_tk w l H V wd K ct os s) (Q := fun s => ∃ os, os.length = cn ∧ pg_tk w l H V wd K ct os s)
    (fun k i s hi hI => by
      obtain ⟨os, rfl, i2⟩ := hI
      obtain ⟨c, s', f1, f2, f3, f4⟩ := pg_tk_s hsh hsym hK2 hK i2 (by omega) (by omega)
      have h19 : ixb (pu_I os.length) (n 19) = true := (pu_ix (by omega)).mpr (by omega)
      refine ⟨s', ?_, os ++ [c], by simp, f4⟩
      show (if (o10.1) ≤ pu_I os.length then some s else ((fX2_nextToTake n s (o1.2) (pu_I K)).bind fun (o_13 : Int32) => (if ixb (pu_I os.length) (n 19) = true then (lt9 (upw s 19 (nn (pu_I os.length)) o_13) fun (w16 : ST) => (if ixb (pu_I os.length) (n 19) = true then ((fX2_takeAway n w16 (o1.2) (w16 19 (nn (pu_I os.length)))).bind fun (o_18 : ST) => ((fX2_colour_L82 n (pu_I K) o1 o10 k) (pu_I os.length + 1) o_18)) else none)) else none))) = _
      rw [ho10, ho1, if_neg (by rw [pu_le (by omega) (by omega)]; omega), f1, Option.bind_some, if_pos h19, pu_nn (show os.length < 2147483648 by omega)]
      unfold lt9
      dsimp only
      rw [if_pos h19, show upw s 19 os.length (pu_I c) 19 os.length = pu_I c by rw [pv_upw, if_pos ⟨rfl, rfl⟩], f3, Option.bind_some, pu_su])
    (fun k s hI => ⟨s, by
      show (if (o10.1) ≤ pu_I cn then some s else _) = _
      rw [ho10, if_pos (Int32.le_refl _)], hI⟩)
    cn 0 NF w (by omega) (by have := pv_NF; omega) ⟨[], rfl, hT⟩
  exact ⟨t, os, e1, e2, e3⟩
/-- some have registers -/
def pg_clr (w : ST) (l : SL) (H V wd K : Nat) (o2 : List Nat) (f : Int32) (s : ST) : Prop :=
  (∀ r, r ≠ 17 → s r = w r) ∧ (∀ v, v < V → s 17 v = -1 ∨ ∃ q, q < K ∧ s 17 v = pu_I q) ∧ (∀ v, v < V → v ∉ o2 → s 17 v = -1) ∧
  (∀ u v, u < V → v < V → pg_ad w l H wd u v = true → u ≠ v → s 17 u ≠ -1 → s 17 v ≠ -1 → s 17 u ≠ s 17 v) ∧ (∀ g, g ∈ o2 → H ≤ g → s 17 g ≠ -1) ∧
  ((f = 0 ∧ ∃ v, v ∈ o2 ∧ s 17 v = -1) ∨ (f = 1 ∧ ∀ v, v ∈ o2 → s 17 v ≠ -1))
theorem pg_col125 (hsh : pg_shp n w l H V wd) (hsym : ∀ v u, v < V → u < V → pg_ad w l H wd v u = true → pg_ad w l H wd u v = true) (hK : K ≤ 8) {o1 : ST × SL} (ho1 : o1.2 = l) {os : List Nat} (hnd : os.Nodup) (hos : ∀ v, v ∈ os → v < V ∧ ct v ≠ 0) (hosV : os.length ≤ V) (h19 : ∀ a c b, os = a ++ c :: b → w 19 a.length = pu_I c) (hgu : ∀ a g b, os = a ++ g :: b → H ≤ g → pg_unt w l H V wd ct a g < K) :
    ∀ (m : Nat) (a b : List Nat) (k : Nat) (f : Int32) (s : ST), a.length = m → os = a ++ b → m < k → pg_clr w l H V wd K b f s →
      ∃ f' s', fX2_colour_L125 n (pu_I K) o1 k f (pu_I m - 1) s = some (f', s') ∧ pg_clr w l H V wd K os f' s' := by
  obtain ⟨⟨a0, a1, a2⟩, ⟨b1, b2, b3, b4⟩, ⟨c1, c2⟩, ⟨d12, d13, d14, d15, d16, d17, d18, d19⟩, hcol, hmt⟩ := id hsh
  intro m
  induction m with
  | zero =>
    intro a b k f s ha hab hk hC
    obtain ⟨k', rfl⟩ : ∃ k', k = k' + 1 := ⟨k - 1, by omega⟩
    obtain rfl := List.length_eq_zero_iff.mp ha
    rw [List.nil_append] at hab
    refine ⟨f, s, ?_, by rw [hab]; exact hC⟩
    rfl
  | succ m ih =>
    intro a b k f s ha hab hk hC
    obtain ⟨k', rfl⟩ : ∃ k', k = k' + 1 := ⟨k - 1, by omega⟩
    rcases List.eq_nil_or_concat a with rfl | ⟨a', c, rfl⟩
    · cases ha
    rw [List.concat_eq_append] at hab ha
    have ha' : a'.length = m := by rw [List.length_append] at ha; exact Nat.succ.inj ha
    have hab' : os = a' ++ c :: b := by rw [hab, List.append_assoc]; rfl
    obtain ⟨C1, C2, C3, C4, C5, C6⟩ := hC
    have hcos : c ∈ os := by rw [hab']; exact List.mem_append_right _ List.mem_cons_self
    obtain ⟨hcV, hcg⟩ := hos c hcos
    have hnd' := hnd
    rw [hab'] at hnd'
    have hcb : c ∉ b := (List.nodup_cons.mp (List.nodup_append.mp hnd').2.1).1
    have hba : ∀ x, x ∈ b → x ∉ a' := fun x hx hxa => (List.nodup_append.mp hnd').2.2 x hxa x (List.mem_cons_of_mem _ hx) rfl
    have hca : c ∉ a' := fun hxa => (List.nodup_append.mp hnd').2.2 c hxa c List.mem_cons_self rfl
    have hsc : s 17 c = -1 := C3 c hcV hcb
    have hmV : m < V := by
      rw [hab', List.length_append] at hosV
      have : (c :: b).length = b.length + 1 := rfl
      omega
    have s19 : s 19 m = pu_I c := by rw [C1 19 (by decide), ← ha']; exact h19 a' c b hab'
    have hshp : pg_shp n s l H V wd := by
      unfold pg_shp pg_in
      rw [C1 0 (by decide), C1 12 (by decide)]
      exact hsh
    have had : ∀ v u, pg_ad s l H wd v u = pg_ad w l H wd v u := fun v u => by
      unfold pg_ad
      rw [C1 12 (by decide)]
    obtain ⟨o, f1, f2⟩ := pg_freeRegister hshp hK hcV (fun u hu => (C2 u hu).imp id fun ⟨q, q1, q2⟩ => ⟨q, by omega, q2⟩)
    have i19 : ixb (pu_I m) (n 19) = true := (pu_ix (by omega)).mpr (by omega)
    have i17 : ixb (pu_I c) (n 17) = true := (pu_ix (by omega)).mpr (by omega)
    obtain ⟨s1, hs1⟩ : ∃ s1, s1 = upw s 17 c o := ⟨_, rfl⟩
    have s1c : s1 17 c = o := by rw [hs1, pv_upw, if_pos ⟨rfl, rfl⟩]
    have s1n : ∀ v, v ≠ c → s1 17 v = s 17 v := fun v hv => by rw [hs1, pv_upw, if_neg fun h => hv h.2]
    obtain ⟨f9, hf9⟩ : ∃ f9 : Int32, f9 = if f = 0 then 0 else if o < 0 then 0 else 1 := ⟨_, rfl⟩
    have hgo : fX2_colour_L125 n (pu_I K) o1 (k' + 1) f (pu_I (m + 1) - 1) s = fX2_colour_L125 n (pu_I K) o1 k' f9 (pu_I m - 1) s1 := by
      have hm1 : pu_I (m + 1) - 1 = pu_I m := by rw [← pu_su]; exact Int32.add_sub_cancel _ _
      have hJ : ∀ y : Int32, fX2_colour_J179 (fX2_colour_L125 n (pu_I K) o1 k') (pu_I m) s1 y = fX2_colour_L125 n (pu_I K) o1 k' y (pu_I m - 1) s1 := fun y => by
        unfold fX2_colour_J179
        rw [Int32.sub_eq_add_neg]
      rw [hm1]
      show (if pu_I m < 0 then some (f, s) else (if ixb (pu_I m) (n 19) = true then (if ixb (pu_I m) (n 19) = true then ((fX2_freeRegister n s (o1.2) (s 19 (nn (pu_I m))) (pu_I K)).bind fun (o_22 : Int32) => (if ixb (s 19 (nn (pu_I m))) (n 17) = true then (lt9 (upw s 17 (nn (s 19 (nn (pu_I m)))) o_22) fun (w25 : ST) => (if f = 0 then (fX2_colour_J178 (fX2_colour_L125 n (pu_I K) o1 k') (pu_I m) w25) else (if ixb (pu_I m) (n 19) = true then (if ixb (w25 19 (nn (pu_I m))) (n 17) = true then (if (w25 17 (nn (w25 19 (nn (pu_I m))))) < 0 then (fX2_colour_J178 (fX2_colour_L125 n (pu_I K) o1 k') (pu_I m) w25) else (fX2_colour_J179 (fX2_colour_L125 n (pu_I K) o1 k') (pu_I m) w25 1)) else none) else none))) else none)) else none) else none)) = _
      rw [if_neg (pu_ge (by omega)), if_pos i19, if_pos i19, pu_nn (show m < 2147483648 by omega), s19, ho1, f1, Option.bind_some, if_pos i17, pu_nn (show c < 2147483648 by omega)]
      unfold lt9 fX2_colour_J178
      dsimp only
      rw [← hs1, if_pos i19, show s1 19 m = pu_I c by rw [hs1, pv_upw_n (by decide)]; exact s19, if_pos i17, pu_nn (show c < 2147483648 by omega), s1c, hJ, hJ, hf9]
      by_cases e : f = 0
      · rw [if_pos e, if_pos e]
      · rw [if_neg e, if_neg e]
        by_cases e2 : o < 0
        · rw [if_pos e2, if_pos e2]
        · rw [if_neg e2, if_neg e2]
    rw [hgo]
    refine ih a' (c :: b) k' f9 s1 ha' hab' (by omega) ⟨fun r hr => by rw [hs1, pv_upw_n hr, C1 r hr], fun v hv => ?_, fun v hv hvb => ?_, fun u v hu hv ha hne h1 h2 => ?_, fun g hg hH => ?_, ?_⟩
    · by_cases e : v = c
      · rw [e, s1c]
        rcases f2 with ⟨r, r1, r2, _⟩ | ⟨r, _⟩
        · exact Or.inr ⟨r, r1, r2⟩
        · exact Or.inl r
      · rw [s1n v e]; exact C2 v hv
    · rw [s1n v (fun e => hvb (by rw [e]; exact List.mem_cons_self))]
      exact C3 v hv fun h => hvb (List.mem_cons_of_mem _ h)
    · have key : ∀ v, v < V → v ≠ c → pg_ad w l H wd c v = true → o ≠ -1 → o ≠ s 17 v := fun v hv hvc hav ho he => by
        rcases f2 with ⟨r, r1, r2, r3⟩ | ⟨r, _⟩
        · exact r3 v hv (by rw [had]; exact hav) (by rw [← he, r2])
        · exact ho r
      by_cases e : u = c
      · rw [e, s1c] at h1
        rw [e, s1c, s1n v (fun h => hne (by rw [e, h]))]
        rw [e] at ha hne
        exact key v hv hne.symm ha h1
      · by_cases e2 : v = c
        · rw [e2, s1c] at h2
          rw [e2, s1c, s1n u e]
          rw [e2] at ha
          exact fun h => key u hu e (hsym u c hu hcV ha) h2 h.symm
        · rw [s1n u e, s1n v e2]
          rw [s1n u e] at h1
          rw [s1n v e2] at h2
          exact C4 u v hu hv ha hne h1 h2
    · rcases List.mem_cons.mp hg with rfl | hg
      · rw [s1c]
        rcases f2 with ⟨r, r1, r2, _⟩ | ⟨r, r3⟩
        · rw [r2]; exact pg_In1 (by omega)
        · have h9 := pg_keys (V := V) (p := fun u => pg_ad w l H wd g u = true ∧ u ∈ b) (key := s 17) K hK fun r hr => by
            obtain ⟨u, u1, u2, u3⟩ := r3 r hr
            refine ⟨u, u1, ⟨by rw [← had]; exact u2, ?_⟩, u3⟩
            refine Classical.byContradiction fun hnb => ?_
            have := C3 u u1 hnb
            rw [u3] at this
            exact pg_In1 (by omega) this
          have h8 := pg_sm_mono (f := fun u => if (pg_ad w l H wd g u = true ∧ u ∈ b) ∧ s 17 u < pu_I K ∧ ¬ s 17 u < 0 then 1 else 0) (g := fun u => if pg_ad w l H wd g u = true ∧ ct u ≠ 0 ∧ u ∉ a' then 1 else 0) V (fun i hi => by
            show (if (pg_ad w l H wd g i = true ∧ i ∈ b) ∧ s 17 i < pu_I K ∧ ¬ s 17 i < 0 then 1 else 0) ≤ (if pg_ad w l H wd g i = true ∧ ct i ≠ 0 ∧ i ∉ a' then 1 else 0)
            by_cases e : (pg_ad w l H wd g i = true ∧ i ∈ b) ∧ s 17 i < pu_I K ∧ ¬ s 17 i < 0
            · rw [if_pos e, if_pos ⟨e.1.1, (hos i (by rw [hab]; exact List.mem_append_right _ e.1.2)).2, hba i e.1.2⟩]
              exact Nat.le_refl _
            · rw [if_neg e]
              exact Nat.zero_le _)
          have h7 := hgu a' g b hab' hH
          unfold pg_unt at h7
          omega
      · rw [s1n g (fun e => hcb (by rw [← e]; exact hg))]
        exact C5 g hg hH
    · have ho : o < 0 ↔ o = -1 := by
        rcases f2 with ⟨r, r1, r2, _⟩ | ⟨r, _⟩
        · rw [r2]
          exact ⟨fun h => absurd h (pu_ge (by omega)), fun h => absurd h (pg_In1 (by omega))⟩
        · rw [r]; exact ⟨fun _ => rfl, fun _ => by decide⟩
      rw [hf9]
      rcases C6 with ⟨rfl, v, v1, v2⟩ | ⟨rfl, v1⟩
      · rw [if_pos rfl]
        exact Or.inl ⟨rfl, v, List.mem_cons_of_mem _ v1, by rw [s1n v (fun e => hcb (by rw [← e]; exact v1))]; exact v2⟩
      · rw [if_neg (by decide)]
        by_cases e : o < 0
        · rw [if_pos e]
          exact Or.inl ⟨rfl, c, List.mem_cons_self, by rw [s1c]; exact ho.mp e⟩
        · rw [if_neg e]
          refine Or.inr ⟨rfl, fun v hv => ?_⟩
          rcases List.mem_cons.mp hv with rfl | hv
          · rw [s1c]; exact fun h => e (ho.mpr h)
          · rw [s1n v (fun e => hcb (by rw [← e]; exact hv))]
            exact v1 v hv
/-- registers given: what a colouring leaves -/
def pg_cld (n : Nat → Nat) (w : ST) (l : SL) (H V wd K : Nat) (x9 : ST) (d : List Nat) (o : Int32) (w' : ST) : Prop :=
  (∀ r, r ≠ 15 → r ≠ 16 → r ≠ 17 → r ≠ 18 → r ≠ 19 → w' r = w r) ∧
  (∀ v, v < V → w' 15 v = pu_I (pg_ct x9 v d) ∧ (pg_ct x9 v d ≠ 0 → ∃ a, a ∈ d ∧ x9 3 a = pu_I v ∧ w' 16 v = pu_I a)) ∧
  (∀ v, v < V → w' 17 v = -1 ∨ ∃ q, q < K ∧ w' 17 v = pu_I q) ∧ (∀ v, v < V → pg_ct x9 v d = 0 → w' 17 v = -1) ∧
  (∀ u v, u < V → v < V → pg_ad w l H wd u v = true → u ≠ v → w' 17 u ≠ -1 → w' 17 v ≠ -1 → w' 17 u ≠ w' 17 v) ∧
  (∀ g, H ≤ g → g < V → pg_ct x9 g d ≠ 0 → w' 17 g ≠ -1) ∧
  ((o = 0 ∧ ∃ v, v < V ∧ pg_ct x9 v d ≠ 0 ∧ w' 17 v = -1) ∨ (o = 1 ∧ ∀ v, v < V → pg_ct x9 v d ≠ 0 → w' 17 v ≠ -1))
theorem pg_sm_mem2 : ∀ (os : List Nat) (k : Nat), os.Nodup → (∀ v, v ∈ os → v < k) → os.length ≤ pv_sm (fun v => if v ∈ os then 1 else 0) k := by
  intro os
  induction os with
  | nil => intro k _ _; exact Nat.zero_le _
  | cons a os ih =>
    intro k hnd h
    have hnd2 := List.nodup_cons.mp hnd
    have h1 := ih k hnd2.2 fun v hv => h v (List.mem_cons_of_mem _ hv)
    have h2 := pg_sm_x (f := fun v => if v ∈ os then 1 else 0) (g := fun v => if v ∈ a :: os then 1 else 0) (h a List.mem_cons_self) fun i hi => by
      by_cases e : i = a
      · rw [e, if_neg hnd2.1, if_pos rfl, if_pos List.mem_cons_self]
        exact Nat.le_refl _
      · rw [if_neg e]
        by_cases e2 : i ∈ os
        · rw [if_pos e2, if_pos (List.mem_cons_of_mem _ e2)]
          exact Nat.le_refl _
        · rw [if_neg e2]
          exact Nat.zero_le _
    show os.length + 1 ≤ _
    omega
theorem pg_flen (f : Nat → List Nat) (N : Nat) : ∀ B, (∀ b, b < B → (f b).length ≤ N) → ((List.range B).flatMap f).length ≤ B * N := by
  intro B
  induction B with
  | zero => intro _; exact Nat.zero_le _
  | succ B ih =>
    intro h
    rw [List.range_succ, List.flatMap_append, List.length_append, Nat.succ_mul]
    have h1 := ih fun b hb => h b (by omega)
    have h2 := h B (Nat.lt_succ_self B)
    have h3 : ([B].flatMap f).length = (f B).length := by simp
    omega
theorem pg_colour (hfl : pg_fl B N V fw x9 n2 qs) (hgr : pg_gr B H V wd fw x9 qs n w l) (hHV : H ≤ V) (hwd : wd = (H + 63) / 64) (hwd2 : wd ≤ 20) (hK2 : 2 ≤ K) (hK : K ≤ 8) :
    ∃ o w' l', fX2_colour n w l fw (pu_I K) n2 x9 = some (o, w', l') ∧ (∀ r, r ≠ 14 → l' r = l r) ∧ pg_cld n w l H V wd K x9 ((List.range B).flatMap qs) o w' := by
  obtain ⟨⟨w0, w1, w2⟩, hR, hin, hsym, hdg, hcp, hlk⟩ := hgr
  have hV := hfl.2.1.2.2
  have hsh : pg_shp n w l H V wd := ⟨⟨w0, w1, w2⟩, ⟨by omega, hV, by omega, hHV⟩, ⟨hR.2.2.1, by have := hR.2.2.2.2.2.2.2.2.2.1; omega⟩, hR.2.2.2.1, hin⟩
  generalize hd : (List.range B).flatMap qs = d
  obtain ⟨wa, la, e1, e2, e3, e4⟩ := pg_weigh hsh hfl hR.2.2.2.2
  rw [hd] at e4
  have hla : la 11 = l 11 := e3 11 (by decide)
  have hlen : d.length < 1000000 := by
    have h1 := pg_flen qs N B fun b hb => pv_len N (qs b) (hfl.2.2.2.1.2.1 b hb) (hfl.2.2.2.1.1 b hb)
    rw [hd] at h1
    have h2 := hfl.1.2.2
    have h3 := hfl.2.1.2.1
    have h4 : B * N ≤ 60 * N := Nat.mul_le_mul_right N h2
    omega
  have hg : ∀ x y, pg_g la 11 wd x y = pg_g l 11 wd x y := fun x y => by unfold pg_g; rw [hla]
  have hadx : ∀ x : ST, x 12 = w 12 → ∀ v u, pg_ad x la H wd v u = pg_ad w l H wd v u := fun x hx v u => by
    unfold pg_ad
    rw [hx, hg, hg]
  have hshx : ∀ x : ST, x 0 = w 0 → x 12 = w 12 → pg_shp n x la H V wd := fun x h0 h12 => by
    unfold pg_shp pg_in
    rw [h0, h12]
    refine ⟨hsh.1, hsh.2.1, hsh.2.2.1, hsh.2.2.2.1, fun v h hv hh hgg => hsh.2.2.2.2.1 v h hv hh (by rw [← hg]; exact hgg), hsh.2.2.2.2.2⟩
  obtain ⟨wb, f1, f2, f3⟩ := pg_col10 (ct := fun v => pg_ct x9 v d) (hshx wa (e2 0 (by decide) (by decide)) (e2 12 (by decide) (by decide))) (fun v hv => ⟨(e4 v hv).1, Nat.lt_of_le_of_lt List.countP_le_length hlen⟩)
  have hwb : ∀ r, r ≠ 15 → r ≠ 16 → r ≠ 17 → r ≠ 18 → wb r = w r := fun r h1 h2 h3 h4 => by rw [f2 r h3 h4, e2 r h1 h2]
  have hb12 := hwb 12 (by decide) (by decide) (by decide) (by decide)
  have hshb := hshx wb (hwb 0 (by decide) (by decide) (by decide) (by decide)) hb12
  have hsymb : ∀ v u, v < V → u < V → pg_ad wb la H wd v u = true → pg_ad wb la H wd u v = true := fun v u hv hu h => by
    rw [hadx wb hb12] at h ⊢
    exact hsym v u hv hu h
  obtain ⟨wc, os, g1, g2, g3⟩ := pg_col82 (ct := fun v => pg_ct x9 v d) hshb hsymb hK2 hK (o1 := (wa, la)) rfl (o10 := (pu_I (pv_sm (fun v => if (fun v => pg_ct x9 v d) v ≠ 0 then 1 else 0) V), wb)) rfl ⟨List.nodup_nil, (fun v hv => by cases hv), fun _ _ _ => rfl, (fun o1 c o2 h => by cases o1 <;> cases h), fun v hv h => by
      rcases h with h | h
      · cases h
      · rw [(f3 v hv).1, if_neg (fun q => q h)], fun v hv _ hc => by
      refine ⟨pg_dg w l H V wd v, ?_, ?_, ?_⟩
      · rw [(f3 v hv).1, if_pos hc, e2 13 (by decide) (by decide), hdg v hv]
      · have := pg_sm_bd (f := fun u => if pg_ad w l H wd v u = true then 1 else 0) (fun i => pg_if1 _) V
        unfold pg_dg
        omega
      · refine pg_sm_mono V fun i hi => ?_
        rw [hadx wb hb12]
        by_cases q : pg_ad w l H wd v i = true
        · rw [if_pos q]; exact pg_if1 _
        · rw [if_neg (fun h => q h.1)]; exact Nat.zero_le _, (fun o1 g o2 h => by cases o1 <;> cases h)⟩
  obtain ⟨t1, t2, t3, t4, t5, t6, t7⟩ := g3
  have hc12 : wc 12 = w 12 := by rw [t3 12 (by decide) (by decide), hb12]
  have hadc : ∀ v u, pg_ad wc la H wd v u = pg_ad wb la H wd v u := fun v u => by rw [hadx wc hc12, hadx wb hb12]
  have hwc : ∀ r, r ≠ 15 → r ≠ 16 → r ≠ 17 → r ≠ 18 → r ≠ 19 → wc r = w r := fun r h1 h2 h3 h4 h5 => by rw [t3 r h4 h5, hwb r h1 h2 h3 h4]
  have hosV : os.length ≤ V := by rw [g2]; exact pg_sm_bd (fun i => pg_if1 _) V
  obtain ⟨fl, wd', k1, k2⟩ := pg_col125 (ct := fun v => pg_ct x9 v d) (hshx wc (hwc 0 (by decide) (by decide) (by decide) (by decide) (by decide)) hc12) (fun v u hv hu h => by rw [hadc] at h ⊢; exact hsymb v u hv hu h) hK (o1 := (wa, la)) rfl t1 t2 hosV (fun a c b h => t4 a c b h) (fun a g b h hH => by
    have h9 := t7 a g b h hH
    unfold pg_unt at h9 ⊢
    simp only [hadc]
    exact h9) os.length os [] NF 1 wc rfl (List.append_nil os).symm (by have := pv_NF; omega) ⟨fun _ _ => rfl, fun v hv => Or.inl (by rw [t3 17 (by decide) (by decide)]; exact (f3 v hv).2), fun v hv _ => (by rw [t3 17 (by decide) (by decide)]; exact (f3 v hv).2), fun u v hu _ _ _ h => absurd (by rw [t3 17 (by decide) (by decide)]; exact (f3 u hu).2) h, (fun g hg => by cases hg), Or.inr ⟨rfl, fun v hv => by cases hv⟩⟩
  obtain ⟨C1, C2, C3, C4, C5, C6⟩ := k2
  have hall : ∀ v, v < V → pg_ct x9 v d ≠ 0 → v ∈ os := fun v hv hc => by
    refine Classical.byContradiction fun hno => ?_
    have h1 := pg_sm_x (f := fun u => if u ∈ os then 1 else 0) (g := fun v => if pg_ct x9 v d ≠ 0 then 1 else 0) hv fun i hi => by
      by_cases e : i = v
      · rw [e, if_neg hno, if_pos rfl, if_pos hc]
        exact Nat.le_refl _
      · rw [if_neg e]
        by_cases e2 : i ∈ os
        · rw [if_pos e2, if_pos (t2 i e2).2]
          exact Nat.le_refl _
        · rw [if_neg e2]
          exact Nat.zero_le _
    have h2 := pg_sm_mem2 os V t1 fun u hu => (t2 u hu).1
    have g2 : os.length = pv_sm (fun v => if pg_ct x9 v d ≠ 0 then 1 else 0) V := g2
    omega
  have hd17 : ∀ r, r ≠ 17 → wd' r = wc r := C1
  refine ⟨fl, wd', la, ?_, e3, fun r h1 h2 h3 h4 h5 => by rw [C1 r h3, hwc r h1 h2 h3 h4 h5], fun v hv => ?_, C2, fun v hv hc => C3 v hv fun h => (t2 v h).2 hc, fun u v hu hv ha hne h1 h2 => C4 u v hu hv (by rw [hadx wc hc12]; exact ha) hne h1 h2, fun g hH hgV hc => C5 g (hall g hgV hc) hH, ?_⟩
  · unfold fX2_colour
    rw [e1, Option.bind_some]
    show (fX2_colour_L10 n NF 0 0 wa).bind _ = _
    rw [f1, Option.bind_some]
    show (fX2_colour_L82 n (pu_I K) (wa, la) _ NF 0 wb).bind _ = _
    rw [g1, Option.bind_some]
    show (fX2_colour_L125 n (pu_I K) (wa, la) NF 1 (pu_I _ - 1) wc).bind _ = _
    rw [← g2, k1, Option.bind_some]
    refine if_pos ?_
    rcases C6 with ⟨q, _⟩ | ⟨q, _⟩
    · exact Or.inl q
    · exact Or.inr q
  · rw [C1 15 (by decide), C1 16 (by decide), t3 15 (by decide) (by decide), t3 16 (by decide) (by decide), f2 15 (by decide) (by decide), f2 16 (by decide) (by decide)]
    exact e4 v hv
  · rcases C6 with ⟨q1, v, q2, q3⟩ | ⟨q1, q2⟩
    · exact Or.inl ⟨q1, v, (t2 v q2).1, (t2 v q2).2, q3⟩
    · exact Or.inr ⟨q1, fun v hv hc => q2 v (hall v hv hc)⟩
end COW
