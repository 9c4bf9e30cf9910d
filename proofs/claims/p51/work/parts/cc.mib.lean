/-! pure side, the graph 10: a block is gone through from behind -/
theorem pg_last : ∀ (j : Nat) (l : List Nat), l.length = j + 1 → ∃ m a, l = m ++ [a] ∧ m.length = j := by
  intro j
  induction j with
  | zero =>
    intro l h
    match l, h with
    | [a], _ => exact ⟨[], a, rfl, rfl⟩
  | succ j ih =>
    intro l h
    match l, h with
    | x :: l, h =>
      obtain ⟨m, a, rfl, h2⟩ := ih l (by rw [List.length_cons] at h; omega)
      exact ⟨x :: m, a, rfl, by rw [List.length_cons, h2]⟩
section MIB
variable {n n2 : Nat → Nat} {w fw x9 : ST} {l : SL} {B N V H wd : Nat} {qs : Nat → List Nat} {E X : Int32 → Prop} {D0 : Nat → Prop}
/-- two values are recorded as neighbours -/
def pg_rc (w : ST) (l : SL) (H wd a v : Nat) : Prop := (v < H → pg_g l 11 wd a v = true) ∧ (H ≤ v → (a < H → pg_g l 11 wd v a = true) ∧ (H ≤ a → w 12 a = pu_I v ∧ w 12 v = pu_I a))
def pg_ok1 (w : ST) (l : SL) (H V wd : Nat) (s : pu_Stp) (LS : Int32 → Prop) : Prop := ∀ a v, pu_gw s.1 = true → s.2.1 = pu_I a → a < V → v < V → LS (pu_I v) → v ≠ a → (s.1 = 25 → pu_I v ≠ s.2.2.1) → pg_rc w l H wd a v
/-- what near ones are, at any time -/
def pg_in (w : ST) (l : SL) (H V wd : Nat) : Prop := (∀ v h, v < V → h < wd * 64 → pg_g l 11 wd v h = true → h < H) ∧ ∀ v, v < V → w 12 v = -1 ∨ (H ≤ v ∧ ∃ u, (H ≤ u ∧ u < V) ∧ u ≠ v ∧ w 12 v = pu_I u ∧ w 12 u = pu_I v)
/-- near ones stay near -/
def pg_mn (w : ST) (l : SL) (w' : ST) (l' : SL) (V wd : Nat) : Prop := (∀ v h, v < V → h < wd * 64 → pg_g l 11 wd v h = true → pg_g l' 11 wd v h = true) ∧ ∀ v, v < V → w 12 v ≠ -1 → w' 12 v = w 12 v
theorem pg_In1 {k : Nat} (h : k < 2147483648) : pu_I k ≠ -1 := fun e => by
  have h9 : ¬ pu_I k < 0 := pu_ge h
  rw [e] at h9
  exact h9 (by decide)
theorem pg_rc_mn {w' : ST} {l' : SL} (hV : V < 1000000) (hH : H ≤ wd * 64) {a v : Nat} (ha : a < V) (hv : v < V) (hm : pg_mn w l w' l' V wd) (h : pg_rc w l H wd a v) : pg_rc w' l' H wd a v := by
  refine ⟨fun h1 => hm.1 a v ha (by omega) (h.1 h1), fun h1 => ⟨fun h2 => hm.1 v a hv (by omega) ((h.2 h1).1 h2), fun h2 => ?_⟩⟩
  obtain ⟨h3, h4⟩ := (h.2 h1).2 h2
  rw [hm.2 a ha (by rw [h3]; exact pg_In1 (by omega)), hm.2 v hv (by rw [h4]; exact pg_In1 (by omega))]
  exact ⟨h3, h4⟩
theorem pg_ok1_mn {w' : ST} {l' : SL} (hV : V < 1000000) (hH : H ≤ wd * 64) {s : pu_Stp} {LS : Int32 → Prop} (hm : pg_mn w l w' l' V wd) (h : pg_ok1 w l H V wd s LS) : pg_ok1 w' l' H V wd s LS :=
  fun a v h1 h2 ha hv h5 h6 h7 => pg_rc_mn hV hH ha hv hm (h a v h1 h2 ha hv h5 h6 h7)
theorem pg_mn_tr {w1 w2 : ST} {l1 l2 : SL} (h1 : pg_mn w l w1 l1 V wd) (h2 : pg_mn w1 l1 w2 l2 V wd) : pg_mn w l w2 l2 V wd :=
  ⟨fun v h hv hh h3 => h2.1 v h hv hh (h1.1 v h hv hh h3), fun v hv h3 => by
    have h4 := h1.2 v hv h3
    rw [h2.2 v hv (by rw [h4]; exact h3), h4]⟩
/-- each guest is given once -/
def pg_un (B H V : Nat) (x9 : ST) (qs : Nat → List Nat) : Prop := ∀ b c a a' u, b < B → c < B → a ∈ qs b → a' ∈ qs c → H ≤ u → u < V → pu_gw (x9 2 a) = true → pu_gw (x9 2 a') = true → x9 3 a = pu_I u → x9 3 a' = pu_I u → a = a'
/-- the state, some steps of a block gone through -/
def pg_ib (B H V wd : Nat) (x9 : ST) (X : Int32 → Prop) (D0 : Nat → Prop) (w0 : ST) (l0 : SL) (m2 : List Nat) (w : ST) (l : SL) : Prop :=
  (∃ Q, pg_lst w l H V wd (pu_lv (m2.map (pv_S x9)) X) Q) ∧ pg_in w l H V wd ∧ pg_mn w0 l0 w l V wd ∧
  (∀ v, v < V → w 12 v ≠ -1 → D0 v ∨ pg_gv (m2.map (pv_S x9)) (pu_I v) ∨ ∀ u, H ≤ u → u < V → (pu_lv (m2.map (pv_S x9)) X (pu_I u) ↔ u = v)) ∧
  (∀ l1 a l2, m2 = l1 ++ a :: l2 → pg_ok1 w l H V wd (pv_S x9 a) (pu_lv (l2.map (pv_S x9)) X)) ∧
  (∀ r, r ≠ 0 → r ≠ 8 → r ≠ 12 → w r = w0 r) ∧ (∀ i, i ≠ 8 → w 0 i = w0 0 i) ∧ (∀ r, r ≠ 7 → r ≠ 11 → l r = l0 r)
theorem pg_gvm {m : List Nat} {v : Int32} : pg_gv (m.map (pv_S x9)) v ↔ ∃ a, a ∈ m ∧ pu_gw (x9 2 a) = true ∧ x9 3 a = v := by
  constructor
  · rintro ⟨s, hs, h1, h2⟩
    obtain ⟨a, ha, rfl⟩ := List.mem_map.mp hs
    exact ⟨a, ha, h1, h2⟩
  · rintro ⟨a, ha, h1, h2⟩
    exact ⟨pv_S x9 a, List.mem_map_of_mem ha, h1, h2⟩
theorem pg_67 {w0 : ST} {l0 : SL} (hw0 : w0 0 0 = pu_I H) (hw2 : w0 0 2 = pu_I wd) (hwd : wd < 1000) (hH : H ≤ wd * 64) (hHV : H ≤ V) (h7 : wd ≤ n 7) (hn7 : n 7 < 1000000) (h11 : V * wd ≤ n 11) (hn11 : n 11 < 1000000) (h12 : V ≤ n 12) (hfl : pg_fl B N V fw x9 n2 qs) {b : Nat} (hb : b < B) {o8 : Int32 × ST × (Nat → Nat)} (ho : o8.2.2 = n) (hq10 : (qs b).length ≤ n 10) (hn10 : n 10 < 1000000) (h10 : ∀ j a, (qs b)[j]? = some a → w0 10 j = pu_I a)
    (hgd : pg_gd H V E ((qs b).map (pv_S x9)) []) (hXE : ∀ u, H ≤ u → u < V → (X (pu_I u) ↔ E (pu_I u))) (hun : pg_un B H V x9 qs) (hD0 : ∀ u, H ≤ u → u < V → D0 u → ∀ a, a ∈ qs b → pu_gw (x9 2 a) = true → x9 3 a ≠ pu_I u) :
    ∀ (j : Nat) (m1 m2 : List Nat), qs b = m1 ++ m2 → m1.length = j → ∀ (k : Nat) (w : ST) (l : SL), j < k → pg_ib B H V wd x9 X D0 w0 l0 m2 w l →
      ∃ w' l', fX2_meetInBlock_L67 n2 x9 o8 k (pu_I j + (-1)) w l = some (w', l') ∧ pg_ib B H V wd x9 X D0 w0 l0 (qs b) w' l' := by
  have hV9 : V < 1000000 := by have := hfl.2.1.2.2; omega
  intro j
  induction j with
  | zero =>
    intro m1 m2 hm hl k w l hk hI
    obtain ⟨k', rfl⟩ : ∃ k', k = k' + 1 := ⟨k - 1, by omega⟩
    have hm1 : m1 = [] := List.length_eq_zero_iff.mp hl
    rw [hm1, List.nil_append] at hm
    exact ⟨w, l, rfl, by rw [hm]; exact hI⟩
  | succ j ih =>
    intro m1 m2 hm hl k w l hk hI
    obtain ⟨k', rfl⟩ : ∃ k', k = k' + 1 := ⟨k - 1, by omega⟩
    obtain ⟨m, a, rfl, hml⟩ := pg_last j m1 hl
    have hm : qs b = m ++ (a :: m2) := by rw [hm, List.append_assoc]; rfl
    have haq : a ∈ qs b := by rw [hm]; exact List.mem_append_right _ List.mem_cons_self
    have haj : (qs b)[j]? = some a := by
      rw [hm, List.getElem?_append_right (by omega), hml, Nat.sub_self]
      rfl
    have hjl : j < (qs b).length := by
      rw [hm, List.length_append, List.length_cons]
      omega
    obtain ⟨⟨Q, i1⟩, ⟨i2, i2'⟩, i3, i4, i5, i6, i7, i8⟩ := hI
    have hgd2 : pg_gd H V E (m.map (pv_S x9) ++ (pv_S x9 a :: m2.map (pv_S x9))) [] := by
      have h9 := hgd
      rw [hm, List.map_append, List.map_cons] at h9
      exact h9
    obtain ⟨P, p1, p2, p3, p4, p5⟩ := pg_gd_at (m.map (pv_S x9)) [] _ hgd2 List.nodup_nil (Nat.zero_le _) (fun u hu => by cases hu)
    have hnd : (qs b).Nodup := hfl.2.2.2.1.2.1 b hb
    -- who is given here is given nowhere else
    have hgone : ∀ u, H ≤ u → u < V → pu_gw (x9 2 a) = true → x9 3 a = pu_I u → ¬ D0 u ∧ ¬ pg_gv (m2.map (pv_S x9)) (pu_I u) := by
      intro u u1 u2 h1 h2
      refine ⟨fun h => hD0 u u1 u2 h a haq h1 h2, fun h => ?_⟩
      obtain ⟨a', a1, a2, a3⟩ := pg_gvm.mp h
      have hq' : a' ∈ qs b := by rw [hm]; exact List.mem_append_right _ (List.mem_cons_of_mem _ a1)
      have e := hun b b a a' u hb hb haq hq' u1 u2 h1 a2 h2 a3
      rw [hm] at hnd
      have h9 := (List.nodup_append.mp hnd).2.1
      exact (List.nodup_cons.mp h9).1 (by rw [e]; exact a1)
    have hpend : ∀ u, u ∈ P → ¬ D0 u ∧ ¬ pg_gv (m2.map (pv_S x9)) (pu_I u) := by
      intro u hu
      obtain ⟨u1, u2⟩ := p4 u hu
      rcases p5 u hu with h | h
      · cases h
      · obtain ⟨a', a1, a2, a3⟩ := pg_gvm.mp h
        have hq' : a' ∈ qs b := by rw [hm]; exact List.mem_append_left _ a1
        refine ⟨fun h => hD0 u u1 u2 h a' hq' a2 a3, fun h => ?_⟩
        obtain ⟨a'', b1, b2, b3⟩ := pg_gvm.mp h
        have hq'' : a'' ∈ qs b := by rw [hm]; exact List.mem_append_right _ (List.mem_cons_of_mem _ b1)
        have e := hun b b a' a'' u hb hb hq' hq'' u1 u2 a2 b2 a3 b3
        rw [hm] at hnd
        exact (List.nodup_append.mp hnd).2.2 a' a1 a' (by rw [e]; exact List.mem_cons_of_mem _ b1) rfl
    obtain ⟨w', l', Q', e1, e2, e3, e4, e5, e6, e7⟩ := pg_mstep (n := n) (E := E) (X := X) (by rw [i7 0 (by decide)]; exact hw0) (by rw [i7 2 (by decide)]; exact hw2) hwd hH hHV h7 hn7 h11 hn11 h12 hfl hb haq ho (show j < n 10 by omega) hn10 (by rw [i6 10 (by decide) (by decide) (by decide)]; exact h10 j a haj) k' p1 p2 p4 hXE i1
    have hlvA := pg_gd_lv hV9 hXE _ _ p1
    have hgQ := i1.2.2.2.2.2.2
    -- the pairs
    have hmate : (w' 12 = w 12 ∧ ∀ g v, pu_gw (x9 2 a) = true → x9 3 a = pu_I g → H ≤ g → g < V → H ≤ v → v < V → pu_lv (m2.map (pv_S x9)) X (pu_I v) → v ≠ g → False) ∨
        (∃ g p, pu_gw (x9 2 a) = true ∧ x9 3 a = pu_I g ∧ (H ≤ g ∧ g < V) ∧ (H ≤ p ∧ p < V) ∧ P = [p] ∧ p ≠ g ∧ pu_lv (m2.map (pv_S x9)) X (pu_I p) ∧ pu_lv (m2.map (pv_S x9)) X (pu_I g) ∧ (∀ v, H ≤ v → v < V → pu_lv (m2.map (pv_S x9)) X (pu_I v) → v = p ∨ v = g) ∧ w 12 p = -1 ∧ w 12 g = -1 ∧ ∀ z, w' 12 z = if z = p then pu_I g else if z = g then pu_I p else w 12 z) := by
      rcases e7 with ⟨g, p, q1, q2, q3, q4, q5, q6, q7⟩ | h
      · have hpP : p ∈ P := by rw [q4]; exact List.mem_singleton.mpr rfl
        have hpg := p4 p hpP
        have hgone2 := hgone g q3.1 q3.2 q1 q2
        -- it is a fetch
        have hfe : ∀ v, H ≤ v → v < V → (pu_lv (m2.map (pv_S x9)) X (pu_I v) ↔ v = p ∨ v = g) := by
          intro v v1 v2
          rcases p1 with ⟨g', ⟨c1, c2, c3⟩, c4, c5, c6, c7, c8⟩ | ⟨c1, ⟨g', c2, c3, c4, c5⟩ | ⟨c2, c3⟩⟩
          · have e9 := pu_inj (by omega) (by omega) (show pu_I g' = pu_I g from c4.symm.trans q2)
            rw [pg_gd_lv hV9 hXE _ _ c8 v v1 v2, q4, e9]
            show v ∈ [p, g] ↔ _
            rw [List.mem_cons, List.mem_singleton]
          · have h9 := (pg_gd_lv hV9 hXE _ _ c5 p hpg.1 hpg.2).mp q6
            have e9 := pu_inj (by omega) (by omega) (show pu_I g' = pu_I g from c3.symm.trans q2)
            rw [e9] at h9
            exact absurd (List.mem_singleton.mp h9) q5
          · have h9 := (pg_gd_lv hV9 hXE _ _ c3 p hpg.1 hpg.2).mp q6
            cases h9
        have hm1 : ∀ z, z < V → (¬ D0 z ∧ ¬ pg_gv (m2.map (pv_S x9)) (pu_I z)) → w 12 z = -1 := fun z hz hno => by
          refine Classical.byContradiction fun h => ?_
          rcases i4 z hz h with h | h | h
          · exact hno.1 h
          · exact hno.2 h
          · have h1 := (h p hpg.1 hpg.2).mp ((hfe p hpg.1 hpg.2).mpr (Or.inl rfl))
            have h2 := (h g q3.1 q3.2).mp ((hfe g q3.1 q3.2).mpr (Or.inr rfl))
            omega
        exact Or.inr ⟨g, p, q1, q2, q3, hpg, q4, q5, q6, (hfe g q3.1 q3.2).mpr (Or.inr rfl), fun v v1 v2 hv => (hfe v v1 v2).mp hv, hm1 p hpg.2 (hpend p hpP), hm1 g q3.2 hgone2, q7⟩
      · exact Or.inl h
    have hmn : pg_mn w l w' l' V wd := by
      refine ⟨fun v h hv hh h1 => (e6 v h hv hh).mpr (Or.inl h1), fun v hv h1 => ?_⟩
      rcases hmate with ⟨h2, _⟩ | ⟨g, p, _, _, _, _, _, _, _, _, _, h3, h4, h5⟩
      · rw [h2]
      · rw [h5 v, if_neg (fun e => h1 (by rw [e]; exact h3)), if_neg (fun e => h1 (by rw [e]; exact h4))]
    have hI2 : pg_ib B H V wd x9 X D0 w0 l0 (a :: m2) w' l' := by
      refine ⟨⟨Q', e2⟩, ⟨fun v h hv hh h1 => ?_, fun v hv => ?_⟩, pg_mn_tr i3 hmn, fun v hv h1 => ?_, fun l1 z l2 hz => ?_, fun r r0 r8 r12 => by rw [e3 r r0 r8 r12, i6 r r0 r8 r12], fun i hi => by rw [e4 i hi, i7 i hi], fun r r7 r11 => by rw [e5 r r7 r11, i8 r r7 r11]⟩
      · rcases (e6 v h hv hh).mp h1 with h2 | ⟨_, a', _, _, h2 | h2⟩
        · exact i2 v h hv hh h2
        · exact h2.2.1
        · rw [h2.2.1]; exact h2.1
      · rcases hmate with ⟨h2, _⟩ | ⟨g, p, _, _, hg, hp, _, hpg, _, _, _, h3, h4, h5⟩
        · rw [h2]; exact i2' v hv
        · by_cases ev : v = p
          · subst ev
            refine Or.inr ⟨hp.1, g, hg, fun e => hpg e.symm, by rw [h5, if_pos rfl], by rw [h5, if_neg (fun e => hpg e.symm), if_pos rfl]⟩
          · by_cases eg : v = g
            · subst eg
              refine Or.inr ⟨hg.1, p, hp, hpg, by rw [h5, if_neg ev, if_pos rfl], by rw [h5, if_pos rfl]⟩
            · rw [h5 v, if_neg ev, if_neg eg]
              refine (i2' v hv).imp id fun ⟨v1, u, u1, u2, u3, u4⟩ => ⟨v1, u, u1, u2, u3, ?_⟩
              rw [h5 u, if_neg (fun e => ?_), if_neg (fun e => ?_)]
              · exact u4
              · rw [e, h4] at u4; exact pg_In1 (by omega) u4.symm
              · rw [e, h3] at u4; exact pg_In1 (by omega) u4.symm
      · -- who has a mate
        rw [List.map_cons]
        have hgs : ∀ u, pg_gv (m2.map (pv_S x9)) u → pg_gv (pv_S x9 a :: m2.map (pv_S x9)) u := fun u ⟨t, t1, t2, t3⟩ => ⟨t, List.mem_cons_of_mem _ t1, t2, t3⟩
        have hga : pu_gw (x9 2 a) = true → x9 3 a = pu_I v → pg_gv (pv_S x9 a :: m2.map (pv_S x9)) (pu_I v) := fun q1 q2 => ⟨_, List.mem_cons_self, q1, q2⟩
        have hv1 : H ≤ v := by
          rcases hmate with ⟨h2, _⟩ | ⟨g, p, _, _, hg, hp, _, hpg, _, _, _, h3, h4, h5⟩
          · rw [h2] at h1
            rcases i2' v hv with h | h
            · exact absurd h h1
            · exact h.1
          · rw [h5 v] at h1
            by_cases ev : v = p
            · rw [ev]; exact hp.1
            · rw [if_neg ev] at h1
              by_cases eg : v = g
              · rw [eg]; exact hg.1
              · rw [if_neg eg] at h1
                rcases i2' v hv with h | h
                · exact absurd h h1
                · exact h.1
        have hold : w 12 v ≠ -1 → D0 v ∨ pg_gv (pv_S x9 a :: m2.map (pv_S x9)) (pu_I v) ∨ ∀ u, H ≤ u → u < V → (pu_lv (pv_S x9 a :: m2.map (pv_S x9)) X (pu_I u) ↔ u = v) := by
          intro h
          rcases i4 v hv h with h | h | h
          · exact Or.inl h
          · exact Or.inr (Or.inl (hgs _ h))
          · -- it alone lives behind the step: the step gives it
            right; left
            have hlv := (h v hv1 hv).mpr rfl
            rcases p1 with ⟨g', ⟨c1, c2, c3⟩, c4, c5, c6, c7, c8⟩ | ⟨c1, ⟨g', c2, c3, c4, c5⟩ | ⟨c2, c3⟩⟩
            · have h9 := (h g' c5.1 c5.2).mp ((pg_gd_lv hV9 hXE _ _ c8 g' c5.1 c5.2).mpr (List.mem_append_right _ (List.mem_singleton.mpr rfl)))
              exact hga c3 (by rw [← h9]; exact c4)
            · have h9 := List.mem_singleton.mp ((pg_gd_lv hV9 hXE _ _ c5 v hv1 hv).mp hlv)
              exact hga c2 (by rw [h9]; exact c3)
            · cases (pg_gd_lv hV9 hXE _ _ c3 v hv1 hv).mp hlv
        rcases hmate with ⟨h2, _⟩ | ⟨g, p, q1, q2, hg, hp, hP, hpg, _, _, _, h3, h4, h5⟩
        · rw [h2] at h1
          exact hold h1
        · by_cases ev : v = p
          · right; right
            intro u u1 u2
            rw [hlvA u u1 u2, hP, List.mem_singleton, ev]
          · by_cases eg : v = g
            · exact Or.inr (Or.inl (hga q1 (by rw [eg]; exact q2)))
            · rw [h5 v, if_neg ev, if_neg eg] at h1
              exact hold h1
      · -- what is recorded
        cases l1 with
        | cons x l1 =>
          have hz := List.cons.inj hz
          exact pg_ok1_mn hV9 hH hmn (i5 l1 z l2 hz.2)
        | nil =>
          have hz := List.cons.inj hz
          rw [← hz.1, ← hz.2]
          intro a' v h2 h3 ha' hv h4 h5 h6
          have h2 : pu_gw (x9 2 a) = true := h2
          have h3 : x9 3 a = pu_I a' := h3
          have hco : pu_I v ≠ pg_co (pv_S x9 a) := by
            unfold pg_co
            by_cases e : (pv_S x9 a).1 = 25
            · rw [if_pos e]; exact h6 e
            · rw [if_neg e]; exact pg_In1 (by omega)
          refine ⟨fun hvH => (e6 a' v ha' (by omega)).mpr (Or.inr ⟨h2, a', ha', h3, Or.inl ⟨rfl, hvH, h4, h5, hco⟩⟩), fun hvH => ⟨fun haH => (e6 v a' hv (by omega)).mpr (Or.inr ⟨h2, a', ha', h3, Or.inr ⟨haH, rfl, (hgQ v hvH hv).mp h4, hco⟩⟩), fun haH => ?_⟩⟩
          rcases hmate with ⟨_, h7⟩ | ⟨g, p, q1, q2, hg, hp, hP, hpg, _, _, hall, _, _, h7⟩
          · exact absurd (h7 a' v h2 h3 haH ha' hvH hv h4 h5) id
          · have e9 := pu_inj (by omega) (by omega) (show pu_I a' = pu_I g from h3.symm.trans q2)
            rcases hall v hvH hv h4 with h8 | h8
            · rw [e9, h8, h7 g, if_neg (fun e => hpg e.symm), if_pos rfl, h7 p, if_pos rfl]
              exact ⟨rfl, rfl⟩
            · exact absurd (by rw [h8, e9]) h5
    obtain ⟨w9, l9, r1, r2⟩ := ih m (a :: m2) hm hml k' w' l' (by omega) hI2
    refine ⟨w9, l9, ?_, r2⟩
    rw [pg_pred, e1]
    exact r1
end MIB
