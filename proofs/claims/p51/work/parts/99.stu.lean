/-! pure side, stores 30: an operator is joined, and the flow behind -/
section PO
variable {F : pu_Flow} {L : Nat → Prop} {D : Nat → Nat → Prop}
theorem pu_av_ne (hS : pu_ssa F L D) {b : Nat} (hb : L b) {l1 l2 : List pu_Stp} {s : pu_Stp} (hs : (F b).2.1 = l1 ++ s :: l2) (hg : pu_gk s.1 = true) {z : Int32} (hz : pu_av F D b l1 z) : z ≠ s.2.1 := by
  rcases hz with h | h | ⟨d, h1, h2, h3⟩
  · exact pu_fresh hS.2.2.2.2.1 hb hs hg (Or.inl h)
  · exact pu_fresh hS.2.2.2.2.1 hb hs hg (Or.inr h)
  · intro e9
    exact h1 (hS.2.2.2.2.1.2 d b _ (pu_dlt hS hb h2) hb h3 (e9 ▸ pu_bl_s hs hg))
/-- where a value is given is one place -/
theorem pu_pos (hS : pu_ssa F L D) {b c : Nat} (hb : L b) (hc : L c) {l1 l2 a r : List pu_Stp} {s t : pu_Stp} (hs : (F b).2.1 = l1 ++ s :: l2) (ht : (F c).2.1 = a ++ t :: r) (hg : pu_gk s.1 = true) (hgt : pu_gk t.1 = true) (e : t.2.1 = s.2.1) : c = b ∧ a = l1 ∧ t = s := by
  have hU := hS.2.2.2.2.1
  have hbc := hU.2 c b _ hc hb (pu_bl_s ht hgt) (by rw [e]; exact pu_bl_s hs hg)
  subst hbc
  refine ⟨rfl, ?_⟩
  have h9 := hs.symm.trans ht
  rcases List.append_eq_append_iff.mp h9 with ⟨x, e1, e2⟩ | ⟨x, e1, e2⟩
  · cases x with
    | nil =>
      rw [List.append_nil] at e1
      exact ⟨e1, ((List.cons.inj e2).1).symm⟩
    | cons y x =>
      have h1 := (List.cons.inj e2).1
      subst h1
      exact absurd e.symm (pu_fresh hU hb ht hgt (Or.inr (by rw [e1, pu_gvs_app]; exact List.mem_append_right _ (pu_gvs_mem List.mem_cons_self hg))))
  · cases x with
    | nil =>
      rw [List.append_nil] at e1
      exact ⟨e1.symm, (List.cons.inj e2).1⟩
    | cons y x =>
      have h1 := (List.cons.inj e2).1
      subst h1
      exact absurd e (pu_fresh hU hb hs hg (Or.inr (by rw [e1, pu_gvs_app]; exact List.mem_append_right _ (pu_gvs_mem List.mem_cons_self hgt))))
end PO
/-- one step's row: kind, left, right -/
def pv_put (w2 : ST) (a : Nat) (k x y : Int32) : ST := fun r z => if z = a then (if r = 2 then k else if r = 4 then x else if r = 5 then y else w2 r z) else w2 r z
theorem pv_put_n {w2 : ST} {a z r : Nat} {k x y : Int32} (h : z ≠ a) : pv_put w2 a k x y r z = w2 r z := if_neg h
theorem pv_put_2 {w2 : ST} {a : Nat} {k x y : Int32} : pv_put w2 a k x y 2 a = k := by unfold pv_put; rw [if_pos rfl, if_pos rfl]
theorem pv_put_4 {w2 : ST} {a : Nat} {k x y : Int32} : pv_put w2 a k x y 4 a = x := by unfold pv_put; rw [if_pos rfl, if_neg (by decide), if_pos rfl]
theorem pv_put_5 {w2 : ST} {a : Nat} {k x y : Int32} : pv_put w2 a k x y 5 a = y := by unfold pv_put; rw [if_pos rfl, if_neg (by decide), if_neg (by decide), if_pos rfl]
theorem pv_put_r {w2 : ST} {a r : Nat} {k x y : Int32} (h2 : r ≠ 2) (h4 : r ≠ 4) (h5 : r ≠ 5) : pv_put w2 a k x y r = w2 r := by
  funext z
  unfold pv_put
  rw [if_neg h2, if_neg h4, if_neg h5]
  by_cases hz : z = a
  · rw [if_pos hz]
  · rw [if_neg hz]
theorem pv_put_12 {w2 : ST} {a : Nat} {x y : Int32} : pv_w12 w2 a x y = pv_put w2 a (w2 2 a) x y := by
  funext r z
  unfold pv_w12 pv_put
  rw [pv_upw, pv_upw]
  by_cases hz : z = a
  · subst hz
    by_cases h5 : r = 5
    · subst h5; simp
    · by_cases h4 : r = 4
      · subst h4; simp
      · by_cases h2 : r = 2
        · subst h2; simp
        · simp [h5, h4, h2]
  · simp [hz]
theorem pv_put_num {w2 : ST} {a : Nat} {x y c : Int32} : upw (upw (upw (pv_w12 w2 a x y) 2 a 0) 4 a c) 5 a (-1) = pv_put w2 a 0 c (-1) := by
  funext r z
  unfold pv_w12 pv_put
  rw [pv_upw, pv_upw, pv_upw, pv_upw, pv_upw]
  by_cases hz : z = a
  · subst hz
    by_cases h5 : r = 5
    · subst h5; simp
    · by_cases h4 : r = 4
      · subst h4; simp
      · by_cases h2 : r = 2
        · subst h2; simp
        · simp [h5, h4, h2]
  · simp [hz]
theorem pv_put_sw {w2 : ST} {a : Nat} {x y : Int32} : upw (upw (pv_w12 w2 a x y) 4 a y) 5 a x = pv_put w2 a (w2 2 a) y x := by
  funext r z
  unfold pv_w12 pv_put
  rw [pv_upw, pv_upw, pv_upw, pv_upw]
  by_cases hz : z = a
  · subst hz
    by_cases h5 : r = 5
    · subst h5; simp
    · by_cases h4 : r = 4
      · subst h4; simp
      · by_cases h2 : r = 2
        · subst h2; simp
        · simp [h5, h4, h2]
  · simp [hz]
theorem pv_aS_put {g w2 : ST} {a : Nat} {k x y : Int32} (hk : pu_gk k = pu_gk (w2 2 a)) : pv_aS g (pv_put w2 a k x y) = pv_aS g w2 := by
  funext z
  unfold pv_aS
  rw [pv_put_r (r := 3) (by decide) (by decide) (by decide)]
  by_cases hz : z = a
  · subst hz
    rw [pv_put_2, hk]
  · rw [pv_put_n hz]
theorem pv_AS_n {g w2 : ST} {a z : Nat} {k x y : Int32} (h : z ≠ a) : pv_AS g (pv_put w2 a k x y) z = pv_AS g w2 z := by
  unfold pv_AS pv_S
  rw [pv_put_n h, pv_put_n h, pv_put_n h, pv_put_n h]
theorem pv_AS_s {g w2 : ST} {a : Nat} {k x y : Int32} : pv_AS g (pv_put w2 a k x y) a = pu_sbS (pv_sgx g) (k, w2 3 a, x, y) := by
  unfold pv_AS pv_S
  rw [pv_put_2, pv_put_4, pv_put_5, pv_put_r (r := 3) (by decide) (by decide) (by decide)]
/-- calls and parameters stay what they are -/
def pv_c2 (w2 w2' : ST) : Prop := ∀ z, (w2' 2 z = 20 ∨ w2' 2 z = 21) → w2' 2 z = w2 2 z ∧ w2' 4 z = w2 4 z
theorem pv_c2_rf (w2 : ST) : pv_c2 w2 w2 := fun _ _ => ⟨rfl, rfl⟩
theorem pv_c2_tr {w2 w3 w4 : ST} (h : pv_c2 w2 w3) (h' : pv_c2 w3 w4) : pv_c2 w2 w4 := by
  intro z hz
  have h1 := h' z hz
  rw [h1.1] at hz
  have h2 := h z hz
  exact ⟨by rw [h1.1, h2.1], by rw [h1.2, h2.2]⟩
theorem pv_c2_put {w2 : ST} {a : Nat} {k x y : Int32} (hk : k = 0 ∨ pu_isop k = true) : pv_c2 w2 (pv_put w2 a k x y) := by
  intro z hz
  by_cases e : z = a
  · subst e
    rw [pv_put_2] at hz
    exfalso
    rcases hk with rfl | hk
    · exact absurd hz (by decide)
    · rcases hz with rfl | rfl <;> exact absurd hk (by decide)
  · rw [pv_put_n e, pv_put_n e]
    exact ⟨rfl, rfl⟩
/-- the same step behind: the same flow -/
theorem pv_A_put {g w w2 : ST} {ch ph : Nat → List Nat} {a : Nat} {k x y : Int32} (hk : pu_gk k = pu_gk (w2 2 a)) (h : pv_AS g (pv_put w2 a k x y) a = pv_AS g w2 a) : pv_A g w (pv_put w2 a k x y) ch ph = pv_A g w w2 ch ph := by
  have e1 : pv_AS g (pv_put w2 a k x y) = pv_AS g w2 := by
    funext z
    by_cases hz : z = a
    · subst hz; exact h
    · exact pv_AS_n hz
  unfold pv_A
  rw [pv_aS_put hk, e1]
/-- another step behind -/
theorem pv_A_r1 {g w w2 : ST} {B : Nat} {ch ph : Nat → List Nat} {a c : Nat} {k x y : Int32} (hun : pv_un w w2 B ch ph) (hc : c < B) (ha : a ∈ ch c) (h0 : ¬ w2 3 a < 0) (hk : pu_gk k = pu_gk (w2 2 a)) (hg : pu_gk (w2 2 a) = true) :
    ∀ b, b < B → pv_A g w (pv_put w2 a k x y) ch ph b = pu_r1F (pv_A g w w2 ch ph) (w2 3 a) (pv_AS g (pv_put w2 a k x y) a) b := by
  intro b hb
  refine Prod.ext rfl (Prod.ext ?_ rfl)
  show ((ch b).filter (pv_aS g (pv_put w2 a k x y))).map (pv_AS g (pv_put w2 a k x y)) = (((ch b).filter (pv_aS g w2)).map (pv_AS g w2)).map (pu_t1 (w2 3 a) (pv_AS g (pv_put w2 a k x y) a))
  rw [pv_aS_put hk, List.map_map]
  refine List.map_congr_left fun z hz => ?_
  show _ = pu_t1 (w2 3 a) (pv_AS g (pv_put w2 a k x y) a) (pv_AS g w2 z)
  by_cases e : z = a
  · subst e
    exact (pu_t1_s (t := pv_AS g w2 z) hg rfl).symm
  · rw [pv_AS_n e, pu_t1_n]
    intro _ e9
    exact e (hun.1 b c z a hb hc (List.mem_filter.mp hz).1 ha (by have e9 : w2 3 z = w2 3 a := e9; rw [e9]; exact h0) e9)
def pv_Jst (B N : Nat) (D : Nat → Nat → Prop) (l : SL) (w : ST) (n n2 : Nat → Nat) (ch ph : Nat → List Nat) (wb : Nat → Nat) : Prop :=
  (0 < B ∧ B ≤ 60) ∧ (N ≤ n2 2 ∧ N ≤ n2 3 ∧ N ≤ n2 4 ∧ N ≤ n2 5 ∧ N ≤ n2 6 ∧ N < 50000) ∧ pv_dis B N ch ∧ (∀ b, b < B → ∀ a ∈ ph b, ixb (w 19 a) 250 = true) ∧ pv_wys B w wb ∧ pv_tk B w wb ph ∧
  (∀ b c, b < B → c < B → pv_bt (l 16 b) c = true → D b c)
def pv_Jv (B : Nat) (D : Nat → Nat → Prop) (w : ST) (ch ph : Nat → List Nat) (F0 : pu_Flow) (g w2 : ST) : Prop :=
  pv_sk g ∧ pv_rg w2 B ch ∧ pv_gks w2 B ch ∧ pv_giv w2 B ch g ∧ pv_un w w2 B ch ph ∧ (∀ b, b < B → ∀ a ∈ ch b, w2 3 a < 0 ∨ ixb (w2 3 a) 250 = true) ∧ pu_ssa (pv_A g w w2 ch ph) (fun b => b < B) D ∧
  ∀ call ar k e m q r, pu_run F0 call ar k 0 0 (e, m, q) = some r → pu_run (pv_A g w w2 ch ph) call ar k 0 0 (e, m, q) = some r
section JX
variable {B N : Nat} {D : Nat → Nat → Prop} {l : SL} {w : ST} {n n2 : Nat → Nat} {ch ph : Nat → List Nat} {wb : Nat → Nat} {F0 : pu_Flow} {g w2 : ST}
/-- what is a number by the tables is that number -/
theorem pv_J_nm (hst : pv_Jst B N D l w n n2 ch ph wb) (hJ : pv_Jv B D w ch ph F0 g w2) {b : Nat} {l1 l2 : List pu_Stp} (hb : b < B) (hl : (pv_A g w w2 ch ph b).2.1 = l1 ++ l2) {e : pu_E} (he : pu_ei (pv_A g w w2 ch ph) D b l1 e) {x : Int32} (hx : pu_av (pv_A g w w2 ch ph) D b l1 x) (hxv : ixb x 250 = true) (hm : pv_nm g w2 x = true) : e x = pv_nv g w2 x := by
  obtain ⟨hsk, hrg, hgk, hgiv, hun, hix2, hS, hrun⟩ := hJ
  obtain ⟨⟨hB0, hB⟩, ⟨hN2, hN3, hN4, hN5, hN6, hN⟩, hdis, hix, hw, htk, hdb⟩ := hst
  obtain ⟨d, hd, hxd⟩ : ∃ d, d < B ∧ x ∈ pu_bl (pv_A g w w2 ch ph) d := by
    rcases pu_av_bl hl hx with h | ⟨d, h1, h2, h3⟩
    · exact ⟨b, hb, h⟩
    · exact ⟨d, pu_dlt hS hb h2, h3⟩
  unfold pv_nm at hm
  have hm : ¬ g 2 (nn x) < 0 ∧ w2 2 (nn (g 2 (nn x))) = 0 := by simpa using hm
  obtain ⟨h0, hk⟩ := hm
  obtain ⟨b5, a5, q1, q2, q3, q4⟩ := hgiv _ (pv_ixn hxv).2 h0
  have e5 : w2 3 a5 = x := by rw [q4]; exact (pu_of (pv_ixn hxv).1).symm
  have ha5 := hdis.1 b5 q1 a5 q2
  have hn : nn (g 2 (nn x)) = a5 := by rw [q3, pu_nn (by omega)]
  rw [hn] at hk
  rcases List.mem_append.mp hxd with h | h
  · obtain ⟨z, hz, e9⟩ := List.mem_map.mp h
    obtain ⟨a0, ha0, rfl⟩ := List.mem_map.mp hz
    exact (hun.2.1 d b5 a0 a5 hd q1 (List.mem_filter.mp ha0).1 q2 (by rw [e5]; exact e9)).elim
  · obtain ⟨t, ht, htg, hte⟩ := pu_gvs_get h
    obtain ⟨a0, ha0, rfl⟩ := List.mem_map.mp ht
    have hte : w2 3 a0 = x := hte
    have ea : a0 = a5 := hun.1 d b5 a0 a5 hd q1 (List.mem_filter.mp ha0).1 q2 (by rw [hte]; exact (pv_ixn hxv).1) (by rw [e5]; exact hte)
    rw [ea] at ht htg
    have heq := pu_num hS hb hl he hd ht htg (by show pu_av _ _ _ _ (w2 3 a5); rw [e5]; exact hx)
    have h1 : e (w2 3 a5) = (if pu_ul (w2 2 a5) = true then pv_sgx g (w2 4 a5) else w2 4 a5) := heq.1 hk
    rw [e5, hk, if_neg (by decide)] at h1
    unfold pv_nv
    rw [hn]
    exact h1
theorem pv_A_loc {b a : Nat} {l1 l2 : List Nat} (hl : ch b = l1 ++ a :: l2) (ha : pv_aS g w2 a = true) : (pv_A g w w2 ch ph b).2.1 = (l1.filter (pv_aS g w2)).map (pv_AS g w2) ++ pv_AS g w2 a :: (l2.filter (pv_aS g w2)).map (pv_AS g w2) := by
  show ((ch b).filter (pv_aS g w2)).map (pv_AS g w2) = _
  rw [hl, List.filter_append, List.filter_cons, if_pos ha, List.map_append, List.map_cons]
theorem pv_gr_of (hdis : pv_dis B N ch) (hgiv : pv_giv w2 B ch g) : pv_gr g N := by
  intro v hv h0
  obtain ⟨b5, a5, q1, q2, q3, q4⟩ := hgiv v hv h0
  exact ⟨a5, hdis.1 b5 q1 a5 q2, q3⟩
theorem pv_J_op (hst : pv_Jst B N D l w n n2 ch ph wb) (hJ : pv_Jv B D w ch ph F0 g w2) {b a : Nat} {l1 l2 : List Nat} (hb : b < B) (hl : ch b = l1 ++ a :: l2) (hop : pu_isop (w2 2 a) = true) (hal : g 6 (nn (w2 3 a)) < 0) :
    ∃ g' w2', fX5_joinOperator g (pu_I a) n2 w2 = some (g', w2') ∧ pv_Jv B D w ch ph F0 g' w2' ∧ (∀ r, r ≠ 6 → r ≠ 7 → g' r = g r) ∧ (∀ v, v ≠ nn (w2 3 a) → g' 6 v = g 6 v) ∧ (∀ r, r ≠ 2 → r ≠ 4 → r ≠ 5 → w2' r = w2 r) ∧ (w2' 2 a = 0 ∨ pu_isop (w2' 2 a) = true) ∧ pv_c2 w2 w2' := by
  have hst0 := hst
  have hJ0 := hJ
  obtain ⟨hsk, hrg, hgk, hgiv, hun, hix2, hS, hrun⟩ := hJ
  obtain ⟨⟨hB0, hB⟩, ⟨hN2, hN3, hN4, hN5, hN6, hN⟩, hdis, hix, hw, htk, hdb⟩ := hst
  have ha : a ∈ ch b := by rw [hl]; exact List.mem_append_right _ List.mem_cons_self
  have haN := hdis.1 b hb a ha
  have hg : pu_gk (w2 2 a) = true := pu_op_gk hop
  have h0 : ¬ w2 3 a < 0 := (hgk b hb a ha).mp hg
  have hgv : ixb (w2 3 a) 250 = true := (hix2 b hb a ha).resolve_left h0
  have hu := pu_op_u hop
  have hvl := (hrg b hb a ha).1 hu.1
  have hvr := (hrg b hb a ha).2 hu.2
  have hk0 : w2 2 a ≠ 0 := fun e => by rw [e] at hop; exact absurd hop (by decide)
  obtain ⟨g', w2', e1, hjo⟩ := pv_joinOperator (n2 := n2) (N := N) hN2 hN3 hN4 hN5 hN (pv_gr_of hdis hgiv) hsk haN hk0 hgv hvl hvr
  have hx := (pv_sg_root hsk hvl).1
  have hy := (pv_sg_root hsk hvr).1
  have hrx := (pv_sg_root hsk hvl).2
  have hry := (pv_sg_root hsk hvr).2
  have hxx : pv_sg g (pv_sg g (w2 4 a)) = pv_sg g (w2 4 a) := pv_sg_i hsk hvl
  have hyy : pv_sg g (pv_sg g (w2 5 a)) = pv_sg g (w2 5 a) := pv_sg_i hsk hvr
  have hASa : pv_AS g w2 a = (w2 2 a, w2 3 a, pv_sg g (w2 4 a), pv_sg g (w2 5 a)) := by
    unfold pv_AS pu_sbS pv_S
    show (w2 2 a, w2 3 a, (if pu_ul (w2 2 a) = true then pv_sgx g (w2 4 a) else w2 4 a), (if pu_ur (w2 2 a) = true then pv_sgx g (w2 5 a) else w2 5 a)) = _
    rw [if_pos hu.1, if_pos hu.2, pv_sgx_v hvl, pv_sgx_v hvr]
  have haS : pv_aS g w2 a = true := by unfold pv_aS pv_ab; simp [hal]
  have hloc := pv_A_loc (w := w) (ph := ph) hl haS
  have hus := hS.2.2.2.2.2.1 b _ _ _ hb hloc
  rw [hASa] at hus
  have hux := hus.1 hu.1
  have huy := hus.2 hu.2
  have hgA : pu_gk (pv_AS g w2 a).1 = true := hg
  have hpos : ∀ b' l1' s l2', b' < B → (pv_A g w w2 ch ph b').2.1 = l1' ++ s :: l2' → pu_gk s.1 = true → s.2.1 = w2 3 a → b' = b ∧ l1' = (l1.filter (pv_aS g w2)).map (pv_AS g w2) ∧ s = (w2 2 a, w2 3 a, pv_sg g (w2 4 a), pv_sg g (w2 5 a)) := by
    intro b' l1' s l2' hb' hs' hgs hgv'
    rw [← hASa]
    exact pu_pos hS hb hb' hloc hs' hgA hgs hgv'
  have heqs : ∀ {P : Int32 → Int32 → Prop}, pv_al g w2 (pv_sg g (w2 4 a)) (pv_sg g (w2 5 a)) P → ∀ e, pu_ei (pv_A g w w2 ch ph) D b ((l1.filter (pv_aS g w2)).map (pv_AS g w2)) e → P (e (pv_sg g (w2 4 a))) (e (pv_sg g (w2 5 a))) := by
    intro P hP e he
    exact hP _ _ (fun hm => pv_J_nm hst0 hJ0 hb hloc he hux hx hm) (fun hm => pv_J_nm hst0 hJ0 hb hloc he huy hy hm) (fun h => by rw [h])
  have hzb : pv_put w2 a (w2 2 a) (pv_sg g (w2 4 a)) (pv_sg g (w2 5 a)) 2 = w2 2 := by
    funext z
    by_cases hz : z = a
    · subst hz; exact pv_put_2
    · exact pv_put_n hz
  have hA12 : pv_A g w (pv_put w2 a (w2 2 a) (pv_sg g (w2 4 a)) (pv_sg g (w2 5 a))) ch ph = pv_A g w w2 ch ph := by
    refine pv_A_put rfl ?_
    rw [pv_AS_s, hASa]
    unfold pu_sbS
    show (w2 2 a, w2 3 a, (if pu_ul (w2 2 a) = true then pv_sgx g (pv_sg g (w2 4 a)) else pv_sg g (w2 4 a)), (if pu_ur (w2 2 a) = true then pv_sgx g (pv_sg g (w2 5 a)) else pv_sg g (w2 5 a))) = _
    rw [if_pos hu.1, if_pos hu.2, pv_sgx_v hx, pv_sgx_v hy, hxx, hyy]
  -- what holds of the rows whatever is put there
  have hrows : ∀ (k x y : Int32) (gg : ST), pu_gk k = true → (pu_ul k = true → ixb x 250 = true) → (pu_ur k = true → ixb y 250 = true) → gg 2 = g 2 →
      pv_rg (pv_put w2 a k x y) B ch ∧ pv_gks (pv_put w2 a k x y) B ch ∧ pv_giv (pv_put w2 a k x y) B ch gg ∧ pv_un w (pv_put w2 a k x y) B ch ph ∧ (∀ b, b < B → ∀ a9 ∈ ch b, pv_put w2 a k x y 3 a9 < 0 ∨ ixb (pv_put w2 a k x y 3 a9) 250 = true) := by
    intro k x y gg hk h1 h2 hgg
    have r3 : pv_put w2 a k x y 3 = w2 3 := pv_put_r (by decide) (by decide) (by decide)
    refine ⟨fun c hc z hz => ?_, fun c hc z hz => ?_, ?_, ?_, ?_⟩
    · by_cases hza : z = a
      · subst hza
        rw [pv_put_2, pv_put_4, pv_put_5]
        exact ⟨h1, h2⟩
      · rw [pv_put_n hza, pv_put_n hza, pv_put_n hza]
        exact hrg c hc z hz
    · rw [r3]
      by_cases hza : z = a
      · subst hza
        rw [pv_put_2]
        exact ⟨fun _ => h0, fun _ => hk⟩
      · rw [pv_put_n hza]
        exact hgk c hc z hz
    · intro v hv hv0
      rw [hgg] at hv0 ⊢
      rw [r3]
      exact hgiv v hv hv0
    · unfold pv_un
      rw [r3]
      exact hun
    · rw [r3]
      exact hix2
  have hgkk : pu_gk (0 : Int32) = pu_gk (w2 2 a) := by rw [hg]; decide
  rcases hjo with ⟨c, rfl, rfl, hal2⟩ | ⟨z, rfl, rfl, hz⟩ | ⟨hgg, hw2⟩
  · -- a number
    rw [pv_put_num] at e1
    have hAe : pv_A (upw g 7 (nn (w2 3 a)) 1) w (pv_put w2 a 0 c (-1)) ch ph = pv_A g w (pv_put w2 a 0 c (-1)) ch ph := pv_A_e fun v => by rw [pv_upw_n (by decide)]
    have hAr := pv_A_r1 (g := g) (x := c) (y := -1) hun hb ha h0 hgkk hg
    have hs' : pv_AS g (pv_put w2 a 0 c (-1)) a = (0, w2 3 a, c, -1) := by
      rw [pv_AS_s]
      unfold pu_sbS
      show ((0 : Int32), w2 3 a, (if pu_ul 0 = true then pv_sgx g c else c), (if pu_ur 0 = true then pv_sgx g (-1) else -1)) = _
      rw [if_neg (by decide), if_neg (by decide)]
    rw [hs'] at hAr
    have hR := hrows 0 c (-1) (upw g 7 (nn (w2 3 a)) 1) (by decide) (fun h => absurd h (by decide)) (fun h => absurd h (by decide)) (pv_upw_n (by decide))
    have hSS : pu_ssa (pu_r1F (pv_A g w w2 ch ph) (w2 3 a) (0, w2 3 a, c, -1)) (fun b => b < B) D := pu_r1_ssa hS (show pu_gk (0 : Int32) = true by decide) rfl fun _ _ _ _ _ _ _ _ => ⟨fun h => absurd h (show ¬ pu_ul (0 : Int32) = true by decide), fun h => absurd h (show ¬ pu_ur (0 : Int32) = true by decide)⟩
    refine ⟨_, _, e1, ⟨pv_sk_e (fun v => by rw [pv_upw_n (by decide)]) hsk, hR.1, hR.2.1, hR.2.2.1, hR.2.2.2.1, hR.2.2.2.2, ?_, ?_⟩, fun r _ h7 => pv_upw_n h7, fun v _ => by rw [pv_upw_n (by decide)], fun r h2 h4 h5 => pv_put_r h2 h4 h5, Or.inl pv_put_2, pv_c2_put (Or.inl rfl)⟩
    · rw [hAe]
      exact pu_eqB_ssa hAr hSS
    · intro call ar k e m q r hr
      rw [hAe]
      refine pu_eqB_run hB0 hSS.2.1.1 hAr (pu_r1_run hS ?_ (hrun call ar k e m q r hr))
      intro b' l1' s l2' e' m' q' hb' hs9 hgs hgv' he'
      obtain ⟨rfl, rfl, rfl⟩ := hpos b' l1' s l2' hb' hs9 hgs hgv'
      exact pu_stp_num hop (heqs hal2 e' he')
  · -- another stands for it
    rw [pv_put_12] at e1
    have hzz : pu_av (pv_A g w w2 ch ph) D b ((l1.filter (pv_aS g w2)).map (pv_AS g w2)) z ∧ ixb z 250 = true ∧ g 6 (nn z) < 0 ∧ pv_al g w2 (pv_sg g (w2 4 a)) (pv_sg g (w2 5 a)) (fun ex ey => pu_fail (w2 2 a) ey = false ∧ pu_cmp (w2 2 a) ex ey = (if z = pv_sg g (w2 4 a) then ex else ey)) := by
      rcases hz with ⟨rfl, h2⟩ | ⟨rfl, h2⟩
      · refine ⟨hux, hx, hrx, fun ex ey q1 q2 q3 => ?_⟩
        show pu_fail (w2 2 a) ey = false ∧ pu_cmp (w2 2 a) ex ey = (if pv_sg g (w2 4 a) = pv_sg g (w2 4 a) then ex else ey)
        rw [if_pos rfl]
        exact h2 ex ey q1 q2 q3
      · refine ⟨huy, hy, hry, fun ex ey q1 q2 q3 => ?_⟩
        have h3 : pu_fail (w2 2 a) ey = false ∧ pu_cmp (w2 2 a) ex ey = ey := h2 ex ey q1 q2 q3
        show pu_fail (w2 2 a) ey = false ∧ pu_cmp (w2 2 a) ex ey = (if pv_sg g (w2 5 a) = pv_sg g (w2 4 a) then ex else ey)
        by_cases hxy : pv_sg g (w2 5 a) = pv_sg g (w2 4 a)
        · rw [if_pos hxy, q3 hxy.symm]
          rw [q3 hxy.symm] at h3
          exact h3
        · rw [if_neg hxy]
          exact h3
    obtain ⟨hza, hzv, hzr, hzal⟩ := hzz
    have hzxy : z = pv_sg g (w2 4 a) ∨ z = pv_sg g (w2 5 a) := hz.elim (fun h => Or.inl h.1) (fun h => Or.inr h.1)
    have hne : z ≠ w2 3 a := pu_av_ne hS hb hloc hgA hza
    have hrp : pu_rp (pv_A g w w2 ch ph) (fun b => b < B) D (w2 3 a) z := pu_rp_stp hS hb hloc hgA hza
    have hAs := pv_A_set (g := g) (w := w) (w2 := w2) (ch := ch) (ph := ph) hsk hgv hzv hal hzr hne
    have hsk' := pv_sk_set hsk hgv hzv hal hzr hne
    have hR := hrows (w2 2 a) (pv_sg g (w2 4 a)) (pv_sg g (w2 5 a)) (upw g 6 (nn (w2 3 a)) z) hg (fun _ => hx) (fun _ => hy) (pv_upw_n (by decide))
    have hA12' : pv_A (upw g 6 (nn (w2 3 a)) z) w (pv_put w2 a (w2 2 a) (pv_sg g (w2 4 a)) (pv_sg g (w2 5 a))) ch ph = pu_s1F (pv_A g w w2 ch ph) (w2 3 a) z := by
      rw [pv_A_set hsk hgv hzv hal hzr hne, hA12]
    refine ⟨_, _, e1, ⟨hsk'.1, hR.1, hR.2.1, hR.2.2.1, hR.2.2.2.1, hR.2.2.2.2, ?_, ?_⟩, fun r h6 _ => pv_upw_n h6, fun v hv => by rw [pv_upw, if_neg fun c => hv c.2], fun r h2 h4 h5 => pv_put_r h2 h4 h5, Or.inr (by rw [pv_put_2]; exact hop), pv_c2_put (Or.inr hop)⟩
    · rw [hA12']
      exact pu_s1_ssa hS hne hrp
    · intro call ar k e m q r hr
      rw [hA12']
      refine pu_s1_run hS hne hrp ?_ ?_ (hrun call ar k e m q r hr)
      · intro b' l1' s l2' e' hb' hs9 hgs hgv' he'
        obtain ⟨rfl, rfl, rfl⟩ := hpos b' l1' s l2' hb' hs9 hgs hgv'
        refine ⟨Or.inr hop, fun h => absurd h hk0, fun _ => ?_⟩
        have h3 := heqs hzal e' he'
        refine ⟨h3.1, ?_⟩
        show e' z = pu_cmp (w2 2 a) (e' (pv_sg g (w2 4 a))) (e' (pv_sg g (w2 5 a)))
        rw [h3.2]
        by_cases hzx : z = pv_sg g (w2 4 a)
        · rw [if_pos hzx, hzx]
        · rw [if_neg hzx, hzxy.resolve_left hzx]
      · intro b' p y e' hp hsc hy9 hyg
        exfalso
        obtain ⟨a0, ha0, rfl⟩ := List.mem_map.mp hy9
        exact hun.2.1 b' b a0 a (hS.2.1.1 p b' hp hsc) hb (List.mem_filter.mp ha0).1 ha hyg
  · rw [hgg] at e1
    rcases hw2 with rfl | ⟨hew, rfl⟩
    · rw [pv_put_12] at e1
      have hR := hrows (w2 2 a) (pv_sg g (w2 4 a)) (pv_sg g (w2 5 a)) g hg (fun _ => hx) (fun _ => hy) rfl
      refine ⟨_, _, e1, ⟨hsk, hR.1, hR.2.1, hR.2.2.1, hR.2.2.2.1, hR.2.2.2.2, ?_, ?_⟩, fun r _ _ => rfl, fun v _ => rfl, fun r h2 h4 h5 => pv_put_r h2 h4 h5, Or.inr (by rw [pv_put_2]; exact hop), pv_c2_put (Or.inr hop)⟩
      · rw [hA12]; exact hS
      · rw [hA12]; exact hrun
    · rw [pv_put_sw] at e1
      have hR := hrows (w2 2 a) (pv_sg g (w2 5 a)) (pv_sg g (w2 4 a)) g hg (fun _ => hy) (fun _ => hx) rfl
      have hAr := pv_A_r1 (g := g) (k := w2 2 a) (x := pv_sg g (w2 5 a)) (y := pv_sg g (w2 4 a)) hun hb ha h0 rfl hg
      have hs' : pv_AS g (pv_put w2 a (w2 2 a) (pv_sg g (w2 5 a)) (pv_sg g (w2 4 a))) a = (w2 2 a, w2 3 a, pv_sg g (w2 5 a), pv_sg g (w2 4 a)) := by
        rw [pv_AS_s]
        unfold pu_sbS
        show (w2 2 a, w2 3 a, (if pu_ul (w2 2 a) = true then pv_sgx g (pv_sg g (w2 5 a)) else pv_sg g (w2 5 a)), (if pu_ur (w2 2 a) = true then pv_sgx g (pv_sg g (w2 4 a)) else pv_sg g (w2 4 a))) = _
        rw [if_pos hu.1, if_pos hu.2, pv_sgx_v hx, pv_sgx_v hy, hxx, hyy]
      rw [hs'] at hAr
      have hSS : pu_ssa (pu_r1F (pv_A g w w2 ch ph) (w2 3 a) (w2 2 a, w2 3 a, pv_sg g (w2 5 a), pv_sg g (w2 4 a))) (fun b => b < B) D := by
        refine pu_r1_ssa hS hg rfl fun b' l1' s l2' hb' hs9 hgs hgv' => ?_
        obtain ⟨rfl, rfl, rfl⟩ := hpos b' l1' s l2' hb' hs9 hgs hgv'
        exact ⟨fun _ => huy, fun _ => hux⟩
      refine ⟨_, _, e1, ⟨hsk, hR.1, hR.2.1, hR.2.2.1, hR.2.2.2.1, hR.2.2.2.2, ?_, ?_⟩, fun r _ _ => rfl, fun v _ => rfl, fun r h2 h4 h5 => pv_put_r h2 h4 h5, Or.inr (by rw [pv_put_2]; exact hop), pv_c2_put (Or.inr hop)⟩
      · exact pu_eqB_ssa hAr hSS
      · intro call ar k e m q r hr
        refine pu_eqB_run hB0 hSS.2.1.1 hAr (pu_r1_run hS ?_ (hrun call ar k e m q r hr))
        intro b' l1' s l2' e' m' q' hb' hs9 hgs hgv' he'
        obtain ⟨rfl, rfl, rfl⟩ := hpos b' l1' s l2' hb' hs9 hgs hgv'
        have h3 := pv_ew_cmp (k := w2 2 a) (x := e' (pv_sg g (w2 4 a))) (y := e' (pv_sg g (w2 5 a))) hew
        exact pu_stp_swap hop ⟨by rw [h3.1, h3.2.1], h3.2.2⟩
end JX
