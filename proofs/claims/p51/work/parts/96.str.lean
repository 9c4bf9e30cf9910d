/-! pure side, stores 27: one value goes, another stands for it -/
def pu_sb1 (g z : Int32) (v : Int32) : Int32 := if v = g then z else v
theorem pu_sb1_g (g z : Int32) : pu_sb1 g z g = z := if_pos rfl
theorem pu_sb1_n {g z v : Int32} (h : v ≠ g) : pu_sb1 g z v = v := if_neg h
def pu_d1 (g : Int32) (v : Int32) : Bool := decide (v = g)
theorem pu_d1_f {g v : Int32} (h : v ≠ g) : pu_d1 g v = false := decide_eq_false h
def pu_s1F (F : pu_Flow) (g z : Int32) : pu_Flow := pu_jnF F (pu_d1 g) (pu_sb1 g z) (pu_sbS (pu_sb1 g z))
/-- where the one is there, the other is -/
def pu_rp (F : pu_Flow) (L : Nat → Prop) (D : Nat → Nat → Prop) (g z : Int32) : Prop := ∀ b l1 l2, L b → (F b).2.1 = l1 ++ l2 → pu_av F D b l1 g → pu_av F D b l1 z
theorem pu_gvs_im {del : Int32 → Bool} {sg : Int32 → Int32} : ∀ l : List pu_Stp, pu_gvs (pu_im del (pu_sbS sg) l) = (pu_gvs l).filter (fun v => !del v) := by
  intro l
  induction l with
  | nil => rfl
  | cons s l ih =>
    by_cases hg : pu_gk s.1 = true
    · rw [pu_gvs_c l hg, List.filter_cons]
      by_cases hd : del s.2.1 = true
      · rw [pu_im_n s l (by unfold pu_jk; rw [hg, hd]; rfl), ih, hd]
        rfl
      · have hd : del s.2.1 = false := by simpa using hd
        rw [pu_im_c s l (by unfold pu_jk; rw [hg, hd]; rfl), pu_gvs_c (s := pu_sbS sg s) _ hg, ih, hd]
        rfl
    · have hg : pu_gk s.1 = false := by simpa using hg
      rw [pu_gvs_n l hg, pu_im_c s l (by unfold pu_jk; rw [hg]; rfl), pu_gvs_n (s := pu_sbS sg s) _ hg, ih]
theorem pu_im_split {del : Int32 → Bool} {tr : pu_Stp → pu_Stp} {x : pu_Stp} {c : List pu_Stp} : ∀ (l a : List pu_Stp), pu_im del tr l = a ++ x :: c → ∃ l1 s l2, l = l1 ++ s :: l2 ∧ pu_jk del s = true ∧ pu_im del tr l1 = a ∧ tr s = x ∧ pu_im del tr l2 = c := by
  intro l
  induction l with
  | nil => intro a h; cases a <;> cases h
  | cons s l ih =>
    intro a h
    by_cases hk : pu_jk del s = true
    · rw [pu_im_c s l hk] at h
      cases a with
      | nil =>
        have h := List.cons.inj h
        exact ⟨[], s, l, rfl, hk, rfl, h.1, h.2⟩
      | cons y a =>
        have h := List.cons.inj h
        obtain ⟨l1, s1, l2, e1, e2, e3, e4, e5⟩ := ih a h.2
        exact ⟨s :: l1, s1, l2, by rw [e1]; rfl, e2, by rw [pu_im_c s l1 hk, e3, h.1], e4, e5⟩
    · have hk : pu_jk del s = false := by simpa using hk
      rw [pu_im_n s l hk] at h
      obtain ⟨l1, s1, l2, e1, e2, e3, e4, e5⟩ := ih a h
      exact ⟨s :: l1, s1, l2, by rw [e1]; rfl, e2, by rw [pu_im_n s l1 hk, e3], e4, e5⟩
theorem pu_map_fst {del : Int32 → Bool} {f : pu_Phi → Nat → Int32} : ∀ l : List pu_Phi, ((l.filter (fun z => !del z.1)).map (fun z => (z.1, f z))).map Prod.fst = (l.map Prod.fst).filter (fun v => !del v) := by
  intro l
  induction l with
  | nil => rfl
  | cons s l ih =>
    rw [List.filter_cons, List.map_cons, List.filter_cons]
    cases hd : del s.1 with
    | true => exact ih
    | false => exact congrArg (s.1 :: ·) ih
theorem pu_sbS_id {g z : Int32} {t : pu_Stp} (h1 : pu_ul t.1 = true → t.2.2.1 ≠ g) (h2 : pu_ur t.1 = true → t.2.2.2 ≠ g) : pu_sbS (pu_sb1 g z) t = t := by
  unfold pu_sbS
  have e1 : (if pu_ul t.1 = true then pu_sb1 g z t.2.2.1 else t.2.2.1) = t.2.2.1 := by
    by_cases h : pu_ul t.1 = true
    · rw [if_pos h, pu_sb1_n (h1 h)]
    · rw [if_neg h]
  have e2 : (if pu_ur t.1 = true then pu_sb1 g z t.2.2.2 else t.2.2.2) = t.2.2.2 := by
    by_cases h : pu_ur t.1 = true
    · rw [if_pos h, pu_sb1_n (h2 h)]
    · rw [if_neg h]
  rw [e1, e2]
section S1
variable {F : pu_Flow} {L : Nat → Prop} {D : Nat → Nat → Prop} {g z : Int32} {call : pu_Call} {ar : List Int32}
/-- what is ahead of a step, or dominates it, has nothing of what it gives -/
theorem pu_noG (hS : pu_ssa F L D) {b : Nat} (hb : L b) {l1 l2 : List pu_Stp} {s : pu_Stp} (hs : (F b).2.1 = l1 ++ s :: l2) (hg : pu_gk s.1 = true) :
    (∀ t ∈ l1, (pu_gk t.1 = true → t.2.1 ≠ s.2.1) ∧ (pu_ul t.1 = true → t.2.2.1 ≠ s.2.1) ∧ (pu_ur t.1 = true → t.2.2.2 ≠ s.2.1)) ∧
    (∀ d, d ≠ b → D b d → ∀ t ∈ (F d).2.1, (pu_gk t.1 = true → t.2.1 ≠ s.2.1) ∧ (pu_ul t.1 = true → t.2.2.1 ≠ s.2.1) ∧ (pu_ur t.1 = true → t.2.2.2 ≠ s.2.1)) := by
  have hU := hS.2.2.2.2.1
  have hsb := pu_bl_s hs hg
  constructor
  · intro t ht
    obtain ⟨a, c, hac⟩ := List.append_of_mem ht
    have hs2 : (F b).2.1 = a ++ t :: (c ++ s :: l2) := by rw [hs, hac]; simp
    have hu := hS.2.2.2.2.2.1 b a t _ hb hs2
    have hav : ∀ u, pu_av F D b a u → u ≠ s.2.1 := by
      intro u hu
      rcases hu with h | h | ⟨d, h1, h2, h3⟩
      · exact pu_fresh hU hb hs hg (Or.inl h)
      · refine pu_fresh hU hb hs hg (Or.inr ?_)
        rw [hac, pu_gvs_app]
        exact List.mem_append_left _ h
      · intro e9
        exact h1 (hU.2 d b _ (pu_dlt hS hb h2) hb h3 (e9 ▸ hsb))
    exact ⟨fun h => pu_fresh hU hb hs hg (Or.inr (pu_gvs_mem ht h)), fun h => hav _ (hu.1 h), fun h => hav _ (hu.2 h)⟩
  · intro d hdb hD t ht
    have hd := pu_dlt hS hb hD
    obtain ⟨a, c, hac⟩ := List.append_of_mem ht
    have hu := hS.2.2.2.2.2.1 d a t c hd hac
    refine ⟨fun h e9 => hdb (hU.2 d b _ hd hb (pu_bl_m ht h) (e9 ▸ hsb)), fun h => pu_av_d hS hb hdb hD hac (hu.1 h) hsb, fun h => pu_av_d hS hb hdb hD hac (hu.2 h) hsb⟩
theorem pu_s1_bl (b : Nat) : pu_bl (pu_s1F F g z) b = (pu_bl F b).filter (fun v => !pu_d1 g v) := by
  unfold pu_bl
  rw [List.filter_append]
  show List.map Prod.fst (((F b).1.filter (fun y => !pu_d1 g y.1)).map (fun y => (y.1, fun c => pu_sb1 g z (y.2 c)))) ++ pu_gvs (pu_im (pu_d1 g) (pu_sbS (pu_sb1 g z)) (F b).2.1) = _
  rw [pu_gvs_im, pu_map_fst (f := fun y c => pu_sb1 g z (y.2 c))]
theorem pu_flt_m {l : List Int32} {v : Int32} (hv : v ≠ g) (h : v ∈ l) : v ∈ l.filter (fun v => !pu_d1 g v) := List.mem_filter.mpr ⟨h, by rw [pu_d1_f hv]; rfl⟩
theorem pu_s1_av0 {b : Nat} {l1 : List pu_Stp} {v : Int32} (hv : v ≠ g) (h : pu_av F D b l1 v) : pu_av (pu_s1F F g z) D b (pu_im (pu_d1 g) (pu_sbS (pu_sb1 g z)) l1) v := by
  rcases h with h | h | ⟨d, h1, h2, h3⟩
  · refine Or.inl ?_
    show v ∈ List.map Prod.fst (((F b).1.filter (fun y => !pu_d1 g y.1)).map (fun y => (y.1, fun c => pu_sb1 g z (y.2 c))))
    rw [pu_map_fst (f := fun y c => pu_sb1 g z (y.2 c))]
    exact pu_flt_m hv h
  · refine Or.inr (Or.inl ?_)
    rw [pu_gvs_im]
    exact pu_flt_m hv h
  · refine Or.inr (Or.inr ⟨d, h1, h2, ?_⟩)
    rw [pu_s1_bl]
    exact pu_flt_m hv h3
theorem pu_s1_av (hzg : z ≠ g) (hr : pu_rp F L D g z) {b : Nat} {l1 l2 : List pu_Stp} {v : Int32} (hb : L b) (hl : (F b).2.1 = l1 ++ l2) (h : pu_av F D b l1 v) : pu_av (pu_s1F F g z) D b (pu_im (pu_d1 g) (pu_sbS (pu_sb1 g z)) l1) (pu_sb1 g z v) := by
  by_cases hv : v = g
  · subst hv
    rw [pu_sb1_g]
    exact pu_s1_av0 hzg (hr b l1 l2 hb hl h)
  · rw [pu_sb1_n hv]
    exact pu_s1_av0 hv h
theorem pu_s1_ssa (hS : pu_ssa F L D) (hzg : z ≠ g) (hr : pu_rp F L D g z) : pu_ssa (pu_s1F F g z) L D := by
  have hU := hS.2.2.2.2.1
  refine ⟨hS.1, hS.2.1, ?_, ?_, ⟨?_, ?_⟩, ?_, ?_, ?_⟩
  · show ((F 0).1.filter _).map _ = []
    rw [hS.2.2.1]
    rfl
  · intro b hb s hs
    have hs : s ∈ ((F b).2.1.filter (pu_jk (pu_d1 g))).map (pu_sbS (pu_sb1 g z)) := hs
    obtain ⟨t, ht, rfl⟩ := List.mem_map.mp hs
    exact hS.2.2.2.1 b hb t (List.mem_filter.mp ht).1
  · intro b hb
    rw [pu_s1_bl]
    exact (hU.1 b hb).sublist List.filter_sublist
  · intro b c v hb hc h1 h2
    rw [pu_s1_bl] at h1 h2
    exact hU.2 b c v hb hc (List.mem_filter.mp h1).1 (List.mem_filter.mp h2).1
  · intro b l1 s l2 hb hl
    obtain ⟨a, t, c, e1, e2, e3, e4, e5⟩ := pu_im_split (F b).2.1 l1 hl
    have hu := hS.2.2.2.2.2.1 b a t c hb e1
    subst e4
    rw [← e3]
    refine ⟨fun h => ?_, fun h => ?_⟩
    · have h : pu_ul t.1 = true := h
      have e : (pu_sbS (pu_sb1 g z) t).2.2.1 = pu_sb1 g z t.2.2.1 := if_pos h
      rw [e]
      exact pu_s1_av hzg hr hb e1 (hu.1 h)
    · have h : pu_ur t.1 = true := h
      have e : (pu_sbS (pu_sb1 g z) t).2.2.2 = pu_sb1 g z t.2.2.2 := if_pos h
      rw [e]
      exact pu_s1_av hzg hr hb e1 (hu.2 h)
  · intro b hb he
    exact pu_s1_av hzg hr (l2 := []) hb (by simp) (hS.2.2.2.2.2.2.1 b hb he)
  · intro b c p hb hsc hp
    have hp : p ∈ ((F c).1.filter (fun y => !pu_d1 g y.1)).map (fun y => (y.1, fun c => pu_sb1 g z (y.2 c))) := hp
    obtain ⟨y, hy, rfl⟩ := List.mem_map.mp hp
    exact pu_s1_av hzg hr (l2 := []) hb (by simp) (hS.2.2.2.2.2.2.2 b c y hb hsc (List.mem_filter.mp hy).1)
/-- equations ahead of the step that goes -/
theorem pu_s1_ei (hS : pu_ssa F L D) {b : Nat} (hb : L b) {l1 l2 : List pu_Stp} {s : pu_Stp} (hs : (F b).2.1 = l1 ++ s :: l2) (hg : pu_gk s.1 = true) (hsg : s.2.1 = g) {e : pu_E} (he : pu_ei (pu_s1F F g z) D b (pu_im (pu_d1 g) (pu_sbS (pu_sb1 g z)) l1) e) : pu_ei F D b l1 e := by
  subst hsg
  have hn := pu_noG hS hb hs hg
  have key : ∀ (l : List pu_Stp) t, t ∈ l → ((pu_gk t.1 = true → t.2.1 ≠ s.2.1) ∧ (pu_ul t.1 = true → t.2.2.1 ≠ s.2.1) ∧ (pu_ur t.1 = true → t.2.2.2 ≠ s.2.1)) → t ∈ pu_im (pu_d1 s.2.1) (pu_sbS (pu_sb1 s.2.1 z)) l := by
    intro l t ht h
    have hk9 : pu_jk (pu_d1 s.2.1) t = true := by
      unfold pu_jk
      cases hg9 : pu_gk t.1 with
      | false => rfl
      | true => rw [pu_d1_f (h.1 hg9)]; rfl
    have hm9 : t ∈ l.filter (pu_jk (pu_d1 s.2.1)) := List.mem_filter.mpr ⟨ht, hk9⟩
    have := List.mem_map_of_mem (f := pu_sbS (pu_sb1 s.2.1 z)) hm9
    rw [pu_sbS_id h.2.1 h.2.2] at this
    exact this
  exact ⟨fun t ht => he.1 t (key l1 t ht (hn.1 t ht)), fun d h1 h2 t ht => he.2 d h1 h2 t (key (F d).2.1 t ht (hn.2 d h1 h2 t ht))⟩
theorem pu_s1_run (hS : pu_ssa F L D) (hzg : z ≠ g) (hr : pu_rp F L D g z)
    (hq1 : ∀ b l1 s l2 e, L b → (F b).2.1 = l1 ++ s :: l2 → pu_gk s.1 = true → s.2.1 = g → pu_ei F D b l1 e → (s.1 = 0 ∨ pu_isop s.1 = true) ∧ (s.1 = 0 → e z = s.2.2.1) ∧ (pu_isop s.1 = true → pu_fail s.1 (e s.2.2.2) = false ∧ e z = pu_cmp s.1 (e s.2.2.1) (e s.2.2.2)))
    (hq2 : ∀ b p y e, L p → pu_sc F p b → y ∈ (F b).1 → y.1 = g → pu_phs (pu_s1F F g z b).1 p e z = e (pu_sb1 g z (y.2 p)))
    {n : Nat} {e : pu_E} {m : pu_M} {q : List Int32} {r : pu_Res} (h : pu_run F call ar n 0 0 (e, m, q) = some r) : pu_run (pu_s1F F g z) call ar n 0 0 (e, m, q) = some r := by
  refine pu_jn_run hS (pu_s1_ssa hS hzg hr) ⟨fun b l1 l2 v hb hl hv => pu_s1_av hzg hr hb hl hv, ?_, ?_, ?_⟩ h
  · intro b l1 s l2 e' hb hs he
    have hdel : pu_jk (pu_d1 g) s = false → pu_gk s.1 = true ∧ s.2.1 = g := by
      intro h
      unfold pu_jk pu_d1 at h
      rw [Bool.or_eq_false_iff] at h
      exact ⟨by simpa using h.1, by simpa using h.2⟩
    refine ⟨fun _ _ => rfl, fun h => ?_, fun h0 h => ?_, fun hop h => ⟨rfl, Or.inr ⟨rfl, ?_, ?_⟩⟩, fun hop h => ?_⟩
    · have h1 := hdel h
      exact (hq1 b l1 s l2 e' hb hs h1.1 h1.2 (pu_s1_ei hS hb hs h1.1 h1.2 he)).1
    · have h1 := hdel h
      rw [h1.2, pu_sb1_g]
      exact (hq1 b l1 s l2 e' hb hs h1.1 h1.2 (pu_s1_ei hS hb hs h1.1 h1.2 he)).2.1 h0
    · have hu := pu_op_u hop
      show pu_fail s.1 (e' (if pu_ur s.1 = true then pu_sb1 g z s.2.2.2 else s.2.2.2)) = _
      rw [if_pos hu.2]
    · have hu := pu_op_u hop
      show pu_cmp s.1 (e' (if pu_ul s.1 = true then pu_sb1 g z s.2.2.1 else s.2.2.1)) (e' (if pu_ur s.1 = true then pu_sb1 g z s.2.2.2 else s.2.2.2)) = _
      rw [if_pos hu.2, if_pos hu.1]
    · have h1 := hdel h
      have hu := pu_op_u hop
      have hU := hS.2.2.2.2.2.1 b l1 s l2 hb hs
      have hne : ∀ u, pu_av F D b l1 u → u ≠ g := by
        intro u hu
        rw [← h1.2]
        rcases hu with h | h | ⟨d, h4, h5, h6⟩
        · exact pu_fresh hS.2.2.2.2.1 hb hs h1.1 (Or.inl h)
        · exact pu_fresh hS.2.2.2.2.1 hb hs h1.1 (Or.inr h)
        · intro e9
          exact h4 (hS.2.2.2.2.1.2 d b _ (pu_dlt hS hb h5) hb h6 (e9 ▸ pu_bl_s hs h1.1))
      rw [pu_sb1_n (hne _ (hU.1 hu.1)), pu_sb1_n (hne _ (hU.2 hu.2)), h1.2, pu_sb1_g]
      exact (hq1 b l1 s l2 e' hb hs h1.1 h1.2 (pu_s1_ei hS hb hs h1.1 h1.2 he)).2.2 hop
  · intro b v _ _ h
    exact pu_sb1_n (fun c => by rw [c] at h; unfold pu_d1 at h; simp at h)
  · intro b p y e' hp hsc hy hd _
    have hd : y.1 = g := of_decide_eq_true hd
    rw [hd, pu_sb1_g]
    exact hq2 b p y e' hp hsc hy hd
/-- the other is there where a step is that goes -/
theorem pu_rp_stp (hS : pu_ssa F L D) {b : Nat} (hb : L b) {l1 l2 : List pu_Stp} {s : pu_Stp} (hs : (F b).2.1 = l1 ++ s :: l2) (hg : pu_gk s.1 = true) (hz : pu_av F D b l1 z) : pu_rp F L D s.2.1 z := by
  have hU := hS.2.2.2.2.1
  have hsb := pu_bl_s hs hg
  have hfar : ∀ c, L c → c ≠ b → D c b → ∀ a, pu_av F D c a z := by
    intro c hc hcb hD a
    rcases pu_av_bl hs hz with h | ⟨d, h1, h2, h3⟩
    · exact Or.inr (Or.inr ⟨b, fun e => hcb e.symm, hD, h⟩)
    · refine Or.inr (Or.inr ⟨d, fun e => ?_, hS.2.1.2.2.2.1 c b d hc hD h2, h3⟩)
      subst e
      have := (hS.2.1.2.1 _ _ hb h2).1
      have := (hS.2.1.2.1 _ _ hc hD).1
      omega
  intro c a r hc hl hv
  rcases hv with h | h | ⟨d, h1, h2, h3⟩
  · have hcb := hU.2 c b _ hc hb (List.mem_append_left _ h) hsb
    subst hcb
    exact absurd rfl (pu_fresh hU hc hs hg (Or.inl h))
  · have hcb := hU.2 c b _ hc hb (pu_bl_1 hl h) hsb
    subst hcb
    rcases hz with h4 | h4 | h4
    · exact Or.inl h4
    · refine Or.inr (Or.inl ?_)
      rw [hs] at hl
      rcases List.append_eq_append_iff.mp hl with ⟨x, e1, e2⟩ | ⟨x, e1, e2⟩
      · rw [e1, pu_gvs_app]
        exact List.mem_append_left _ h4
      · exfalso
        refine pu_fresh hU hc hs hg (Or.inr ?_) rfl
        rw [e1, pu_gvs_app]
        exact List.mem_append_left _ h
    · exact Or.inr (Or.inr h4)
  · have hd := pu_dlt hS hc h2
    have hdb := hU.2 d b _ hd hb h3 hsb
    subst hdb
    exact hfar c hc (fun e => h1 e.symm) h2 a
theorem pu_rp_phi (hS : pu_ssa F L D) {b : Nat} (hb : L b) {y : pu_Phi} (hy : y ∈ (F b).1) (hz : pu_av F D b [] z) : pu_rp F L D y.1 z := by
  have hU := hS.2.2.2.2.1
  have hsb : y.1 ∈ pu_bl F b := pu_bl_p hy
  have hz0 : z ∈ (F b).1.map Prod.fst ∨ ∃ d, d ≠ b ∧ D b d ∧ z ∈ pu_bl F d := by
    rcases hz with h | h | h
    · exact Or.inl h
    · cases h
    · exact Or.inr h
  intro c a r hc hl hv
  have near : c = b → pu_av F D c a z := by
    intro e
    subst e
    exact hz0.elim Or.inl fun h => Or.inr (Or.inr h)
  rcases hv with h | h | ⟨d, h1, h2, h3⟩
  · exact near (hU.2 c b _ hc hb (List.mem_append_left _ h) hsb)
  · exact near (hU.2 c b _ hc hb (pu_bl_1 hl h) hsb)
  · have hd := pu_dlt hS hc h2
    have hdb := hU.2 d b _ hd hb h3 hsb
    subst hdb
    rcases hz0 with h | ⟨x, h4, h5, h6⟩
    · exact Or.inr (Or.inr ⟨d, h1, h2, List.mem_append_left _ h⟩)
    · refine Or.inr (Or.inr ⟨x, fun e => ?_, hS.2.1.2.2.2.1 c d x hc h2 h5, h6⟩)
      subst e
      have := (hS.2.1.2.1 _ _ hb h5).1
      have := (hS.2.1.2.1 _ _ hc h2).1
      omega
end S1
