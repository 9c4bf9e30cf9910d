/-! pure side, stores 31: a step that was seen stands in, a phi is joined; all of a block -/
theorem pv_kz {k : Int32} (hg : pu_gk k = true) (ho : ¬ pu_isop k = true) (h : ¬ 16 < k) : k = 0 := by
  unfold pu_gk at hg
  unfold pu_isop at ho
  rw [decide_eq_true_iff] at *
  simp only [Int32.le_iff_toInt_le, Int32.lt_iff_toInt_lt, ← Int32.toInt_inj] at *
  have e0 : Int32.toInt 0 = 0 := by decide
  have e1 : Int32.toInt 1 = 1 := by decide
  have e16 : Int32.toInt 16 = 16 := by decide
  have e17 : Int32.toInt 17 = 17 := by decide
  have e20 : Int32.toInt 20 = 20 := by decide
  have e21 : Int32.toInt 21 = 21 := by decide
  rw [e0, e17, e20, e21] at hg
  rw [e1, e16] at ho
  rw [e16] at h
  rw [e0]
  omega
theorem pv_k16 {k : Int32} (h : k = 0 ∨ pu_isop k = true) : ¬ 16 < k := by
  rcases h with rfl | h
  · decide
  · unfold pu_isop at h
    rw [decide_eq_true_iff] at h
    exact Int32.not_lt.mpr h.2
section JY
variable {B N M : Nat} {D : Nat → Nat → Prop} {l : SL} {w : ST} {n n2 : Nat → Nat} {ch ph : Nat → List Nat} {wb : Nat → Nat} {F0 : pu_Flow} {g w2 : ST}
/-- one value more has another that stands in for it, the tables as they are -/
theorem pv_J_up (hJ : pv_Jv B D w ch ph F0 g w2) {v z : Int32} (hv : ixb v 250 = true) (hz : ixb z 250 = true) (hrv : g 6 (nn v) < 0) (hrz : g 6 (nn z) < 0) (hne : z ≠ v)
    (hr : pu_rp (pv_A g w w2 ch ph) (fun b => b < B) D v z)
    (hq1 : ∀ b l1 s l2 e, b < B → (pv_A g w w2 ch ph b).2.1 = l1 ++ s :: l2 → pu_gk s.1 = true → s.2.1 = v → pu_ei (pv_A g w w2 ch ph) D b l1 e → (s.1 = 0 ∨ pu_isop s.1 = true) ∧ (s.1 = 0 → e z = s.2.2.1) ∧ (pu_isop s.1 = true → pu_fail s.1 (e s.2.2.2) = false ∧ e z = pu_cmp s.1 (e s.2.2.1) (e s.2.2.2)))
    (hq2 : ∀ b p y e, p < B → pu_sc (pv_A g w w2 ch ph) p b → y ∈ (pv_A g w w2 ch ph b).1 → y.1 = v → pu_phs (pu_s1F (pv_A g w w2 ch ph) v z b).1 p e z = e (pu_sb1 v z (y.2 p))) :
    pv_Jv B D w ch ph F0 (upw g 6 (nn v) z) w2 := by
  obtain ⟨hsk, hrg, hgk, hgiv, hun, hix2, hS, hrun⟩ := hJ
  refine ⟨(pv_sk_set hsk hv hz hrv hrz hne).1, hrg, hgk, pv_giv_2 (pv_upw_n (by decide)) hgiv, hun, hix2, ?_, ?_⟩
  · rw [pv_A_set hsk hv hz hrv hrz hne]
    exact pu_s1_ssa hS hne hr
  · intro call ar k e m q r h
    rw [pv_A_set hsk hv hz hrv hrz hne]
    exact pu_s1_run hS hne hr hq1 hq2 (hrun call ar k e m q r h)
theorem pv_J_st (hst : pv_Jst B N D l w n n2 ch ph wb) (hJ : pv_Jv B D w ch ph F0 g w2) {b a : Nat} {l1 l2 : List Nat} (hb : b < B) (hl : ch b = l1 ++ a :: l2) (h0 : ¬ w2 3 a < 0) (hal : g 6 (nn (w2 3 a)) < 0) (hka : w2 2 a = 0 ∨ pu_isop (w2 2 a) = true)
    {s c : Nat} (hc : c < B) (hs : s ∈ ch c) (hs0 : ¬ w2 3 s < 0) (hsal : g 6 (nn (w2 3 s)) < 0) (hin : (c = b ∧ s ∈ l1) ∨ (c ≠ b ∧ D b c)) (k2 : w2 2 s = w2 2 a) (k4 : w2 4 s = w2 4 a) (k5 : w2 5 s = w2 5 a) :
    pv_Jv B D w ch ph F0 (upw g 6 (nn (w2 3 a)) (w2 3 s)) w2 := by
  have hJ0 := hJ
  obtain ⟨hsk, hrg, hgk, hgiv, hun, hix2, hS, hrun⟩ := hJ
  obtain ⟨⟨hB0, hB⟩, ⟨hN2, hN3, hN4, hN5, hN6, hN⟩, hdis, hix, hw, htk, hdb⟩ := hst
  have ha : a ∈ ch b := by rw [hl]; exact List.mem_append_right _ List.mem_cons_self
  have hg : pu_gk (w2 2 a) = true := (hgk b hb a ha).mpr h0
  have hgs : pu_gk (w2 2 s) = true := (hgk c hc s hs).mpr hs0
  have hgv : ixb (w2 3 a) 250 = true := (hix2 b hb a ha).resolve_left h0
  have hzv : ixb (w2 3 s) 250 = true := (hix2 c hc s hs).resolve_left hs0
  have haS : pv_aS g w2 a = true := by unfold pv_aS pv_ab; simp [hal]
  have hsS : pv_aS g w2 s = true := by unfold pv_aS pv_ab; simp [hsal]
  have hloc := pv_A_loc (w := w) (ph := ph) hl haS
  have hgA : pu_gk (pv_AS g w2 a).1 = true := hg
  have hgB : pu_gk (pv_AS g w2 s).1 = true := hgs
  have hms : pv_AS g w2 s ∈ (pv_A g w w2 ch ph c).2.1 := List.mem_map_of_mem (List.mem_filter.mpr ⟨hs, hsS⟩)
  have hza : pu_av (pv_A g w w2 ch ph) D b ((l1.filter (pv_aS g w2)).map (pv_AS g w2)) (w2 3 s) := by
    rcases hin with ⟨rfl, h1⟩ | ⟨h1, h2⟩
    · exact Or.inr (Or.inl (pu_gvs_mem (s := pv_AS g w2 s) (List.mem_map_of_mem (List.mem_filter.mpr ⟨h1, hsS⟩)) hgB))
    · exact Or.inr (Or.inr ⟨c, h1, h2, pu_bl_m hms hgB⟩)
  have hne : w2 3 s ≠ w2 3 a := pu_av_ne hS hb hloc hgA hza
  have hE : pv_AS g w2 s = (w2 2 a, w2 3 s, (pv_AS g w2 a).2.2.1, (pv_AS g w2 a).2.2.2) := by
    unfold pv_AS pu_sbS pv_S
    show (w2 2 s, w2 3 s, (if pu_ul (w2 2 s) = true then pv_sgx g (w2 4 s) else w2 4 s), (if pu_ur (w2 2 s) = true then pv_sgx g (w2 5 s) else w2 5 s)) = _
    rw [k2, k4, k5]
  refine pv_J_up hJ0 hgv hzv hal hsal hne (pu_rp_stp hS hb hloc hgA hza) ?_ ?_
  · intro b' l1' t l2' e' hb' ht hgt htv he'
    obtain ⟨rfl, rfl, rfl⟩ := pu_pos hS hb hb' hloc ht hgA hgt htv
    have heq := pu_num hS hb hloc he' hc hms hgB hza
    rw [hE] at heq
    exact ⟨hka, fun h => heq.1 h, fun h => ⟨(heq.2 h).2, (heq.2 h).1⟩⟩
  · intro b' p y e' hp hsc hy hyg
    exfalso
    obtain ⟨a0, ha0, rfl⟩ := List.mem_map.mp hy
    exact hun.2.1 b' b a0 a (hS.2.1.1 p b' hp hsc) hb (List.mem_filter.mp ha0).1 ha hyg
theorem pv_J_ph (hst : pv_Jst B N D l w n n2 ch ph wb) (hJ : pv_Jv B D w ch ph F0 g w2) (hd : pu_dom (pv_F w w2 ch ph) B D) (hsu : ∀ b c, b < B → pu_sc (pv_F w w2 ch ph) b c → w 10 b = pu_I c ∨ w 11 b = pu_I c) (hp0 : ph 0 = []) {b a : Nat} {l1 l2 : List Nat} (hb : b < B) (hl : ph b = l1 ++ a :: l2) (hal : g 6 (nn (w 19 a)) < 0) {z : Int32}
    (hz : (ixb z 250 = true ∧ z ≠ w 19 a ∧ (∀ j, wb b ≤ j → j < wb (b + 1) → pv_sg g (pv_tv w a j) = w 19 a ∨ pv_sg g (pv_tv w a j) = z) ∧ ∃ j, wb b ≤ j ∧ j < wb (b + 1) ∧ pv_sg g (pv_tv w a j) = z) ∨
       (∃ a2, a2 ∈ l1 ∧ z = w 19 a2 ∧ g 6 (nn (w 19 a2)) < 0 ∧ ∀ j, wb b ≤ j → j < wb (b + 1) → pv_sg g (pv_tv w a2 j) = pv_sg g (pv_tv w a j))) :
    pv_Jv B D w ch ph F0 (upw g 6 (nn (w 19 a)) z) w2 := by
  have hJ0 := hJ
  obtain ⟨hsk, hrg, hgk, hgiv, hun, hix2, hS, hrun⟩ := hJ
  obtain ⟨⟨hB0, hB⟩, ⟨hN2, hN3, hN4, hN5, hN6, hN⟩, hdis, hix, hw, htk, hdb⟩ := hst
  have ha : a ∈ ph b := by rw [hl]; exact List.mem_append_right _ List.mem_cons_self
  have hgv := hix b hb a ha
  have hb0 : b ≠ 0 := by
    intro e
    rw [e, hp0] at ha
    cases ha
  have hG := hS.2.1
  have hU := hS.2.2.2.2.1
  have hdA : pu_dom (pv_A g w w2 ch ph) B D := hd
  have hsuA : ∀ p c, p < B → pu_sc (pv_A g w w2 ch ph) p c → w 10 p = pu_I c ∨ w 11 p = pu_I c := hsu
  have haP : pv_aP g w a = true := by unfold pv_aP pv_ab; simp [hal]
  have hma : pv_AP g w a ∈ (pv_A g w w2 ch ph b).1 := List.mem_map_of_mem (List.mem_filter.mpr ⟨ha, haP⟩)
  have hgb : w 19 a ∈ pu_bl (pv_A g w w2 ch ph) b := pu_bl_p hma
  -- what a phi takes from a way
  have htake : ∀ a', a' ∈ ph b → ∀ p, p < B → pu_sc (pv_A g w w2 ch ph) p b → ∃ j, wb b ≤ j ∧ j < wb (b + 1) ∧ (pv_AP g w a').2 p = pv_sg g (pv_tv w a' j) ∧ pv_tv w a' j = w 21 (a' * 60 + p) ∧ pv_tv w a j = w 21 (a * 60 + p) := by
    intro a' ha' p hp hsc
    obtain ⟨j, j1, j2, j3⟩ := hw.2.2.2.2.1 b p hb hp (hsuA p b hp hsc)
    have hv := htk b hb a' ha' j j1 j2
    have e1 : pv_tv w a' j = w 21 (a' * 60 + p) := by unfold pv_tv; rw [j3, pu_nn (by omega)]
    have e2 : pv_tv w a j = w 21 (a * 60 + p) := by unfold pv_tv; rw [j3, pu_nn (by omega)]
    refine ⟨j, j1, j2, ?_, e1, e2⟩
    show pv_sgx g (w 21 (a' * 60 + p)) = _
    rw [← e1]
    exact pv_sgx_v hv
  have hposn : ∀ b' y, b' < B → y ∈ (pv_A g w w2 ch ph b').1 → y.1 = w 19 a → b' = b ∧ y = pv_AP g w a := by
    intro b' y hb' hy hyg
    obtain ⟨a0, ha0, rfl⟩ := List.mem_map.mp hy
    have ha0 := (List.mem_filter.mp ha0).1
    have := hun.2.2 b' b a0 a hb' hb ha0 ha hyg
    subst this
    exact ⟨hU.2 b' b _ hb' hb (pu_bl_p hy) hgb, rfl⟩
  have hstep : ∀ b' l1' s l2' e', b' < B → (pv_A g w w2 ch ph b').2.1 = l1' ++ s :: l2' → pu_gk s.1 = true → s.2.1 = w 19 a → pu_ei (pv_A g w w2 ch ph) D b' l1' e' → (s.1 = 0 ∨ pu_isop s.1 = true) ∧ (s.1 = 0 → e' z = s.2.2.1) ∧ (pu_isop s.1 = true → pu_fail s.1 (e' s.2.2.2) = false ∧ e' z = pu_cmp s.1 (e' s.2.2.1) (e' s.2.2.2)) := by
    intro b' l1' s l2' e' hb' hs _ hsv _
    exfalso
    have hs9 : s ∈ (pv_A g w w2 ch ph b').2.1 := by rw [hs]; exact List.mem_append_right _ List.mem_cons_self
    obtain ⟨a0, ha0, rfl⟩ := List.mem_map.mp hs9
    exact hun.2.1 b b' a a0 hb hb' ha (List.mem_filter.mp ha0).1 hsv.symm
  rcases hz with ⟨z1, z2, z3, j0, j01, j02, j03⟩ | ⟨a2, h1, rfl, h3, h4⟩
  · have hzr : g 6 (nn z) < 0 := by rw [← j03]; exact (pv_sg_root hsk (htk b hb a ha j0 j01 j02)).2
    have hall : ∀ p, p < B → pu_sc (pv_A g w w2 ch ph) p b → (pv_AP g w a).2 p = z ∨ (pv_AP g w a).2 p = w 19 a := by
      intro p hp hsc
      obtain ⟨j, j1, j2, j3, _, _⟩ := htake a ha p hp hsc
      rw [j3]
      exact (z3 j j1 j2).symm
    have hav : ∀ p, p < B → pu_sc (pv_A g w w2 ch ph) p b → pu_av (pv_A g w w2 ch ph) D p (pv_A g w w2 ch ph p).2.1 z ∨ pu_av (pv_A g w w2 ch ph) D p (pv_A g w w2 ch ph p).2.1 (w 19 a) := by
      intro p hp hsc
      have h9 := hS.2.2.2.2.2.2.2 p b _ hp hsc hma
      rcases hall p hp hsc with e | e
      · exact Or.inl (e ▸ h9)
      · exact Or.inr (e ▸ h9)
    obtain ⟨p0, hp0b, hsc0⟩ := hdA.1 b hb hb0
    have hp0B : p0 < B := by omega
    have hnob : ∀ u, u ∈ pu_bl (pv_A g w w2 ch ph) b → ¬ pu_av (pv_A g w w2 ch ph) D p0 (pv_A g w w2 ch ph p0).2.1 u := by
      intro u hu h
      rcases pu_av_bl (l2 := []) (List.append_nil _).symm h with h | ⟨d, h1, h2, h3⟩
      · have := hU.2 p0 b u hp0B hb h hu
        omega
      · have := hU.2 d b u (pu_dlt hS hp0B h2) hb h3 hu
        have := (hG.2.1 p0 d hp0B h2).1
        omega
    have hz0 : pu_av (pv_A g w w2 ch ph) D p0 (pv_A g w w2 ch ph p0).2.1 z := (hav p0 hp0B hsc0).resolve_right (hnob _ hgb)
    have hzb := pu_only_av hS hdA hb hb0 hgb hav hp0b hsc0 hz0
    refine pv_J_up hJ0 hgv z1 hal hzr z2 (pu_rp_phi hS hb hma hzb) hstep ?_
    intro b' p y e' hp hsc hy hyg
    obtain ⟨rfl, rfl⟩ := hposn b' y (hG.1 p b' hp hsc) hy hyg
    have hsb : pu_sb1 (w 19 a) z ((pv_AP g w a).2 p) = z := by
      rcases hall p hp hsc with e | e
      · rw [e, pu_sb1_n z2]
      · rw [e, pu_sb1_g]
    rw [hsb]
    refine pu_phs_n fun x hx e => ?_
    have hx : x ∈ ((pv_A g w w2 ch ph b').1.filter (fun y => !pu_d1 (w 19 a) y.1)).map (fun y => (y.1, fun c => pu_sb1 (w 19 a) z (y.2 c))) := hx
    obtain ⟨y9, hy9, rfl⟩ := List.mem_map.mp hx
    have e : y9.1 = z := e
    have hz9 : z ∈ pu_bl (pv_A g w w2 ch ph) b' := by
      rw [← e]
      exact pu_bl_p (List.mem_filter.mp hy9).1
    exact hnob z hz9 hz0
  · have h2 : a2 ∈ ph b := by rw [hl]; exact List.mem_append_left _ h1
    have ha2P : pv_aP g w a2 = true := by unfold pv_aP pv_ab; simp [h3]
    have hm2 : pv_AP g w a2 ∈ (pv_A g w w2 ch ph b).1 := List.mem_map_of_mem (List.mem_filter.mpr ⟨h2, ha2P⟩)
    have hne : w 19 a2 ≠ w 19 a := by
      intro e
      have e2 := hun.2.2 b b a2 a hb hb h2 ha e
      subst e2
      have hn := (List.nodup_append.mp (hU.1 b hb)).1
      have hn : ((((ph b).filter (pv_aP g w)).map (pv_AP g w)).map Prod.fst).Nodup := hn
      rw [hl, List.filter_append, List.filter_cons, if_pos haP, List.map_append, List.map_append, List.map_cons, List.map_cons] at hn
      exact (List.nodup_append.mp hn).2.2 (w 19 a2) (List.mem_map_of_mem (f := Prod.fst) (List.mem_map_of_mem (f := pv_AP g w) (List.mem_filter.mpr ⟨h1, ha2P⟩))) _ List.mem_cons_self rfl
    have hzb : pu_av (pv_A g w w2 ch ph) D b [] (w 19 a2) := Or.inl (List.mem_map_of_mem (f := Prod.fst) hm2)
    have hrp := pu_rp_phi hS hb hma hzb
    refine pv_J_up hJ0 hgv (hix b hb a2 h2) hal h3 hne hrp hstep ?_
    intro b' p y e' hp hsc hy hyg
    obtain ⟨rfl, rfl⟩ := hposn b' y (hG.1 p b' hp hsc) hy hyg
    have hS1 := pu_s1_ssa hS hne hrp
    have hm3 : (w 19 a2, fun c => pu_sb1 (w 19 a) (w 19 a2) ((pv_AP g w a2).2 c)) ∈ (pu_s1F (pv_A g w w2 ch ph) (w 19 a) (w 19 a2) b').1 :=
      List.mem_map_of_mem (f := fun y : pu_Phi => (y.1, fun c => pu_sb1 (w 19 a) (w 19 a2) (y.2 c))) (List.mem_filter.mpr ⟨hm2, by rw [show (pv_AP g w a2).1 = w 19 a2 from rfl, pu_d1_f hne]; rfl⟩)
    have h9 := pu_phs_s (b := p) (e := e') (pu_nd_phi hS1.2.2.2.2.1 hb) hm3
    have h9 : pu_phs (pu_s1F (pv_A g w w2 ch ph) (w 19 a) (w 19 a2) b').1 p e' (w 19 a2) = e' (pu_sb1 (w 19 a) (w 19 a2) ((pv_AP g w a2).2 p)) := h9
    rw [h9]
    obtain ⟨j, j1, j2, j3, j4, j5⟩ := htake a2 h2 p hp hsc
    have e5 : (pv_AP g w a).2 p = (pv_AP g w a2).2 p := by
      rw [j3, h4 j j1 j2]
      show pv_sgx g (w 21 (a * 60 + p)) = _
      rw [← j5]
      exact pv_sgx_v (htk b' hb a ha j j1 j2)
    rw [e5]
end JY
