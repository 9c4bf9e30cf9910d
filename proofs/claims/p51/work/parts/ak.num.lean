/-! pure side, the maker 19: values are numbered -/
theorem pv_gvv (k : Int32) : fX11_givesValue k = some (pv_b (pu_gk k)) := by
  unfold fX11_givesValue fX11_givesValue_J10 fX11_givesValue_J22 fX11_givesValue_J27 pu_gk
  have h27 : (if (1 : Int32) = 0 ∨ (1 : Int32) = 1 then some (1 : Int32) else none) = some 1 := if_pos (Or.inr rfl)
  have h0 : (if (0 : Int32) = 0 ∨ (0 : Int32) = 1 then some (0 : Int32) else none) = some 0 := if_pos (Or.inl rfl)
  rw [h27, h0]
  by_cases h20 : k = 20
  · rw [decide_eq_true (Or.inr (Or.inl h20)), if_pos h20]
    by_cases hn : k < 0
    · rw [if_pos hn]; rfl
    · rw [if_neg hn]
      by_cases h17 : k ≤ 17
      · rw [if_pos h17]; rfl
      · rw [if_neg h17]; rfl
  rw [if_neg h20]
  by_cases h21 : k = 21
  · rw [decide_eq_true (Or.inr (Or.inr h21)), if_pos h21]
    by_cases hn : k < 0
    · rw [if_pos hn]; rfl
    · rw [if_neg hn]
      by_cases h17 : k ≤ 17
      · rw [if_pos h17]; rfl
      · rw [if_neg h17]; rfl
  rw [if_neg h21]
  by_cases hn : k < 0
  · rw [if_pos hn, decide_eq_false (fun h => by
      rcases h with h | h | h
      · exact Int32.not_lt.mpr h.1 hn
      · exact h20 h
      · exact h21 h)]
    rfl
  · rw [if_neg hn]
    by_cases h17 : k ≤ 17
    · rw [if_pos h17, decide_eq_true (Or.inl ⟨Int32.not_lt.mp hn, h17⟩)]; rfl
    · rw [if_neg h17, decide_eq_false (fun h => by
        rcases h with h | h | h
        · exact h17 h.2
        · exact h20 h
        · exact h21 h)]
      rfl
/-- how many steps of a part of the text give values -/
def pt_gc (P : ST) (a : Nat) : Nat → Nat
  | 0 => 0
  | i + 1 => if i < a then 0 else pt_gc P a i + (if pu_gk (P 9 i) = true then 1 else 0)
theorem pt_gc_a (P : ST) (a : Nat) : ∀ i, i ≤ a → pt_gc P a i = 0 := by
  intro i
  cases i with
  | zero => intro _; rfl
  | succ i => intro h; exact if_pos (by omega)
theorem pt_gc_s {P : ST} {a i : Nat} (h : a ≤ i) : pt_gc P a (i + 1) = pt_gc P a i + (if pu_gk (P 9 i) = true then 1 else 0) := if_neg (by omega)
theorem pt_gc_le {P : ST} {a : Nat} {i j : Nat} (h : i ≤ j) : pt_gc P a i ≤ pt_gc P a j := by
  induction j with
  | zero => rw [show i = 0 by omega]; exact Nat.le_refl _
  | succ j ih =>
    by_cases e : i = j + 1
    · rw [e]; exact Nat.le_refl _
    · have h9 := ih (by omega)
      by_cases hj : j < a
      · rw [pt_gc_a P a i (by omega)]; exact Nat.zero_le _
      · rw [pt_gc_s (by omega)]; omega
theorem pt_gc_lt {P : ST} {a : Nat} {i j : Nat} (ha : a ≤ i) (h : i < j) (hc : pu_gk (P 9 i) = true) : pt_gc P a i < pt_gc P a j := by
  have h9 : pt_gc P a (i + 1) ≤ pt_gc P a j := pt_gc_le h
  rw [pt_gc_s ha, if_pos hc] at h9
  omega
/-- the first number of a block -/
def pt_nb (P : ST) (fo ot : Nat → Nat) (ph : Nat → List Nat) : Nat → Nat
  | 0 => 0
  | b + 1 => pt_nb P fo ot ph b + ((ph b).length + pt_gc P (fo b) (ot b))
theorem pt_nb_le {P : ST} {fo ot : Nat → Nat} {ph : Nat → List Nat} {i j : Nat} (h : i ≤ j) : pt_nb P fo ot ph i ≤ pt_nb P fo ot ph j := by
  induction j with
  | zero => rw [show i = 0 by omega]; exact Nat.le_refl _
  | succ j ih =>
    by_cases e : i = j + 1
    · rw [e]; exact Nat.le_refl _
    · exact Nat.le_trans (ih (by omega)) (Nat.le_add_right _ _)
section NU
variable {P w fw : ST} {B : Nat} {fo ot : Nat → Nat} {n : Nat → Nat} {ph : Nat → List Nat}
theorem pv_num59 (hos : pt_os w B fo ot) (hB : B ≤ 60) {b : Nat} (hb : b < B) (c : Nat) :
    ∃ w', fX4_numberValues_L59 P (pu_I b) NF (pu_I c) (pu_I (fo b)) w = some (pu_I (c + pt_gc P (fo b) (ot b)), w') ∧ (∀ r, r ≠ 4 → w' r = w r) ∧ (∀ i, fo b ≤ i → i < ot b → pu_gk (P 9 i) = true → w' 4 i = pu_I (c + pt_gc P (fo b) i)) ∧ (∀ i, ¬ (fo b ≤ i ∧ i < ot b) → w' 4 i = w 4 i) := by
  obtain ⟨_, g2, g3, g4⟩ := hos b hb
  obtain ⟨t, e1, w', rfl, t1, t2, t3⟩ := pv_for (G := fun k i (s : Int32 × ST) => fX4_numberValues_L59 P (pu_I b) k s.1 i s.2) (hi := ot b)
    (Inv := fun i s => s.1 = pu_I (c + pt_gc P (fo b) i) ∧ (∀ r, r ≠ 4 → s.2 r = w r) ∧ (∀ j, fo b ≤ j → j < i → pu_gk (P 9 j) = true → s.2 4 j = pu_I (c + pt_gc P (fo b) j)) ∧ (∀ j, ¬ (fo b ≤ j ∧ j < ot b) → s.2 4 j = w 4 j) ∧ fo b ≤ i)
    (Q := fun t => ∃ w', t = (pu_I (c + pt_gc P (fo b) (ot b)), w') ∧ (∀ r, r ≠ 4 → w' r = w r) ∧ (∀ i, fo b ≤ i → i < ot b → pu_gk (P 9 i) = true → w' 4 i = pu_I (c + pt_gc P (fo b) i)) ∧ (∀ i, ¬ (fo b ≤ i ∧ i < ot b) → w' 4 i = w 4 i))
    (by
      rintro k i ⟨v, w1⟩ hi ⟨s1, s2, s3, s4, s5⟩
      have s1 : v = pu_I (c + pt_gc P (fo b) i) := s1
      subst s1
      have s2 : ∀ r, r ≠ 4 → w1 r = w r := s2
      have s3 : ∀ j, fo b ≤ j → j < i → pu_gk (P 9 j) = true → w1 4 j = pu_I (c + pt_gc P (fo b) j) := s3
      have s4 : ∀ j, ¬ (fo b ≤ j ∧ j < ot b) → w1 4 j = w 4 j := s4
      have hix : ixb (pu_I i) 3200 = true := (pu_ix (by omega)).mpr (by omega)
      have hin : nn (pu_I i) = i := pu_nn (by omega)
      obtain ⟨_, k2, _, _⟩ := pt_os_e (s2 7 (by decide)) (s2 8 (by decide)) (s2 15 (by decide)) hos b hb
      have hform : fX4_numberValues_L59 P (pu_I b) (k + 1) (pu_I (c + pt_gc P (fo b) i)) (pu_I i) w1 = (if pv_b (pu_gk (P 9 i)) = 0 then fX4_numberValues_L59 P (pu_I b) k (pu_I (c + pt_gc P (fo b) i)) (pu_I (i + 1)) w1 else fX4_numberValues_L59 P (pu_I b) k (pu_I (c + pt_gc P (fo b) i + 1)) (pu_I (i + 1)) (upw w1 4 i (pu_I (c + pt_gc P (fo b) i)))) := by
        show ((fX4_opsTo w1 (pu_I b)).bind fun (o_9 : Int32) => (if o_9 ≤ pu_I i then some (pu_I (c + pt_gc P (fo b) i), w1) else (if ixb (pu_I i) 3200 = true then ((fX11_givesValue (P 9 (nn (pu_I i)))).bind fun (o_13 : Int32) => (if o_13 = 0 then (fX4_numberValues_J94 (fX4_numberValues_L59 P (pu_I b) k) (pu_I i) (pu_I (c + pt_gc P (fo b) i)) w1) else (if ixb (pu_I i) 3200 = true then (lt9 (upw w1 4 (nn (pu_I i)) (pu_I (c + pt_gc P (fo b) i))) fun (w17 : ST) => (fX4_numberValues_J94 (fX4_numberValues_L59 P (pu_I b) k) (pu_I i) (pu_I (c + pt_gc P (fo b) i) + 1) w17)) else none))) else none))) = _
        rw [k2, Option.bind_some, if_neg (by rw [pu_le (by omega) (by omega)]; omega), if_pos hix, if_pos hix, hin, pv_gvv, Option.bind_some]
        unfold fX4_numberValues_J94
        simp only [lt9]
        rw [pu_su, pu_su]
      cases hg : pu_gk (P 9 i) with
      | false =>
        rw [hg, if_pos (show pv_b false = 0 by decide)] at hform
        have hgs : pt_gc P (fo b) (i + 1) = pt_gc P (fo b) i := by rw [pt_gc_s s5, hg]; rfl
        refine ⟨(pu_I (c + pt_gc P (fo b) i), w1), hform, by rw [hgs], s2, fun j j1 j2 j3 => ?_, s4, by omega⟩
        have : j ≠ i := fun e => by rw [e, hg] at j3; cases j3
        exact s3 j j1 (by omega) j3
      | true =>
        rw [hg, if_neg (show ¬ pv_b true = 0 by decide)] at hform
        have hgs : pt_gc P (fo b) (i + 1) = pt_gc P (fo b) i + 1 := by rw [pt_gc_s s5, hg]; rfl
        refine ⟨(pu_I (c + pt_gc P (fo b) i + 1), upw w1 4 i (pu_I (c + pt_gc P (fo b) i))), hform, by rw [hgs]; rfl, fun r hr => ?_, fun j j1 j2 j3 => ?_, fun j hj => ?_, by omega⟩
        · show upw w1 4 i _ r = w r
          rw [pv_upw_n hr, s2 r hr]
        · show upw w1 4 i _ 4 j = _
          rw [pv_upw]
          by_cases e : j = i
          · rw [if_pos ⟨rfl, e⟩, e]
          · rw [if_neg fun h => e h.2]
            exact s3 j j1 (by omega) j3
        · show upw w1 4 i _ 4 j = _
          rw [pv_upw, if_neg fun h => hj (by rw [h.2]; exact ⟨s5, hi⟩)]
          exact s4 j hj)
    (by
      rintro k ⟨v, w1⟩ ⟨s1, s2, s3, s4, s5⟩
      have s1 : v = pu_I (c + pt_gc P (fo b) (ot b)) := s1
      subst s1
      have s2 : ∀ r, r ≠ 4 → w1 r = w r := s2
      obtain ⟨_, k2, _, _⟩ := pt_os_e (s2 7 (by decide)) (s2 8 (by decide)) (s2 15 (by decide)) hos b hb
      refine ⟨(pu_I (c + pt_gc P (fo b) (ot b)), w1), ?_, w1, rfl, s2, s3, s4⟩
      show ((fX4_opsTo w1 (pu_I b)).bind fun (o_9 : Int32) => (if o_9 ≤ pu_I (ot b) then some (pu_I (c + pt_gc P (fo b) (ot b)), w1) else _)) = _
      rw [k2, Option.bind_some, if_pos (Int32.le_refl _)]) (ot b - fo b) (fo b) NF (pu_I c, w) (by omega) (by have := pv_NF; omega) ⟨by rw [pt_gc_a P (fo b) (fo b) (Nat.le_refl _)]; rfl, fun r _ => rfl, fun j j1 j2 => absurd j1 (by omega), fun j _ => rfl, Nat.le_refl _⟩
  exact ⟨w', e1, t1, t2, t3⟩
theorem pv_num23 {m : Nat} (hR : pt_rm n m) (hm : m ≤ 250) (hph : pv_phc B fw ph) (hd : pv_dis B m ph) {b : Nat} (hb : b < B) (c : Nat) :
    ∃ fw', fX4_numberValues_L23 n NF (pu_I c) (fw 6 b) fw = some (pu_I (c + (ph b).length), fw') ∧ (∀ r, r ≠ 19 → fw' r = fw r) ∧ (ph b).map (fw' 19) = (List.range' c (ph b).length).map pu_I ∧ (∀ a, a ∉ ph b → fw' 19 a = fw 19 a) := by
  obtain ⟨R, ⟨h19, h20, h21, h21'⟩, hmR, _⟩ := id hR
  obtain ⟨t, e1, w', rfl, t1, t2, t3⟩ := pv_chl (G := fun k x (s : Int32 × ST) => fX4_numberValues_L23 n k s.1 x s.2) (nx := fw 20)
    (Inv := fun done rem s => ph b = done ++ rem ∧ s.1 = pu_I (c + done.length) ∧ (∀ r, r ≠ 19 → s.2 r = fw r) ∧ done.map (s.2 19) = (List.range' c done.length).map pu_I ∧ (∀ a, a ∉ done → s.2 19 a = fw 19 a))
    (Q := fun t => ∃ fw', t = (pu_I (c + (ph b).length), fw') ∧ (∀ r, r ≠ 19 → fw' r = fw r) ∧ (ph b).map (fw' 19) = (List.range' c (ph b).length).map pu_I ∧ (∀ a, a ∉ ph b → fw' 19 a = fw 19 a))
    (by
      rintro k a done rem ⟨v, f1⟩ ⟨s0, s1, s2, s3, s4⟩
      have s1 : v = pu_I (c + done.length) := s1
      subst s1
      have s2 : ∀ r, r ≠ 19 → f1 r = fw r := s2
      have s3 : done.map (f1 19) = (List.range' c done.length).map pu_I := s3
      have s4 : ∀ a, a ∉ done → f1 19 a = fw 19 a := s4
      have ham : a < m := hd.1 b hb a (by rw [s0]; exact List.mem_append_right _ List.mem_cons_self)
      have hnd := hd.2.1 b hb
      rw [s0] at hnd
      have han : a ∉ done := fun h => (List.nodup_append.mp hnd).2.2 a h a List.mem_cons_self rfl
      have hx19 : ixb (pu_I a) (n 19) = true := (pu_ix (by omega)).mpr (by omega)
      have hx20 : ixb (pu_I a) (n 20) = true := (pu_ix (by omega)).mpr (by omega)
      refine ⟨(pu_I (c + done.length + 1), upw f1 19 a (pu_I (c + done.length))), ?_, by rw [s0]; simp, by rw [List.length_append]; rfl, fun r hr => ?_, ?_, fun z hz => ?_⟩
      · show (if pu_I a < 0 then some (pu_I (c + done.length), f1) else (if ixb (pu_I a) (n 19) = true then (lt9 (upw f1 19 (nn (pu_I a)) (pu_I (c + done.length))) fun (w5 : ST) => (if ixb (pu_I a) (n 20) = true then ((fX4_numberValues_L23 n k) (pu_I (c + done.length) + 1) (w5 20 (nn (pu_I a))) w5) else none)) else none)) = _
        rw [if_neg (pu_ge (by omega)), if_pos hx19, pu_nn (by omega)]
        simp only [lt9]
        rw [if_pos hx20, pu_su, pv_upw_n (show (20 : Nat) ≠ 19 by decide), s2 20 (by decide)]
      · show upw f1 19 a _ r = fw r
        rw [pv_upw_n hr, s2 r hr]
      · show (done ++ [a]).map (upw f1 19 a (pu_I (c + done.length)) 19) = (List.range' c (done ++ [a]).length).map pu_I
        have h1 : done.map (upw f1 19 a (pu_I (c + done.length)) 19) = done.map (f1 19) := List.map_congr_left fun z hz => by
          rw [pv_upw, if_neg fun h => han (by rw [← h.2]; exact hz)]
        rw [List.map_append, h1, s3, List.length_append]
        show _ ++ [upw f1 19 a (pu_I (c + done.length)) 19 a] = (List.range' c (done.length + 1)).map pu_I
        rw [List.range'_1_concat, List.map_append, pv_upw, if_pos ⟨rfl, rfl⟩]
        rfl
      · show upw f1 19 a _ 19 z = _
        rw [pv_upw, if_neg fun h => hz (by rw [h.2]; exact List.mem_append_right _ (List.mem_singleton.mpr rfl))]
        exact s4 z fun h => hz (List.mem_append_left _ h))
    (by
      rintro k x done ⟨v, f1⟩ hx ⟨s0, s1, s2, s3, s4⟩
      have s1 : v = pu_I (c + done.length) := s1
      subst s1
      rw [List.append_nil] at s0
      refine ⟨(pu_I (c + done.length), f1), ?_, f1, by rw [s0], s2, by rw [s0]; exact s3, by rw [s0]; exact s4⟩
      show (if x < 0 then some (pu_I (c + done.length), f1) else _) = _
      rw [if_pos hx]) (ph b) [] (fw 6 b) NF (pu_I c, fw) (hph.1 b hb) (by have := pv_NF; have := pv_len m (ph b) (hd.2.1 b hb) (hd.1 b hb); omega) ⟨rfl, rfl, fun r _ => rfl, rfl, fun a _ => rfl⟩
  exact ⟨w', e1, t1, t2, t3⟩
theorem pv_numberValues {m : Nat} (hos : pt_os w B fo ot) (hod : ∀ b c i, b < B → c < B → fo b ≤ i → i < ot b → fo c ≤ i → i < ot c → b = c) (hB : B ≤ 60) (hw0 : fw 0 0 = pu_I B) (hR : pt_rm n m) (hm : m ≤ 250) (hph : pv_phc B fw ph) (hd : pv_dis B m ph) (hN : pt_nb P fo ot ph B ≤ 250) :
    ∃ w' fw', fX4_numberValues w P n fw = some (1, w', fw') ∧ (∀ r, r ≠ 4 → w' r = w r) ∧ (∀ r, r ≠ 0 → r ≠ 19 → fw' r = fw r) ∧ (∀ i, i ≠ 1 → fw' 0 i = fw 0 i) ∧ fw' 0 1 = pu_I (pt_nb P fo ot ph B) ∧
      (∀ b, b < B → (ph b).map (fw' 19) = (List.range' (pt_nb P fo ot ph b) (ph b).length).map pu_I) ∧ (∀ b i, b < B → fo b ≤ i → i < ot b → pu_gk (P 9 i) = true → w' 4 i = pu_I (pt_nb P fo ot ph b + (ph b).length + pt_gc P (fo b) i)) := by
  obtain ⟨t, e1, w', fw', rfl, t1, t2, t3, t4⟩ := pv_for (G := fun k b (s : Int32 × ST × ST) => fX4_numberValues_L5 P n k s.1 b s.2.1 s.2.2) (hi := B)
    (Inv := fun b s => s.1 = pu_I (pt_nb P fo ot ph b) ∧ (∀ r, r ≠ 4 → s.2.1 r = w r) ∧ (∀ r, r ≠ 19 → s.2.2 r = fw r) ∧ (∀ x, x < b → (ph x).map (s.2.2 19) = (List.range' (pt_nb P fo ot ph x) (ph x).length).map pu_I) ∧ (∀ x i, x < b → fo x ≤ i → i < ot x → pu_gk (P 9 i) = true → s.2.1 4 i = pu_I (pt_nb P fo ot ph x + (ph x).length + pt_gc P (fo x) i)))
    (Q := fun t => ∃ w' fw', t = (pu_I (pt_nb P fo ot ph B), w', fw') ∧ (∀ r, r ≠ 4 → w' r = w r) ∧ (∀ r, r ≠ 19 → fw' r = fw r) ∧ (∀ x, x < B → (ph x).map (fw' 19) = (List.range' (pt_nb P fo ot ph x) (ph x).length).map pu_I) ∧ (∀ x i, x < B → fo x ≤ i → i < ot x → pu_gk (P 9 i) = true → w' 4 i = pu_I (pt_nb P fo ot ph x + (ph x).length + pt_gc P (fo x) i)))
    (by
      rintro k b ⟨v, w1, f1⟩ hb ⟨s1, s2, s3, s4, s5⟩
      have s1 : v = pu_I (pt_nb P fo ot ph b) := s1
      subst s1
      have s2 : ∀ r, r ≠ 4 → w1 r = w r := s2
      have s3 : ∀ r, r ≠ 19 → f1 r = fw r := s3
      have s4 : ∀ x, x < b → (ph x).map (f1 19) = (List.range' (pt_nb P fo ot ph x) (ph x).length).map pu_I := s4
      have s5 : ∀ x i, x < b → fo x ≤ i → i < ot x → pu_gk (P 9 i) = true → w1 4 i = pu_I (pt_nb P fo ot ph x + (ph x).length + pt_gc P (fo x) i) := s5
      have hos1 := pt_os_e (s2 7 (by decide)) (s2 8 (by decide)) (s2 15 (by decide)) hos
      have hph1 : pv_phc B f1 ph := by
        unfold pv_phc
        rw [s3 20 (by decide), s3 6 (by decide), s3 7 (by decide)]
        exact hph
      obtain ⟨f2, q1, q2, q3, q4⟩ := pv_num23 hR hm hph1 hd hb (pt_nb P fo ot ph b)
      obtain ⟨w2, p1, p2, p3, p4⟩ := pv_num59 (P := P) hos1 hB hb (pt_nb P fo ot ph b + (ph b).length)
      refine ⟨(pu_I (pt_nb P fo ot ph (b + 1)), w2, f2), ?_, rfl, fun r hr => ?_, fun r hr => ?_, fun x hx => ?_, fun x i hx i1 i2 i3 => ?_⟩
      · show (if (f1 0 0) ≤ pu_I b then some (pu_I (pt_nb P fo ot ph b), w1, f1) else (if ixb (pu_I b) 60 = true then ((fX4_numberValues_L23 n NF (pu_I (pt_nb P fo ot ph b)) (f1 6 (nn (pu_I b))) f1).bind fun (o23 : Int32 × ST) => ((fX4_opsFrom w1 (pu_I b)).bind fun (o_7 : Int32) => ((fX4_numberValues_L59 P (pu_I b) NF (o23.1) o_7 w1).bind fun (o59 : Int32 × ST) => ((fX4_numberValues_L5 P n k) (o59.1) (pu_I b + 1) (o59.2) (o23.2))))) else none)) = _
        rw [s3 0 (by decide), hw0, if_neg (by rw [pu_le (by omega) (by omega)]; omega), if_pos ((pu_ix (by omega)).mpr (by omega)), pu_nn (by omega), q1, Option.bind_some, (hos1 b hb).1, Option.bind_some, p1, Option.bind_some, pu_su]
        show fX4_numberValues_L5 P n k (pu_I (pt_nb P fo ot ph b + (ph b).length + pt_gc P (fo b) (ot b))) (pu_I (b + 1)) w2 f2 = fX4_numberValues_L5 P n k (pu_I (pt_nb P fo ot ph b + ((ph b).length + pt_gc P (fo b) (ot b)))) (pu_I (b + 1)) w2 f2
        rw [Nat.add_assoc]
      · show w2 r = w r
        rw [p2 r hr, s2 r hr]
      · show f2 r = fw r
        rw [q2 r hr, s3 r hr]
      · show (ph x).map (f2 19) = _
        by_cases e : x = b
        · rw [e]; exact q3
        · rw [← s4 x (by omega)]
          exact List.map_congr_left fun a ha => q4 a fun h => e (hd.2.2 x b a (by omega) hb ha h)
      · show w2 4 i = _
        by_cases e : x = b
        · rw [e] at i1 i2 ⊢
          exact p3 i i1 i2 i3
        · rw [p4 i fun h => e (hod x b i (by omega) hb i1 i2 h.1 h.2)]
          exact s5 x i (by omega) i1 i2 i3)
    (by
      rintro k ⟨v, w1, f1⟩ ⟨s1, s2, s3, s4, s5⟩
      have s1 : v = pu_I (pt_nb P fo ot ph B) := s1
      subst s1
      have s3 : ∀ r, r ≠ 19 → f1 r = fw r := s3
      refine ⟨(pu_I (pt_nb P fo ot ph B), w1, f1), ?_, w1, f1, rfl, s2, s3, s4, s5⟩
      show (if (f1 0 0) ≤ pu_I B then some (pu_I (pt_nb P fo ot ph B), w1, f1) else _) = _
      rw [s3 0 (by decide), hw0, if_pos (Int32.le_refl _)]) B 0 NF (0, w, fw) (by omega) (by have := pv_NF; omega) ⟨rfl, fun r _ => rfl, fun r _ => rfl, fun x hx => absurd hx (Nat.not_lt_zero x), fun x i hx => absurd hx (Nat.not_lt_zero x)⟩
  have e1 : fX4_numberValues_L5 P n NF 0 0 w fw = some (pu_I (pt_nb P fo ot ph B), w', fw') := e1
  refine ⟨w', upw fw' 0 1 (pu_I (pt_nb P fo ot ph B)), ?_, t1, fun r r0 r19 => by rw [pv_upw_n r0, t2 r r19], fun i hi => by rw [pv_upw, if_neg fun h => hi h.2, t2 0 (by decide)], by rw [pv_upw, if_pos ⟨rfl, rfl⟩], fun b hb => by rw [pv_upw_n (by decide)]; exact t3 b hb, t4⟩
  unfold fX4_numberValues
  rw [e1, Option.bind_some]
  simp only [lt9]
  rw [if_neg (show ¬ (250 : Int32) < pu_I (pt_nb P fo ot ph B) from fun h => by have := (pu_lt (a := 250) (by decide) (by omega)).mp h; omega)]
  unfold fX4_numberValues_J123
  rw [if_pos (Or.inr rfl)]
end NU
