/-! pure side, the allocator 3: the copies of one way -/
section CPC
variable {B N M b p : Nat} {n : Nat → Nat} {fw : ST} {ph : Nat → List Nat}
def pa_mv (fw : ST) (p a : Nat) : Int32 × Int32 := (fw 19 a, fw 21 (a * 60 + p))
/-- what a way moves -/
def pa_mvs (fw : ST) (p : Nat) (l : List Nat) : List (Int32 × Int32) := (l.map (pa_mv fw p)).filter (fun y => decide (y.2 ≠ y.1))
theorem pa_l_add (w : ST) (c : Nat) (g v : Int32) : pa_l (upw (upw w 15 c g) 16 c v) (c + 1) = pa_l w c ++ [(g, v)] := by
  unfold pa_l
  rw [List.range_succ, List.map_append]
  congr 1
  · refine List.map_congr_left fun j hj => ?_
    have hj := List.mem_range.mp hj
    rw [pv_upw_n (show (15 : Nat) ≠ 16 by decide), pv_upw, if_neg fun h => by omega, pv_upw, if_neg fun h => by omega, pv_upw_n (show (16 : Nat) ≠ 15 by decide)]
  · show [(upw (upw w 15 c g) 16 c v 15 c, upw (upw w 15 c g) 16 c v 16 c)] = _
    rw [pv_upw_n (show (15 : Nat) ≠ 16 by decide), pv_upw, if_pos ⟨rfl, rfl⟩, pv_upw, if_pos ⟨rfl, rfl⟩]
theorem pa_13 (hn19 : M ≤ n 19) (hn20 : M ≤ n 20) (hn21 : M * 60 ≤ n 21) (hM : M < 50000) (hp : p < 60) (hch : pv_ch (fw 20) (fw 6 b) (ph b)) (hlt : ∀ a, a ∈ ph b → a < M) (hlen : (ph b).length ≤ 250) (w : ST) :
    ∃ c w', fX0_putCopies_L13 (pu_I p) n fw NF 0 (fw 6 b) w = some (pu_I c, w') ∧ c ≤ 250 ∧ pa_l w' c = pa_mvs fw p (ph b) ∧ (∀ r, r ≠ 15 → r ≠ 16 → w' r = w r) := by
  obtain ⟨t, h1, h2⟩ := pv_chl (G := fun k x (s : Int32 × ST) => fX0_putCopies_L13 (pu_I p) n fw k s.1 x s.2) (nx := fw 20)
    (Inv := fun done rem s => ∃ c, s.1 = pu_I c ∧ c ≤ done.length ∧ done ++ rem = ph b ∧ pa_l s.2 c = pa_mvs fw p done ∧ (∀ r, r ≠ 15 → r ≠ 16 → s.2 r = w r))
    (Q := fun s => ∃ c, s.1 = pu_I c ∧ c ≤ 250 ∧ pa_l s.2 c = pa_mvs fw p (ph b) ∧ (∀ r, r ≠ 15 → r ≠ 16 → s.2 r = w r))
    (fun k a done rem s hI => by
      obtain ⟨c, i1, i2, i3, i4, i5⟩ := hI
      obtain ⟨sv, sw⟩ := s
      have i1 : sv = pu_I c := i1
      subst i1
      have ha : a ∈ ph b := by rw [← i3]; exact List.mem_append_right _ List.mem_cons_self
      have haM := hlt a ha
      have hdl : done.length + rem.length + 1 = (ph b).length := by rw [← i3, List.length_append, List.length_cons]; omega
      have htake : fX1_take n fw (pu_I a) (pu_I p) = some (fw 21 (a * 60 + p)) := by
        unfold fX1_take
        have hm : pu_I a * 60 + pu_I p = pu_I (a * 60 + p) := by rw [show (60 : Int32) = pu_I 60 from rfl, pv_mul, pv_add]
        rw [hm, if_pos ((pu_ix (by omega)).mpr (by omega)), pu_nn (by omega)]
      have h20 : ixb (pu_I a) (n 20) = true := (pu_ix (by omega)).mpr (by omega)
      have h19 : ixb (pu_I a) (n 19) = true := (pu_ix (by omega)).mpr (by omega)
      have hL : fX0_putCopies_L13 (pu_I p) n fw (k + 1) (pu_I c) (pu_I a) sw = (if fw 21 (a * 60 + p) = fw 19 a then fX0_putCopies_L13 (pu_I p) n fw k (pu_I c) (fw 20 a) sw else fX0_putCopies_L13 (pu_I p) n fw k (pu_I (c + 1)) (fw 20 a) (upw (upw sw 15 c (fw 19 a)) 16 c (fw 21 (a * 60 + p)))) := by
        show (if pu_I a < 0 then some (pu_I c, sw) else ((fX1_take n fw (pu_I a) (pu_I p)).bind fun (o_3 : Int32) => _)) = _
        have hc250 : ixb (pu_I c) 250 = true := (pu_ix (by omega)).mpr (by omega)
        rw [if_neg (pu_ge (by omega)), htake, Option.bind_some, if_pos h19, pu_nn (show a < 2147483648 by omega), if_neg (show ¬ (250 : Int32) ≤ pu_I c from fun h9 => by have := (pu_le (a := 250) (by decide) (by omega)).mp h9; omega), if_pos h19, if_pos hc250]
        unfold fX0_putCopies_J79
        simp only [lt9]
        rw [if_pos hc250, pu_nn (show c < 2147483648 by omega), pu_su, if_pos h20, pu_nn (show a < 2147483648 by omega), if_pos h20]
      have hdm : pa_mvs fw p (done ++ [a]) = pa_mvs fw p done ++ (if fw 21 (a * 60 + p) = fw 19 a then [] else [pa_mv fw p a]) := by
        unfold pa_mvs
        rw [List.map_append, List.filter_append]
        congr 1
        show [pa_mv fw p a].filter _ = _
        rw [List.filter_cons]
        by_cases e : fw 21 (a * 60 + p) = fw 19 a
        · rw [if_pos e, if_neg]
          · rfl
          · show ¬ decide (fw 21 (a * 60 + p) ≠ fw 19 a) = true
            rw [decide_eq_true_iff]
            exact fun h => h e
        · rw [if_neg e, if_pos]
          · rfl
          · show decide (fw 21 (a * 60 + p) ≠ fw 19 a) = true
            rw [decide_eq_true_iff]
            exact e
      show ∃ s' : Int32 × ST, fX0_putCopies_L13 (pu_I p) n fw (k + 1) (pu_I c) (pu_I a) sw = fX0_putCopies_L13 (pu_I p) n fw k s'.1 (fw 20 a) s'.2 ∧ _
      rw [hL]
      by_cases e : fw 21 (a * 60 + p) = fw 19 a
      · rw [if_pos e] at hdm ⊢
        exact ⟨(pu_I c, sw), rfl, c, rfl, by rw [List.length_append]; omega, by rw [List.append_assoc]; exact i3, by rw [hdm, List.append_nil]; exact i4, i5⟩
      · rw [if_neg e] at hdm ⊢
        refine ⟨(pu_I (c + 1), upw (upw sw 15 c (fw 19 a)) 16 c (fw 21 (a * 60 + p))), rfl, c + 1, rfl, ?_, by rw [List.append_assoc]; exact i3, ?_, fun r r15 r16 => ?_⟩
        · rw [List.length_append]
          show c + 1 ≤ done.length + 1
          omega
        · show pa_l (upw (upw sw 15 c (fw 19 a)) 16 c (fw 21 (a * 60 + p))) (c + 1) = _
          have i4 : pa_l sw c = pa_mvs fw p done := i4
          rw [hdm, pa_l_add, i4]
          rfl
        · show upw (upw sw 15 c (fw 19 a)) 16 c (fw 21 (a * 60 + p)) r = w r
          rw [pv_upw_n r16, pv_upw_n r15]
          exact i5 r r15 r16)
    (fun k x done s hx hI => by
      obtain ⟨c, i1, i2, i3, i4, i5⟩ := hI
      rw [List.append_nil] at i3
      refine ⟨s, ?_, c, i1, by rw [← i3] at hlen; omega, by rw [← i3]; exact i4, i5⟩
      show (if x < 0 then some (s.1, s.2) else _) = _
      rw [if_pos hx]) (ph b) [] (fw 6 b) NF (0, w) hch (by have := pv_NF; omega) ⟨0, rfl, Nat.zero_le _, rfl, rfl, fun _ _ _ => rfl⟩
  obtain ⟨c, i1, i2, i3, i4⟩ := h2
  exact ⟨c, t.2, by rw [← i1]; exact h1, i2, i3, i4⟩
/-- the copies that a way asks for, hung on behind the block it comes from -/
theorem pa_putCopies {w x9 : ST} {n2 : Nat → Nat} {ch : Nat → List Nat} {V : Nat} (hB : B ≤ 60) (hb : b < B) (hp : p < B) (hn19 : M ≤ n 19) (hn20 : M ≤ n 20) (hn21 : M * 60 ≤ n 21) (hM : M < 50000) (hch : pv_ch (fw 20) (fw 6 b) (ph b)) (hlt : ∀ a, a ∈ ph b → a < M) (hlen : (ph b).length ≤ 250) (hgv : ∀ a, a ∈ ph b → ∃ u, u < V ∧ fw 19 a = pu_I u)
    (hV : w 0 8 = pu_I V) (hV2 : V < 90000) (hN : N + 2 * (ph b).length < 8500) (hc : x9 0 0 = pu_I N) (hR : ∃ R, pv_sR n2 R ∧ N ≤ R ∧ R ≤ 12770) (hst : pv_stc B fw x9 ch) (hd : pv_dis B N ch) :
    ∃ cs V' w' fw' x9' n2' new N', fX0_putCopies w (pu_I b) (pu_I p) n fw n2 x9 = some (w', fw', x9', n2') ∧ pu_pmr cs (pa_mvs fw p (ph b)) V V' ∧ w' 0 8 = pu_I V' ∧ V' ≤ V + 2 * (ph b).length ∧ (∀ r, r ≠ 0 → r ≠ 15 → r ≠ 16 → w' r = w r) ∧ (∀ i, i ≠ 8 → w' 0 i = w 0 i) ∧ N' ≤ N + 2 * (ph b).length ∧ pa_ad B p fw x9 n2 ch N cs fw' x9' n2' new N' := by
  obtain ⟨c, w1, h1, h2, h3, h4⟩ := pa_13 (p := p) hn19 hn20 hn21 hM (by omega) hch hlt hlen w
  have hcl : c ≤ (ph b).length := by
    have h9 := congrArg List.length h3
    rw [pa_l_len] at h9
    rw [h9]
    unfold pa_mvs
    refine Nat.le_trans (List.length_filter_le _ _) ?_
    rw [List.length_map]
    exact Nat.le_refl _
  have hlt1 : ∀ j, j < c → ∃ u, u < V ∧ w1 15 j = pu_I u := fun j hj => by
    have h9 := List.mem_of_getElem? (pa_l_get w1 hj)
    rw [h3] at h9
    obtain ⟨a, ha, he⟩ := List.mem_map.mp (List.mem_filter.mp h9).1
    obtain ⟨u, u1, u2⟩ := hgv a ha
    exact ⟨u, u1, by rw [← u2]; exact (congrArg Prod.fst he).symm⟩
  obtain ⟨cs, V', w', fw', x9', n2', new, N', r1, r2, r3, r4, r5, r6, r7, r8⟩ := pa_97 hB hp (2 * c) c N V 0 NF w1 fw x9 n2 ch h2 (Or.inr (Or.inl (by omega))) (by omega) (by have := pv_NF; omega) (by rw [h4 0 (by decide) (by decide)]; exact hV) (by omega) (by omega) hlt1 hc hR hst hd
  rw [h3] at r2
  refine ⟨cs, V', w', fw', x9', n2', new, N', ?_, r2, r3, by omega, fun r r0 r15 r16 => by rw [r5 r r0 r15 r16, h4 r r15 r16], fun i hi => by rw [r6 i hi, h4 0 (by decide) (by decide)], by omega, r8⟩
  have r1 : fX0_putCopies_L97 (pu_I p) NF (pu_I c) 0 w1 fw x9 n2 = some (w', fw', x9', n2') := r1
  unfold fX0_putCopies
  rw [if_pos ((pu_ix (by omega)).mpr (by omega)), pu_nn (show b < 2147483648 by omega), h1, Option.bind_some, r1]
  rfl
end CPC
