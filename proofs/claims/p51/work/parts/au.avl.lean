/-! pure side, the maker 29: all that is used is there -/
section AV
variable {P w : ST} {a0 a1 Vn B : Nat} {A W : Nat → Nat → Prop} {po vo : Nat → Int32} {fo ot pj dm nb : Nat → Nat} {D : Nat → Nat → Prop} {vl : Nat → List Nat} {S E : Nat → Nat → Int32} {F : pu_Flow}
theorem pt_m1 {n : Nat} (h : n < 2147483648) : pu_I n ≠ -1 := fun e => by
  have := pu_ge h
  rw [e] at this
  exact this (by decide)
theorem pt_phi_num (hv : pt_vv P a0 B Vn fo ot dm vl vo S E nb) {b v : Nat} (hb : b < B) (h : v ∈ vl b) : ∃ n, nb b ≤ n ∧ n < nb b + (vl b).length ∧ S b v = pu_I n := by
  have h9 : S b v ∈ (vl b).map (S b) := List.mem_map_of_mem h
  rw [hv.2.2.2.1 b hb] at h9
  obtain ⟨n, n1, n2⟩ := List.mem_map.mp h9
  have h8 := List.mem_range'_1.mp n1
  exact ⟨n, h8.1, h8.2, n2.symm⟩
theorem pt_nb_mono (hv : pt_vv P a0 B Vn fo ot dm vl vo S E nb) {i j : Nat} (h : i ≤ j) (hj : j ≤ B) : nb i ≤ nb j := by
  induction j with
  | zero => rw [show i = 0 by omega]; exact Nat.le_refl _
  | succ j ih =>
    by_cases e : i = j + 1
    · rw [e]; exact Nat.le_refl _
    · have h9 := ih (by omega) (by omega)
      have h8 := hv.2.2.2.2.2.1 j (by omega)
      omega
theorem pt_num (hv : pt_vv P a0 B Vn fo ot dm vl vo S E nb) {b i : Nat} (hb : b < B) (h1 : fo b ≤ i) (h2 : i < ot b) (hg : pu_gk (P 9 i) = true) : ∃ n, n < 250 ∧ vo i = pu_I n ∧ nb b + (vl b).length ≤ n ∧ n < nb (b + 1) := by
  have h9 := hv.2.2.2.2.1 b i hb h1 h2 hg
  have h8 := hv.2.2.2.2.2.1 b hb
  have h7 := pt_gc_lt (P := P) h1 h2 hg
  have h6 := pt_nb_mono hv (show b + 1 ≤ B from hb) (Nat.le_refl B)
  have h5 := hv.2.2.2.2.2.2
  exact ⟨_, by omega, h9, by omega, by omega⟩
theorem pt_gv_gk {k : Int32} (h : pt_gv k = true) : pu_gk k = true ∨ k = 30 := by
  unfold pt_gv at h
  rw [Bool.or_eq_true] at h
  rcases h with h | h
  · exact Or.inl (pu_op_gk h)
  · rcases of_decide_eq_true h with h | h | h | h
    · rw [h]; exact Or.inl (by decide)
    · rw [h]; exact Or.inl (by decide)
    · rw [h]; exact Or.inl (by decide)
    · exact Or.inr h
/-- what stands on the operands' row at a place -/
theorem pt_at_k {s : List Nat} {t : Nat} (h : t < s.length) : ∃ k, k ∈ s ∧ pt_at s t = pu_I k := by
  refine ⟨s[t], List.getElem_mem h, ?_⟩
  unfold pt_at
  rw [List.getElem?_eq_getElem h]
theorem pt_one_lo {i : Nat} {s : List Nat} (hen : pt_en P i s) (h : pt_one (P 9 i) = true) : ∃ k, k ∈ s ∧ pt_lo P i s = pu_I k := by
  have hn : ¬ pu_ur (P 9 i) = true ∧ ¬ P 9 i = 19 ∧ ¬ P 9 i = 32 := by
    unfold pt_one at h
    rcases of_decide_eq_true h with h | h | h | h | h | h <;> rw [h] <;> decide
  have hp := hen.1
  unfold pt_pop at hp
  rw [if_neg hn.1, if_neg hn.2.1, if_neg hn.2.2, if_pos h] at hp
  unfold pt_lo
  rw [if_neg hn.1, if_neg hn.2.1, if_neg hn.2.2, if_pos h]
  exact pt_at_k (by omega)
theorem pt_keep_lo {i : Nat} {s : List Nat} (hen : pt_en P i s) (h : P 9 i = 32) : ∃ k, k ∈ s ∧ pt_lo P i s = pu_I k := by
  have hn : ¬ pu_ur (P 9 i) = true ∧ ¬ P 9 i = 19 := by rw [h]; decide
  unfold pt_lo
  rw [if_neg hn.1, if_neg hn.2, if_pos h]
  exact pt_at_k (hen.2.2.1 h)
theorem pt_ur_lo {i : Nat} {s : List Nat} (hen : pt_en P i s) (h : pu_ur (P 9 i) = true) : ∃ k k', k ∈ s ∧ k' ∈ s ∧ pt_lo P i s = pu_I k ∧ pt_ro P i s = pu_I k' := by
  have hp := hen.1
  unfold pt_pop at hp
  rw [if_pos h] at hp
  obtain ⟨k, k1, k2⟩ := pt_at_k (s := s) (t := 1) (by omega)
  obtain ⟨k', k3, k4⟩ := pt_at_k (s := s) (t := 0) (by omega)
  unfold pt_lo pt_ro
  rw [if_pos h, if_pos h]
  exact ⟨k, k', k1, k3, k2, k4⟩
theorem pt_arg_lo {i : Nat} {s : List Nat} (hen : pt_en P i s) (h : P 9 i = 19) : ∃ k, k ∈ s ∧ pt_lo P i s = pu_I k := by
  obtain ⟨t, t1, t2, t3⟩ := hen.2.1 h
  have hn : ¬ pu_ur (P 9 i) = true := by rw [h]; decide
  have hl := hen.2.2.2.2
  unfold pt_lo
  rw [if_neg hn, if_pos h, t1, pu_nn (by omega)]
  exact pt_at_k (by omega)
theorem pt_va_k {k : Nat} (h : k < 2147483648) : pt_va vo (pu_I k) = vo k := by
  unfold pt_va
  rw [if_neg (pu_ge h), pu_nn h]
theorem pt_inn (hbk : pt_bk P a0 a1 w po B fo ot pj) {b i : Nat} (hb : b < B) (h1 : fo b ≤ i) (h2 : i < ot b) : a0 ≤ i ∧ i < a1 ∧ ¬ po b < 0 := by
  have hn : ¬ po b < 0 := fun h => by have := (hbk.2.1 b hb h).2.1; omega
  obtain ⟨p1, p2, p3, p4, p5, _⟩ := hbk.1 b hb hn
  have h9 := pt_fr_le (P := P) (a := a0) (pj b) p1
  rw [p4] at h1
  rw [p5] at h2
  unfold pt_to at h2
  by_cases h : P 9 (pj b) = 35
  · rw [if_pos h] at h2; exact ⟨by omega, by omega, hn⟩
  · rw [if_neg h] at h2; exact ⟨by omega, by omega, hn⟩
/-- what waits within a block: made in it, or in a block that dominates it -/
theorem pt_T_blk (hB : B ≤ 60) (hB0 : 0 < B) (hbk : pt_bk P a0 a1 w po B fo ot pj) (htx : pt_tx P a0 a1 Vn A) (hd : pt_dd F w B D dm) {b i k : Nat} (hb : b < B) (h1 : fo b ≤ i) (h2 : i < ot b) (hk : k ∈ pt_T P a0 i) :
    pt_gv (P 9 k) = true ∧ ((fo b ≤ k ∧ k < i) ∨ ∃ d, d < b ∧ fo d ≤ k ∧ k < ot d ∧ D b d) := by
  obtain ⟨_, _, hn⟩ := pt_inn hbk hb h1 h2
  have hps : pt_psn po w fo b = fo b := by unfold pt_psn; rw [if_neg hn]
  have ha := (pt_psn_le hbk hB hb).1
  rw [hps] at ha
  obtain ⟨_, q2, q3⟩ := pt_T_mem _ hk
  refine ⟨q3, ?_⟩
  rcases pt_T_back ha i h1 hk with h9 | h9
  · rw [← hps] at h9
    obtain ⟨d, d1, d2, d3, d4, _⟩ := pt_wait_dom hB hB0 hbk htx.2.2.2.2.1 hd.1 hd.2.1 hd.2.2.1 hb h9
    exact Or.inr ⟨d, d1, d2, d3, d4⟩
  · exact Or.inl ⟨h9, q2⟩
theorem pt_valid (hB : B ≤ 60) (hB0 : 0 < B) (h3 : a1 ≤ 3200) (hVn : Vn ≤ 320) (hbk : pt_bk P a0 a1 w po B fo ot pj) (htx : pt_tx P a0 a1 Vn A) (hd : pt_dd F w B D dm) (hp : pt_pp P w B Vn fo ot D W vl) (hv : pt_vv P a0 B Vn fo ot dm vl vo S E nb) (hfo : ∀ b, b < B → fo b ≤ ot b) :
    ∀ b, b < B → (∀ i v, fo b ≤ i → i ≤ ot b → v < Vn → pt_wn P w B ot W b i v → pt_nw P (pt_lor P a0) vo (fo b) (S b) i v ≠ -1) ∧ (∀ j, fo b ≤ j → j < ot b → pt_gv (P 9 j) = true → vo j ≠ -1) := by
  intro b
  induction b using Nat.strongRecOn with
  | _ b ih =>
    intro hb
    have key : ∀ i, fo b ≤ i → i ≤ ot b → (∀ v, v < Vn → pt_wn P w B ot W b i v → pt_nw P (pt_lor P a0) vo (fo b) (S b) i v ≠ -1) ∧ (∀ j, fo b ≤ j → j < i → pt_gv (P 9 j) = true → vo j ≠ -1) := by
      intro i
      induction i with
      | zero =>
        intro h1 h2
        refine ⟨fun v hvn hw => ?_, fun j j1 j2 => absurd j2 (Nat.not_lt_zero j)⟩
        have hf0 : fo b = 0 := by omega
        rw [← hf0] at hw
        have hW := pt_wn_0 hp hb hvn hw
        rw [pt_nw_a _ _ _ _ _ _ _ (by omega)]
        by_cases hin : v ∈ vl b
        · obtain ⟨n, _, n2, n3⟩ := pt_phi_num hv hb hin
          have h8 := hv.2.2.2.2.2.1 b hb
          have h6 := pt_nb_mono hv (show b + 1 ≤ B from hb) (Nat.le_refl B)
          have h5 := hv.2.2.2.2.2.2
          rw [n3]
          exact pt_m1 (by omega)
        · by_cases hb0 : b = 0
          · rw [hb0] at hW
            exact absurd hW (hp.2.2.2.2.2 v hvn)
          · obtain ⟨p, p1, p2⟩ := hd.2.2.1.1 b hb hb0
            have he := (hd.1.1 p b (by omega) hb).mp p2
            rw [hv.1 b v hb hvn hin, if_neg hb0, ← pt_same hd hp hv hb (by omega) hb0 hvn he hW hin, hv.2.1 p v (by omega) hvn]
            exact (ih p p1 (by omega)).1 (ot p) v (hfo p (by omega)) (Nat.le_refl _) hvn (pt_wn_e hb he hW)
      | succ i ihi =>
        intro h1 h2
        by_cases e : fo b = i + 1
        · refine ⟨fun v hvn hw => ?_, fun j j1 j2 => by omega⟩
          rw [← e] at hw
          have hW := pt_wn_0 hp hb hvn hw
          rw [pt_nw_a _ _ _ _ _ _ _ (by omega)]
          by_cases hin : v ∈ vl b
          · obtain ⟨n, _, n2, n3⟩ := pt_phi_num hv hb hin
            have h8 := hv.2.2.2.2.2.1 b hb
            have h6 := pt_nb_mono hv (show b + 1 ≤ B from hb) (Nat.le_refl B)
            have h5 := hv.2.2.2.2.2.2
            rw [n3]
            exact pt_m1 (by omega)
          · by_cases hb0 : b = 0
            · rw [hb0] at hW
              exact absurd hW (hp.2.2.2.2.2 v hvn)
            · obtain ⟨p, p1, p2⟩ := hd.2.2.1.1 b hb hb0
              have he := (hd.1.1 p b (by omega) hb).mp p2
              rw [hv.1 b v hb hvn hin, if_neg hb0, ← pt_same hd hp hv hb (by omega) hb0 hvn he hW hin, hv.2.1 p v (by omega) hvn]
              exact (ih p p1 (by omega)).1 (ot p) v (hfo p (by omega)) (Nat.le_refl _) hvn (pt_wn_e hb he hW)
        · obtain ⟨i1, i2⟩ := ihi (by omega) (by omega)
          obtain ⟨hia, hia1, hn⟩ := pt_inn hbk hb (show fo b ≤ i by omega) (show i < ot b by omega)
          have hen := htx.2.1 i hia hia1
          have hvk : ∀ k, k ∈ pt_T P a0 i → vo k ≠ -1 := by
            intro k hk
            obtain ⟨k1, k2 | ⟨d, d1, d2, d3, _⟩⟩ := pt_T_blk hB hB0 hbk htx hd hb (by omega) (by omega) hk
            · exact i2 k k2.1 k2.2 k1
            · exact (ih d d1 (by omega)).2 k d2 d3 k1
          have hkl : ∀ k, k ∈ pt_T P a0 i → k < 2147483648 := fun k hk => by have := (pt_T_mem _ hk).2.1; omega
          refine ⟨fun v hvn hw => ?_, fun j j1 j2 j3 => ?_⟩
          · rw [pt_nw_s (by omega)]
            by_cases h31 : (P 9 i = 31 ∨ P 9 i = 32) ∧ P 10 i = pu_I v
            · rw [if_pos h31]
              obtain ⟨k, k1, k2⟩ : ∃ k, k ∈ pt_T P a0 i ∧ pt_lo P i (pt_T P a0 i) = pu_I k := by
                rcases h31.1 with h | h
                · exact pt_one_lo hen (by rw [h]; decide)
                · exact pt_keep_lo hen h
              show pt_va vo (pt_lo P i (pt_T P a0 i)) ≠ -1
              rw [k2, pt_va_k (hkl k k1)]
              exact hvk k k1
            · rw [if_neg h31]
              by_cases h21 : P 9 i = 21 ∧ P 10 i = pu_I v
              · rw [if_pos h21]
                obtain ⟨n, n1, n2, _⟩ := pt_num hv hb (show fo b ≤ i by omega) (show i < ot b by omega) (by rw [h21.1]; decide)
                rw [n2]
                exact pt_m1 (by omega)
              · rw [if_neg h21]
                exact i1 v hvn (pt_wn_s (by omega) hw fun h => by
                  rcases h with ⟨h | h | h, h9⟩
                  · exact h31 ⟨Or.inl h, h9⟩
                  · exact h31 ⟨Or.inr h, h9⟩
                  · exact h21 ⟨h, h9⟩)
          · by_cases ej : j = i
            · rw [ej] at j3 ⊢
              rcases pt_gv_gk j3 with h | h
              · obtain ⟨n, n1, n2, _⟩ := pt_num hv hb (show fo b ≤ i by omega) (show i < ot b by omega) h
                rw [n2]
                exact pt_m1 (by omega)
              · obtain ⟨u, u1, u2⟩ := htx.2.2.1 i hia hia1 (Or.inl h)
                rw [hv.2.2.1 b i u hb (by omega) (by omega) h u2 u1]
                exact i1 u u1 (pt_wn_get (by omega) h u2)
            · exact i2 j j1 (by omega) j3
    exact ⟨fun i v h1 h2 h4 h5 => (key i h1 h2).1 v h4 h5, fun j j1 j2 j3 => (key (ot b) (hfo b hb) (Nat.le_refl _)).2 j j1 j2 j3⟩
end AV
