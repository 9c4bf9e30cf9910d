/-! pure side, the maker 30: a made flow is in shape -/
section SS
variable {P w : ST} {a0 a1 Vn B : Nat} {A W : Nat → Nat → Prop} {po vo : Nat → Int32} {fo ot pj dm nb : Nat → Nat} {D : Nat → Nat → Prop} {vl : Nat → List Nat} {S E : Nat → Nat → Int32} {F : pu_Flow}
theorem pt_sl_app {lo ro : Nat → Int32} {f i : Nat} : ∀ t, i ≤ t → ∃ r, pt_sl P lo ro vo f t = pt_sl P lo ro vo f i ++ r := by
  intro t
  induction t with
  | zero => intro h; rw [show i = 0 by omega]; exact ⟨[], (List.append_nil _).symm⟩
  | succ t ih =>
    intro h
    by_cases e : i = t + 1
    · rw [e]; exact ⟨[], (List.append_nil _).symm⟩
    · obtain ⟨r, hr⟩ := ih (by omega)
      by_cases ht : t < f
      · rw [pt_sl_a _ _ _ _ _ _ (by omega), pt_sl_a _ _ _ _ _ _ (by omega)]
        exact ⟨[], rfl⟩
      · rw [pt_sl_s (by omega), hr, List.append_assoc]
        exact ⟨_, rfl⟩
/-- a step of a flow, and the op that it comes of -/
theorem pt_sl_split {lo ro : Nat → Int32} {f : Nat} {l1 l2 : List pu_Stp} {s : pu_Stp} : ∀ t, pt_sl P lo ro vo f t = l1 ++ s :: l2 → ∃ i, f ≤ i ∧ i < t ∧ P 9 i ≤ 21 ∧ s = pt_stp P lo ro vo i ∧ l1 = pt_sl P lo ro vo f i := by
  intro t
  induction t generalizing l2 with
  | zero => intro h; cases l1 <;> cases h
  | succ t ih =>
    intro h
    by_cases ht : t < f
    · rw [pt_sl_a _ _ _ _ _ _ (by omega)] at h
      cases l1 <;> cases h
    · rw [pt_sl_s (by omega)] at h
      by_cases h21 : P 9 t ≤ 21
      · rw [if_pos h21] at h
        rcases List.eq_nil_or_concat l2 with rfl | ⟨l3, y, rfl⟩
        · have h9 := List.append_inj' h rfl
          injection h9.2 with h8 _
          exact ⟨t, by omega, Nat.lt_succ_self t, h21, h8.symm, h9.1.symm⟩
        · have h' : pt_sl P lo ro vo f t ++ [pt_stp P lo ro vo t] = (l1 ++ s :: l3) ++ [y] := by
            rw [h, List.append_assoc]
            simp
          obtain ⟨i, i1, i2, i3⟩ := ih (List.append_inj' h' rfl).1
          exact ⟨i, i1, by omega, i3⟩
      · rw [if_neg h21, List.append_nil] at h
        obtain ⟨i, i1, i2, i3⟩ := ih h
        exact ⟨i, i1, by omega, i3⟩
theorem pt_gvs_sl {lo ro : Nat → Int32} {f nx : Nat} (hg21 : ∀ k : Int32, pu_gk k = true → k ≤ 21) : ∀ t, (∀ i, f ≤ i → i < t → pu_gk (P 9 i) = true → vo i = pu_I (nx + pt_gc P f i)) → pu_gvs (pt_sl P lo ro vo f t) = (List.range' nx (pt_gc P f t)).map pu_I := by
  intro t
  induction t with
  | zero => intro _; rfl
  | succ t ih =>
    intro h
    by_cases ht : t < f
    · rw [pt_sl_a _ _ _ _ _ _ (by omega), pt_gc_a _ _ _ (by omega)]; rfl
    · have h9 := ih fun i i1 i2 => h i i1 (by omega)
      rw [pt_sl_s (by omega), pt_gc_s (by omega)]
      cases hg : pu_gk (P 9 t) with
      | true =>
        rw [if_pos (hg21 _ hg), if_pos rfl, pu_gvs_app, h9, List.range'_1_concat, List.map_append]
        have h8 : pu_gvs [pt_stp P lo ro vo t] = [(pt_stp P lo ro vo t).2.1] := pu_gvs_c [] hg
        rw [h8]
        show _ ++ [if pu_gk (P 9 t) = true then vo t else -1] = _
        rw [if_pos hg, h t (by omega) (Nat.lt_succ_self t) hg]
        rfl
      | false =>
        rw [if_neg (show ¬ (false = true) by decide), Nat.add_zero]
        by_cases h21 : P 9 t ≤ 21
        · rw [if_pos h21, pu_gvs_app, h9]
          have h8 : pu_gvs [pt_stp P lo ro vo t] = [] := pu_gvs_n [] hg
          rw [h8, List.append_nil]
        · rw [if_neg h21, List.append_nil, h9]
theorem pu_gk21 (k : Int32) (h : pu_gk k = true) : k ≤ 21 := by
  unfold pu_gk at h
  rcases of_decide_eq_true h with h | h | h
  · exact Int32.le_trans h.2 (by decide)
  · rw [h]; decide
  · rw [h]; decide
theorem pt_bl (hv : pt_vv P a0 B Vn fo ot dm vl vo S E nb) (hf : pt_ff P w a0 B fo ot vl vo S E F) {b : Nat} (hb : b < B) : pu_bl F b = (List.range' (nb b) ((vl b).length + pt_gc P (fo b) (ot b))).map pu_I := by
  obtain ⟨f1, _, ⟨f3, _⟩, _⟩ := hf b hb
  unfold pu_bl
  rw [f1, hv.2.2.2.1 b hb, f3, pt_gvs_sl (nx := nb b + (vl b).length) pu_gk21 (ot b) fun i i1 i2 i3 => hv.2.2.2.2.1 b i hb i1 i2 i3, ← List.map_append, List.range'_append_1]
/-- -1, or there -/
def pt_Av (F : pu_Flow) (D : Nat → Nat → Prop) (b : Nat) (l1 : List pu_Stp) (x : Int32) : Prop := x = -1 ∨ pu_av F D b l1 x
theorem pt_Av_app {b : Nat} {l1 r : List pu_Stp} {x : Int32} (h : pt_Av F D b l1 x) : pt_Av F D b (l1 ++ r) x := by
  rcases h with h | h | h | h
  · exact Or.inl h
  · exact Or.inr (Or.inl h)
  · refine Or.inr (Or.inr (Or.inl ?_))
    rw [pu_gvs_app]
    exact List.mem_append_left _ h
  · exact Or.inr (Or.inr (Or.inr h))
theorem pt_Av_down (hG : pu_grf F (fun b => b < B) D) {b d : Nat} (hb : b < B) (hne : d ≠ b) (hD : D b d) {l1 l2 r : List pu_Stp} (hl : (F d).2.1 = l1 ++ r) {x : Int32} (h : pt_Av F D d l1 x) : pt_Av F D b l2 x := by
  have hle := (hG.2.1 b d hb hD)
  rcases h with h | h | h | ⟨d', h1, h2, h3⟩
  · exact Or.inl h
  · exact Or.inr (Or.inr (Or.inr ⟨d, hne, hD, List.mem_append_left _ h⟩))
  · exact Or.inr (Or.inr (Or.inr ⟨d, hne, hD, pu_bl_1 hl h⟩))
  · have h9 := hG.2.1 d d' hle.2 h2
    exact Or.inr (Or.inr (Or.inr ⟨d', by omega, hG.2.2.2.1 b d d' hb hD h2, h3⟩))
theorem pt_avl (hB : B ≤ 60) (hB0 : 0 < B) (h3 : a1 ≤ 3200) (hVn : Vn ≤ 320) (hbk : pt_bk P a0 a1 w po B fo ot pj) (htx : pt_tx P a0 a1 Vn A) (hd : pt_dd F w B D dm) (hv : pt_vv P a0 B Vn fo ot dm vl vo S E nb) (hf : pt_ff P w a0 B fo ot vl vo S E F) (hfo : ∀ b, b < B → fo b ≤ ot b) :
    ∀ b, b < B → ∀ i, fo b ≤ i → i ≤ ot b → (∀ v, v < Vn → pt_Av F D b (pt_sl P (pt_lor P a0) (pt_ror P a0) vo (fo b) i) (pt_nw P (pt_lor P a0) vo (fo b) (S b) i v)) ∧ (∀ j, fo b ≤ j → j < i → pt_gv (P 9 j) = true → pt_Av F D b (pt_sl P (pt_lor P a0) (pt_ror P a0) vo (fo b) i) (vo j)) := by
  intro b
  induction b using Nat.strongRecOn with
  | _ b ih =>
    intro hb
    have hall : ∀ d, d < B → ∀ l1 i, l1 = pt_sl P (pt_lor P a0) (pt_ror P a0) vo (fo d) i → i ≤ ot d → ∃ r, (F d).2.1 = l1 ++ r := by
      intro d hdB l1 i e hi
      obtain ⟨r, hr⟩ := pt_sl_app (P := P) (vo := vo) (lo := pt_lor P a0) (ro := pt_ror P a0) (f := fo d) (ot d) hi
      exact ⟨r, by rw [(hf d hdB).2.2.1.1, hr, e]⟩
    have hbase : ∀ v, v < Vn → pt_Av F D b [] (S b v) := by
      intro v hvn
      by_cases hin : v ∈ vl b
      · refine Or.inr (Or.inl ?_)
        rw [(hf b hb).1]
        exact List.mem_map_of_mem hin
      · rw [hv.1 b v hb hvn hin]
        by_cases hb0 : b = 0
        · rw [if_pos hb0]; exact Or.inl rfl
        · obtain ⟨m1, m2, _⟩ := hd.2.2.2.1 b hb hb0
          rw [if_neg hb0, hv.2.1 (dm b) v (by omega) hvn]
          obtain ⟨r, hr⟩ := hall (dm b) (by omega) _ (ot (dm b)) rfl (Nat.le_refl _)
          exact pt_Av_down hd.2.1 hb (by omega) m2 hr ((ih (dm b) m1 (by omega) (ot (dm b)) (hfo _ (by omega)) (Nat.le_refl _)).1 v hvn)
    intro i
    induction i with
    | zero =>
      intro h1 h2
      refine ⟨fun v hvn => ?_, fun j j1 j2 => absurd j2 (Nat.not_lt_zero j)⟩
      rw [pt_sl_a _ _ _ _ _ _ (by omega), pt_nw_a _ _ _ _ _ _ _ (by omega)]
      exact hbase v hvn
    | succ i ihi =>
      intro h1 h2
      by_cases e : fo b = i + 1
      · refine ⟨fun v hvn => ?_, fun j j1 j2 => by omega⟩
        rw [pt_sl_a _ _ _ _ _ _ (by omega), pt_nw_a _ _ _ _ _ _ _ (by omega)]
        exact hbase v hvn
      · obtain ⟨i1, i2⟩ := ihi (by omega) (by omega)
        obtain ⟨hia, hia1, hn⟩ := pt_inn hbk hb (show fo b ≤ i by omega) (show i < ot b by omega)
        have hen := htx.2.1 i hia hia1
        have hg : pu_gk (P 9 i) = true → pt_Av F D b (pt_sl P (pt_lor P a0) (pt_ror P a0) vo (fo b) (i + 1)) (vo i) := by
          intro hg
          refine Or.inr (Or.inr (Or.inl ?_))
          rw [pt_sl_s (by omega), if_pos (pu_gk21 _ hg), pu_gvs_app]
          refine List.mem_append_right _ ?_
          have h8 : pu_gvs [pt_stp P (pt_lor P a0) (pt_ror P a0) vo i] = [(pt_stp P (pt_lor P a0) (pt_ror P a0) vo i).2.1] := pu_gvs_c [] hg
          rw [h8]
          show vo i ∈ [if pu_gk (P 9 i) = true then vo i else -1]
          rw [if_pos hg]
          exact List.mem_singleton.mpr rfl
        have hmo : ∀ x, pt_Av F D b (pt_sl P (pt_lor P a0) (pt_ror P a0) vo (fo b) i) x → pt_Av F D b (pt_sl P (pt_lor P a0) (pt_ror P a0) vo (fo b) (i + 1)) x := fun x h => by
          rw [pt_sl_s (by omega)]
          exact pt_Av_app h
        have hvk : ∀ k, k ∈ pt_T P a0 i → pt_Av F D b (pt_sl P (pt_lor P a0) (pt_ror P a0) vo (fo b) i) (vo k) := by
          intro k hk
          obtain ⟨k1, k2 | ⟨d, d1, d2, d3, d4⟩⟩ := pt_T_blk hB hB0 hbk htx hd hb (by omega) (by omega) hk
          · exact i2 k k2.1 k2.2 k1
          · obtain ⟨r, hr⟩ := hall d (by omega) _ (ot d) rfl (Nat.le_refl _)
            exact pt_Av_down hd.2.1 hb (by omega) d4 hr ((ih d d1 (by omega) (ot d) (hfo _ (by omega)) (Nat.le_refl _)).2 k d2 d3 k1)
        have hkl : ∀ k, k ∈ pt_T P a0 i → k < 2147483648 := fun k hk => by have := (pt_T_mem _ hk).2.1; omega
        refine ⟨fun v hvn => ?_, fun j j1 j2 j3 => ?_⟩
        · rw [pt_nw_s (by omega)]
          by_cases h31 : (P 9 i = 31 ∨ P 9 i = 32) ∧ P 10 i = pu_I v
          · rw [if_pos h31]
            obtain ⟨k, k1, k2⟩ : ∃ k, k ∈ pt_T P a0 i ∧ pt_lo P i (pt_T P a0 i) = pu_I k := by
              rcases h31.1 with h | h
              · exact pt_one_lo hen (by rw [h]; decide)
              · exact pt_keep_lo hen h
            show pt_Av F D b _ (pt_va vo (pt_lo P i (pt_T P a0 i)))
            rw [k2, pt_va_k (hkl k k1)]
            exact hmo _ (hvk k k1)
          · rw [if_neg h31]
            by_cases h21 : P 9 i = 21 ∧ P 10 i = pu_I v
            · rw [if_pos h21]
              exact hg (by rw [h21.1]; decide)
            · rw [if_neg h21]
              exact hmo _ (i1 v hvn)
        · by_cases ej : j = i
          · rw [ej] at j3 ⊢
            rcases pt_gv_gk j3 with h | h
            · exact hg h
            · obtain ⟨u, u1, u2⟩ := htx.2.2.1 i hia hia1 (Or.inl h)
              rw [hv.2.2.1 b i u hb (by omega) (by omega) h u2 u1]
              exact hmo _ (i1 u u1)
          · exact hmo _ (i2 j j1 (by omega) j3)
theorem pt_ssa (hB : B ≤ 60) (hB0 : 0 < B) (h3 : a1 ≤ 3200) (hVn : Vn ≤ 320) (hbk : pt_bk P a0 a1 w po B fo ot pj) (htx : pt_tx P a0 a1 Vn A) (hd : pt_dd F w B D dm) (hp : pt_pp P w B Vn fo ot D W vl) (hv : pt_vv P a0 B Vn fo ot dm vl vo S E nb) (hf : pt_ff P w a0 B fo ot vl vo S E F) (hfo : ∀ b, b < B → fo b ≤ ot b) : pu_ssa F (fun b => b < B) D := by
  have hval := pt_valid hB hB0 h3 hVn hbk htx hd hp hv hfo
  have havl := pt_avl hB hB0 h3 hVn hbk htx hd hv hf hfo
  have hsw := hd.1
  -- what waits is there
  have hT : ∀ b i k, b < B → fo b ≤ i → i < ot b → k ∈ pt_T P a0 i → pu_av F D b (pt_sl P (pt_lor P a0) (pt_ror P a0) vo (fo b) i) (vo k) := by
    intro b i k hb h1 h2 hk
    obtain ⟨k1, k2 | ⟨d, d1, d2, d3, d4⟩⟩ := pt_T_blk hB hB0 hbk htx hd hb h1 h2 hk
    · exact ((havl b hb i h1 (by omega)).2 k k2.1 k2.2 k1).resolve_left ((hval b hb).2 k k2.1 (by omega) k1)
    · have h9 := (havl d (by omega) (ot d) (hfo _ (by omega)) (Nat.le_refl _)).2 k d2 d3 k1
      have h8 : (F d).2.1 = pt_sl P (pt_lor P a0) (pt_ror P a0) vo (fo d) (ot d) ++ [] := by rw [List.append_nil]; exact (hf d (by omega)).2.2.1.1
      exact (pt_Av_down hd.2.1 hb (by omega) d4 h8 h9).resolve_left ((hval d (by omega)).2 k d2 d3 k1)
  have hkl : ∀ i k, k ∈ pt_T P a0 i → i < 3200 → k < 2147483648 := fun i k hk hi => by have := (pt_T_mem _ hk).2.1; omega
  have hi32 : ∀ b i, b < B → fo b ≤ i → i < ot b → i < 3200 := fun b i hb h1 h2 => by have := pt_inn hbk hb h1 h2; omega
  refine ⟨hB0, hd.2.1, ?_, fun b hb s hs => ?_, ⟨fun b hb => ?_, fun b c v hb hc h1 h2 => ?_⟩, fun b l1 s l2 hb hs => ?_, fun b hb he => ?_, fun b c p hb hsc hpc => ?_⟩
  · have h9 := (hf 0 hB0).1
    rw [hp.2.2.1] at h9
    exact List.map_eq_nil_iff.mp h9
  · obtain ⟨l1, l2, h9⟩ := List.append_of_mem hs
    rw [(hf b hb).2.2.1.1] at h9
    obtain ⟨i, i1, i2, i3, rfl, _⟩ := pt_sl_split (ot b) h9
    obtain ⟨hia, hia1, _⟩ := pt_inn hbk hb i1 i2
    exact htx.1 i hia hia1 i3
  · rw [pt_bl hv hf hb]
    have hmo := pt_nb_mono hv (show b + 1 ≤ B from hb) (Nat.le_refl B)
    have h8 := hv.2.2.2.2.2.1 b hb
    have h5 := hv.2.2.2.2.2.2
    refine List.pairwise_map.mpr (List.Pairwise.imp_of_mem (fun {x y} hx hy hxy e => ?_) (List.nodup_range' (s := nb b) (n := (vl b).length + pt_gc P (fo b) (ot b))))
    have hx := List.mem_range'_1.mp hx
    have hy := List.mem_range'_1.mp hy
    exact hxy (pu_inj (by omega) (by omega) e)
  · rw [pt_bl hv hf hb] at h1
    rw [pt_bl hv hf hc] at h2
    obtain ⟨x, x1, rfl⟩ := List.mem_map.mp h1
    obtain ⟨y, y1, y2⟩ := List.mem_map.mp h2
    have x1 := List.mem_range'_1.mp x1
    have y1 := List.mem_range'_1.mp y1
    have hmb := pt_nb_mono hv (show b + 1 ≤ B from hb) (Nat.le_refl B)
    have hmc := pt_nb_mono hv (show c + 1 ≤ B from hc) (Nat.le_refl B)
    have h8 := hv.2.2.2.2.2.1 b hb
    have h7 := hv.2.2.2.2.2.1 c hc
    have h5 := hv.2.2.2.2.2.2
    have hxy := pu_inj (by omega) (by omega) y2
    rcases Nat.lt_trichotomy b c with h | h | h
    · have := pt_nb_mono hv (show b + 1 ≤ c from h) (by omega); omega
    · exact h
    · have := pt_nb_mono hv (show c + 1 ≤ b from h) (by omega); omega
  · rw [(hf b hb).2.2.1.1] at hs
    obtain ⟨i, i1, i2, i3, rfl, rfl⟩ := pt_sl_split (ot b) hs
    obtain ⟨hia, hia1, _⟩ := pt_inn hbk hb i1 i2
    have hen := htx.2.1 i hia hia1
    have hi := hi32 b i hb i1 i2
    have hval2 : ∀ k, k ∈ pt_T P a0 i → ∀ z, z = pu_I k → pu_av F D b (pt_sl P (pt_lor P a0) (pt_ror P a0) vo (fo b) i) (pt_va vo z) := fun k hk z hz => by
      rw [hz, pt_va_k (hkl i k hk hi)]
      exact hT b i k hb i1 i2 hk
    refine ⟨fun hul => ?_, fun hur => ?_⟩
    · have hul : pu_ul (P 9 i) = true := hul
      have hpl : ¬ pt_pl (P 9 i) := by
        rintro (h | h | h) <;> rw [h] at hul <;> exact absurd hul (by decide)
      show pu_av F D b _ (if pt_pl (P 9 i) then P 10 i else pt_va vo (pt_lor P a0 i))
      rw [if_neg hpl]
      by_cases hur : pu_ur (P 9 i) = true
      · obtain ⟨k, k', k1, _, k3, _⟩ := pt_ur_lo hen hur
        exact hval2 k k1 _ k3
      · by_cases h19 : P 9 i = 19
        · obtain ⟨k, k1, k2⟩ := pt_arg_lo hen h19
          exact hval2 k k1 _ k2
        · have h17 : P 9 i = 17 := by
            have hk := htx.1 i hia hia1 i3
            rcases hk with hk | hk | hk
            · refine Classical.byContradiction fun h17 => ?_
              have h9 := pu_ur_op (k := P 9 i) (fun h => hpl (Or.inl h)) (fun h => hpl (Or.inr (Or.inr h))) (fun h => hpl (Or.inr (Or.inl h))) h17 h19 (Or.inl hk)
              exact hur h9
            · rw [hk] at hur; exact absurd (by decide) hur
            · exact absurd hk h19
          obtain ⟨k, k1, k2⟩ := pt_one_lo hen (by rw [h17]; decide)
          exact hval2 k k1 _ k2
    · have hur : pu_ur (P 9 i) = true := hur
      obtain ⟨k, k', _, k2, _, k4⟩ := pt_ur_lo hen hur
      exact hval2 k' k2 _ k4
  · rw [(hf b hb).2.2.1.2] at he ⊢
    have he : w 8 b = 23 ∨ w 8 b = 24 := he
    rw [(hf b hb).2.2.1.1]
    show pu_av F D b _ (pt_ev P (pt_lor P a0) vo (fo b) (ot b))
    have hn : ¬ po b < 0 := fun h => by
      rw [(hbk.2.1 b hb h).2.2.1] at he
      exact absurd he (by decide)
    obtain ⟨p1, p2, p3, p4, p5, h1, h2, h4, h5, h6⟩ := hbk.1 b hb hn
    have h24 : pt_en3 (P 9 (pj b)) := by
      rcases p3 with (h | h | h | h) | h
      · rw [(h2 h).1] at he; exact absurd he (by decide)
      · exact Or.inr (Or.inl h)
      · exact Or.inr (Or.inr h)
      · exact Or.inl h
      · rw [(h1 h).1] at he; exact absurd he (by decide)
    have hot : ot b = pj b + 1 := by rw [p5, pt_to_leap (by rcases h24 with h | h | h <;> rw [h] <;> decide)]
    have hfj : fo b ≤ pj b := by rw [p4]; exact (pt_fr_le (P := P) (a := a0) (pj b) p1).2
    have hen := htx.2.1 (pj b) p1 p2
    obtain ⟨k, k1, k2⟩ := pt_one_lo hen (by rcases h24 with h | h | h <;> rw [h] <;> decide)
    have n21 : ¬ P 9 (pj b) ≤ 21 := by rcases h24 with h | h | h <;> rw [h] <;> decide
    rw [hot, pt_ev_s hfj, if_pos h24, pt_sl_s hfj, if_neg n21, List.append_nil]
    show pu_av F D b _ (pt_va vo (pt_lo P (pj b) (pt_T P a0 (pj b))))
    rw [k2, pt_va_k (hkl (pj b) k k1 (by omega))]
    exact hT b (pj b) k hb hfj (by omega) k1
  · have hcB := hsw.2 b c hb hsc
    have heg := (hsw.1 b c hb hcB).mp hsc
    obtain ⟨u, u1, u2, u3⟩ := (hf c hcB).2.1 p hpc
    obtain ⟨hun, huW⟩ := (hp.1 c hcB).2 u u1
    rw [u3 b hb heg, (hf b hb).2.2.1.1, hv.2.1 b u hb hun]
    exact ((havl b hb (ot b) (hfo b hb) (Nat.le_refl _)).1 u hun).resolve_left ((hval b hb).1 (ot b) u (hfo b hb) (Nat.le_refl _) hun (pt_wn_e hcB heg huW))
end SS
