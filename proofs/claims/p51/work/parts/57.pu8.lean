/-! pure side 8: what can be reached; the folded flow; blocks numbered anew -/
def pu_rch (F : pu_Flow) (b : Nat) : Prop := ∀ S : Nat → Prop, S 0 → (∀ b c, S b → pu_sc F b c → S c) → S b
theorem pu_rch_0 (F : pu_Flow) : pu_rch F 0 := fun _ h _ => h
theorem pu_rch_s {F : pu_Flow} {b c : Nat} (h : pu_rch F b) (hs : pu_sc F b c) : pu_rch F c := fun S h0 h1 => h1 b c (h S h0 h1) hs
section FP
variable {F : pu_Flow} {L : Nat → Prop} {D : Nat → Nat → Prop} {R : Nat → Bool} {stt num : pu_E}
theorem pu_fo_blk (hS : pu_ssa F L D) (hF : pu_fok F L R stt num) {b : Nat} (hR : R b = true) : ∀ (l l1 : List pu_Stp), (F b).2.1 = l1 ++ l → (∀ v, pu_av F D b l1 v → stt v ≠ 0) → ∀ v, pu_av F D b (F b).2.1 v → stt v ≠ 0 := by
  intro l
  induction l with
  | nil => intro l1 hl h; rw [List.append_nil] at hl; rw [hl]; exact h
  | cons s l ih =>
    intro l1 hl h
    refine ih (l1 ++ [s]) (by rw [hl]; simp) fun v hv => ?_
    rcases pu_av_c hv with hv | ⟨hg, rfl⟩
    · exact h v hv
    have hb := hF.2.1 b hR
    have hm : s ∈ (F b).2.1 := by rw [hl]; exact List.mem_append_right _ List.mem_cons_self
    have hu := hS.2.2.2.2.2.1 b l1 s l hb hl
    have h3 := hF.2.2.1
    have hc := hF.2.2.2.1 b hR s hm hg
    by_cases h0 : s.1 = 0
    · rcases hc.1 h0 with h5 | ⟨h5, _⟩ <;> rw [h5] <;> decide
    by_cases ho : pu_isop s.1 = true
    · have hus := pu_op_u ho
      have h6 := hc.2.2 ho
      rcases pu_02 (h _ (hu.1 hus.1)) (h3 _) with hl1 | hl1
      · rcases pu_02 (h _ (hu.2 hus.2)) (h3 _) with hr1 | hr1
        · by_cases hf : pu_fail s.1 (num s.2.2.2) = true
          · rw [h6.1 (Or.inr (Or.inr ⟨hr1, hf⟩))]; decide
          · rcases h6.2 hl1 hr1 (by simpa using hf) with h8 | ⟨h8, _⟩ <;> rw [h8] <;> decide
        · rw [h6.1 (Or.inr (Or.inl hr1))]; decide
      · rw [h6.1 (Or.inl hl1)]; decide
    · rw [hc.2.1 h0 (by simpa using ho)]; decide
theorem pu_fo_3 {b : Nat} (hR : R b = true) : (pu_foF F R stt num b).2.2 = pu_fen stt num (F b).2.2 := by rw [pu_fo_R hR]
/-- ways of the folded flow are ways that are taken -/
theorem pu_fo_sc {b c : Nat} (hR : R b = true) (h3 : ∀ v, stt v = 0 ∨ stt v = 1 ∨ stt v = 2) (hV : (F b).2.2.1 = 23 → stt (F b).2.2.2.1 ≠ 0) (h : pu_sc (pu_foF F R stt num) b c) : pu_sc F b c ∧ pu_way F stt num b c := by
  unfold pu_sc at h
  rw [pu_fo_3 hR] at h
  unfold pu_fen at h
  by_cases hc : (F b).2.2.1 = 23 ∧ stt (F b).2.2.2.1 = 1
  · rw [if_pos hc] at h
    have h2 := h.2.resolve_right fun c => absurd c.1 (show ¬ (22 : Int32) = 23 by decide)
    have h2 : c = nn (if num (F b).2.2.2.1 = 0 then (F b).2.2.2.2.2 else (F b).2.2.2.2.1) := h2
    refine ⟨⟨by rw [hc.1]; decide, ?_⟩, Or.inr (Or.inr ⟨hc.2, h2⟩)⟩
    by_cases h0 : num (F b).2.2.2.1 = 0
    · rw [if_pos h0] at h2; exact Or.inr ⟨hc.1, h2⟩
    · rw [if_neg h0] at h2; exact Or.inl h2
  · rw [if_neg hc] at h
    refine ⟨h, ?_⟩
    by_cases h23 : (F b).2.2.1 = 23
    · exact Or.inr (Or.inl ((pu_02 (hV h23) (h3 _)).resolve_left fun h1 => hc ⟨h23, h1⟩))
    · exact Or.inl h23
theorem pu_fo_st (hS : pu_ssa F L D) (hF : pu_fok F L R stt num) {b : Nat} (h : pu_rch (pu_foF F R stt num) b) : R b = true ∧ ∀ v, pu_av F D b (F b).2.1 v → stt v ≠ 0 := by
  refine h (fun b => R b = true ∧ ∀ v, pu_av F D b (F b).2.1 v → stt v ≠ 0) ⟨hF.1, ?_⟩ ?_
  · refine pu_fo_blk hS hF hF.1 _ [] rfl fun v hv => ?_
    rcases hv with h | h | ⟨d, h1, h2, _⟩
    · rw [hS.2.2.1] at h; cases h
    · cases h
    · have := (hS.2.1.2.1 0 d hS.1 h2).1
      omega
  · rintro b c ⟨hR, hv⟩ hsc
    have hb := hF.2.1 b hR
    obtain ⟨h1, h2⟩ := pu_fo_sc hR hF.2.2.1 (fun h23 => hv _ (hS.2.2.2.2.2.2.1 b hb (Or.inl h23))) hsc
    have hRc := hF.2.2.2.2.1 b c hR h1 h2
    refine ⟨hRc, pu_fo_blk hS hF hRc _ [] rfl fun v hv2 => ?_⟩
    rcases pu_av_edge hS hb h1 hv2 with h | ⟨_, h5⟩
    · obtain ⟨z, hz, rfl⟩ := List.mem_map.mp h
      rcases hF.2.2.2.2.2 c b z hRc hR h1 h2 hz with h4 | h4 | ⟨h4, _⟩
      · exact absurd h4 (hv _ (hS.2.2.2.2.2.2.2 b c z hb h1 hz))
      · rw [h4]; decide
      · rw [h4]; decide
    · exact hv v h5
theorem pu_fo_scF (hS : pu_ssa F L D) (hF : pu_fok F L R stt num) {b c : Nat} (h : pu_rch (pu_foF F R stt num) b) (hsc : pu_sc (pu_foF F R stt num) b c) : pu_sc F b c := by
  have h1 := pu_fo_st hS hF h
  exact (pu_fo_sc h1.1 hF.2.2.1 (fun h23 => h1.2 _ (hS.2.2.2.2.2.2.1 b (hF.2.1 b h1.1) (Or.inl h23))) hsc).1
theorem pu_gvs_num (zs : List pu_Phi) : pu_gvs (zs.map (fun z => ((0, z.1, num z.1, -1) : pu_Stp))) = zs.map Prod.fst := by
  induction zs with
  | nil => rfl
  | cons z zs ih =>
    rw [List.map_cons, List.map_cons, pu_gvs_c _ (show pu_gk 0 = true by decide), ih]
theorem pu_tf_g (s : pu_Stp) : (pu_tf stt num s).2.1 = s.2.1 ∧ pu_gk (pu_tf stt num s).1 = pu_gk s.1 := by
  unfold pu_tf
  by_cases h : pu_isop s.1 = true ∧ stt s.2.1 = 1
  · rw [if_pos h]; exact ⟨rfl, (show pu_gk 0 = true by decide).trans (pu_op_gk h.1).symm⟩
  · rw [if_neg h]; exact ⟨rfl, rfl⟩
theorem pu_gvs_tf (l : List pu_Stp) : pu_gvs (l.map (pu_tf stt num)) = pu_gvs l := by
  induction l with
  | nil => rfl
  | cons s l ih =>
    have h := pu_tf_g (stt := stt) (num := num) s
    rw [List.map_cons]
    by_cases hg : pu_gk s.1 = true
    · rw [pu_gvs_c _ hg, pu_gvs_c _ (by rw [h.2]; exact hg), ih, h.1]
    · have hg : pu_gk s.1 = false := by simpa using hg
      rw [pu_gvs_n _ hg, pu_gvs_n _ (by rw [h.2]; exact hg), ih]
theorem pu_fo_bl {b : Nat} (hR : R b = true) : List.Perm (pu_bl (pu_foF F R stt num) b) (pu_bl F b) := by
  unfold pu_bl
  rw [pu_fo_R hR]
  show List.Perm (((F b).1.filter (fun z => !decide (stt z.1 = 1))).map Prod.fst ++ pu_gvs (((F b).1.filter (fun z => decide (stt z.1 = 1))).map (fun z => ((0, z.1, num z.1, -1) : pu_Stp)) ++ (F b).2.1.map (pu_tf stt num))) ((F b).1.map Prod.fst ++ pu_gvs (F b).2.1)
  rw [pu_gvs_app, pu_gvs_num, pu_gvs_tf, ← List.append_assoc, ← List.map_append]
  refine List.Perm.append_right _ (List.Perm.map _ ?_)
  exact List.perm_append_comm.trans (List.filter_append_perm _ _)
theorem pu_fo_av {b : Nat} (hR : R b = true) (hall : ∀ d, D b d → R d = true) {a : List pu_Stp} {v : Int32} (h : pu_av F D b a v) : pu_av (pu_foF F R stt num) D b (((F b).1.filter (fun z => decide (stt z.1 = 1))).map (fun z => ((0, z.1, num z.1, -1) : pu_Stp)) ++ a.map (pu_tf stt num)) v := by
  unfold pu_av
  rw [pu_gvs_app, pu_gvs_num, pu_gvs_tf, pu_fo_R hR]
  rcases h with h | h | ⟨d, h1, h2, h3⟩
  · obtain ⟨z, hz, rfl⟩ := List.mem_map.mp h
    by_cases hk : stt z.1 = 1
    · exact Or.inr (Or.inl (List.mem_append_left _ (List.mem_map_of_mem (List.mem_filter.mpr ⟨hz, by simpa using hk⟩))))
    · exact Or.inl (List.mem_map_of_mem (f := Prod.fst) (List.mem_filter.mpr ⟨hz, by simpa using hk⟩))
  · exact Or.inr (Or.inl (List.mem_append_right _ h))
  · exact Or.inr (Or.inr ⟨d, h1, h2, (pu_fo_bl (hall d h2)).mem_iff.mpr h3⟩)
theorem pu_fo_ssa (hS : pu_ssa F L D) (hF : pu_fok F L R stt num) : pu_ssa (pu_foF F R stt num) (pu_rch (pu_foF F R stt num)) D := by
  have hst := fun b (h : pu_rch (pu_foF F R stt num) b) => pu_fo_st hS hF h
  have hL := fun b (h : pu_rch (pu_foF F R stt num) b) => hF.2.1 b (hst b h).1
  have hsc := fun b c (h : pu_rch (pu_foF F R stt num) b) (hsc : pu_sc (pu_foF F R stt num) b c) => pu_fo_scF hS hF h hsc
  have hG := hS.2.1
  have hdom : ∀ b, pu_rch (pu_foF F R stt num) b → ∀ d, D b d → pu_rch (pu_foF F R stt num) d := by
    intro b hb
    refine (hb (fun b => pu_rch (pu_foF F R stt num) b ∧ ∀ d, D b d → pu_rch (pu_foF F R stt num) d) ⟨pu_rch_0 _, fun d hd => ?_⟩ ?_).2
    · have := (hG.2.1 0 d hS.1 hd).1
      have : d = 0 := by omega
      rw [this]; exact pu_rch_0 _
    · rintro b c ⟨h1, h2⟩ h3
      refine ⟨pu_rch_s h1 h3, fun d hd => ?_⟩
      by_cases hdc : d = c
      · rw [hdc]; exact pu_rch_s h1 h3
      · exact h2 d (hG.2.2.2.2 b c d (hL b h1) (hsc b c h1 h3) hd hdc)
  have hRd : ∀ b, pu_rch (pu_foF F R stt num) b → ∀ d, D b d → R d = true := fun b hb d hd => (hst d (hdom b hb d hd)).1
  have hU := hS.2.2.2.2.1
  refine ⟨pu_rch_0 _, ⟨fun b c hb h => pu_rch_s hb h, fun b d hb hd => ⟨(hG.2.1 b d (hL b hb) hd).1, hdom b hb d hd⟩, fun b hb => hG.2.2.1 b (hL b hb), fun b d e hb => hG.2.2.2.1 b d e (hL b hb), fun b c d hb h => hG.2.2.2.2 b c d (hL b hb) (hsc b c hb h)⟩, ?_, ?_, ⟨?_, ?_⟩, ?_, ?_, ?_⟩
  · rw [pu_fo_R hF.1]
    show (F 0).1.filter _ = []
    rw [hS.2.2.1]; rfl
  · intro b hb s hs
    rw [pu_fo_R (hst b hb).1] at hs
    rcases List.mem_append.mp hs with h | h
    · obtain ⟨z, _, rfl⟩ := List.mem_map.mp h
      exact Or.inl (show pu_gk 0 = true by decide)
    · obtain ⟨t, ht, rfl⟩ := List.mem_map.mp h
      have h1 := hS.2.2.2.1 b (hL b hb) t ht
      unfold pu_tf
      by_cases h : pu_isop t.1 = true ∧ stt t.2.1 = 1
      · rw [if_pos h]; exact Or.inl (show pu_gk 0 = true by decide)
      · rw [if_neg h]; exact h1
  · intro b hb
    exact (pu_fo_bl (hst b hb).1).nodup_iff.mpr (hU.1 b (hL b hb))
  · intro b c v hb hc h1 h2
    exact hU.2 b c v (hL b hb) (hL c hc) ((pu_fo_bl (hst b hb).1).mem_iff.mp h1) ((pu_fo_bl (hst c hc).1).mem_iff.mp h2)
  · intro b l1 s l2 hb h
    rw [pu_fo_R (hst b hb).1] at h
    have h : ((F b).1.filter (fun z => decide (stt z.1 = 1))).map (fun z => ((0, z.1, num z.1, -1) : pu_Stp)) ++ (F b).2.1.map (pu_tf stt num) = l1 ++ s :: l2 := h
    have hnum : s.1 = 0 → (pu_ul s.1 = true → pu_av (pu_foF F R stt num) D b l1 s.2.2.1) ∧ (pu_ur s.1 = true → pu_av (pu_foF F R stt num) D b l1 s.2.2.2) := by
      intro h0
      rw [h0]
      exact ⟨fun c => absurd c (by decide), fun c => absurd c (by decide)⟩
    have hrest : ∀ y, (F b).2.1.map (pu_tf stt num) = y ++ s :: l2 → l1 = ((F b).1.filter (fun z => decide (stt z.1 = 1))).map (fun z => ((0, z.1, num z.1, -1) : pu_Stp)) ++ y → (pu_ul s.1 = true → pu_av (pu_foF F R stt num) D b l1 s.2.2.1) ∧ (pu_ur s.1 = true → pu_av (pu_foF F R stt num) D b l1 s.2.2.2) := by
      intro y h2 h3
      obtain ⟨a, z, h4, h5, h6⟩ := List.map_eq_append_iff.mp h2
      obtain ⟨t, w, rfl, h7, h8⟩ := List.map_eq_cons_iff.mp h6
      have hu := hS.2.2.2.2.2.1 b a t w (hL b hb) h4
      by_cases hc : pu_isop t.1 = true ∧ stt t.2.1 = 1
      · refine hnum ?_
        rw [← h7]
        unfold pu_tf
        rw [if_pos hc]
      · have h9 : s = t := by
          rw [← h7]
          unfold pu_tf
          rw [if_neg hc]
        subst h9
        rw [h3, ← h5]
        exact ⟨fun h => pu_fo_av (hst b hb).1 (hRd b hb) (hu.1 h), fun h => pu_fo_av (hst b hb).1 (hRd b hb) (hu.2 h)⟩
    rcases List.append_eq_append_iff.mp h with ⟨y, h2, h3⟩ | ⟨y, h2, h3⟩
    · exact hrest y h3 h2
    · cases y with
      | nil =>
        rw [List.append_nil] at h2
        rw [List.nil_append] at h3
        exact hrest [] h3.symm (by rw [List.append_nil]; exact h2.symm)
      | cons y1 y2 =>
        cases h3
        refine hnum ?_
        have hm : s ∈ ((F b).1.filter (fun z => decide (stt z.1 = 1))).map (fun z => ((0, z.1, num z.1, -1) : pu_Stp)) := by rw [h2]; exact List.mem_append_right _ List.mem_cons_self
        obtain ⟨z, _, rfl⟩ := List.mem_map.mp hm
        rfl
  · intro b hb hk
    have hR := (hst b hb).1
    rw [pu_fo_3 hR] at hk ⊢
    have h2 : ¬ ((F b).2.2.1 = 23 ∧ stt (F b).2.2.2.1 = 1) := by
      intro hc
      unfold pu_fen at hk
      rw [if_pos hc] at hk
      rcases hk with h | h
      · exact absurd h (show ¬ (22 : Int32) = 23 by decide)
      · exact absurd h (show ¬ (22 : Int32) = 24 by decide)
    have hfe : pu_fen stt num (F b).2.2 = (F b).2.2 := by unfold pu_fen; rw [if_neg h2]
    rw [hfe] at hk ⊢
    have h5 := pu_fo_av hR (hRd b hb) (stt := stt) (num := num) (hS.2.2.2.2.2.2.1 b (hL b hb) hk)
    rw [pu_fo_R hR]
    exact h5
  · intro b c z hb h hz
    have hc := pu_rch_s hb h
    rw [pu_fo_R (hst c hc).1] at hz
    have hz2 := (List.mem_filter.mp hz).1
    have hR := (hst b hb).1
    have h5 := pu_fo_av hR (hRd b hb) (stt := stt) (num := num) (hS.2.2.2.2.2.2.2 b c z (hL b hb) (hsc b c hb h) hz2)
    rw [pu_fo_R hR]
    exact h5
end FP
/-- the same flow, its blocks numbered otherwise -/
def pu_rnd (F F' : pu_Flow) (L : Nat → Prop) (B : Nat) (ren ord : Nat → Nat) : Prop :=
  (∀ i, i < B → L (ord i) ∧ ren (ord i) = i) ∧ (∀ b, L b → ren b < B ∧ ord (ren b) = b) ∧ ren 0 = 0 ∧
  (∀ b, L b → (∃ tk : pu_Phi → Nat → Int32, (F' (ren b)).1 = (F b).1.map (fun z => (z.1, tk z)) ∧ ∀ z ∈ (F b).1, ∀ p, L p → tk z (ren p) = z.2 p) ∧ (F' (ren b)).2.1 = (F b).2.1 ∧
    (F' (ren b)).2.2.1 = (F b).2.2.1 ∧ (F' (ren b)).2.2.2.1 = (F b).2.2.2.1 ∧ ((F b).2.2.1 ≠ 24 → nn (F' (ren b)).2.2.2.2.1 = ren (nn (F b).2.2.2.2.1)) ∧ ((F b).2.2.1 = 23 → nn (F' (ren b)).2.2.2.2.2 = ren (nn (F b).2.2.2.2.2)))
section RN
variable {F F' : pu_Flow} {L : Nat → Prop} {D D' : Nat → Nat → Prop} {B : Nat} {ren ord : Nat → Nat} {call : pu_Call} {ar : List Int32}
theorem pu_rn_sc (hN : pu_rnd F F' L B ren ord) {b j : Nat} (hb : L b) (h : pu_sc F' (ren b) j) : ∃ c, pu_sc F b c ∧ j = ren c := by
  obtain ⟨_, _, h3, _, h5, h6⟩ := hN.2.2.2 b hb
  unfold pu_sc at h
  rw [h3] at h
  rcases h with ⟨h1, h2 | ⟨h2, h7⟩⟩
  · exact ⟨_, ⟨h1, Or.inl rfl⟩, by rw [h2, h5 h1]⟩
  · exact ⟨_, ⟨h1, Or.inr ⟨h2, rfl⟩⟩, by rw [h7, h6 h2]⟩
theorem pu_rn_bl (hN : pu_rnd F F' L B ren ord) {b : Nat} (hb : L b) : pu_bl F' (ren b) = pu_bl F b := by
  obtain ⟨⟨tk, h1, _⟩, h2, _⟩ := hN.2.2.2 b hb
  unfold pu_bl
  rw [h1, h2, List.map_map]
  rfl
theorem pu_rn_av (hS : pu_ssa F L D) (hN : pu_rnd F F' L B ren ord) (hD : ∀ b d, L b → D b d → D' (ren b) (ren d)) {b : Nat} (hb : L b) {a : List pu_Stp} {v : Int32} (h : pu_av F D b a v) : pu_av F' D' (ren b) a v := by
  rcases h with h | h | ⟨d, h1, h2, h3⟩
  · obtain ⟨⟨tk, h4, _⟩, _⟩ := hN.2.2.2 b hb
    refine Or.inl ?_
    rw [h4, List.map_map]
    exact h
  · exact Or.inr (Or.inl h)
  · have hd := pu_dlt hS hb h2
    refine Or.inr (Or.inr ⟨ren d, fun e => h1 ?_, hD b d hb h2, by rw [pu_rn_bl hN hd]; exact h3⟩)
    rw [← (hN.2.1 d hd).2, ← (hN.2.1 b hb).2, e]
theorem pu_rn_ssa (hS : pu_ssa F L D) (hN : pu_rnd F F' L B ren ord) (hG : pu_grf F' (fun b => b < B) D') (hD : ∀ b d, L b → D b d → D' (ren b) (ren d)) : pu_ssa F' (fun b => b < B) D' := by
  have hB : 0 < B := by have := (hN.2.1 0 hS.1).1; rw [hN.2.2.1] at this; exact this
  have hof : ∀ i, i < B → ∃ b, L b ∧ ren b = i := fun i hi => ⟨ord i, (hN.1 i hi).1, (hN.1 i hi).2⟩
  refine ⟨hB, hG, ?_, ?_, ⟨?_, ?_⟩, ?_, ?_, ?_⟩
  · obtain ⟨⟨tk, h1, _⟩, _⟩ := hN.2.2.2 0 hS.1
    rw [hN.2.2.1, hS.2.2.1] at h1
    exact h1
  · intro i hi s hs
    obtain ⟨b, hb, rfl⟩ := hof i hi
    rw [(hN.2.2.2 b hb).2.1] at hs
    exact hS.2.2.2.1 b hb s hs
  · intro i hi
    obtain ⟨b, hb, rfl⟩ := hof i hi
    rw [pu_rn_bl hN hb]
    exact hS.2.2.2.2.1.1 b hb
  · intro i j v hi hj h1 h2
    obtain ⟨b, hb, rfl⟩ := hof i hi
    obtain ⟨c, hc, rfl⟩ := hof j hj
    rw [pu_rn_bl hN hb] at h1
    rw [pu_rn_bl hN hc] at h2
    rw [hS.2.2.2.2.1.2 b c v hb hc h1 h2]
  · intro i l1 s l2 hi h
    obtain ⟨b, hb, rfl⟩ := hof i hi
    rw [(hN.2.2.2 b hb).2.1] at h
    have hu := hS.2.2.2.2.2.1 b l1 s l2 hb h
    exact ⟨fun h => pu_rn_av hS hN hD hb (hu.1 h), fun h => pu_rn_av hS hN hD hb (hu.2 h)⟩
  · intro i hi hk
    obtain ⟨b, hb, rfl⟩ := hof i hi
    obtain ⟨_, h2, h3, h4, _⟩ := hN.2.2.2 b hb
    rw [h3] at hk
    rw [h2, h4]
    exact pu_rn_av hS hN hD hb (hS.2.2.2.2.2.2.1 b hb hk)
  · intro i j z hi h hz
    obtain ⟨b, hb, rfl⟩ := hof i hi
    obtain ⟨c, hsc, rfl⟩ := pu_rn_sc hN hb h
    have hc := hS.2.1.1 b c hb hsc
    obtain ⟨⟨tk, h1, h5⟩, _⟩ := hN.2.2.2 c hc
    rw [h1] at hz
    obtain ⟨y, hy, rfl⟩ := List.mem_map.mp hz
    rw [(hN.2.2.2 b hb).2.1]
    show pu_av F' D' (ren b) (F b).2.1 (tk y (ren b))
    rw [h5 y hy b hb]
    exact pu_rn_av hS hN hD hb (hS.2.2.2.2.2.2.2 b c y hb hsc hy)
theorem pu_rn_phs {ps : List pu_Phi} {tk : pu_Phi → Nat → Int32} {p p' : Nat} {e : pu_E} (h : ∀ z ∈ ps, tk z p' = z.2 p) : pu_phs (ps.map (fun z => (z.1, tk z))) p' e = pu_phs ps p e := by
  unfold pu_phs
  suffices H : ∀ (ps : List pu_Phi) (e9 : pu_E), (∀ z ∈ ps, tk z p' = z.2 p) → (ps.map (fun z => ((z.1, tk z) : pu_Phi))).foldl (fun e9 p => pu_set e9 p.1 (e (p.2 p'))) e9 = ps.foldl (fun e9 q => pu_set e9 q.1 (e (q.2 p))) e9 from H ps e h
  intro ps
  induction ps with
  | nil => intro e9 _; rfl
  | cons z ps ih =>
    intro e9 h
    rw [List.map_cons, List.foldl_cons, List.foldl_cons, ih _ (fun y hy => h y (List.mem_cons_of_mem _ hy))]
    show ps.foldl _ (pu_set e9 z.1 (e (tk z p'))) = _
    rw [h z List.mem_cons_self]
theorem pu_rn_run (hS : pu_ssa F L D) (hN : pu_rnd F F' L B ren ord) {n : Nat} {e : pu_E} {m : pu_M} {q : List Int32} {r : pu_Res} (h : pu_run F call ar n 0 0 (e, m, q) = some r) : pu_run F' call ar n 0 0 (e, m, q) = some r := by
  refine pu_sim (F := F) (F' := F') (fun b p σ b' p' σ' => L b ∧ b' = ren b ∧ (b = 0 ∨ (L p ∧ p' = ren p)) ∧ σ' = σ) (fun _ _ _ _ _ _ h => congrArg (fun s => s.2.2) h.2.2.2) ?_ n 0 0 _ 0 0 _ r ⟨hS.1, hN.2.2.1.symm, Or.inl rfl, rfl⟩ h
  rintro b p σ b' p' σ' o ⟨hb, rfl, hp, rfl⟩ ho
  obtain ⟨⟨tk, h1, h5⟩, h2, h3, h4, h6, h7⟩ := hN.2.2.2 b hb
  have hph : pu_phs (F' (ren b)).1 p' σ'.1 = pu_phs (F b).1 p σ'.1 := by
    rw [h1]
    rcases hp with rfl | ⟨hp, rfl⟩
    · rw [hS.2.2.1]; rfl
    · exact pu_rn_phs fun z hz => h5 z hz p hp
  unfold pu_blk at ho ⊢
  rw [hph, h2]
  replace ho := bnd9 ho
  obtain ⟨o1, ho1, ho⟩ := ho
  rw [ho1]
  cases o1 with
  | inl z => cases ho; exact Or.inl ⟨z, rfl, rfl⟩
  | inr τ =>
    have ho : pu_end (F b).2.2 τ = o := Option.some.inj ho
    show (∃ r, o = .inl r ∧ some (pu_end (F' (ren b)).2.2 τ) = some (.inl r)) ∨ _
    unfold pu_end at ho
    by_cases c1 : (F b).2.2.1 = 24
    · rw [if_pos c1] at ho
      subst ho
      refine Or.inl ⟨_, rfl, ?_⟩
      unfold pu_end
      rw [if_pos (h3.trans c1), h4]
    · rw [if_neg c1] at ho
      by_cases c2 : (F b).2.2.1 = 23 ∧ τ.1 (F b).2.2.2.1 = 0
      · rw [if_pos c2] at ho
        subst ho
        refine Or.inr ⟨_, τ, ren (nn (F b).2.2.2.2.2), τ, rfl, ?_, hS.2.1.1 b _ hb ⟨c1, Or.inr ⟨c2.1, rfl⟩⟩, rfl, Or.inr ⟨hb, rfl⟩, rfl⟩
        show some (pu_end (F' (ren b)).2.2 τ) = _
        unfold pu_end
        rw [if_neg (by rw [h3]; exact c1), if_pos (by rw [h3, h4]; exact c2), h7 c2.1]
      · rw [if_neg c2] at ho
        subst ho
        refine Or.inr ⟨_, τ, ren (nn (F b).2.2.2.2.1), τ, rfl, ?_, hS.2.1.1 b _ hb ⟨c1, Or.inl rfl⟩, rfl, Or.inr ⟨hb, rfl⟩, rfl⟩
        show some (pu_end (F' (ren b)).2.2 τ) = _
        unfold pu_end
        rw [if_neg (by rw [h3]; exact c1), if_neg (by rw [h3, h4]; exact c2), h6 c1]
end RN
