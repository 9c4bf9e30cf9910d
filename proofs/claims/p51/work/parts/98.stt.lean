/-! pure side, stores 29: the flow that stands behind the stores while equals are joined -/
theorem pu_eqB_sc {F F' : pu_Flow} {B : Nat} (h : ∀ b, b < B → F' b = F b) {b c : Nat} (hb : b < B) : pu_sc F' b c ↔ pu_sc F b c := by
  unfold pu_sc
  rw [h b hb]
theorem pu_eqB_av {F F' : pu_Flow} {B : Nat} {D : Nat → Nat → Prop} (hG : ∀ b d, b < B → D b d → d ≤ b ∧ d < B) (h : ∀ b, b < B → F' b = F b) {b : Nat} {a : List pu_Stp} {v : Int32} (hb : b < B) (hv : pu_av F D b a v) : pu_av F' D b a v := by
  rcases hv with h1 | h1 | ⟨d, h1, h2, h3⟩
  · exact Or.inl (by rw [h b hb]; exact h1)
  · exact Or.inr (Or.inl h1)
  · refine Or.inr (Or.inr ⟨d, h1, h2, ?_⟩)
    unfold pu_bl at h3 ⊢
    rw [h d (hG b d hb h2).2]
    exact h3
theorem pu_eqB_ssa {F F' : pu_Flow} {B : Nat} {D : Nat → Nat → Prop} (h : ∀ b, b < B → F' b = F b) (hS : pu_ssa F (fun b => b < B) D) : pu_ssa F' (fun b => b < B) D := by
  have hG := hS.2.1
  have hU := hS.2.2.2.2.1
  have hbl : ∀ b, b < B → pu_bl F' b = pu_bl F b := fun b hb => by unfold pu_bl; rw [h b hb]
  refine ⟨hS.1, ⟨fun b c hb hs => hG.1 b c hb ((pu_eqB_sc h hb).mp hs), hG.2.1, hG.2.2.1, hG.2.2.2.1, fun b c d hb hs => hG.2.2.2.2 b c d hb ((pu_eqB_sc h hb).mp hs)⟩, ?_, ?_, ⟨?_, ?_⟩, ?_, ?_, ?_⟩
  · rw [h 0 hS.1]; exact hS.2.2.1
  · intro b hb s hs
    rw [h b hb] at hs
    exact hS.2.2.2.1 b hb s hs
  · intro b hb
    rw [hbl b hb]; exact hU.1 b hb
  · intro b c v hb hc h1 h2
    rw [hbl b hb] at h1
    rw [hbl c hc] at h2
    exact hU.2 b c v hb hc h1 h2
  · intro b l1 s l2 hb hl
    rw [h b hb] at hl
    have h9 := hS.2.2.2.2.2.1 b l1 s l2 hb hl
    exact ⟨fun h8 => pu_eqB_av hG.2.1 h hb (h9.1 h8), fun h8 => pu_eqB_av hG.2.1 h hb (h9.2 h8)⟩
  · intro b hb he
    rw [h b hb] at he ⊢
    exact pu_eqB_av hG.2.1 h hb (hS.2.2.2.2.2.2.1 b hb he)
  · intro b c p hb hsc hp
    have hsc := (pu_eqB_sc h hb).mp hsc
    rw [h c (hG.1 b c hb hsc)] at hp
    rw [h b hb]
    exact pu_eqB_av hG.2.1 h hb (hS.2.2.2.2.2.2.2 b c p hb hsc hp)
theorem pu_blk_sc {F : pu_Flow} {call : pu_Call} {ar : List Int32} {b p c : Nat} {σ τ : pu_S} (h : pu_blk F call ar b p σ = some (.inr (c, τ))) : pu_sc F b c := by
  unfold pu_blk at h
  replace h := bnd9 h
  obtain ⟨o, ho, h⟩ := h
  cases o with
  | inl z => cases h
  | inr τ1 => exact (pu_end_sc (Option.some.inj h)).1
theorem pu_eqB_run {F F' : pu_Flow} {B : Nat} {call : pu_Call} {ar : List Int32} (hB : 0 < B) (hc : ∀ b c, b < B → pu_sc F b c → c < B) (h : ∀ b, b < B → F' b = F b) {n : Nat} {σ : pu_S} {r : pu_Res} (hr : pu_run F call ar n 0 0 σ = some r) : pu_run F' call ar n 0 0 σ = some r := by
  refine pu_sim (F := F) (F' := F') (fun b p σ b' p' σ' => b < B ∧ b' = b ∧ p' = p ∧ σ' = σ) (fun _ _ _ _ _ _ h => congrArg (fun s => s.2.2) h.2.2.2) ?_ n 0 0 _ 0 0 _ r ⟨hB, rfl, rfl, rfl⟩ hr
  rintro b p σ b' p' σ' o ⟨hb, rfl, rfl, rfl⟩ ho
  have e1 : pu_blk F' call ar b' p' σ' = pu_blk F call ar b' p' σ' := by
    unfold pu_blk
    rw [h b' hb]
  rw [e1]
  cases o with
  | inl r => exact Or.inl ⟨r, rfl, ho⟩
  | inr x => exact Or.inr ⟨x.1, x.2, x.1, x.2, rfl, ho, hc b' x.1 hb (pu_blk_sc ho), rfl, rfl, rfl⟩
theorem pu_sbS_comp (f h : Int32 → Int32) (s : pu_Stp) : pu_sbS f (pu_sbS h s) = pu_sbS (fun v => f (h v)) s := by
  unfold pu_sbS
  by_cases h1 : pu_ul s.1 = true <;> by_cases h2 : pu_ur s.1 = true <;> simp [h1, h2]
theorem pu_sbS_cg {f h : Int32 → Int32} {s : pu_Stp} (h1 : pu_ul s.1 = true → f s.2.2.1 = h s.2.2.1) (h2 : pu_ur s.1 = true → f s.2.2.2 = h s.2.2.2) : pu_sbS f s = pu_sbS h s := by
  unfold pu_sbS
  have e1 : (if pu_ul s.1 = true then f s.2.2.1 else s.2.2.1) = (if pu_ul s.1 = true then h s.2.2.1 else s.2.2.1) := by
    by_cases h9 : pu_ul s.1 = true
    · rw [if_pos h9, if_pos h9, h1 h9]
    · rw [if_neg h9, if_neg h9]
  have e2 : (if pu_ur s.1 = true then f s.2.2.2 else s.2.2.2) = (if pu_ur s.1 = true then h s.2.2.2 else s.2.2.2) := by
    by_cases h9 : pu_ur s.1 = true
    · rw [if_pos h9, if_pos h9, h2 h9]
    · rw [if_neg h9, if_neg h9]
  rw [e1, e2]
/-- who stands in, for values alone -/
def pv_sgx (g : ST) (v : Int32) : Int32 := if ixb v 250 = true then pv_sg g v else v
theorem pv_sgx_v {g : ST} {v : Int32} (h : ixb v 250 = true) : pv_sgx g v = pv_sg g v := if_pos h
theorem pv_sgx_n {g : ST} {v : Int32} (h : ¬ ixb v 250 = true) : pv_sgx g v = v := if_neg h
theorem pv_sgx_e {g g' : ST} (h : ∀ v, g' 6 v = g 6 v) (u : Int32) : pv_sgx g' u = pv_sgx g u := by
  unfold pv_sgx
  rw [pv_sg_e h]
theorem pv_sgx_i {g : ST} (hk : pv_sk g) (u : Int32) : pv_sgx g (pv_sgx g u) = pv_sgx g u := by
  by_cases hu : ixb u 250 = true
  · rw [pv_sgx_v hu, pv_sgx_v (pv_sg_root hk hu).1, pv_sg_i hk hu]
  · rw [pv_sgx_n hu, pv_sgx_n hu]
theorem pv_sgx_set {g : ST} (hk : pv_sk g) {v x : Int32} (hv : ixb v 250 = true) (hx : ixb x 250 = true) (hrv : g 6 (nn v) < 0) (hrx : g 6 (nn x) < 0) (hne : x ≠ v) (u : Int32) : pv_sgx (upw g 6 (nn v) x) u = pu_sb1 v x (pv_sgx g u) := by
  by_cases hu : ixb u 250 = true
  · rw [pv_sgx_v hu, pv_sgx_v hu, (pv_sk_set hk hv hx hrv hrx hne).2 u hu]
    rfl
  · rw [pv_sgx_n hu, pv_sgx_n hu, pu_sb1_n fun e => hu (by rw [e]; exact hv)]
def pv_ab (g : ST) (u : Int32) : Bool := decide (u < 0) || decide (g 6 (nn u) < 0)
theorem pv_ab_e {g g' : ST} (h : ∀ v, g' 6 v = g 6 v) (u : Int32) : pv_ab g' u = pv_ab g u := by
  unfold pv_ab
  rw [h]
theorem pv_ab_set {g : ST} {v x : Int32} (hv : ixb v 250 = true) (hx : ixb x 250 = true) (u : Int32) : pv_ab (upw g 6 (nn v) x) u = (!pu_d1 v u && pv_ab g u) := by
  unfold pv_ab pu_d1
  have hv0 := (pv_ixn hv).1
  have hx0 := (pv_ixn hx).1
  rw [pv_upw]
  by_cases hu : u < 0
  · have : u ≠ v := fun e => hv0 (by rw [← e]; exact hu)
    simp [hu, this]
  · by_cases e : u = v
    · subst e
      simp [hx0, hu]
    · have : nn u ≠ nn v := fun e9 => e (pv_nn_inj hu hv0 e9)
      simp [this, e, hu]
def pv_aS (g w2 : ST) (a : Nat) : Bool := !pu_gk (w2 2 a) || pv_ab g (w2 3 a)
def pv_aP (g w : ST) (a : Nat) : Bool := pv_ab g (w 19 a)
def pv_AP (g w : ST) (a : Nat) : pu_Phi := (w 19 a, fun p => pv_sgx g (w 21 (a * 60 + p)))
def pv_AS (g w2 : ST) (a : Nat) : pu_Stp := pu_sbS (pv_sgx g) (pv_S w2 a)
/-- the flow behind the stores: what has a stand-in is out, what uses it uses that -/
def pv_A (g w w2 : ST) (ch ph : Nat → List Nat) : pu_Flow := fun b =>
  (((ph b).filter (pv_aP g w)).map (pv_AP g w), ((ch b).filter (pv_aS g w2)).map (pv_AS g w2), (w 8 b, pv_sgx g (w 9 b), w 10 b, w 11 b))
theorem pv_A_e {g g' w w2 : ST} {ch ph : Nat → List Nat} (h : ∀ v, g' 6 v = g 6 v) : pv_A g' w w2 ch ph = pv_A g w w2 ch ph := by
  have e0 : pv_sgx g' = pv_sgx g := funext (pv_sgx_e h)
  have e1 : pv_aP g' w = pv_aP g w := funext fun a => pv_ab_e h _
  have e2 : pv_aS g' w2 = pv_aS g w2 := funext fun a => by unfold pv_aS; rw [pv_ab_e h]
  have e3 : pv_AP g' w = pv_AP g w := by funext a; unfold pv_AP; rw [e0]
  have e4 : pv_AS g' w2 = pv_AS g w2 := by funext a; unfold pv_AS; rw [e0]
  unfold pv_A
  rw [e0, e1, e2, e3, e4]
theorem pv_A_set {g w w2 : ST} {ch ph : Nat → List Nat} (hk : pv_sk g) {v x : Int32} (hv : ixb v 250 = true) (hx : ixb x 250 = true) (hrv : g 6 (nn v) < 0) (hrx : g 6 (nn x) < 0) (hne : x ≠ v) : pv_A (upw g 6 (nn v) x) w w2 ch ph = pu_s1F (pv_A g w w2 ch ph) v x := by
  funext b
  have e0 := pv_sgx_set hk hv hx hrv hrx hne
  refine Prod.ext ?_ (Prod.ext ?_ ?_)
  · show ((ph b).filter (pv_aP (upw g 6 (nn v) x) w)).map (pv_AP (upw g 6 (nn v) x) w) = ((((ph b).filter (pv_aP g w)).map (pv_AP g w)).filter (fun z => !pu_d1 v z.1)).map (fun z => (z.1, fun c => pu_sb1 v x (z.2 c)))
    have e1 : (ph b).filter (pv_aP (upw g 6 (nn v) x) w) = ((ph b).filter (pv_aP g w)).filter (fun a => !pu_d1 v (pv_AP g w a).1) := by
      rw [List.filter_filter]
      exact List.filter_congr fun a _ => pv_ab_set hv hx _
    have e2 : pv_AP (upw g 6 (nn v) x) w = (fun z : pu_Phi => (z.1, fun c => pu_sb1 v x (z.2 c))) ∘ pv_AP g w := by
      funext a
      show (w 19 a, fun p => pv_sgx (upw g 6 (nn v) x) (w 21 (a * 60 + p))) = (w 19 a, fun p => pu_sb1 v x (pv_sgx g (w 21 (a * 60 + p))))
      have : (fun p => pv_sgx (upw g 6 (nn v) x) (w 21 (a * 60 + p))) = fun p => pu_sb1 v x (pv_sgx g (w 21 (a * 60 + p))) := funext fun p => e0 _
      rw [this]
    rw [pv_flt_map, List.map_map, e1, e2]
  · show ((ch b).filter (pv_aS (upw g 6 (nn v) x) w2)).map (pv_AS (upw g 6 (nn v) x) w2) = ((((ch b).filter (pv_aS g w2)).map (pv_AS g w2)).filter (pu_jk (pu_d1 v))).map (pu_sbS (pu_sb1 v x))
    have e1 : (ch b).filter (pv_aS (upw g 6 (nn v) x) w2) = ((ch b).filter (pv_aS g w2)).filter (fun a => pu_jk (pu_d1 v) (pv_AS g w2 a)) := by
      rw [List.filter_filter]
      refine List.filter_congr fun a _ => ?_
      unfold pv_aS
      rw [pv_ab_set hv hx]
      show (!pu_gk (w2 2 a) || (!pu_d1 v (w2 3 a) && pv_ab g (w2 3 a))) = ((!pu_gk (w2 2 a) || !pu_d1 v (w2 3 a)) && (!pu_gk (w2 2 a) || pv_ab g (w2 3 a)))
      cases pu_gk (w2 2 a) <;> simp
    have e2 : pv_AS (upw g 6 (nn v) x) w2 = pu_sbS (pu_sb1 v x) ∘ pv_AS g w2 := by
      funext a
      show pu_sbS _ _ = pu_sbS _ (pu_sbS _ _)
      rw [pu_sbS_comp]
      exact pu_sbS_cg (fun _ => e0 _) (fun _ => e0 _)
    rw [pv_flt_map, List.map_map, e1, e2]
  · show (w 8 b, pv_sgx (upw g 6 (nn v) x) (w 9 b), w 10 b, w 11 b) = (w 8 b, pu_sb1 v x (pv_sgx g (w 9 b)), w 10 b, w 11 b)
    rw [e0]
/-- each value is given once -/
def pv_un (w w2 : ST) (B : Nat) (ch ph : Nat → List Nat) : Prop :=
  (∀ b c a z, b < B → c < B → a ∈ ch b → z ∈ ch c → ¬ w2 3 a < 0 → w2 3 a = w2 3 z → a = z) ∧ (∀ b c a z, b < B → c < B → a ∈ ph b → z ∈ ch c → w 19 a = w2 3 z → False) ∧ (∀ b c a z, b < B → c < B → a ∈ ph b → z ∈ ph c → w 19 a = w 19 z → a = z)
theorem pv_un_of {w w2 : ST} {B : Nat} {ch ph : Nat → List Nat} {D : Nat → Nat → Prop} (hS : pu_ssa (pv_F w w2 ch ph) (fun b => b < B) D) (hgk : pv_gks w2 B ch) (hix : ∀ b, b < B → ∀ a ∈ ph b, ixb (w 19 a) 250 = true) : pv_un w w2 B ch ph := by
  refine ⟨fun b c a z hb hc ha hz h0 e => pv_uniq hS hgk hb hc ha hz h0 (by rw [← e]; exact h0) (by rw [e]), fun b c a z hb hc ha hz e => ?_, fun b c a z hb hc ha hz e => ?_⟩
  · have h0 := (pv_ixn (hix b hb a ha)).1
    exact pv_uniq_p hS hgk hb hc ha hz h0 (by rw [← e]; exact h0) (by rw [e])
  · have ma : pv_P w a ∈ (pv_F w w2 ch ph b).1 := List.mem_map_of_mem ha
    have mz : pv_P w z ∈ (pv_F w w2 ch ph c).1 := List.mem_map_of_mem hz
    have hbc := hS.2.2.2.2.1.2 b c (w 19 a) hb hc (pu_bl_p ma) (by rw [e]; exact pu_bl_p mz)
    subst hbc
    have hn := (List.nodup_append.mp (hS.2.2.2.2.1.1 b hb)).1
    have hn : (((ph b).map (pv_P w)).map Prod.fst).Nodup := hn
    rw [List.map_map] at hn
    exact pv_nodup_map _ hn a ha z hz e
