/-! pure side, the allocator 17: the first that may be united are -/
theorem pg_sm_mono {f g : Nat → Nat} : ∀ k, (∀ i, i < k → f i ≤ g i) → pv_sm f k ≤ pv_sm g k := by
  intro k
  induction k with
  | zero => intro _; exact Nat.le_refl _
  | succ k ih =>
    intro h
    show pv_sm f k + f k ≤ pv_sm g k + g k
    have := ih fun i hi => h i (by omega)
    have := h k (Nat.lt_succ_self k)
    omega
/-- a value is a home -/
def pa_hb (H : Nat) (x : Int32) : Bool := decide (¬ x < 0 ∧ nn x < H)
def pa_b1 (b : Bool) : Nat := if b = true then 1 else 0
/-- how often a step names homes -/
def pa_m1 (H : Nat) (s : pu_Stp) : Nat := pa_b1 (pu_ul s.1 && pa_hb H s.2.2.1) + pa_b1 (pu_ur s.1 && pa_hb H s.2.2.2) + pa_b1 (pu_gw s.1 && pa_hb H s.2.1)
def pa_mu (H : Nat) : List pu_Stp → Nat
  | [] => 0
  | s :: l => pa_m1 H s + pa_mu H l
theorem pa_mu_app (H : Nat) (a b : List pu_Stp) : pa_mu H (a ++ b) = pa_mu H a + pa_mu H b := by
  induction a with
  | nil => exact (Nat.zero_add _).symm
  | cons s a ih =>
    show pa_m1 H s + pa_mu H (a ++ b) = pa_m1 H s + pa_mu H a + pa_mu H b
    rw [ih]; omega
/-- how often blocks name homes -/
def pa_mF (H : Nat) (F : pu_Flow) (B : Nat) : Nat := pv_sm (fun b => pa_mu H (F b).2.1 + pa_b1 (pa_hb H (F b).2.2.2.1)) B
/-- a slot's number -/
abbrev pa_nl (c : Nat) (x : Int32) : Prop := nn x < c ∧ ¬ x < 0
/-- slots are known -/
def pa_sk (fs na B c0 : Nat) (x9 : ST) (qs : Nat → List Nat) : Prop := ∀ b, b < B → ∀ a, a ∈ qs b → (x9 2 a = 26 → pa_nl c0 (x9 4 a)) ∧ (x9 2 a = 27 → pa_nl c0 (x9 5 a)) ∧ (x9 2 a = 20 → ixb (x9 4 a) fs = true) ∧ (x9 2 a = 21 → ixb (x9 4 a) na = true)
/-- given by a step -/
def pa_gvn (B : Nat) (x9 : ST) (qs : Nat → List Nat) (v : Nat) : Bool := ((List.range B).flatMap qs).any fun a => decide (x9 3 a = pu_I v)
theorem pa_gvn_i {B : Nat} {x9 : ST} {qs : Nat → List Nat} {v : Nat} : pa_gvn B x9 qs v = true ↔ ∃ b a, b < B ∧ a ∈ qs b ∧ x9 3 a = pu_I v := by
  unfold pa_gvn
  rw [List.any_eq_true]
  constructor
  · rintro ⟨a, ha, h⟩
    obtain ⟨b, hb, hab⟩ := List.mem_flatMap.mp ha
    exact ⟨b, a, List.mem_range.mp hb, hab, of_decide_eq_true h⟩
  · rintro ⟨b, a, hb, ha, h⟩
    exact ⟨a, List.mem_flatMap.mpr ⟨b, List.mem_range.mpr hb, ha⟩, decide_eq_true h⟩
/-- how many homes are given -/
def pa_gn (B H : Nat) (x9 : ST) (qs : Nat → List Nat) : Nat := pv_sm (fun v => pa_b1 (pa_gvn B x9 qs v)) H
theorem pa_b1_i {a b : Bool} (h : a = true → b = true) : pa_b1 a ≤ pa_b1 b := by
  cases a with
  | false => exact Nat.zero_le _
  | true => rw [h rfl]; exact Nat.le_refl _
theorem pv_sm_mv {f f' : Nat → Nat} {s g k : Nat} (hsg : s ≠ g) (h : ∀ v, v < k → v ≠ s → v ≠ g → f' v ≤ f v) (hg : f' g = 0) (hs : f' s ≤ f s + f g) (hs2 : s < k) (hg2 : g < k) : pv_sm f' k ≤ pv_sm f k := by
  have e1 := pv_sm_up (f := fun v => if v = g then 0 else f v) (g := f) (x := g) (d := f g) (fun i hi => (if_neg hi).symm) (by
    show f g = (if g = g then 0 else f g) + f g
    rw [if_pos rfl]
    omega) k hg2
  have e2 := pv_sm_up (f := fun v => if v = g then 0 else f v) (g := fun v => if v = s then f s + f g else if v = g then 0 else f v) (x := s) (d := f g) (fun i hi => if_neg hi) (by
    show (if s = s then f s + f g else _) = (if s = g then 0 else f s) + f g
    rw [if_pos rfl, if_neg hsg]) k hs2
  have e3 := pg_sm_mono (f := f') (g := fun v => if v = s then f s + f g else if v = g then 0 else f v) k fun i hi => by
    show f' i ≤ if i = s then f s + f g else if i = g then 0 else f i
    by_cases e : i = s
    · rw [if_pos e, e]; exact hs
    · rw [if_neg e]
      by_cases e2 : i = g
      · rw [if_pos e2, e2, hg]; exact Nat.le_refl 0
      · rw [if_neg e2]; exact h i hi e e2
  exact Nat.le_trans e3 (Nat.le_of_eq (e2.trans e1.symm))
/-- slots stay known, homes aren't named more often -/
def pa_dn (B H : Nat) (fw x9 : ST) (qs : Nat → List Nat) (fw' x9' : ST) (qs' : Nat → List Nat) : Prop :=
  x9' 0 = x9 0 ∧ (∀ fs na c, pa_sk fs na B c x9 qs → pa_sk fs na B c x9' qs') ∧ pa_mF H (pg_F fw' x9' qs') B ≤ pa_mF H (pg_F fw x9 qs) B ∧ pa_gn B H x9' qs' ≤ pa_gn B H x9 qs
theorem pa_dn_rf {B H : Nat} {fw x9 : ST} {qs : Nat → List Nat} : pa_dn B H fw x9 qs fw x9 qs := ⟨rfl, fun _ _ _ h => h, Nat.le_refl _, Nat.le_refl _⟩
theorem pa_dn_tr {B H : Nat} {fw x9 fw1 x1 fw2 x2 : ST} {qs q1 q2 : Nat → List Nat} (h1 : pa_dn B H fw x9 qs fw1 x1 q1) (h2 : pa_dn B H fw1 x1 q1 fw2 x2 q2) : pa_dn B H fw x9 qs fw2 x2 q2 :=
  ⟨h2.1.trans h1.1, fun fs na c h => h2.2.1 fs na c (h1.2.1 fs na c h), Nat.le_trans h2.2.2.1 h1.2.2.1, Nat.le_trans h2.2.2.2 h1.2.2.2⟩
theorem pa_mu_ro {H : Nat} {ro : Int32 → Int32} (hR : ∀ x, pa_hb H (ro x) = pa_hb H x) : ∀ l : List pu_Stp, pa_mu H ((l.filter (fun s => !pu_idl ro s)).map (pu_rns ro)) ≤ pa_mu H l := by
  intro l
  induction l with
  | nil => exact Nat.le_refl _
  | cons s l ih =>
    have hs : pa_m1 H (pu_rns ro s) = pa_m1 H s := by
      unfold pa_m1 pu_rns
      dsimp only
      have e : ∀ (c : Bool) (x : Int32), (c && pa_hb H (if c = true then ro x else x)) = (c && pa_hb H x) := fun c x => by
        cases c with
        | false => rfl
        | true => rw [if_pos rfl, hR]
      rw [e, e, e]
    cases hi : pu_idl ro s with
    | true =>
      rw [List.filter_cons_of_neg (by rw [hi]; decide)]
      show _ ≤ pa_m1 H s + pa_mu H l
      omega
    | false =>
      rw [List.filter_cons_of_pos (by rw [hi]; rfl), List.map_cons]
      show pa_m1 H (pu_rns ro s) + _ ≤ pa_m1 H s + pa_mu H l
      omega
theorem pu_endW_sc {F : pu_Flow} {b c : Nat} {τ τ' : pu_SW} (h : pu_endW (F b).2.2 τ = .inr (c, τ')) : pu_sc F b c := by
  unfold pu_endW at h
  by_cases h1 : (F b).2.2.1 = 24
  · rw [if_pos h1] at h; cases h
  · rw [if_neg h1] at h
    by_cases h2 : (F b).2.2.1 = 23 ∧ τ.1 (F b).2.2.2.1 = 0
    · rw [if_pos h2] at h; cases h
      exact ⟨h1, Or.inr ⟨h2.1, rfl⟩⟩
    · rw [if_neg h2] at h; cases h
      exact ⟨h1, Or.inl rfl⟩
theorem pa_ok_eq {F0 F F' : pu_Flow} {L : Nat → Prop} {V : Nat → Int32 → Prop} (h : pa_ok F0 F L V) (he : ∀ b, L b → F' b = F b) : pa_ok F0 F' L V := by
  obtain ⟨h0, hsc, hK, hV, hV0, hrun⟩ := h
  have hs1 : ∀ b c, L b → (pu_sc F' b c ↔ pu_sc F b c) := fun b c hb => by
    unfold pu_sc
    rw [he b hb]
  refine ⟨h0, fun b c hb hs => hsc b c hb ((hs1 b c hb).mp hs), fun b hb s hs => hK b hb s (by rw [← he b hb]; exact hs), fun b v hb hv => hV b v hb ?_, hV0, fun call ar n e0 m r hr e z => ?_⟩
  · have hx : pu_xo F' V b = pu_xo F V b := by
      funext u
      unfold pu_xo
      rw [he b hb]
      refine propext (or_congr Iff.rfl ⟨fun ⟨c, h1, h2⟩ => ⟨c, (hs1 b c hb).mp h1, h2⟩, fun ⟨c, h1, h2⟩ => ⟨c, (hs1 b c hb).mpr h1, h2⟩⟩)
    rw [hx, he b hb] at hv
    exact hv
  · refine pu_simW (F := F) (F' := F') (fun b σ b' σ' => b' = b ∧ σ' = σ ∧ L b) ?_ n 0 (e, m, [], z) 0 (e, m, [], z) r ⟨rfl, rfl, h0⟩ (hrun call ar n e0 m r hr e z)
    rintro b σ b' σ' o ⟨rfl, rfl, hb⟩ ho
    have hk : pu_blkW F' call ar b' σ' = some o := by
      unfold pu_blkW at ho ⊢
      rw [he b' hb]
      exact ho
    cases o with
    | inl r => exact Or.inl ⟨r, rfl, hk⟩
    | inr x =>
      obtain ⟨c, τ⟩ := x
      refine Or.inr ⟨c, τ, c, τ, rfl, hk, rfl, rfl, hsc b' c hb ?_⟩
      unfold pu_blkW at ho
      obtain ⟨o1, _, ho⟩ := bnd9 ho
      cases o1 with
      | inl r => cases ho
      | inr τ1 => exact pu_endW_sc (Option.some.inj ho)
theorem pa_ok_V {F0 F : pu_Flow} {L : Nat → Prop} {V V' : Nat → Int32 → Prop} (h : pa_ok F0 F L V) (hl : pu_lok F L V') (hs : ∀ v, V' 0 v → V 0 v) : pa_ok F0 F L V' :=
  ⟨h.1, h.2.1, h.2.2.1, hl, fun v hv => h.2.2.2.2.1 v (hs v hv), h.2.2.2.2.2⟩
/-- guests' discipline, homes renamed -/
theorem pg_gd_ro {H V : Nat} {E E' : Int32 → Prop} {ro : Int32 → Int32} (hR : ∀ u, H ≤ u → u < V → ∀ x, ro x = pu_I u ↔ x = pu_I u) (hE : ∀ u, H ≤ u → u < V → (E' (pu_I u) ↔ E (pu_I u))) :
    ∀ (l : List pu_Stp) (P : List Nat), (∀ t ∈ l, pu_idl ro t = true → ∀ u, H ≤ u → u < V → t.2.1 ≠ pu_I u ∧ t.2.2.1 ≠ pu_I u) → (∀ u, u ∈ P → H ≤ u ∧ u < V) → pg_gd H V E l P → pg_gd H V E' ((l.filter (fun s => !pu_idl ro s)).map (pu_rns ro)) P := by
  intro l
  induction l with
  | nil => intro P _ _ h u u1 u2; exact (hE u u1 u2).trans (h u u1 u2)
  | cons s l ih =>
    intro P hid hP h
    have hid2 : ∀ t ∈ l, pu_idl ro t = true → ∀ u, H ≤ u → u < V → t.2.1 ≠ pu_I u ∧ t.2.2.1 ≠ pu_I u := fun t ht => hid t (List.mem_cons_of_mem _ ht)
    cases hi : pu_idl ro s with
    | true =>
      have h25 : s.1 = 25 := (of_decide_eq_true hi).1
      have hn := hid s List.mem_cons_self hi
      rw [List.filter_cons_of_neg (by rw [hi]; decide)]
      rcases h with ⟨g, ⟨h1, h2, h3⟩, _⟩ | ⟨h1, h2⟩
      · rw [h25] at h1; exact absurd h1 (by decide)
      · have hP0 : P = [] := by
          cases P with
          | nil => rfl
          | cons u P =>
            have hu := hP u List.mem_cons_self
            rcases (h1 u hu.1 hu.2).mpr List.mem_cons_self with ⟨_, q⟩ | ⟨q, _⟩
            · exact absurd q.symm (hn u hu.1 hu.2).2
            · rw [h25] at q; exact absurd q (by decide)
        rw [hP0]
        rcases h2 with ⟨g, g1, g2, g3, g4⟩ | ⟨g1, g2⟩
        · exact absurd g2 (hn g g3.1 g3.2).1
        · exact ih [] hid2 (fun u hu => by cases hu) g2
    | false =>
      rw [List.filter_cons_of_pos (by rw [hi]; rfl), List.map_cons]
      rcases h with ⟨g, ⟨h1, h2, h3⟩, h4, h5, h6, h7, h8⟩ | ⟨h1, h2⟩
      · refine Or.inl ⟨g, ⟨h1, h2, h3⟩, ?_, h5, h6, h7, ih _ hid2 (fun u hu => ?_) h8⟩
        · show (if pu_gw s.1 = true then ro s.2.1 else s.2.1) = pu_I g
          rw [if_pos h3, (hR g h5.1 h5.2 _).mpr h4]
        · rcases List.mem_append.mp hu with hu | hu
          · exact hP u hu
          · rw [List.mem_singleton.mp hu]; exact h5
      · refine Or.inr ⟨fun u u1 u2 => ?_, ?_⟩
        · rw [← h1 u u1 u2]
          show ((pu_ul s.1 = true ∧ pu_I u = (if pu_ul s.1 = true then ro s.2.2.1 else s.2.2.1)) ∨ (pu_ur s.1 = true ∧ pu_I u = (if pu_ur s.1 = true then ro s.2.2.2 else s.2.2.2))) ↔ _
          have e1 : ∀ x, pu_I u = ro x ↔ pu_I u = x := fun x => ⟨fun q => ((hR u u1 u2 x).mp q.symm).symm, fun q => ((hR u u1 u2 x).mpr q.symm).symm⟩
          refine or_congr ⟨fun ⟨a, q⟩ => ⟨a, by rw [if_pos a] at q; exact (e1 _).mp q⟩, fun ⟨a, q⟩ => ⟨a, by rw [if_pos a]; exact (e1 _).mpr q⟩⟩ ⟨fun ⟨a, q⟩ => ⟨a, by rw [if_pos a] at q; exact (e1 _).mp q⟩, fun ⟨a, q⟩ => ⟨a, by rw [if_pos a]; exact (e1 _).mpr q⟩⟩
        · rcases h2 with ⟨g, g1, g2, g3, g4⟩ | ⟨g1, g2⟩
          · refine Or.inl ⟨g, g1, ?_, g3, ih _ hid2 (fun u hu => by rw [List.mem_singleton.mp hu]; exact g3) g4⟩
            show (if pu_gw s.1 = true then ro s.2.1 else s.2.1) = pu_I g
            rw [if_pos g1, (hR g g3.1 g3.2 _).mpr g2]
          · refine Or.inr ⟨fun g u1 u2 q => ?_, ih _ hid2 (fun u hu => by cases hu) g2⟩
            show (if pu_gw s.1 = true then ro s.2.1 else s.2.1) ≠ pu_I g
            have q : pu_gw s.1 = true := q
            rw [if_pos q]
            exact fun e => g1 g u1 u2 q ((hR g u1 u2 _).mp e)
section UNA
variable {n n2 : Nat → Nat} {w fw x9 : ST} {l : SL} {B N V H wd : Nat} {qs : Nat → List Nat} {F0 : pu_Flow}
/-- a flow that is to be given registers -/
def pa_as (F0 : pu_Flow) (B N V H : Nat) (fw x9 : ST) (n2 : Nat → Nat) (qs : Nat → List Nat) : Prop :=
  pg_fl B N V fw x9 n2 qs ∧ pg_gs B H V fw x9 qs ∧ pa_nc B x9 qs ∧ (∀ b, b < B → pu_rch (pg_F fw x9 qs) b) ∧ ∃ W, pa_ok F0 (pg_F fw x9 qs) (fun b => b < B) W ∧ ∀ b v, b < B → W b v → ∃ h, h < H ∧ v = pu_I h
/-- two that aren't near may be one -/
theorem pa_ro_rok (hfl : pg_fl B N V fw x9 n2 qs) (hgr : pg_gr B H V wd fw x9 qs n w l) {s g : Nat} (hs : s < H) (hg : g < H) (hHV : H ≤ V) (hn : pg_ad w l H wd s g = false) :
    pu_rok (pg_F fw x9 qs) (fun b => b < B) (pg_W H wd l) (pa_ro (pu_I s) (pu_I g)) := by
  obtain ⟨_, _, _, hsym, _, hcp, _⟩ := hgr
  have hV := hfl.2.1.2.2
  intro b l1 t l2 hb hl hgw v hv hne h25 heq
  have hl : (qs b).map (pv_S x9) = l1 ++ t :: l2 := hl
  obtain ⟨m1, m9, hq, rfl, hm9⟩ := List.map_eq_append_iff.mp hl
  obtain ⟨a, m2, rfl, rfl, rfl⟩ := List.map_eq_cons_iff.mp hm9
  have haq : a ∈ qs b := by rw [hq]; exact List.mem_append_right _ List.mem_cons_self
  obtain ⟨u, hu, hgu⟩ := (hfl.2.2.2.2.1 b hb a haq).2.1 hgw
  have hgu : x9 3 a = pu_I u := hgu
  have hne : v ≠ x9 3 a := hne
  have h25 : x9 2 a = 25 → v ≠ x9 4 a := h25
  have heq : pa_ro (pu_I s) (pu_I g) v = pa_ro (pu_I s) (pu_I g) (x9 3 a) := heq
  have key : ∀ v', v' < V → v = pu_I v' → pg_ad w l H wd u v' = true := fun v' hv' e => by
    rw [e] at hv
    rw [e, hgu] at hne
    exact hcp b hb m1 a m2 hq u v' hgw hgu hu hv' hv (fun q => hne (by rw [q])) (fun q => by rw [← e]; exact h25 q)
  unfold pa_ro at heq
  by_cases e1 : v = pu_I g
  · rw [if_pos e1] at heq
    by_cases e2 : x9 3 a = pu_I g
    · exact hne (by rw [e1, e2])
    · rw [if_neg e2, hgu] at heq
      have heq := pu_inj (by omega) (by omega) heq
      have h9 := key g (by omega) e1
      rw [← heq, hn] at h9
      cases h9
  · rw [if_neg e1] at heq
    by_cases e2 : x9 3 a = pu_I g
    · rw [if_pos e2] at heq
      have h9 := key s (by omega) heq
      rw [hgu] at e2
      rw [pu_inj (by omega) (by omega) e2] at h9
      have h9 := hsym g s (by omega) (by omega) h9
      rw [hn] at h9
      cases h9
    · rw [if_neg e2] at heq
      exact hne heq
/-- two become one: what a flow is stays so -/
theorem pa_as_un (has : pa_as F0 B N V H fw x9 n2 qs) (hgr : pg_gr B H V wd fw x9 qs n w l) (hW : ∀ v, pg_W H wd l 0 v → False) {s g : Nat} (hs : s < H) (hg : g < H) (hsg : s ≠ g) (hHV : H ≤ V) (hn : pg_ad w l H wd s g = false) :
    ∃ fw' x9' qs', fX0_unite (pu_I s) (pu_I g) fw n2 x9 = some (fw', x9') ∧ pa_as F0 B N V H fw' x9' n2 qs' ∧ pa_dn B H fw x9 qs fw' x9' qs' := by
  obtain ⟨hfl, hgs, hnc, hrc, W, hok, hWH⟩ := has
  obtain ⟨fw', x9', qs', e1, e2, e3, e4, e5, e6, e7, e8, e9⟩ := pa_unite hfl (show s < V by omega) (show g < V by omega)
  have hV := hfl.2.1.2.2
  have hB0 := hfl.1.2.1
  obtain ⟨ro, hro⟩ : ∃ ro, ro = pa_ro (pu_I s) (pu_I g) := ⟨_, rfl⟩
  rw [← hro] at e3 e5 e8
  have hR : ∀ u, H ≤ u → u < V → ∀ x, ro x = pu_I u ↔ x = pu_I u := fun u u1 u2 x => by
    rw [hro]
    unfold pa_ro
    by_cases e : x = pu_I g
    · rw [if_pos e, e]
      exact ⟨fun q => absurd (pu_inj (by omega) (by omega) q) (by omega), fun q => absurd (pu_inj (by omega) (by omega) q) (by omega)⟩
    · rw [if_neg e]
  have hok1 : pa_ok F0 (pg_F fw x9 qs) (fun b => b < B) (pg_W H wd l) := pa_ok_V hok hgr.2.2.2.2.2.2 fun v hv => absurd hv (hW v)
  have hok2 := pa_ok_ro hok1 (pa_ro_rok hfl hgr hs hg hHV hn)
  rw [← hro] at hok2
  have f2 : ∀ b z, b < B → z ∈ qs b → x9' 2 z = x9 2 z := fun b z hb hz => congrArg (fun s => s.1) (e5 b z hb hz)
  have f3 : ∀ b z, b < B → z ∈ qs b → x9' 3 z = (if pu_gw (x9 2 z) = true then ro (x9 3 z) else x9 3 z) := fun b z hb hz => congrArg (fun s => s.2.1) (e5 b z hb hz)
  have f4 : ∀ b z, b < B → z ∈ qs b → x9' 4 z = (if pu_ul (x9 2 z) = true then ro (x9 4 z) else x9 4 z) := fun b z hb hz => congrArg (fun s => s.2.2.1) (e5 b z hb hz)
  refine ⟨fw', x9', qs', e1, ⟨e2, ⟨fun b c a a' u hb hc ha ha' u1 u2 g1 g2 g3 g4 => ?_, fun b hb => ?_⟩, fun b hb a ha h25 => ?_, fun b hb => ?_, fun b u => ∃ v, pg_W H wd l b v ∧ ro v = u, pa_ok_eq hok2 e3, fun b u hb ⟨v, ⟨h, h1, h2, h3⟩, h4⟩ => ?_⟩, e9, fun fs na c hsk b hb a ha => ?_, pg_sm_mono B fun b hb => ?_, ?_⟩
  · have ha1 := (e4 b hb).subset ha
    have ha2 := (e4 c hc).subset ha'
    rw [f2 b a hb ha1] at g1
    rw [f2 c a' hc ha2] at g2
    rw [f3 b a hb ha1, if_pos g1, hR u u1 u2] at g3
    rw [f3 c a' hc ha2, if_pos g2, hR u u1 u2] at g4
    exact hgs.1 b c a a' u hb hc ha1 ha2 u1 u2 g1 g2 g3 g4
  · have h9 := congrArg (fun t => t.2.1) (e3 b hb)
    have h9 : (qs' b).map (pv_S x9') = (((qs b).map (pv_S x9)).filter (fun s => !pu_idl ro s)).map (pu_rns ro) := h9
    rw [h9]
    refine pg_gd_ro hR (fun u u1 u2 => ?_) _ [] (fun t ht hi u u1 u2 => ?_) (fun u hu => by cases hu) (hgs.2 b hb)
    · unfold pg_E
      rw [e7 8 (by decide) (by decide) (by decide), e8 b hb]
      refine and_congr Iff.rfl ⟨fun q => ((hR u u1 u2 _).mp q.symm).symm, fun q => ((hR u u1 u2 _).mpr q.symm).symm⟩
    · obtain ⟨a, ha, rfl⟩ := List.mem_map.mp ht
      have hi := of_decide_eq_true hi
      have hi1 : x9 2 a = 25 := hi.1
      have hi2 : ro (x9 3 a) = ro (x9 4 a) := hi.2
      have hne := hnc b hb a ha hi1
      have hno : ∀ x y, x ≠ y → ro x = ro y → x ≠ pu_I u := fun x y h1 h2 h3 => by
        rw [(hR u u1 u2 x).mpr h3] at h2
        exact h1 (h3.trans ((hR u u1 u2 y).mp h2.symm).symm)
      exact ⟨hno _ _ hne hi2, hno _ _ hne.symm hi2.symm⟩
  · obtain ⟨ha1, ha2⟩ := (e6 b a hb).mp ha
    rw [f2 b a hb ha1] at h25
    rw [f3 b a hb ha1, f4 b a hb ha1, h25, if_pos (by decide), if_pos (by decide)]
    intro q
    unfold pa_kp at ha2
    rw [← hro] at ha2
    have : pu_idl ro (pv_S x9 a) = true := decide_eq_true ⟨h25, q⟩
    rw [this] at ha2
    cases ha2
  · rw [pu_rch_eq hB0 e3 (fun b c hb hs => hok.2.1 b c hb hs)]
    exact hrc b hb
  · rw [hro] at h4
    unfold pa_ro at h4
    by_cases e : v = pu_I g
    · rw [if_pos e] at h4
      exact ⟨s, hs, h4.symm⟩
    · rw [if_neg e] at h4
      exact ⟨h, h1, by rw [← h4, h2]⟩
  · have ha1 := (e4 b hb).subset ha
    have f5 : x9' 5 a = (if pu_ur (x9 2 a) = true then ro (x9 5 a) else x9 5 a) := congrArg (fun s => s.2.2.2) (e5 b a hb ha1)
    rw [f2 b a hb ha1, f4 b a hb ha1, f5]
    refine ⟨fun h => ?_, fun h => ?_, fun h => ?_, fun h => ?_⟩
    · rw [h, if_neg (by decide)]
      exact (hsk b hb a ha1).1 h
    · rw [h, if_neg (by decide)]
      exact (hsk b hb a ha1).2.1 h
    · rw [h, if_neg (by decide)]
      exact (hsk b hb a ha1).2.2.1 h
    · rw [h, if_neg (by decide)]
      exact (hsk b hb a ha1).2.2.2 h
  · have hbr : ∀ x, pa_hb H (ro x) = pa_hb H x := fun x => by
      rw [hro]
      unfold pa_ro
      by_cases e : x = pu_I g
      · rw [if_pos e, e]
        unfold pa_hb
        rw [pu_nn (by omega), pu_nn (by omega), decide_eq_true ⟨pu_ge (by omega), hs⟩, decide_eq_true ⟨pu_ge (by omega), hg⟩]
      · rw [if_neg e]
    rw [e3 b hb]
    show pa_mu H (((pg_F fw x9 qs b).2.1.filter (fun s => !pu_idl ro s)).map (pu_rns ro)) + pa_b1 (pa_hb H (ro (pg_F fw x9 qs b).2.2.2.1)) ≤ _
    rw [hbr]
    exact Nat.add_le_add_right (pa_mu_ro hbr _) _
  · have gi : ∀ v, v < H → pa_gvn B x9' qs' v = true → v ≠ g ∧ (pa_gvn B x9 qs v = true ∨ (v = s ∧ pa_gvn B x9 qs g = true)) := fun v hv h => by
      obtain ⟨b, a, hb, ha, h3⟩ := pa_gvn_i.mp h
      have ha1 := (e4 b hb).subset ha
      rw [f3 b a hb ha1] at h3
      cases hgw : pu_gw (x9 2 a) with
      | false =>
        rw [hgw, if_neg (by decide)] at h3
        have h9 := (hfl.2.2.2.2.1 b hb a ha1).2.2.1 hgw
        rw [h3] at h9
        exact absurd h9 (pg_In1 (by omega))
      | true =>
        rw [hgw, if_pos rfl, hro] at h3
        unfold pa_ro at h3
        by_cases e : x9 3 a = pu_I g
        · rw [if_pos e] at h3
          have e9 := pu_inj (by omega) (by omega) h3
          exact ⟨by omega, Or.inr ⟨e9.symm, pa_gvn_i.mpr ⟨b, a, hb, ha1, e⟩⟩⟩
        · rw [if_neg e] at h3
          exact ⟨fun e9 => e (by rw [h3, e9]), Or.inl (pa_gvn_i.mpr ⟨b, a, hb, ha1, h3⟩)⟩
    refine pv_sm_mv hsg (fun v hv v1 v2 => pa_b1_i fun h => ?_) ?_ ?_ hs hg
    · rcases (gi v hv h).2 with q | q
      · exact q
      · exact absurd q.1 v1
    · cases e : pa_gvn B x9' qs' g with
      | false => rfl
      | true => exact absurd rfl (gi g hg e).1
    · show pa_b1 (pa_gvn B x9' qs' s) ≤ pa_b1 (pa_gvn B x9 qs s) + pa_b1 (pa_gvn B x9 qs g)
      cases e : pa_gvn B x9' qs' s with
      | false => exact Nat.zero_le _
      | true =>
        rcases (gi s hs e).2 with q | q
        · rw [q]; exact Nat.le_add_right _ _
        · rw [q.2]; exact Nat.le_add_left _ _
end UNA
