/-! pure side, stores 52: merge: one phi goes, two blocks become one, behind the stores -/
theorem pv_sk_of {g : ST} {rk : Nat → Nat} (h : ∀ v, v < 250 → (g 6 v < 0 → rk v = 0) ∧ (¬ g 6 v < 0 → ixb (g 6 v) 250 = true ∧ rk (nn (g 6 v)) + 1 = rk v)) : pv_sk g := by
  have key : ∀ (r v : Nat), v < 250 → rk v = r → ∃ l : List Nat, l.length = r ∧ l.Nodup ∧ ∀ x ∈ l, x < 250 ∧ ¬ g 6 x < 0 ∧ rk x ≤ r := by
    intro r
    induction r with
    | zero => intro v _ _; exact ⟨[], rfl, List.nodup_nil, fun x hx => (by cases hx)⟩
    | succ r ih =>
      intro v hv hr
      have h9 := h v hv
      have h0 : ¬ g 6 v < 0 := fun c => by have := h9.1 c; omega
      obtain ⟨h1, h2⟩ := h9.2 h0
      obtain ⟨l, l1, l2, l3⟩ := ih (nn (g 6 v)) (pv_ixn h1).2 (by omega)
      refine ⟨v :: l, by rw [← l1]; rfl, List.nodup_cons.mpr ⟨fun c => by have := (l3 v c).2.2; omega, l2⟩, fun x hx => ?_⟩
      rcases List.mem_cons.mp hx with rfl | hx
      · exact ⟨hv, h0, by omega⟩
      · obtain ⟨x1, x2, x3⟩ := l3 x hx
        exact ⟨x1, x2, by omega⟩
  refine ⟨rk, fun v hv => ⟨?_, h v hv⟩⟩
  obtain ⟨l, l1, l2, l3⟩ := key (rk v) v hv rfl
  have := pv_nsub l ((List.range 250).filter (fun v => !decide (g 6 v < 0))) l2 fun x hx => by
    obtain ⟨x1, x2, _⟩ := l3 x hx
    exact List.mem_filter.mpr ⟨List.mem_range.mpr x1, by rw [decide_eq_false x2]; rfl⟩
  show rk v ≤ ((List.range 250).filter (fun v => !decide (g 6 v < 0))).length
  omega
theorem pv_sk_set2 {g : ST} (hk0 : pv_sk g) {v x : Int32} (hv : ixb v 250 = true) (hx : ixb x 250 = true) (hrv : g 6 (nn v) < 0) (hne : pv_sg g x ≠ v) :
    pv_sk (upw g 6 (nn v) x) ∧ ∀ u, ixb u 250 = true → pv_sg (upw g 6 (nn v) x) u = if pv_sg g u = v then pv_sg g x else pv_sg g u := by
  obtain ⟨rk, hk⟩ := id hk0
  have hv0 := (pv_ixn hv).1
  have hx0 := (pv_ixn hx).1
  have hup : ∀ i, upw g 6 (nn v) x 6 i = if i = nn v then x else g 6 i := fun i => by
    rw [pv_upw]
    by_cases e : i = nn v
    · rw [if_pos ⟨rfl, e⟩, if_pos e]
    · rw [if_neg fun c => e c.2, if_neg e]
  have hsgv : pv_sg g v = v := pv_sg_0 hrv
  have hxI : pu_I (nn x) = x := (pu_of hx0).symm
  have hvI : pu_I (nn v) = v := (pu_of hv0).symm
  have hsk : pv_sk (upw g 6 (nn v) x) := by
    refine pv_sk_of (rk := fun u => rk u + (if pv_sg g (pu_I u) = v then rk (nn x) + 1 else 0)) fun u hu => ?_
    have h1 := hk u hu
    have hux : ixb (pu_I u) 250 = true := (pu_ix (by omega)).mpr hu
    have hun : nn (pu_I u) = u := pu_nn (by omega)
    refine ⟨fun h0 => ?_, fun h0 => ?_⟩
    · show rk u + (if pv_sg g (pu_I u) = v then rk (nn x) + 1 else 0) = 0
      rw [hup] at h0
      by_cases h : u = nn v
      · rw [if_pos h] at h0; exact absurd h0 hx0
      · rw [if_neg h] at h0
        have hs : pv_sg g (pu_I u) = pu_I u := pv_sg_0 (by rw [hun]; exact h0)
        rw [h1.2.1 h0, hs, if_neg fun e => h (by rw [← e, hun])]
    · rw [hup] at h0 ⊢
      by_cases h : u = nn v
      · rw [if_pos h] at h0 ⊢
        refine ⟨hx, ?_⟩
        show rk (nn x) + (if pv_sg g (pu_I (nn x)) = v then rk (nn x) + 1 else 0) + 1 = rk u + (if pv_sg g (pu_I u) = v then rk (nn x) + 1 else 0)
        rw [hxI, if_neg hne, h, hvI, if_pos hsgv, (hk _ (pv_ixn hv).2).2.1 hrv]
        omega
      · rw [if_neg h] at h0 ⊢
        have h2 := h1.2.2 h0
        refine ⟨h2.1, ?_⟩
        have hs := (pv_sg_s hk0 hux (by rw [hun]; exact h0)).2
        rw [hun] at hs
        show rk (nn (g 6 u)) + (if pv_sg g (pu_I (nn (g 6 u))) = v then rk (nn x) + 1 else 0) + 1 = rk u + (if pv_sg g (pu_I u) = v then rk (nn x) + 1 else 0)
        rw [← pu_of (pv_ixn h2.1).1, hs]
        omega
  refine ⟨hsk, ?_⟩
  have key1 : ∀ (n : Nat) (u : Int32), ixb u 250 = true → rk (nn u) ≤ n → pv_sg g u ≠ v → pv_sg (upw g 6 (nn v) x) u = pv_sg g u := by
    intro n
    induction n with
    | zero =>
      intro u hu hn huv
      have h1 := hk _ (pv_ixn hu).2
      have hru : g 6 (nn u) < 0 := by
        by_cases h0 : g 6 (nn u) < 0
        · exact h0
        · have := (h1.2.2 h0).2
          omega
      rw [pv_sg_0 hru] at huv ⊢
      exact pv_sg_0 (by rw [hup, if_neg fun e => huv (pv_nn_inj (pv_ixn hu).1 hv0 e)]; exact hru)
    | succ n ih =>
      intro u hu hn huv
      have h1 := hk _ (pv_ixn hu).2
      by_cases h0 : g 6 (nn u) < 0
      · exact ih u hu (by rw [h1.2.1 h0]; exact Nat.zero_le _) huv
      · have h2 := h1.2.2 h0
        have huv9 : nn u ≠ nn v := fun e => h0 (by rw [e]; exact hrv)
        have hs := (pv_sg_s hk0 hu h0).2
        rw [(pv_sg_s hsk hu (by rw [hup, if_neg huv9]; exact h0)).2, hup, if_neg huv9, hs]
        exact ih _ h2.1 (by omega) (by rw [← hs]; exact huv)
  have key2 : ∀ (n : Nat) (u : Int32), ixb u 250 = true → rk (nn u) ≤ n → pv_sg g u = v → pv_sg (upw g 6 (nn v) x) u = pv_sg g x := by
    intro n
    have hbase : pv_sg (upw g 6 (nn v) x) v = pv_sg g x := by
      rw [(pv_sg_s hsk hv (by rw [hup, if_pos rfl]; exact hx0)).2, hup, if_pos rfl]
      exact key1 _ x hx (Nat.le_refl _) hne
    induction n with
    | zero =>
      intro u hu hn huv
      have h1 := hk _ (pv_ixn hu).2
      have hru : g 6 (nn u) < 0 := by
        by_cases h0 : g 6 (nn u) < 0
        · exact h0
        · have := (h1.2.2 h0).2
          omega
      rw [pv_sg_0 hru] at huv
      rw [huv]
      exact hbase
    | succ n ih =>
      intro u hu hn huv
      have h1 := hk _ (pv_ixn hu).2
      by_cases h0 : g 6 (nn u) < 0
      · exact ih u hu (by rw [h1.2.1 h0]; exact Nat.zero_le _) huv
      · have h2 := h1.2.2 h0
        have huv9 : nn u ≠ nn v := fun e => h0 (by rw [e]; exact hrv)
        have hs := (pv_sg_s hk0 hu h0).2
        rw [(pv_sg_s hsk hu (by rw [hup, if_neg huv9]; exact h0)).2, hup, if_neg huv9]
        exact ih _ h2.1 (by omega) (by rw [← hs]; exact huv)
  intro u hu
  by_cases h : pv_sg g u = v
  · rw [if_pos h]; exact key2 _ u hu (Nat.le_refl _) h
  · rw [if_neg h]; exact key1 _ u hu (Nat.le_refl _) h
theorem pv_sgx_set2 {g : ST} (hk : pv_sk g) {v x : Int32} (hv : ixb v 250 = true) (hx : ixb x 250 = true) (hrv : g 6 (nn v) < 0) (hne : pv_sgx g x ≠ v) (u : Int32) : pv_sgx (upw g 6 (nn v) x) u = pu_sb1 v (pv_sgx g x) (pv_sgx g u) := by
  rw [pv_sgx_v hx] at hne ⊢
  by_cases hu : ixb u 250 = true
  · rw [pv_sgx_v hu, pv_sgx_v hu, (pv_sk_set2 hk hv hx hrv hne).2 u hu]
    rfl
  · rw [pv_sgx_n hu, pv_sgx_n hu, pu_sb1_n fun e => hu (by rw [e]; exact hv)]
theorem pu_eqL_run {F F' : pu_Flow} {L : Nat → Prop} {call : pu_Call} {ar : List Int32} (h0 : L 0) (hc : ∀ b c, L b → pu_sc F b c → L c) (h : ∀ b, L b → F' b = F b) {n : Nat} {σ : pu_S} {r : pu_Res} (hr : pu_run F call ar n 0 0 σ = some r) : pu_run F' call ar n 0 0 σ = some r := by
  refine pu_sim (F := F) (F' := F') (fun b p σ b' p' σ' => L b ∧ b' = b ∧ p' = p ∧ σ' = σ) (fun _ _ _ _ _ _ h => congrArg (fun s => s.2.2) h.2.2.2) ?_ n 0 0 _ 0 0 _ r ⟨h0, rfl, rfl, rfl⟩ hr
  rintro b p σ b' p' σ' o ⟨hb, rfl, rfl, rfl⟩ ho
  have e1 : pu_blk F' call ar b' p' σ' = pu_blk F call ar b' p' σ' := by
    unfold pu_blk
    rw [h b' hb]
  rw [e1]
  cases o with
  | inl r => exact Or.inl ⟨r, rfl, ho⟩
  | inr x => exact Or.inr ⟨x.1, x.2, x.1, x.2, rfl, ho, hc b' x.1 hb (pu_blk_sc ho), rfl, rfl, rfl⟩
theorem pu_pgL_ssa {F F' : pu_Flow} {L : Nat → Prop} {D : Nat → Nat → Prop} (hs : ∀ b, L b → (F' b).2 = (F b).2) (hp1 : ∀ b, L b → (F' b).1.map Prod.fst = (F b).1.map Prod.fst)
    (hp2 : ∀ b p, L b → L p → pu_sc F p b → ∀ z' ∈ (F' b).1, ∃ z ∈ (F b).1, z.2 p = z'.2 p) (hS : pu_ssa F L D) : pu_ssa F' L D := by
  have hG := hS.2.1
  have hU := hS.2.2.2.2.1
  have hbl : ∀ b, L b → pu_bl F' b = pu_bl F b := fun b hb => by unfold pu_bl; rw [hs b hb, hp1 b hb]
  have hsc : ∀ b c, L b → (pu_sc F' b c ↔ pu_sc F b c) := fun b c hb => by unfold pu_sc; rw [hs b hb]
  have hav : ∀ b a v, L b → pu_av F D b a v → pu_av F' D b a v := by
    intro b a v hb hv
    rcases hv with h1 | h1 | ⟨d, h1, h2, h3⟩
    · exact Or.inl (by rw [hp1 b hb]; exact h1)
    · exact Or.inr (Or.inl h1)
    · exact Or.inr (Or.inr ⟨d, h1, h2, by rw [hbl d (hG.2.1 b d hb h2).2]; exact h3⟩)
  refine ⟨hS.1, ⟨fun b c hb h => hG.1 b c hb ((hsc b c hb).mp h), hG.2.1, hG.2.2.1, hG.2.2.2.1, fun b c d hb h => hG.2.2.2.2 b c d hb ((hsc b c hb).mp h)⟩, ?_, ?_, ⟨?_, ?_⟩, ?_, ?_, ?_⟩
  · have h := hp1 0 hS.1
    rw [hS.2.2.1] at h
    cases h9 : (F' 0).1 with
    | nil => rfl
    | cons z l => rw [h9] at h; cases h
  · intro b hb s h
    rw [hs b hb] at h
    exact hS.2.2.2.1 b hb s h
  · intro b hb
    rw [hbl b hb]; exact hU.1 b hb
  · intro b c v hb hc h1 h2
    rw [hbl b hb] at h1
    rw [hbl c hc] at h2
    exact hU.2 b c v hb hc h1 h2
  · intro b l1 s l2 hb hl
    rw [hs b hb] at hl
    have h9 := hS.2.2.2.2.2.1 b l1 s l2 hb hl
    exact ⟨fun h8 => hav b _ _ hb (h9.1 h8), fun h8 => hav b _ _ hb (h9.2 h8)⟩
  · intro b hb he
    rw [hs b hb] at he ⊢
    exact hav b _ _ hb (hS.2.2.2.2.2.2.1 b hb he)
  · intro b c p hb h hp
    have h := (hsc b c hb).mp h
    obtain ⟨z, hz, e⟩ := hp2 c b (hG.1 b c hb h) hb h p hp
    rw [hs b hb, ← e]
    exact hav b _ _ hb (hS.2.2.2.2.2.2.2 b c z hb h hz)
section MP
variable {L : Nat → Prop} {D : Nat → Nat → Prop} {w w2 : ST} {ch ph : Nat → List Nat} {b gn : Nat}
/-- one phi of the block that goes -/
theorem pv_mg_phi {g : ST} (hsk : pv_sk g) (hS : pu_ssa (pv_Fs (pv_sgx g) w w2 ch ph) L D) (hbL : L b) (hgL : L gn) (hsc : pu_sc (pv_Fs (pv_sgx g) w w2 ch ph) b gn) (hon : ∀ p, L p → pu_sc (pv_Fs (pv_sgx g) w w2 ch ph) p gn → p = b) (hne : gn ≠ b) (hD : D gn b)
    {a : Nat} {rem : List Nat} (hl : ph gn = a :: rem) {t : Int32} (htb : w 21 (a * 60 + b) = t) (ht : ixb t 250 = true) (hv : ixb (w 19 a) 250 = true) (hr : g 6 (nn (w 19 a)) < 0) :
    pv_sk (upw g 6 (nn (w 19 a)) t) ∧ pu_ssa (pv_Fs (pv_sgx (upw g 6 (nn (w 19 a)) t)) w w2 ch (pv_up ph gn rem)) L D ∧
      (∀ call ar k e m q r, pu_run (pv_Fs (pv_sgx g) w w2 ch ph) call ar k 0 0 (e, m, q) = some r → pu_run (pv_Fs (pv_sgx (upw g 6 (nn (w 19 a)) t)) w w2 ch (pv_up ph gn rem)) call ar k 0 0 (e, m, q) = some r) := by
  have hG := hS.2.1
  have hU := hS.2.2.2.2.1
  have hy : pv_Ps (pv_sgx g) w a ∈ (pv_Fs (pv_sgx g) w w2 ch ph gn).1 := by
    show pv_Ps (pv_sgx g) w a ∈ (ph gn).map _
    rw [hl]
    exact List.mem_cons_self
  have hyb : (pv_Ps (pv_sgx g) w a).2 b = pv_sgx g t := by
    show pv_sgx g (w 21 (a * 60 + b)) = _
    rw [htb]
  have hvb : w 19 a ∈ pu_bl (pv_Fs (pv_sgx g) w w2 ch ph) gn := pu_bl_p hy
  have hav := hS.2.2.2.2.2.2.2 b gn _ hbL hsc hy
  rw [hyb] at hav
  have hDb : ∀ d, D b d → d ≠ gn := by
    rintro d h rfl
    have := (hG.2.1 _ _ hbL h).1
    have := (hG.2.1 _ _ hgL hD).1
    omega
  obtain ⟨d, d1, d2, d3⟩ : ∃ d, D b d ∧ d ≠ gn ∧ pv_sgx g t ∈ pu_bl (pv_Fs (pv_sgx g) w w2 ch ph) d := by
    rcases pu_av_bl (l2 := []) (List.append_nil _).symm hav with h | ⟨d, h1, h2, h3⟩
    · exact ⟨b, hG.2.2.1 b hbL, fun e => hne e.symm, h⟩
    · exact ⟨d, h2, hDb d h2, h3⟩
  have hdL := pu_dlt hS hbL d1
  have hzg : ∀ u, u ∈ pu_bl (pv_Fs (pv_sgx g) w w2 ch ph) gn → pv_sgx g t ≠ u := fun u hu e => d2 (hU.2 d gn u hdL hgL (e ▸ d3) hu)
  have hzv := hzg _ hvb
  have hzh : pu_av (pv_Fs (pv_sgx g) w w2 ch ph) D gn [] (pv_sgx g t) := Or.inr (Or.inr ⟨d, d2, hG.2.2.2.1 gn b d hgL hD d1, d3⟩)
  have hrp := pu_rp_phi hS hgL hy hzh
  have hsk2 := pv_sk_set2 hsk hv ht hr (by rw [← pv_sgx_v ht]; exact hzv)
  have e0 := pv_sgx_set2 hsk hv ht hr hzv
  have heq : ∀ c, L c → pv_Fs (pv_sgx (upw g 6 (nn (w 19 a)) t)) w w2 ch (pv_up ph gn rem) c = pu_s1F (pv_Fs (pv_sgx g) w w2 ch ph) (w 19 a) (pv_sgx g t) c := by
    intro c hc
    have hPe : ∀ l : List Nat, l.map (pv_Ps (pv_sgx (upw g 6 (nn (w 19 a)) t)) w) = (l.map (pv_Ps (pv_sgx g) w)).map (fun z => (z.1, fun c => pu_sb1 (w 19 a) (pv_sgx g t) (z.2 c))) := by
      intro l
      rw [List.map_map]
      refine List.map_congr_left fun x _ => ?_
      show (w 19 x, fun p => pv_sgx (upw g 6 (nn (w 19 a)) t) (w 21 (x * 60 + p))) = (w 19 x, fun p => pu_sb1 (w 19 a) (pv_sgx g t) (pv_sgx g (w 21 (x * 60 + p))))
      have : (fun p => pv_sgx (upw g 6 (nn (w 19 a)) t) (w 21 (x * 60 + p))) = fun p => pu_sb1 (w 19 a) (pv_sgx g t) (pv_sgx g (w 21 (x * 60 + p))) := funext fun p => e0 _
      rw [this]
    refine Prod.ext ?_ (Prod.ext ?_ ?_)
    · show (pv_up ph gn rem c).map (pv_Ps (pv_sgx (upw g 6 (nn (w 19 a)) t)) w) = (((ph c).map (pv_Ps (pv_sgx g) w)).filter (fun z => !pu_d1 (w 19 a) z.1)).map (fun z => (z.1, fun c => pu_sb1 (w 19 a) (pv_sgx g t) (z.2 c)))
      rw [hPe]
      refine congrArg _ ?_
      by_cases e : c = gn
      · rw [e, pv_up_s, hl, List.map_cons, List.filter_cons, if_neg (show ¬ (!pu_d1 (w 19 a) (pv_Ps (pv_sgx g) w a).1) = true by unfold pu_d1; rw [decide_eq_true (show (pv_Ps (pv_sgx g) w a).1 = w 19 a from rfl)]; decide)]
        refine (List.filter_eq_self.mpr fun z hz => ?_).symm
        obtain ⟨x, hx, rfl⟩ := List.mem_map.mp hz
        have hn := (List.nodup_append.mp (hU.1 gn hgL)).1
        have hn : (((ph gn).map (pv_Ps (pv_sgx g) w)).map Prod.fst).Nodup := hn
        rw [hl, List.map_cons, List.map_cons] at hn
        have hne9 : w 19 x ≠ w 19 a := fun e => (List.nodup_cons.mp hn).1 (by
          rw [show (pv_Ps (pv_sgx g) w a).1 = w 19 x from e.symm]
          exact List.mem_map_of_mem (f := Prod.fst) (List.mem_map_of_mem (f := pv_Ps (pv_sgx g) w) hx))
        show (!pu_d1 (w 19 a) (w 19 x)) = true
        rw [pu_d1_f hne9]
        rfl
      · rw [pv_up_n e]
        refine (List.filter_eq_self.mpr fun z hz => ?_).symm
        have hne9 : z.1 ≠ w 19 a := fun e9 => e (hU.2 c gn _ hc hgL (pu_bl_p (F := pv_Fs (pv_sgx g) w w2 ch ph) hz) (e9 ▸ hvb))
        rw [pu_d1_f hne9]
        rfl
    · show (ch c).map (fun x => pu_sbS (pv_sgx (upw g 6 (nn (w 19 a)) t)) (pv_S w2 x)) = (((ch c).map (fun x => pu_sbS (pv_sgx g) (pv_S w2 x))).filter (pu_jk (pu_d1 (w 19 a)))).map (pu_sbS (pu_sb1 (w 19 a) (pv_sgx g t)))
      have hfs : ((ch c).map (fun x => pu_sbS (pv_sgx g) (pv_S w2 x))).filter (pu_jk (pu_d1 (w 19 a))) = (ch c).map (fun x => pu_sbS (pv_sgx g) (pv_S w2 x)) := by
        refine List.filter_eq_self.mpr fun s hs => ?_
        unfold pu_jk
        cases hgs : pu_gk s.1 with
        | false => rfl
        | true =>
          have hne9 : s.2.1 ≠ w 19 a := by
            intro e9
            have hsb : s.2.1 ∈ pu_bl (pv_Fs (pv_sgx g) w w2 ch ph) c := pu_bl_m (F := pv_Fs (pv_sgx g) w w2 ch ph) hs hgs
            have hcg := hU.2 c gn _ hc hgL hsb (e9 ▸ hvb)
            subst hcg
            have hn := (List.nodup_append.mp (hU.1 c hc)).2.2
            exact hn (w 19 a) (List.mem_map_of_mem (f := Prod.fst) hy) s.2.1 (pu_gvs_mem hs hgs) e9.symm
          rw [pu_d1_f hne9]
          rfl
      rw [hfs, List.map_map]
      refine List.map_congr_left fun x _ => ?_
      show pu_sbS _ _ = pu_sbS _ (pu_sbS _ _)
      rw [pu_sbS_comp]
      exact pu_sbS_cg (fun _ => e0 _) (fun _ => e0 _)
    · show (w 8 c, pv_sgx (upw g 6 (nn (w 19 a)) t) (w 9 c), w 10 c, w 11 c) = (w 8 c, pu_sb1 (w 19 a) (pv_sgx g t) (pv_sgx g (w 9 c)), w 10 c, w 11 c)
      rw [e0]
  have hS1 := pu_s1_ssa hS hzv hrp
  refine ⟨hsk2.1, pu_eqL_ssa heq hS1, fun call ar k e m q r h => pu_eqL_run hS1.1 hS1.2.1.1 heq (pu_s1_run hS hzv hrp ?_ ?_ h)⟩
  · intro c l1 s l2 e' hc hs hgs hsv _
    exfalso
    have hsb := pu_bl_s hs hgs
    have hcg := hU.2 c gn _ hc hgL hsb (by rw [hsv]; exact hvb)
    subst hcg
    have hn := (List.nodup_append.mp (hU.1 c hc)).2.2
    exact hn (w 19 a) (List.mem_map_of_mem (f := Prod.fst) hy) s.2.1 (pu_gvs_mem (by rw [hs]; exact List.mem_append_right _ List.mem_cons_self) hgs) hsv.symm
  · intro c p y e' hp hsc9 hy9 hyv
    have hc := hG.1 p c hp hsc9
    have hcg := hU.2 c gn _ hc hgL (pu_bl_p hy9) (by rw [hyv]; exact hvb)
    subst hcg
    have hpb := hon p hp hsc9
    subst hpb
    have hye : y = pv_Ps (pv_sgx g) w a := by
      have hy9 : y ∈ (ph c).map (pv_Ps (pv_sgx g) w) := hy9
      rw [hl] at hy9
      rcases List.mem_cons.mp hy9 with h | h
      · exact h
      · exfalso
        have hn := (List.nodup_append.mp (hU.1 c hgL)).1
        have hn : (((ph c).map (pv_Ps (pv_sgx g) w)).map Prod.fst).Nodup := hn
        rw [hl, List.map_cons, List.map_cons] at hn
        exact (List.nodup_cons.mp hn).1 (by rw [show (pv_Ps (pv_sgx g) w a).1 = y.1 from hyv.symm]; exact List.mem_map_of_mem (f := Prod.fst) h)
    rw [hye, hyb, pu_sb1_n hzv]
    refine pu_phs_n fun x hx e => ?_
    have hx : x ∈ ((pv_Fs (pv_sgx g) w w2 ch ph c).1.filter (fun y => !pu_d1 (w 19 a) y.1)).map (fun y => (y.1, fun c => pu_sb1 (w 19 a) (pv_sgx g t) (y.2 c))) := hx
    obtain ⟨y9, hy8, rfl⟩ := List.mem_map.mp hx
    exact hzg _ (pu_bl_p (List.mem_filter.mp hy8).1) e.symm
/-- two blocks become one -/
theorem pv_mg_cc {σ : Int32 → Int32} (hS : pu_ssa (pv_Fs σ w w2 ch ph) L D) (hbL : L b) (hgL : L gn) (h22 : w 8 b = 22) (h10 : w 10 b = pu_I gn) (hg60 : gn < 60) (hon : ∀ p, L p → pu_sc (pv_Fs σ w w2 ch ph) p gn → p = b) (hne : gn ≠ b) (hD : D gn b) (hpg : ph gn = [])
    {w' w2' : ST} {ch' : Nat → List Nat} (hch : ∀ c, L c → c ≠ gn → ch' c = if c = b then ch b ++ ch gn else ch c) (hw2 : ∀ r, r ≠ 6 → w2' r = w2 r) (hrb : w' 8 b = w 8 gn ∧ w' 9 b = w 9 gn ∧ w' 10 b = w 10 gn ∧ w' 11 b = w 11 gn) (hro : ∀ c, c ≠ b → w' 8 c = w 8 c ∧ w' 9 c = w 9 c ∧ w' 10 c = w 10 c ∧ w' 11 c = w 11 c) (h19 : w' 19 = w 19)
    (htk1 : ∀ c, L c → c ≠ gn → pu_sc (pv_Fs σ w w2 ch ph) gn c → ∀ a ∈ ph c, w' 21 (a * 60 + b) = w 21 (a * 60 + gn)) (htk2 : ∀ c, L c → ∀ a ∈ ph c, ∀ p, p < 60 → p ≠ b → w' 21 (a * 60 + p) = w 21 (a * 60 + p)) (hL60 : ∀ c, L c → c < 60) :
    pu_ssa (pv_Fs σ w' w2' ch' ph) (fun c => L c ∧ c ≠ gn) (fun c d => D c d ∧ d ≠ gn) ∧ (∀ call ar k e m q r, pu_run (pv_Fs σ w w2 ch ph) call ar k 0 0 (e, m, q) = some r → pu_run (pv_Fs σ w' w2' ch' ph) call ar k 0 0 (e, m, q) = some r) := by
  have hG := hS.2.1
  let F2 : pu_Flow := fun c => ((pv_Fs σ w w2 ch ph c).1.map (fun z => (z.1, fun p => if p = b then z.2 gn else z.2 p)), (if c = b then ((pv_Fs σ w w2 ch ph b).2.1 ++ (pv_Fs σ w w2 ch ph gn).2.1, (pv_Fs σ w w2 ch ph gn).2.2) else (pv_Fs σ w w2 ch ph c).2))
  have hbs : ∀ c, pu_sc (pv_Fs σ w w2 ch ph) b c → c = gn := by
    intro c h
    have h : w 8 b ≠ 24 ∧ (c = nn (w 10 b) ∨ (w 8 b = 23 ∧ c = nn (w 11 b))) := h
    rcases h.2 with h9 | h9
    · rw [h9, h10, pu_nn (by omega)]
    · rw [h22] at h9; exact absurd h9.1 (by decide)
  have hC : pu_ccd (pv_Fs σ w w2 ch ph) F2 L b gn := by
    refine ⟨h22, ?_, hne, hbL, hgL, hon, ?_, fun c hc hcg => ⟨fun z p => if p = b then z.2 gn else z.2 p, rfl, fun z hz p hp hs => ?_⟩, fun c hc hcg hcb => if_neg hcb, ?_, ?_⟩
    · show nn (w 10 b) = gn
      rw [h10, pu_nn (by omega)]
    · show (ph gn).map _ = []
      rw [hpg]
      rfl
    · show (if (if p = gn then b else p) = b then z.2 gn else z.2 (if p = gn then b else p)) = z.2 p
      by_cases e : p = gn
      · rw [if_pos e, if_pos rfl, e]
      · rw [if_neg e]
        by_cases e2 : p = b
        · rw [e2] at hs
          exact absurd (hbs c hs) hcg
        · rw [if_neg e2]
    · show (if b = b then _ else _ : List pu_Stp × pu_End).1 = _
      rw [if_pos rfl]
    · show (if b = b then _ else _ : List pu_Stp × pu_End).2 = _
      rw [if_pos rfl]
  have hS2 := pu_cc_ssa hS hC hD
  have hSS : pv_S w2' = pv_S w2 := by funext a; unfold pv_S; rw [hw2 2 (by decide), hw2 3 (by decide), hw2 4 (by decide), hw2 5 (by decide)]
  have hF2 : ∀ c, (L c ∧ c ≠ gn) → (pv_Fs σ w' w2' ch' ph c).2 = (F2 c).2 := by
    rintro c ⟨hc, hcg⟩
    show ((ch' c).map (fun a => pu_sbS σ (pv_S w2' a)), (w' 8 c, σ (w' 9 c), w' 10 c, w' 11 c)) = (if c = b then (((ch b).map (fun a => pu_sbS σ (pv_S w2 a))) ++ (ch gn).map (fun a => pu_sbS σ (pv_S w2 a)), (w 8 gn, σ (w 9 gn), w 10 gn, w 11 gn)) else ((ch c).map (fun a => pu_sbS σ (pv_S w2 a)), (w 8 c, σ (w 9 c), w 10 c, w 11 c)))
    rw [hch c hc hcg, hSS]
    by_cases e : c = b
    · rw [if_pos e, if_pos e, e, hrb.1, hrb.2.1, hrb.2.2.1, hrb.2.2.2, List.map_append]
    · have h := hro c e
      rw [if_neg e, if_neg e, h.1, h.2.1, h.2.2.1, h.2.2.2]
  have hp1 : ∀ c, (L c ∧ c ≠ gn) → (pv_Fs σ w' w2' ch' ph c).1.map Prod.fst = (F2 c).1.map Prod.fst := by
    rintro c _
    show ((ph c).map (pv_Ps σ w')).map Prod.fst = (((ph c).map (pv_Ps σ w)).map _).map Prod.fst
    rw [List.map_map, List.map_map, List.map_map]
    refine List.map_congr_left fun a _ => ?_
    show w' 19 a = w 19 a
    rw [h19]
  have htake : ∀ c p, L c → c ≠ gn → L p → p ≠ gn → pu_sc F2 p c → ∀ a ∈ ph c, σ (w' 21 (a * 60 + p)) = (if p = b then σ (w 21 (a * 60 + gn)) else σ (w 21 (a * 60 + p))) := by
    intro c p hc hcg hp hpg hs a ha
    by_cases e : p = b
    · have hs9 : pu_sc (pv_Fs σ w w2 ch ph) gn c := by
        have h9 : (F2 p).2.2 = (pv_Fs σ w w2 ch ph gn).2.2 := by
          show (if p = b then _ else _ : List pu_Stp × pu_End).2 = _
          rw [if_pos e]
        unfold pu_sc at hs ⊢
        rw [h9] at hs
        exact hs
      rw [if_pos e, e, htk1 c hc hcg hs9 a ha]
    · rw [if_neg e, htk2 c hc a ha p (hL60 p hp) e]
  refine ⟨pu_pgL_ssa hF2 hp1 (fun c p hc hp hs z' hz' => ?_) hS2, fun call ar k e m q r h => ?_⟩
  · obtain ⟨a, ha, rfl⟩ := List.mem_map.mp hz'
    refine ⟨(w 19 a, fun p => if p = b then σ (w 21 (a * 60 + gn)) else σ (w 21 (a * 60 + p))), ?_, (htake c p hc.1 hc.2 hp.1 hp.2 hs a ha).symm⟩
    exact List.mem_map_of_mem (f := fun z : pu_Phi => (z.1, fun p => if p = b then z.2 gn else z.2 p)) (List.mem_map_of_mem (f := pv_Ps σ w) ha)
  · have h0g : (0 : Nat) ≠ gn := fun e => pu_cc_g0 hS hC hD e.symm
    have h9 := pu_cc_run (call := call) (ar := ar) hS hC hD k 0 0 _ r hS.1 h0g (Or.inl rfl) h
    rw [if_neg h0g] at h9
    refine pu_pg_run (F := F2) (L := fun c => L c ∧ c ≠ gn) ⟨hS.1, h0g⟩ hS2.2.1.1 (fun e => ?_) hF2 (fun c p e hc hp hs => ?_) h9
    · show pu_phs ((ph 0).map (pv_Ps σ w')) 0 e = pu_phs (((ph 0).map (pv_Ps σ w)).map _) 0 e
      have h8 : ph 0 = [] := by
        have h : (ph 0).map (pv_Ps σ w) = [] := hS.2.2.1
        cases h9 : ph 0 with
        | nil => rfl
        | cons a l => rw [h9] at h; cases h
      rw [h8]
      rfl
    · show pu_phs ((ph c).map (pv_Ps σ w')) p e = pu_phs (((ph c).map (pv_Ps σ w)).map (fun z => (z.1, fun p => if p = b then z.2 gn else z.2 p))) p e
      rw [List.map_map]
      refine pu_phs_cg _ fun a ha => ?_
      exact ⟨by show w' 19 a = w 19 a; rw [h19], htake c p hc.1 hc.2 hp.1 hp.2 hs a ha⟩
end MP
