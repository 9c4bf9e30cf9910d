/-! pure side, the allocator 38: a function begins -/
section BGN
theorem pu_pmr_25 : ∀ (cs : List pu_Stp) (l : List (Int32 × Int32)) (k k' : Nat), pu_pmr cs l k k' → ∀ s, s ∈ cs → s.1 = 25 := by
  intro cs
  induction cs with
  | nil => intro l k k' _ s hs; cases hs
  | cons s cs ih =>
    intro l k k' h t ht
    rcases h with ⟨a, x, c, _, _, rfl, h⟩ | ⟨x, c, _, _, rfl, h⟩
    · rcases List.mem_cons.mp ht with rfl | ht
      · rfl
      · exact ih _ _ _ h t ht
    · rcases List.mem_cons.mp ht with rfl | ht
      · rfl
      · exact ih _ _ _ h t ht
theorem pa_mu_25 {H : Nat} : ∀ cs : List pu_Stp, (∀ s, s ∈ cs → s.1 = 25) → pa_mu H cs ≤ 2 * cs.length := by
  intro cs
  induction cs with
  | nil => intro _; exact Nat.le_refl _
  | cons s cs ih =>
    intro h
    have h0 := h s List.mem_cons_self
    have h1 := pa_b1_le (pu_ul s.1 && pa_hb H s.2.2.1)
    have h3 := pa_b1_le (pu_gw s.1 && pa_hb H s.2.1)
    have h2 : pa_b1 (pu_ur s.1 && pa_hb H s.2.2.2) = 0 := by
      rw [h0, show pu_ur (25 : Int32) = false by decide]; rfl
    have e : pa_m1 H s = pa_b1 (pu_ul s.1 && pa_hb H s.2.2.1) + pa_b1 (pu_ur s.1 && pa_hb H s.2.2.2) + pa_b1 (pu_gw s.1 && pa_hb H s.2.1) := rfl
    have := ih fun t ht => h t (List.mem_cons_of_mem _ ht)
    show pa_m1 H s + pa_mu H cs ≤ 2 * (cs.length + 1)
    omega
theorem pa_mF_cp {H B : Nat} {G F : pu_Flow} (h : ∀ b, b < B → ∃ cs, (G b).2.1 = (F b).2.1 ++ cs ∧ ∀ s, s ∈ cs → s.1 = 25) : ∀ i, i ≤ B → pa_mF H G i ≤ pv_sm (fun b => (F b).2.1.length) i + 2 * pv_sm (fun b => (G b).2.1.length) i + i := by
  intro i
  induction i with
  | zero => intro _; exact Nat.zero_le _
  | succ i ih =>
    intro hi
    obtain ⟨cs, h1, h2⟩ := h i (by omega)
    have h3 := pa_mu_3 (H := H) (F i).2.1
    have h4 := pa_mu_25 (H := H) cs h2
    have h5 := pa_b1_le (pa_hb H (G i).2.2.2.1)
    have h6 := ih (by omega)
    have e1 : (G i).2.1.length = (F i).2.1.length + cs.length := by rw [h1, List.length_append]
    have e2 : pa_mu H (G i).2.1 = pa_mu H (F i).2.1 + pa_mu H cs := by rw [h1, pa_mu_app]
    rw [pa_mF_s]
    show _ ≤ pv_sm (fun b => (F b).2.1.length) i + (F i).2.1.length + 2 * (pv_sm (fun b => (G b).2.1.length) i + (G i).2.1.length) + (i + 1)
    omega
theorem pa_sq_mono {fs na V V' c0 : Nat} (h : V ≤ V') {s : pu_Stp} (hs : pa_sq fs na V c0 s) : pa_sq fs na V' c0 s := by
  obtain ⟨h1, ⟨h2, h3, h4, h5⟩, h6⟩ := hs
  refine ⟨h1, ⟨fun q => ?_, fun q => ?_, fun q => ?_, h5⟩, h6⟩
  · obtain ⟨u, u1, u2⟩ := h2 q
    exact ⟨u, by omega, u2⟩
  · obtain ⟨u, u1, u2⟩ := h3 q
    exact ⟨u, by omega, u2⟩
  · obtain ⟨u, u1, u2⟩ := h4 q
    exact ⟨u, by omega, u2⟩
variable {n n2 : Nat → Nat} {w w2 : ST} {l : SL} {B N M Lm fs na : Nat} {D : Nat → Nat → Prop} {ch ph : Nat → List Nat} {wb dm : Nat → Nat}
theorem pv_sl_phi (hfl : pv_fl n w l n2 w2 B N M Lm fs na D ch ph wb dm) : pv_sl ph B ≤ Lm := by
  obtain ⟨⟨hok, hrg, hgk, hw, htk⟩, hend, hsu, hS, hd, hdb, hlp, hdmw, hdm, ⟨hLw, hL, hLp, hLs⟩, hcp, hN0, hno, hnf⟩ := hfl
  obtain ⟨_, _, _, _, _, _, hdp, hix, hix2⟩ := hok
  have hun := (pv_un_of hS hgk hix).2.2
  have hinj : ∀ b c a z, b < B → c < B → a ∈ ph b → z ∈ ph c → nn (w 19 a) = nn (w 19 z) → a = z := fun b c a z hb hc ha hz h => by
    refine hun b c a z hb hc ha hz ?_
    rw [pu_of (pv_ixn (hix b hb a ha)).1, pu_of (pv_ixn (hix c hc z hz)).1, h]
  have hd9 : pv_dis B Lm (fun b => (ph b).map (fun a => nn (w 19 a))) := by
    refine ⟨fun b hb x hx => ?_, fun b hb => pv_nd_map _ (hdp.2.1 b hb) fun a ha z hz h => hinj b b a z hb hb ha hz h, fun b c x hb hc h1 h2 => ?_⟩
    · obtain ⟨a, ha, rfl⟩ := List.mem_map.mp hx
      exact hLp b hb a ha
    · obtain ⟨a, ha, rfl⟩ := List.mem_map.mp h1
      obtain ⟨z, hz, e⟩ := List.mem_map.mp h2
      have := hinj c b z a hc hb hz ha e
      subst this
      exact hdp.2.2 b c z hb hc ha hz
  have h9 := pv_sl_le hd9
  rw [pv_sl_sm] at h9 ⊢
  have e : (fun b => ((ph b).map (fun a => nn (w 19 a))).length) = fun b => (ph b).length := funext fun b => List.length_map _
  rw [e] at h9
  exact h9
/-- values that are there are below the limit -/
theorem pa_av_Lm (hfl : pv_fl n w l n2 w2 B N M Lm fs na D ch ph wb dm) {b : Nat} (hb : b < B) {l1 l2 : List pu_Stp} (hl : (pv_F w w2 ch ph b).2.1 = l1 ++ l2) {v : Int32} (hv : pu_av (pv_F w w2 ch ph) D b l1 v) : ∃ u, u < Lm ∧ v = pu_I u := by
  obtain ⟨⟨hok, hrg, hgk, hw, htk⟩, hend, hsu, hS, hd, hdb, hlp, hdmw, hdm, ⟨hLw, hL, hLp, hLs⟩, hcp, hN0, hno, hnf⟩ := hfl
  obtain ⟨_, _, _, _, _, _, _, hix, hix2⟩ := hok
  have hph : ∀ c, c < B → ∀ v, v ∈ (pv_F w w2 ch ph c).1.map Prod.fst → ∃ u, u < Lm ∧ v = pu_I u := fun c hc v hv => by
    obtain ⟨z, hz, rfl⟩ := List.mem_map.mp hv
    obtain ⟨a, ha, rfl⟩ := List.mem_map.mp hz
    exact ⟨_, hLp c hc a ha, pu_of (pv_ixn (hix c hc a ha)).1⟩
  have hgv : ∀ c, c < B → ∀ l1 l2, (pv_F w w2 ch ph c).2.1 = l1 ++ l2 → ∀ v, v ∈ pu_gvs l1 → ∃ u, u < Lm ∧ v = pu_I u := fun c hc l1 l2 hl v hv => by
    obtain ⟨s, hs, rfl⟩ := List.mem_map.mp hv
    obtain ⟨hs1, hs2⟩ := List.mem_filter.mp hs
    have hs3 : s ∈ (pv_F w w2 ch ph c).2.1 := by rw [hl]; exact List.mem_append_left _ hs1
    obtain ⟨a, ha, rfl⟩ := List.mem_map.mp hs3
    have h0 : ¬ w2 3 a < 0 := (hgk c hc a ha).mp hs2
    exact ⟨_, hLs c hc a ha h0, pu_of h0⟩
  rcases hv with h | h | ⟨d, d1, d2, h⟩
  · exact hph b hb v h
  · exact hgv b hb l1 l2 hl v h
  · have hdB : d < B := (hS.2.1.2.1 b d hb d2).2
    rcases List.mem_append.mp h with h | h
    · exact hph d hdB v h
    · exact hgv d hdB _ [] (List.append_nil _).symm v h
theorem pa_sq_F (hfl : pv_fl n w l n2 w2 B N M Lm fs na D ch ph wb dm) {b : Nat} (hb : b < B) {s : pu_Stp} (hs : s ∈ (pv_F w w2 ch ph b).2.1) : pa_sq fs na Lm 0 s := by
  obtain ⟨l1, l2, hl⟩ := List.append_of_mem hs
  have hS := hfl.2.2.2.1
  have hu := hS.2.2.2.2.2.1 b l1 s l2 hb hl
  have hk := hS.2.2.2.1 b hb s hs
  obtain ⟨a, ha, rfl⟩ := List.mem_map.mp hs
  have hgk := hfl.1.2.2.1 b hb a ha
  obtain ⟨_, _, _, _, _, _, _, _, _, ⟨_, _, _, hLs⟩, hcp, _⟩ := id hfl
  have hcp := hcp b hb a ha
  have hkk : ∀ k : Int32, pu_gk k = false → k ≠ 18 → k ≠ 19 → (pv_S w2 a).1 ≠ k := fun k k1 k2 k3 e => by
    rw [e] at hk
    rcases hk with h | h | h
    · rw [k1] at h; cases h
    · exact k2 h
    · exact k3 h
  have hgw : pu_gw (pv_S w2 a).1 = true → pu_gk (pv_S w2 a).1 = true := fun h => by
    rcases hk with h9 | h9 | h9
    · exact h9
    · rw [h9] at h; exact absurd h (by decide)
    · rw [h9] at h; exact absurd h (by decide)
  refine ⟨?_, ⟨fun h => pa_av_Lm hfl hb hl (hu.1 h), fun h => pa_av_Lm hfl hb hl (hu.2 h), fun h => ?_, fun h => ?_⟩, fun h => absurd h (hkk 26 (by decide) (by decide) (by decide)), fun h => absurd h (hkk 27 (by decide) (by decide) (by decide)), fun h => absurd h (hkk 25 (by decide) (by decide) (by decide)), hcp.1, hcp.2.1⟩
  · rcases hk with h | h | h
    · exact Or.inl h
    · exact Or.inr (Or.inl h)
    · exact Or.inr (Or.inr (Or.inl h))
  · have h0 : ¬ w2 3 a < 0 := hgk.mp (hgw h)
    exact ⟨_, hLs b hb a ha h0, pu_of h0⟩
  · refine hcp.2.2 (Classical.byContradiction fun h0 => ?_)
    have h9 : pu_gk (pv_S w2 a).1 = true := hgk.mpr h0
    unfold pu_gw at h
    rw [h9] at h
    cases h
/-- phis' gives, and what they take -/
theorem pa_ml_Lm (hfl : pv_fl n w l n2 w2 B N M Lm fs na D ch ph wb dm) {p c : Nat} (hp : p < B) (hsc : pu_sc (pv_F w w2 ch ph) p c) {z : pu_Phi} (hz : z ∈ (pv_F w w2 ch ph c).1) : (∃ u, u < Lm ∧ z.1 = pu_I u) ∧ ∃ u, u < Lm ∧ z.2 p = pu_I u := by
  have hS := hfl.2.2.2.1
  have hc : c < B := hS.2.1.1 p c hp hsc
  exact ⟨pa_av_Lm hfl hc (l1 := []) (l2 := (pv_F w w2 ch ph c).2.1) rfl (Or.inl (List.mem_map.mpr ⟨z, hz, rfl⟩)), pa_av_Lm hfl hp (List.append_nil _).symm (hS.2.2.2.2.2.2.2 p c z hp hsc hz)⟩
end BGN
