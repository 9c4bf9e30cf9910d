/-! pure side, stores 32: all of a block is joined -/
/-- the steps that were seen: of blocks gone through, and of this block so far -/
def pv_sp (ch : Nat → List Nat) (g w2 : ST) (V : List Nat) (b : Nat) (done : List Nat) (s c : Nat) : Prop := s ∈ ch c ∧ ¬ w2 3 s < 0 ∧ g 6 (nn (w2 3 s)) < 0 ∧ ((c = b ∧ s ∈ done) ∨ c ∈ V)
section JB
variable {B N M : Nat} {D : Nat → Nat → Prop} {l : SL} {w : ST} {n n2 : Nat → Nat} {ch ph : Nat → List Nat} {wb : Nat → Nat} {F0 : pu_Flow}
theorem pv_jb7 {w2 : ST} (hst : pv_Jst B N D l w n n2 ch ph wb) (hok : pv_ok n w n2 w2 B N M ch ph) (hd : pu_dom (pv_F w w2 ch ph) B D) (hsu : ∀ b c, b < B → pu_sc (pv_F w w2 ch ph) b c → w 10 b = pu_I c ∨ w 11 b = pu_I c) (hp0 : ph 0 = []) {b : Nat} (hb : b < B) :
    ∀ (rem l1 : List Nat) (g : ST) (k : Nat) (x : Int32), ph b = l1 ++ rem → rem.length < k → pv_ch (w 20) x rem → pv_Jv B D w ch ph F0 g w2 → (∀ a ∈ rem, g 6 (nn (w 19 a)) < 0) →
      ∃ g', fX5_joinBlock_L7 n w (pu_I b) k x g = some g' ∧ pv_Jv B D w ch ph F0 g' w2 ∧ (∀ r, r ≠ 6 → g' r = g r) ∧ (∀ v, (∀ a ∈ rem, v ≠ nn (w 19 a)) → g' 6 v = g 6 v) := by
  obtain ⟨⟨hB0, hB⟩, ⟨hN2, hN3, hN4, hN5, hN6, hN⟩, hdis, hix, hw, htk, hdb⟩ := id hst
  obtain ⟨_, _, ⟨hM19, hM20, hM21, hM⟩, _, _, hph, hdp, _, _⟩ := id hok
  intro rem
  induction rem with
  | nil =>
    intro l1 g k x hl hk hx hJ _
    obtain ⟨k', rfl⟩ : ∃ k', k = k' + 1 := ⟨k - 1, by simp at hk; omega⟩
    refine ⟨g, ?_, hJ, fun r _ => rfl, fun v _ => rfl⟩
    have hx0 : x < 0 := pv_n1 hx
    show (if x < 0 then some g else _) = _
    rw [if_pos hx0]
  | cons a rem ih =>
    intro l1 g k x hl hk hx hJ hal
    obtain ⟨k', rfl⟩ : ∃ k', k = k' + 1 := ⟨k - 1, by simp at hk; omega⟩
    obtain ⟨rfl, hx⟩ := hx
    have ha : a ∈ ph b := by rw [hl]; exact List.mem_append_right _ List.mem_cons_self
    have haM := hdp.1 b hb a ha
    have hala := hal a List.mem_cons_self
    obtain ⟨g1, e1, h1⟩ := pv_joinPhi hJ.1 hok hw htk hb hl
    have hJ1 : pv_Jv B D w ch ph F0 g1 w2 := by
      rcases h1 with rfl | ⟨z, rfl, hz⟩
      · exact hJ
      · exact pv_J_ph hst hJ hd hsu hp0 hb hl hala hz
    have hr1 : ∀ r, r ≠ 6 → g1 r = g r := by
      rcases h1 with rfl | ⟨z, rfl, hz⟩
      · exact fun r _ => rfl
      · exact fun r h => pv_upw_n h
    have h61 : ∀ v, v ≠ nn (w 19 a) → g1 6 v = g 6 v := by
      rcases h1 with rfl | ⟨z, rfl, hz⟩
      · exact fun r _ => rfl
      · intro v hv
        rw [pv_upw, if_neg fun c => hv c.2]
    have hnd := hdp.2.1 b hb
    have hne : ∀ a' ∈ rem, nn (w 19 a') ≠ nn (w 19 a) := by
      intro a' ha' e
      have hm : a' ∈ ph b := by rw [hl]; exact List.mem_append_right _ (List.mem_cons_of_mem _ ha')
      have e2 := hJ.2.2.2.2.1.2.2 b b a' a hb hb hm ha (pv_nn_inj (pv_ixn (hix b hb a' hm)).1 (pv_ixn (hix b hb a ha)).1 e)
      rw [hl] at hnd
      exact (List.nodup_cons.mp (List.nodup_append.mp hnd).2.1).1 (e2 ▸ ha')
    obtain ⟨g', i1, i2, i3, i4⟩ := ih (l1 ++ [a]) g1 k' (w 20 a) (by rw [hl]; simp) (by simp at hk; omega) hx hJ1 (fun a' ha' => by rw [h61 _ (hne a' ha')]; exact hal a' (List.mem_cons_of_mem _ ha'))
    refine ⟨g', ?_, i2, fun r hr => by rw [i3 r hr, hr1 r hr], fun v hv => by rw [i4 v fun a' ha' => hv a' (List.mem_cons_of_mem _ ha'), h61 v (hv a List.mem_cons_self)]⟩
    show (if pu_I a < 0 then some g else ((fX5_joinPhi g n w (pu_I b) (pu_I a)).bind fun (o_3 : ST) => (if ixb (pu_I a) (n 20) = true then ((fX5_joinBlock_L7 n w (pu_I b) k') (w 20 (nn (pu_I a))) o_3) else none))) = _
    rw [if_neg (pu_ge (by omega)), e1, Option.bind_some, if_pos ((pu_ix (by omega)).mpr (by omega)), pu_nn (by omega), i1]
theorem pv_sp_mo {g g2 w2 w3 : ST} {V : List Nat} {b a : Nat} {done done' : List Nat} (hdis : pv_dis B N ch) (hun : pv_un w w2 B ch ph) (hb : b < B) (hbV : b ∉ V) (ha : a ∈ ch b) (had : a ∉ done) (h3 : w3 3 = w2 3) (h6 : ∀ v, (w2 3 a < 0 ∨ v ≠ nn (w2 3 a)) → g2 6 v = g 6 v) (hdd : ∀ s, s ∈ done → s ∈ done') :
    ∀ s c, s < N → c < B → pv_sp ch g w2 V b done s c → pv_sp ch g2 w3 V b done' s c := by
  rintro s c hsN hc ⟨s1, s2, s3, s4⟩
  have hsa : s ≠ a := by
    rintro rfl
    rcases s4 with ⟨_, h⟩ | h
    · exact had h
    · have := hdis.2.2 c b s hc hb s1 ha
      rw [this] at h
      exact hbV h
  refine ⟨s1, by rw [h3]; exact s2, ?_, ?_⟩
  · rw [h3, h6]
    · exact s3
    · by_cases h0 : w2 3 a < 0
      · exact Or.inl h0
      · exact Or.inr fun e => hsa (hun.1 c b s a hc hb s1 ha s2 (pv_nn_inj s2 h0 e))
  · exact s4.elim (fun h => Or.inl ⟨h.1, hdd s h.2⟩) Or.inr
theorem pv_j71 {kk : Int32 → ST → ST → Option (ST × ST)} {g w2 w35 : ST} (hst : pv_Jst B N D l w n n2 ch ph wb) (hJ : pv_Jv B D w ch ph F0 g w2) {b a : Nat} {done rem V : List Nat} (hb : b < B) (hV : ∀ c, c ∈ V → c < B) (hbV : b ∉ V) (hl : ch b = done ++ a :: rem) (h35 : w35 3 = w2 3) (hka : ¬ w2 3 a < 0 → ¬ 16 < w2 2 a → w2 2 a = 0 ∨ pu_isop (w2 2 a) = true)
    (hsn : pv_seen g N B (pv_sp ch g w2 V b done)) :
    ∃ g2, fX5_joinBlock_J71 kk l (pu_I b) n2 (pu_I a) w35 g w2 = kk (w2 6 a) g2 w2 ∧ pv_Jv B D w ch ph F0 g2 w2 ∧ (∀ r, r ≠ 0 → r ≠ 6 → r ≠ 9 → r ≠ 10 → g2 r = g r) ∧ (∀ i, i ≠ 10 → g2 0 i = g 0 i) ∧ (∀ v, (w2 3 a < 0 ∨ v ≠ nn (w2 3 a)) → g2 6 v = g 6 v) ∧ pv_seen g2 N B (pv_sp ch g2 w2 V b (done ++ [a])) := by
  obtain ⟨⟨hB0, hB⟩, ⟨hN2, hN3, hN4, hN5, hN6, hN⟩, hdis, hix, hw, htk, hdb⟩ := id hst
  have hun := hJ.2.2.2.2.1
  have ha : a ∈ ch b := by rw [hl]; exact List.mem_append_right _ List.mem_cons_self
  have haN := hdis.1 b hb a ha
  have ha31 : a < 2147483648 := by omega
  have had : a ∉ done := by
    intro h
    have hnd := hdis.2.1 b hb
    rw [hl] at hnd
    exact (List.nodup_append.mp hnd).2.2 a h a List.mem_cons_self rfl
  have i2 : ixb (pu_I a) (n2 2) = true := (pu_ix ha31).mpr (by omega)
  have h107 : ∀ g2, fX5_joinBlock_J107 kk n2 (pu_I a) w2 g2 = kk (w2 6 a) g2 w2 := by
    intro g2
    unfold fX5_joinBlock_J107
    rw [if_pos ((pu_ix ha31).mpr (by omega)), pu_nn ha31]
  have hsame : ∃ g2, kk (w2 6 a) g w2 = kk (w2 6 a) g2 w2 ∧ pv_Jv B D w ch ph F0 g2 w2 ∧ (∀ r, r ≠ 0 → r ≠ 6 → r ≠ 9 → r ≠ 10 → g2 r = g r) ∧ (∀ i, i ≠ 10 → g2 0 i = g 0 i) ∧ (∀ v, (w2 3 a < 0 ∨ v ≠ nn (w2 3 a)) → g2 6 v = g 6 v) ∧ pv_seen g2 N B (pv_sp ch g2 w2 V b (done ++ [a])) :=
    ⟨g, rfl, hJ, fun r _ _ _ _ => rfl, fun i _ => rfl, fun v _ => rfl, pv_seen_mo rfl rfl rfl (pv_sp_mo hdis hun hb hbV ha had rfl (fun v _ => rfl) fun s h => List.mem_append_left _ h) hsn⟩
  unfold fX5_joinBlock_J71
  rw [pu_nn ha31, h35]
  by_cases h0 : w2 3 a < 0
  · rw [if_pos h0, h107]
    exact hsame
  rw [if_neg h0, if_pos i2]
  by_cases h16 : 16 < w2 2 a
  · rw [if_pos h16, h107]
    exact hsame
  have hgv : ixb (w2 3 a) 250 = true := (hJ.2.2.2.2.2.1 b hb a ha).resolve_left h0
  rw [if_neg h16, if_pos hgv]
  by_cases h6 : 0 ≤ g 6 (nn (w2 3 a))
  · rw [if_pos h6, h107]
    exact hsame
  have hal := Int32.not_le.mp h6
  obtain ⟨g2, e1, h1⟩ := pv_joinSeen (l := l) hB hN2 hN3 hN4 hN5 hN hsn haN hb hgv
  rw [if_neg h6, e1, Option.bind_some, h107]
  rcases h1 with ⟨s, c, s1, s2, ⟨s3, s4, s5, s6⟩, s7, k2, k4, k5, rfl⟩ | ⟨r1, r2, r3⟩
  · have hup : ∀ v, (w2 3 a < 0 ∨ v ≠ nn (w2 3 a)) → upw g 6 (nn (w2 3 a)) (w2 3 s) 6 v = g 6 v := by
      intro v hv
      rw [pv_upw, if_neg fun c => hv.elim h0 fun h => h c.2]
    have hin : (c = b ∧ s ∈ done) ∨ (c ≠ b ∧ D b c) := by
      rcases s6 with h | h
      · exact Or.inl h
      · exact Or.inr ⟨fun e => hbV (e ▸ h), hdb b c hb s2 s7⟩
    refine ⟨_, rfl, pv_J_st hst hJ hb hl h0 hal (hka h0 h16) s2 s3 s4 s5 hin k2 k4 k5, fun r _ h _ _ => pv_upw_n h, fun i _ => by rw [pv_upw_n (by decide)], hup, ?_⟩
    exact pv_seen_mo (by rw [pv_upw_n (by decide)]) (pv_upw_n (by decide)) (pv_upw_n (by decide)) (pv_sp_mo hdis hun hb hbV ha had rfl hup fun s h => List.mem_append_left _ h) hsn
  · have e6 : ∀ v, g2 6 v = g 6 v := fun v => by rw [r1 6 (by decide) (by decide) (by decide)]
    obtain ⟨hsk, hrg, hgk, hgiv, _, hix2, hS, hrun⟩ := id hJ
    refine ⟨g2, rfl, ⟨pv_sk_e e6 hsk, hrg, hgk, pv_giv_2 (r1 2 (by decide) (by decide) (by decide)) hgiv, hun, hix2, ?_, ?_⟩, fun r h1 _ h2 h3 => r1 r h1 h2 h3, r2, fun v _ => e6 v, ?_⟩
    · rw [pv_A_e e6]; exact hS
    · rw [pv_A_e e6]; exact hrun
    · refine pv_seen_mo rfl rfl rfl ?_ r3
      intro s c hs hc h
      rcases h with h | ⟨rfl, rfl⟩
      · exact pv_sp_mo hdis hun hb hbV ha had rfl (fun v _ => e6 v) (fun s h => List.mem_append_left _ h) s c hs hc h
      · exact ⟨ha, h0, by rw [e6]; exact hal, Or.inl ⟨rfl, List.mem_append_right _ List.mem_cons_self⟩⟩
theorem pv_jb35 (hst : pv_Jst B N D l w n n2 ch ph wb) {b : Nat} {V : List Nat} (hb : b < B) (hV : ∀ c, c ∈ V → c < B) (hbV : b ∉ V) :
    ∀ (rem done : List Nat) (g w2 : ST) (k : Nat) (x : Int32), ch b = done ++ rem → rem.length < k → pv_ch (w2 6) x rem → pv_Jv B D w ch ph F0 g w2 → (∀ a ∈ rem, ¬ w2 3 a < 0 → g 6 (nn (w2 3 a)) < 0) → pv_seen g N B (pv_sp ch g w2 V b done) →
      ∃ g' w2', fX5_joinBlock_L35 l (pu_I b) n2 k x g w2 = some (g', w2') ∧ pv_Jv B D w ch ph F0 g' w2' ∧ (∀ r, r ≠ 0 → r ≠ 6 → r ≠ 7 → r ≠ 9 → r ≠ 10 → g' r = g r) ∧ (∀ i, i ≠ 10 → g' 0 i = g 0 i) ∧ (∀ v, (∀ a ∈ rem, w2 3 a < 0 ∨ v ≠ nn (w2 3 a)) → g' 6 v = g 6 v) ∧ ((∀ r, r ≠ 2 → r ≠ 4 → r ≠ 5 → w2' r = w2 r) ∧ pv_c2 w2 w2') ∧ pv_seen g' N B (pv_sp ch g' w2' V b (done ++ rem)) := by
  obtain ⟨⟨hB0, hB⟩, ⟨hN2, hN3, hN4, hN5, hN6, hN⟩, hdis, hix, hw, htk, hdb⟩ := id hst
  intro rem
  induction rem with
  | nil =>
    intro done g w2 k x hl hk hx hJ _ hsn
    obtain ⟨k', rfl⟩ : ∃ k', k = k' + 1 := ⟨k - 1, by simp at hk; omega⟩
    refine ⟨g, w2, ?_, hJ, fun r _ _ _ _ _ => rfl, fun i _ => rfl, fun v _ => rfl, ⟨fun r _ _ _ => rfl, pv_c2_rf w2⟩, ?_⟩
    · have hx0 : x < 0 := pv_n1 hx
      show (if x < 0 then some (g, w2) else _) = _
      rw [if_pos hx0]
    · rw [List.append_nil]; exact hsn
  | cons a rem ih =>
    intro done g w2 k x hl hk hx hJ hal hsn
    obtain ⟨k', rfl⟩ : ∃ k', k = k' + 1 := ⟨k - 1, by simp at hk; omega⟩
    obtain ⟨rfl, hx⟩ := hx
    have hun := hJ.2.2.2.2.1
    have hgk := hJ.2.2.1
    have ha : a ∈ ch b := by rw [hl]; exact List.mem_append_right _ List.mem_cons_self
    have haN := hdis.1 b hb a ha
    have ha31 : a < 2147483648 := by omega
    have hnd := hdis.2.1 b hb
    rw [hl] at hnd
    have had : a ∉ done := fun h => (List.nodup_append.mp hnd).2.2 a h a List.mem_cons_self rfl
    have har : a ∉ rem := (List.nodup_cons.mp (List.nodup_append.mp hnd).2.1).1
    have hform : fX5_joinBlock_L35 l (pu_I b) n2 (k' + 1) (pu_I a) g w2 = (if pv_b (pu_isop (w2 2 a)) = 0 then (fX5_joinBlock_J71 (fX5_joinBlock_L35 l (pu_I b) n2 k') l (pu_I b) n2 (pu_I a) w2 g w2) else ((fX5_joinOperator g (pu_I a) n2 w2).bind fun (o_19 : ST × ST) => (fX5_joinBlock_J71 (fX5_joinBlock_L35 l (pu_I b) n2 k') l (pu_I b) n2 (pu_I a) w2 (o_19.1) (o_19.2)))) := by
      show (if pu_I a < 0 then some (g, w2) else (if ixb (pu_I a) (n2 3) = true then (if ixb (pu_I a) (n2 2) = true then ((fX11_isOperator (w2 2 (nn (pu_I a)))).bind fun (o_9 : Int32) => (if o_9 = 0 then (fX5_joinBlock_J71 (fX5_joinBlock_L35 l (pu_I b) n2 k') l (pu_I b) n2 (pu_I a) w2 g w2) else ((fX5_joinOperator g (pu_I a) n2 w2).bind fun (o_19 : ST × ST) => (fX5_joinBlock_J71 (fX5_joinBlock_L35 l (pu_I b) n2 k') l (pu_I b) n2 (pu_I a) w2 (o_19.1) (o_19.2))))) else none) else none)) = _
      rw [if_neg (pu_ge ha31), if_pos ((pu_ix ha31).mpr (by omega)), if_pos ((pu_ix ha31).mpr (by omega)), pu_nn ha31, pv_isop, Option.bind_some]
    rw [hform]
    -- behind the operator, whatever it was
    have hrest : ∀ (g1 w21 : ST), pv_Jv B D w ch ph F0 g1 w21 → (∀ r, r ≠ 6 → r ≠ 7 → g1 r = g r) → (∀ v, (w2 3 a < 0 ∨ v ≠ nn (w2 3 a)) → g1 6 v = g 6 v) → ((∀ r, r ≠ 2 → r ≠ 4 → r ≠ 5 → w21 r = w2 r) ∧ pv_c2 w2 w21) → (¬ w21 3 a < 0 → ¬ 16 < w21 2 a → w21 2 a = 0 ∨ pu_isop (w21 2 a) = true) →
        ∃ g' w2', fX5_joinBlock_J71 (fX5_joinBlock_L35 l (pu_I b) n2 k') l (pu_I b) n2 (pu_I a) w2 g1 w21 = some (g', w2') ∧ pv_Jv B D w ch ph F0 g' w2' ∧ (∀ r, r ≠ 0 → r ≠ 6 → r ≠ 7 → r ≠ 9 → r ≠ 10 → g' r = g r) ∧ (∀ i, i ≠ 10 → g' 0 i = g 0 i) ∧ (∀ v, (∀ a_1 ∈ a :: rem, w2 3 a_1 < 0 ∨ v ≠ nn (w2 3 a_1)) → g' 6 v = g 6 v) ∧ ((∀ r, r ≠ 2 → r ≠ 4 → r ≠ 5 → w2' r = w2 r) ∧ pv_c2 w2 w2') ∧ pv_seen g' N B (pv_sp ch g' w2' V b (done ++ a :: rem)) := by
      intro g1 w21 hJ1 hr1 h61 hw1 hka
      have r3 : w21 3 = w2 3 := hw1.1 3 (by decide) (by decide) (by decide)
      have hsn1 : pv_seen g1 N B (pv_sp ch g1 w21 V b done) := pv_seen_mo (by rw [hr1 0 (by decide) (by decide)]) (hr1 9 (by decide) (by decide)) (hr1 10 (by decide) (by decide)) (pv_sp_mo hdis hun hb hbV ha had r3 h61 fun s h => h) hsn
      obtain ⟨g2, e1, j1, j2, j3, j4, j5⟩ := pv_j71 (kk := fX5_joinBlock_L35 l (pu_I b) n2 k') (w35 := w2) hst hJ1 hb hV hbV hl r3.symm hka hsn1
      have hne : ∀ a' ∈ rem, ¬ w2 3 a' < 0 → (w2 3 a < 0 ∨ nn (w2 3 a') ≠ nn (w2 3 a)) := by
        intro a' ha' h0'
        by_cases h0 : w2 3 a < 0
        · exact Or.inl h0
        · refine Or.inr fun e => ?_
          have hm : a' ∈ ch b := by rw [hl]; exact List.mem_append_right _ (List.mem_cons_of_mem _ ha')
          have e2 := hun.1 b b a' a hb hb hm ha h0' (pv_nn_inj h0' h0 e)
          exact har (e2 ▸ ha')
      have hx1 : pv_ch (w21 6) (w21 6 a) rem := by rw [hw1.1 6 (by decide) (by decide) (by decide)]; exact hx
      obtain ⟨g', w2', i1, i2, i3, i4, i5, i6, i7⟩ := ih (done ++ [a]) g2 w21 k' (w21 6 a) (by rw [hl]; simp) (by simp at hk; omega) hx1 j1 (fun a' ha' h0' => by
        rw [r3] at h0' ⊢
        have h9 := hne a' ha' h0'
        rw [j4 _ (by rw [r3]; exact h9), h61 _ h9]
        exact hal a' (List.mem_cons_of_mem _ ha') h0') j5
      refine ⟨g', w2', by rw [e1, i1], i2, fun r h0 h6 h7 h9 h10 => by rw [i3 r h0 h6 h7 h9 h10, j2 r h0 h6 h9 h10, hr1 r h6 h7], fun i hi => by rw [i4 i hi, j3 i hi, hr1 0 (by decide) (by decide)], fun v hv => ?_, ⟨fun r h2 h4 h5 => by rw [i6.1 r h2 h4 h5, hw1.1 r h2 h4 h5], pv_c2_tr hw1.2 i6.2⟩, ?_⟩
      · have h9 := hv a List.mem_cons_self
        rw [i5 v fun a' ha' => by rw [r3]; exact hv a' (List.mem_cons_of_mem _ ha'), j4 v (by rw [r3]; exact h9), h61 v h9]
      · have e9 : done ++ a :: rem = done ++ [a] ++ rem := by simp
        rw [e9]
        exact i7
    by_cases hop : pu_isop (w2 2 a) = true
    · have h0 : ¬ w2 3 a < 0 := (hgk b hb a ha).mp (pu_op_gk hop)
      obtain ⟨g1, w21, e1, j1, j2, j3, j4, j5, j6⟩ := pv_J_op hst hJ hb hl hop (hal a List.mem_cons_self h0)
      rw [hop, if_neg (by decide), e1, Option.bind_some]
      exact hrest g1 w21 j1 j2 (fun v hv => j3 v (hv.resolve_left h0)) ⟨j4, j6⟩ (fun _ _ => j5)
    · have hop9 : pu_isop (w2 2 a) = false := by simpa using hop
      rw [hop9, if_pos (by decide)]
      exact hrest g w2 hJ (fun r _ _ => rfl) (fun v _ => rfl) ⟨fun r _ _ _ => rfl, pv_c2_rf w2⟩ (fun h0 h16 => Or.inl (pv_kz ((hgk b hb a ha).mpr h0) hop h16))
theorem pv_joinBlock {g w2 : ST} (hst : pv_Jst B N D l w n n2 ch ph wb) (hok : pv_ok n w n2 w2 B N M ch ph) (hJ : pv_Jv B D w ch ph F0 g w2) (hd : pu_dom (pv_F w w2 ch ph) B D) (hsu : ∀ b c, b < B → pu_sc (pv_F w w2 ch ph) b c → w 10 b = pu_I c ∨ w 11 b = pu_I c) (hp0 : ph 0 = []) {b : Nat} {V : List Nat} (hb : b < B) (hV : ∀ c, c ∈ V → c < B) (hbV : b ∉ V)
    (hal : (∀ a ∈ ph b, g 6 (nn (w 19 a)) < 0) ∧ ∀ a ∈ ch b, ¬ w2 3 a < 0 → g 6 (nn (w2 3 a)) < 0) (hsn : pv_seen g N B (pv_sp ch g w2 V b [])) :
    ∃ g' w2', fX5_joinBlock g n w l (pu_I b) n2 w2 = some (g', w2') ∧ pv_Jv B D w ch ph F0 g' w2' ∧ (∀ r, r ≠ 0 → r ≠ 6 → r ≠ 7 → r ≠ 9 → r ≠ 10 → g' r = g r) ∧ (∀ i, i ≠ 10 → g' 0 i = g 0 i) ∧ (∀ v, (∀ a ∈ ph b, v ≠ nn (w 19 a)) → (∀ a ∈ ch b, w2 3 a < 0 ∨ v ≠ nn (w2 3 a)) → g' 6 v = g 6 v) ∧ ((∀ r, r ≠ 2 → r ≠ 4 → r ≠ 5 → w2' r = w2 r) ∧ pv_c2 w2 w2') ∧ pv_seen g' N B (pv_sp ch g' w2' V b (ch b)) := by
  obtain ⟨⟨hB0, hB⟩, ⟨hN2, hN3, hN4, hN5, hN6, hN⟩, hdis, hix, hw, htk, hdb⟩ := id hst
  obtain ⟨_, _, ⟨hM19, hM20, hM21, hM⟩, hstc, _, hph, hdp, _, _⟩ := id hok
  have hun := hJ.2.2.2.2.1
  obtain ⟨g1, e1, j1, j2, j3⟩ := pv_jb7 hst hok hd hsu hp0 hb (ph b) [] g NF (w 6 b) rfl (by have := pv_len M (ph b) (hdp.2.1 b hb) (hdp.1 b hb); have := pv_NF; omega) (hph.1 b hb) hJ hal.1
  have hne : ∀ s c, c < B → s ∈ ch c → ¬ w2 3 s < 0 → g1 6 (nn (w2 3 s)) = g 6 (nn (w2 3 s)) := by
    intro s c hc hs h0
    refine j3 _ fun a ha e => ?_
    exact hun.2.1 b c a s hb hc ha hs (pv_nn_inj h0 (pv_ixn (hix b hb a ha)).1 e).symm
  have hsn1 : pv_seen g1 N B (pv_sp ch g1 w2 V b []) := by
    refine pv_seen_mo (by rw [j2 0 (by decide)]) (j2 9 (by decide)) (j2 10 (by decide)) ?_ hsn
    rintro s c hs hc ⟨s1, s2, s3, s4⟩
    exact ⟨s1, s2, by rw [hne s c hc s1 s2]; exact s3, s4⟩
  obtain ⟨g', w2', i1, i2, i3, i4, i5, i6, i7⟩ := pv_jb35 hst hb hV hbV (ch b) [] g1 w2 NF (w 4 b) rfl (by have := pv_len N (ch b) (hdis.2.1 b hb) (hdis.1 b hb); have := pv_NF; omega) (hstc.1 b hb) j1 (fun a ha h0 => by rw [hne a b hb ha h0]; exact hal.2 a ha h0) hsn1
  refine ⟨g', w2', ?_, i2, fun r h0 h6 h7 h9 h10 => by rw [i3 r h0 h6 h7 h9 h10, j2 r h6], fun i hi => by rw [i4 i hi, j2 0 (by decide)], fun v h1 h2 => by rw [i5 v h2, j3 v h1], i6, i7⟩
  have hib : ixb (pu_I b) 60 = true := (pu_ix (by omega)).mpr (by omega)
  unfold fX5_joinBlock
  rw [if_pos hib, pu_nn (by omega), e1, Option.bind_some, if_pos hib, i1, Option.bind_some]
end JB
