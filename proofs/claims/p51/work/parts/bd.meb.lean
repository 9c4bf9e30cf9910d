/-! pure side, the machine 7: a block is entered -/
section EB
variable {n n2 : Nat → Nat} {fw x9 : ST} {l : SL} {B N M Lm fs na : Nat} {D : Nat → Nat → Prop} {ch ph : Nat → List Nat} {wb dm : Nat → Nat}
  {w : ST} {f c b : Nat} {p9 at0 : Int32} {e : pu_E} {m : pu_M} {ar : List Int32} {t R : Nat}
/-- a block has no more than 250 phis -/
theorem pm_phl (hfl : pv_fl n fw l n2 x9 B N M Lm fs na D ch ph wb dm) (hb : b < B) : (ph b).length ≤ 250 := by
  obtain ⟨⟨⟨_, _, _, _, _, _, hdp, hpx, _⟩, _⟩, _, _, hS, _⟩ := hfl
  have hnd : ((ph b).map (fw 19)).Nodup := by
    have h9 := (hS.2.2.2.2.1.1 b hb)
    have h8 : pu_bl (pv_F fw x9 ch ph) b = (ph b).map (fw 19) ++ pu_gvs (pv_F fw x9 ch ph b).2.1 := by
      show ((ph b).map (pv_P fw)).map Prod.fst ++ _ = _
      rw [List.map_map]
      rfl
    rw [h8] at h9
    exact (List.nodup_append.mp h9).1
  have hnd2 : ((ph b).map (fun a => nn (fw 19 a))).Nodup := by
    have h7 : (ph b).map (fun a => nn (fw 19 a)) = ((ph b).map (fw 19)).map nn := by rw [List.map_map]; rfl
    rw [h7]
    refine List.pairwise_map.mpr (List.Pairwise.imp_of_mem (fun {x y} hx hy hne => ?_) hnd)
    obtain ⟨a, ha, rfl⟩ := List.mem_map.mp hx
    obtain ⟨a', ha', rfl⟩ := List.mem_map.mp hy
    exact fun h => hne (pv_nn_inj (pv_ixn (hpx b hb a ha)).1 (pv_ixn (hpx b hb a' ha')).1 h)
  have h6 := pv_len 250 _ hnd2 (fun v hv => by
    obtain ⟨a, ha, rfl⟩ := List.mem_map.mp hv
    exact (pv_ixn (hpx b hb a ha)).2)
  rw [List.length_map] at h6
  exact h6
/-- what the phis of a block take, when it is entered from p -/
def pm_phv (fw : ST) (p : Nat) (e : pu_E) (l : List Nat) : List Int32 := l.map (fun a => e (fw 21 (a * 60 + p)))
theorem pm_en26 (hfl : pv_fl n fw l n2 x9 B N M Lm fs na D ch ph wb dm) (hb : b < B) (hc : c < 8) {p : Nat} (hp : p < B) (he : pv_eg fw p b) : ∀ (rem done : List Nat) (k : Nat) (x : Int32) (t : Nat) (w : ST), ph b = done ++ rem → pv_ch (fw 20) x rem → rem.length < k → pm_BX w f c b (pu_I p) at0 e m [] ar t R → t ≤ 5000 → (∀ z, z < done.length → w 19 z = (pm_phv fw p e done).getD z 0) →
    (∃ w', fX3_enterBlock_L26 n fw (pu_I c) k (pu_I done.length) x w = some (.inl w') ∧ w' 0 8 = 0 ∧ w' 0 0 = 2 ∧ pm_fr c 0 R w w') ∨
    (∃ w', fX3_enterBlock_L26 n fw (pu_I c) k (pu_I done.length) x w = some (.inr w') ∧ pm_BX w' f c b (pu_I p) at0 e m [] ar (t + rem.length) R ∧ t + rem.length ≤ 5000 ∧ pm_fr c 0 R w w' ∧ ∀ z, z < (ph b).length → w' 19 z = (pm_phv fw p e (ph b)).getD z 0) := by
  have hlen := pm_phl hfl hb
  obtain ⟨⟨⟨⟨h00, hB0, hB⟩, _, ⟨hM19, hM20, hM21, hM⟩, hst, hd, hphc, hdp, hpx, _⟩, hrg, hgk, hwys, htk⟩, _⟩ := hfl
  intro rem
  induction rem with
  | nil =>
    intro done k x t w hdr hx hk hBX ht hz
    obtain ⟨k', rfl⟩ : ∃ k', k = k' + 1 := ⟨k - 1, by have : 0 < k := hk; omega⟩
    right
    refine ⟨w, ?_, hBX, ht, pm_fr_rf c 0 R w, by rw [hdr, List.append_nil]; exact hz⟩
    show (if x < 0 then some (Sum.inr w) else _) = _
    rw [if_pos (pv_n1 hx)]
  | cons a rem ih =>
    intro done k x t w hdr hx hk hBX ht hz
    obtain ⟨rfl, hx⟩ := hx
    have hk : rem.length + 1 < k := hk
    obtain ⟨k', rfl⟩ : ∃ k', k = k' + 1 := ⟨k - 1, by omega⟩
    have ha : a ∈ ph b := by rw [hdr]; exact List.mem_append_right _ List.mem_cons_self
    have haM := hdp.1 b hb a ha
    have hL : ∀ o, fX3_tick w 1 = some o → fX3_enterBlock_L26 n fw (pu_I c) (k' + 1) (pu_I done.length) (pu_I a) w = (if (o.1) = 0 then some (Sum.inl (o.2)) else (if ixb (pu_I c) 8 = true then ((fX1_take n fw (pu_I a) (((o.2) 14) (nn (pu_I c)))).bind fun (o_8 : Int32) => (if ixb ((pu_I c * 320) + o_8) 2560 = true then (if ixb (pu_I done.length) 512 = true then (lt9 (upw (o.2) 19 (nn (pu_I done.length)) (((o.2) 16) (nn ((pu_I c * 320) + o_8)))) fun (w12 : ST) => (if ixb (pu_I a) (n 20) = true then ((fX3_enterBlock_L26 n fw (pu_I c) k') (pu_I done.length + 1) (fw 20 (nn (pu_I a))) w12) else none)) else none) else none)) else none)) := fun o ho => by
      show (if pu_I a < 0 then some (Sum.inr w) else ((fX3_tick w 1).bind _)) = _
      rw [if_neg (pu_ge (by omega)), ho, Option.bind_some]
    rcases pm_btk hBX ht with ⟨hle, htick⟩ | ⟨hle, w', htick, h8, h0, hfr⟩
    · obtain ⟨g1, q1⟩ := pm_btick hBX (t + 1)
      obtain ⟨j, j1, j2, j3⟩ := hwys.2.2.2.2.1 b p hb hp he
      have hv : ixb (fw 21 (a * 60 + p)) 250 = true := by
        have h9 := htk b hb a ha j j1 j2
        rw [j3, pu_nn (by omega)] at h9
        exact h9
      obtain ⟨c1, c2, c3⟩ := pm_bget g1 hc hv
      have hdl : done.length + rem.length + 1 = (ph b).length := by rw [hdr, List.length_append, List.length_cons]; omega
      have hdone : done.length < 512 := by omega
      obtain ⟨g2, q2⟩ := pm_b19 g1 done.length (e (fw 21 (a * 60 + p)))
      have htake : fX1_take n fw (pu_I a) (pu_I p) = some (fw 21 (a * 60 + p)) := by
        unfold fX1_take
        have hm : pu_I a * 60 + pu_I p = pu_I (a * 60 + p) := by rw [show (60 : Int32) = pu_I 60 from rfl, pv_mul, pv_add]
        rw [hm, if_pos ((pu_ix (by omega)).mpr (by omega)), pu_nn (by omega)]
      have hstep : fX3_enterBlock_L26 n fw (pu_I c) (k' + 1) (pu_I done.length) (pu_I a) w = fX3_enterBlock_L26 n fw (pu_I c) k' (pu_I (done ++ [a]).length) (fw 20 a) (upw (upw w 0 2 (pu_I (t + 1))) 19 done.length (e (fw 21 (a * 60 + p)))) := by
        rw [hL _ htick]
        simp only [lt9]
        rw [if_neg (show ¬ (1 : Int32) = 0 by decide), if_pos ((pu_ix (by omega)).mpr hc), pu_nn (show c < 2147483648 by omega), g1.1.2.2.2.2.2.1, htake, Option.bind_some, if_pos c1, if_pos ((pu_ix (by omega)).mpr hdone), c2, if_pos ((pu_ix (by omega)).mpr (by omega)), pu_nn (by omega), pu_nn (by omega), pu_su, List.length_append]
        rfl
      have hz' : ∀ z, z < (done ++ [a]).length → (upw (upw w 0 2 (pu_I (t + 1))) 19 done.length (e (fw 21 (a * 60 + p)))) 19 z = (pm_phv fw p e (done ++ [a])).getD z 0 := by
        intro z hz9
        rw [List.length_append] at hz9
        have hz9 : z < done.length + 1 := hz9
        have hpl : (pm_phv fw p e done).length = done.length := List.length_map _
        have happ : pm_phv fw p e (done ++ [a]) = pm_phv fw p e done ++ [e (fw 21 (a * 60 + p))] := List.map_append
        rw [happ, pv_upw]
        by_cases e9 : z = done.length
        · rw [if_pos ⟨rfl, e9⟩, e9, List.getD_eq_getElem?_getD, List.getElem?_append_right (by omega), hpl, Nat.sub_self]
          rfl
        · rw [if_neg fun h => e9 h.2, pv_upw_n (by decide), hz z (by omega), List.getD_eq_getElem?_getD, List.getD_eq_getElem?_getD, List.getElem?_append_left (by omega)]
      have hih := ih (done ++ [a]) k' (fw 20 a) (t + 1) _ (by rw [hdr, List.append_assoc]; rfl) hx (by omega) g2 hle hz'
      rw [← hstep] at hih
      have hfr := pm_fr_tr q1 q2
      have htt : t + (a :: rem).length = t + 1 + rem.length := by rw [List.length_cons]; omega
      rw [htt]
      exact hih.imp (fun ⟨w', r1, r2, r3, r4⟩ => ⟨w', r1, r2, r3, pm_fr_tr hfr r4⟩) fun ⟨w', r1, r2, r3, r4, r5⟩ => ⟨w', r1, r2, r3, pm_fr_tr hfr r4, r5⟩
    · left
      refine ⟨w', ?_, h8, h0, hfr⟩
      rw [hL _ htick]
      rw [if_pos rfl]
theorem pm_en93 (hfl : pv_fl n fw l n2 x9 B N M Lm fs na D ch ph wb dm) (hb : b < B) (hc : c < 8) {p : Nat} {vs : List Int32} : ∀ (rem done : List Nat) (k : Nat) (x : Int32) (e9 : pu_E) (w : ST), ph b = done ++ rem → pv_ch (fw 20) x rem → rem.length < k → pm_BX w f c b p9 at0 e9 m [] ar t R → (∀ z, z < (ph b).length → w 19 z = (pm_phv fw p e (ph b)).getD z 0) →
    ∃ w', fX3_enterBlock_L93 n fw (pu_I c) k (pu_I done.length) x w = some w' ∧ pm_BX w' f c b p9 at0 ((rem.map (pv_P fw)).foldl (fun e8 z => pu_set e8 z.1 (e (z.2 p))) e9) m [] ar t R ∧ pm_fr c 0 R w w' := by
  have hlen := pm_phl hfl hb
  obtain ⟨⟨⟨⟨h00, hB0, hB⟩, _, ⟨hM19, hM20, hM21, hM⟩, hst, hd, hphc, hdp, hpx, _⟩, hrg, hgk, hwys, htk⟩, _⟩ := hfl
  intro rem
  induction rem with
  | nil =>
    intro done k x e9 w hdr hx hk hBX hz
    obtain ⟨k', rfl⟩ : ∃ k', k = k' + 1 := ⟨k - 1, by have : 0 < k := hk; omega⟩
    refine ⟨w, ?_, hBX, pm_fr_rf c 0 R w⟩
    show (if x < 0 then some w else _) = _
    rw [if_pos (pv_n1 hx)]
  | cons a rem ih =>
    intro done k x e9 w hdr hx hk hBX hz
    obtain ⟨rfl, hx⟩ := hx
    have hk : rem.length + 1 < k := hk
    obtain ⟨k', rfl⟩ : ∃ k', k = k' + 1 := ⟨k - 1, by omega⟩
    have ha : a ∈ ph b := by rw [hdr]; exact List.mem_append_right _ List.mem_cons_self
    have haM := hdp.1 b hb a ha
    have hdl : done.length + rem.length + 1 = (ph b).length := by rw [hdr, List.length_append, List.length_cons]; omega
    have hdone : done.length < 512 := by omega
    have hv := hpx b hb a ha
    obtain ⟨v0, v1⟩ := pv_ixn hv
    obtain ⟨c1, c2, c3⟩ := pm_bget hBX hc hv
    have hzv : w 19 done.length = e (fw 21 (a * 60 + p)) := by
      rw [hz done.length (by omega), hdr]
      show ((done ++ a :: rem).map (fun a => e (fw 21 (a * 60 + p)))).getD done.length 0 = _
      rw [List.map_append, List.getD_eq_getElem?_getD, List.getElem?_append_right (by rw [List.length_map]; exact Nat.le_refl _), List.length_map, Nat.sub_self]
      rfl
    obtain ⟨g1, q1⟩ := pm_bcell hBX v1 (e (fw 21 (a * 60 + p)))
    have g1 : pm_BX (upw w 16 (c * 320 + nn (fw 19 a)) (e (fw 21 (a * 60 + p)))) f c b p9 at0 (pu_set e9 (fw 19 a) (e (fw 21 (a * 60 + p)))) m [] ar t R := by
      rw [← pu_of v0] at g1
      exact g1
    obtain ⟨w', r1, r2, r3⟩ := ih (done ++ [a]) k' (fw 20 a) _ _ (by rw [hdr, List.append_assoc]; rfl) hx (by omega) g1 (fun z hz9 => by rw [pv_upw_n (by decide)]; exact hz z hz9)
    refine ⟨w', ?_, r2, pm_fr_tr q1 r3⟩
    show (if pu_I a < 0 then some w else (if ixb (pu_I a) (n 19) = true then (if ixb (pu_I done.length) 512 = true then (if ixb ((pu_I c * 320) + (fw 19 (nn (pu_I a)))) 2560 = true then (lt9 (upw w 16 (nn ((pu_I c * 320) + (fw 19 (nn (pu_I a))))) (w 19 (nn (pu_I done.length)))) fun (w19 : ST) => (if ixb (pu_I a) (n 20) = true then ((fX3_enterBlock_L93 n fw (pu_I c) k') (pu_I done.length + 1) (fw 20 (nn (pu_I a))) w19) else none)) else none) else none) else none)) = _
    simp only [lt9]
    rw [if_neg (pu_ge (by omega)), if_pos ((pu_ix (by omega)).mpr (by omega)), if_pos ((pu_ix (by omega)).mpr hdone), pu_nn (show a < 2147483648 by omega), if_pos c1, c3, pu_nn (show done.length < 2147483648 by omega), hzv, if_pos ((pu_ix (by omega)).mpr (by omega)), pu_su]
    rw [List.length_append] at r1
    exact r1
end EB
