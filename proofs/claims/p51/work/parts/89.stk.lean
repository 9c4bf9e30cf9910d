/-! pure side, stores 20: one phi is joined -/
/-- what phi a takes on way j, and who stands for it -/
def pv_tv (w : ST) (a j : Nat) : Int32 := w 21 (a * 60 + nn (w 15 j))
section JP
variable {n n2 : Nat → Nat} {B N M : Nat} {g w w2 : ST} {ch ph : Nat → List Nat} {wb : Nat → Nat}
theorem pv_readTake (hk : pv_sk g) (hok : pv_ok n w n2 w2 B N M ch ph) (hw : pv_wys B w wb) (htk : pv_tk B w wb ph) {b a i : Nat} (hb : b < B) (ha : a ∈ ph b) (hi : wb b + i < wb (b + 1)) :
    ∃ p, fX1_wayFrom w (pu_I b) (pu_I i) = some p ∧ fX1_take n w (pu_I a) p = some (pv_tv w a (wb b + i)) ∧ ixb (pv_tv w a (wb b + i)) 250 = true ∧ fX5_standInOf g (pv_tv w a (wb b + i)) = some (pv_sg g (pv_tv w a (wb b + i))) := by
  obtain ⟨⟨_, _, hB⟩, _, ⟨_, _, hM21, hM⟩, _, _, _, hdp, _⟩ := id hok
  have haM := hdp.1 b hb a ha
  obtain ⟨p, hp, hp2, _⟩ := hw.2.2.2.1 b (wb b + i) hb (by omega) hi
  have hx := htk b hb a ha (wb b + i) (by omega) hi
  refine ⟨w 15 (wb b + i), pv_wayFrom hB hw hb hi, ?_, hx, pv_standInOf hk hx⟩
  unfold pv_tv
  rw [hp2, pv_take (by omega) (by omega), pu_nn (by omega)]
theorem pv_onlyTake (hk : pv_sk g) (hok : pv_ok n w n2 w2 B N M ch ph) (hw : pv_wys B w wb) (htk : pv_tk B w wb ph) {b a : Nat} (hb : b < B) (ha : a ∈ ph b) :
    ∃ o, fX5_onlyTake g n w (pu_I b) (pu_I a) = some o ∧ (o < 0 ∨ (ixb o 250 = true ∧ o ≠ w 19 a ∧ (∀ j, wb b ≤ j → j < wb (b + 1) → pv_sg g (pv_tv w a j) = w 19 a ∨ pv_sg g (pv_tv w a j) = o) ∧ ∃ j, wb b ≤ j ∧ j < wb (b + 1) ∧ pv_sg g (pv_tv w a j) = o)) := by
  obtain ⟨⟨_, _, hB⟩, _, ⟨hM19, _, hM21, hM⟩, _, _, _, hdp, _⟩ := id hok
  have haM := hdp.1 b hb a ha
  have hm := hw.2.1 b hb
  have h120 := hw.2.2.1 (b + 1) (by omega)
  have hia : ixb (pu_I a) (n 19) = true := (pu_ix (by omega)).mpr (by omega)
  have hrun : ∀ (m i k : Nat) (v : Int32), i + m = wb (b + 1) - wb b → m < k →
      ((v < 0 ∧ ∀ j, wb b ≤ j → j < wb b + i → pv_sg g (pv_tv w a j) = w 19 a) ∨ (ixb v 250 = true ∧ v ≠ w 19 a ∧ (∀ j, wb b ≤ j → j < wb b + i → pv_sg g (pv_tv w a j) = w 19 a ∨ pv_sg g (pv_tv w a j) = v) ∧ ∃ j, wb b ≤ j ∧ j < wb b + i ∧ pv_sg g (pv_tv w a j) = v)) →
      ∃ t, fX5_onlyTake_L6 g n w (pu_I b) (pu_I a) k v (pu_I i) = some t ∧ (t = Sum.inl (-1) ∨ ∃ o, t = Sum.inr o ∧ (o < 0 ∨ (ixb o 250 = true ∧ o ≠ w 19 a ∧ (∀ j, wb b ≤ j → j < wb (b + 1) → pv_sg g (pv_tv w a j) = w 19 a ∨ pv_sg g (pv_tv w a j) = o) ∧ ∃ j, wb b ≤ j ∧ j < wb (b + 1) ∧ pv_sg g (pv_tv w a j) = o))) := by
    intro m
    induction m with
    | zero =>
      intro i k v hi hk2 hI
      obtain ⟨k', rfl⟩ : ∃ k', k = k' + 1 := ⟨k - 1, by omega⟩
      have hi : i = wb (b + 1) - wb b := by omega
      subst hi
      rw [show wb b + (wb (b + 1) - wb b) = wb (b + 1) by omega] at hI
      refine ⟨Sum.inr v, ?_, Or.inr ⟨v, rfl, hI.imp (fun c => c.1) id⟩⟩
      show ((fX1_waysTo w (pu_I b)).bind fun (o_1 : Int32) => (if o_1 ≤ pu_I (wb (b + 1) - wb b) then some (Sum.inr v) else _)) = _
      rw [pv_waysTo hB hw hb, Option.bind_some, if_pos (Int32.le_refl _)]
    | succ m ih =>
      intro i k v hi hk2 hI
      obtain ⟨k', rfl⟩ : ∃ k', k = k' + 1 := ⟨k - 1, by omega⟩
      obtain ⟨p, p1, p2, p3, p4⟩ := pv_readTake hk hok hw htk hb ha (i := i) (by omega)
      have hso := (pv_sg_root hk p3).1
      have hform : fX5_onlyTake_L6 g n w (pu_I b) (pu_I a) (k' + 1) v (pu_I i) = (if pv_sg g (pv_tv w a (wb b + i)) = w 19 a then fX5_onlyTake_L6 g n w (pu_I b) (pu_I a) k' v (pu_I (i + 1)) else (if pv_sg g (pv_tv w a (wb b + i)) = v then fX5_onlyTake_L6 g n w (pu_I b) (pu_I a) k' v (pu_I (i + 1)) else (if v < 0 then fX5_onlyTake_L6 g n w (pu_I b) (pu_I a) k' (pv_sg g (pv_tv w a (wb b + i))) (pu_I (i + 1)) else some (Sum.inl (-1))))) := by
        show ((fX1_waysTo w (pu_I b)).bind fun (o_1 : Int32) => (if o_1 ≤ pu_I i then some (Sum.inr v) else ((fX1_wayFrom w (pu_I b) (pu_I i)).bind fun (o_4 : Int32) => ((fX1_take n w (pu_I a) o_4).bind fun (o_6 : Int32) => ((fX5_standInOf g o_6).bind fun (o_8 : Int32) => (if ixb (pu_I a) (n 19) = true then (if o_8 = (w 19 (nn (pu_I a))) then (fX5_onlyTake_J63 (fX5_onlyTake_L6 g n w (pu_I b) (pu_I a) k') (pu_I i) v) else (if o_8 = v then (fX5_onlyTake_J63 (fX5_onlyTake_L6 g n w (pu_I b) (pu_I a) k') (pu_I i) v) else (if v < 0 then (fX5_onlyTake_J63 (fX5_onlyTake_L6 g n w (pu_I b) (pu_I a) k') (pu_I i) o_8) else some (Sum.inl (-1))))) else none)))))) = _
        rw [pv_waysTo hB hw hb, Option.bind_some, if_neg (by rw [pu_le (by omega) (by omega)]; omega), p1, Option.bind_some, p2, Option.bind_some, p4, Option.bind_some, if_pos hia, pu_nn (by omega)]
        unfold fX5_onlyTake_J63
        rw [pu_su]
      rw [hform]
      by_cases c1 : pv_sg g (pv_tv w a (wb b + i)) = w 19 a
      · rw [if_pos c1]
        refine ih (i + 1) k' v (by omega) (by omega) ?_
        rcases hI with ⟨h1, h2⟩ | ⟨h1, h2, h3, j0, h4, h5, h6⟩
        · refine Or.inl ⟨h1, fun j j1 j2 => ?_⟩
          by_cases hj : j = wb b + i
          · rw [hj]; exact c1
          · exact h2 j j1 (by omega)
        · refine Or.inr ⟨h1, h2, fun j j1 j2 => ?_, j0, h4, by omega, h6⟩
          by_cases hj : j = wb b + i
          · rw [hj]; exact Or.inl c1
          · exact h3 j j1 (by omega)
      · rw [if_neg c1]
        by_cases c2 : pv_sg g (pv_tv w a (wb b + i)) = v
        · rw [if_pos c2]
          refine ih (i + 1) k' v (by omega) (by omega) ?_
          rcases hI with ⟨h1, h2⟩ | ⟨h1, h2, h3, j0, h4, h5, h6⟩
          · rw [c2] at hso
            exact absurd h1 (pv_ixn hso).1
          · refine Or.inr ⟨h1, h2, fun j j1 j2 => ?_, j0, h4, by omega, h6⟩
            by_cases hj : j = wb b + i
            · rw [hj]; exact Or.inr c2
            · exact h3 j j1 (by omega)
        · rw [if_neg c2]
          by_cases c3 : v < 0
          · rw [if_pos c3]
            refine ih (i + 1) k' _ (by omega) (by omega) ?_
            rcases hI with ⟨h1, h2⟩ | ⟨h1, h2, h3, j0, h4, h5, h6⟩
            · refine Or.inr ⟨hso, c1, fun j j1 j2 => ?_, wb b + i, by omega, by omega, rfl⟩
              by_cases hj : j = wb b + i
              · rw [hj]; exact Or.inr rfl
              · exact Or.inl (h2 j j1 (by omega))
            · exact absurd c3 (pv_ixn h1).1
          · rw [if_neg c3]
            exact ⟨_, rfl, Or.inl rfl⟩
  obtain ⟨t, t1, t2⟩ := hrun (wb (b + 1) - wb b) 0 NF (-1) (by omega) (by have := pv_NF; omega) (Or.inl ⟨by decide, fun j j1 j2 => by omega⟩)
  have t1 : fX5_onlyTake_L6 g n w (pu_I b) (pu_I a) NF (-1) 0 = some t := t1
  unfold fX5_onlyTake
  rw [t1, Option.bind_some]
  rcases t2 with rfl | ⟨o, rfl, ho⟩
  · exact ⟨-1, rfl, Or.inl (by decide)⟩
  · exact ⟨o, rfl, ho⟩
theorem pv_takeAlike (hk : pv_sk g) (hok : pv_ok n w n2 w2 B N M ch ph) (hw : pv_wys B w wb) (htk : pv_tk B w wb ph) {b a z : Nat} (hb : b < B) (ha : a ∈ ph b) (hz : z ∈ ph b) :
    ∃ o, fX5_takeAlike g n w (pu_I b) (pu_I z) (pu_I a) = some (pv_b o) ∧ (o = true → ∀ j, wb b ≤ j → j < wb (b + 1) → pv_sg g (pv_tv w z j) = pv_sg g (pv_tv w a j)) := by
  obtain ⟨⟨_, _, hB⟩, _⟩ := id hok
  have hm := hw.2.1 b hb
  have h120 := hw.2.2.1 (b + 1) (by omega)
  have hrun : ∀ (m i k : Nat), i + m = wb (b + 1) - wb b → m < k → (∀ j, wb b ≤ j → j < wb b + i → pv_sg g (pv_tv w z j) = pv_sg g (pv_tv w a j)) →
      ∃ t, fX5_takeAlike_L3 g n w (pu_I b) (pu_I z) (pu_I a) k (pu_I i) = some t ∧ (t = Sum.inl 0 ∨ (t = Sum.inr () ∧ ∀ j, wb b ≤ j → j < wb (b + 1) → pv_sg g (pv_tv w z j) = pv_sg g (pv_tv w a j))) := by
    intro m
    induction m with
    | zero =>
      intro i k hi hk2 hI
      obtain ⟨k', rfl⟩ : ∃ k', k = k' + 1 := ⟨k - 1, by omega⟩
      have hi : i = wb (b + 1) - wb b := by omega
      subst hi
      rw [show wb b + (wb (b + 1) - wb b) = wb (b + 1) by omega] at hI
      refine ⟨Sum.inr (), ?_, Or.inr ⟨rfl, hI⟩⟩
      show ((fX1_waysTo w (pu_I b)).bind fun (o_1 : Int32) => (if o_1 ≤ pu_I (wb (b + 1) - wb b) then some (Sum.inr ()) else _)) = _
      rw [pv_waysTo hB hw hb, Option.bind_some, if_pos (Int32.le_refl _)]
    | succ m ih =>
      intro i k hi hk2 hI
      obtain ⟨k', rfl⟩ : ∃ k', k = k' + 1 := ⟨k - 1, by omega⟩
      obtain ⟨p, p1, p2, p3, p4⟩ := pv_readTake hk hok hw htk hb hz (i := i) (by omega)
      obtain ⟨p', q1, q2, q3, q4⟩ := pv_readTake hk hok hw htk hb ha (i := i) (by omega)
      have hpp : p' = p := by
        rw [p1] at q1
        exact (Option.some.inj q1).symm
      subst hpp
      have hform : fX5_takeAlike_L3 g n w (pu_I b) (pu_I z) (pu_I a) (k' + 1) (pu_I i) = (if pv_sg g (pv_tv w z (wb b + i)) = pv_sg g (pv_tv w a (wb b + i)) then fX5_takeAlike_L3 g n w (pu_I b) (pu_I z) (pu_I a) k' (pu_I (i + 1)) else some (Sum.inl 0)) := by
        show ((fX1_waysTo w (pu_I b)).bind fun (o_1 : Int32) => (if o_1 ≤ pu_I i then some (Sum.inr ()) else ((fX1_wayFrom w (pu_I b) (pu_I i)).bind fun (o_4 : Int32) => ((fX1_take n w (pu_I z) o_4).bind fun (o_6 : Int32) => ((fX5_standInOf g o_6).bind fun (o_8 : Int32) => ((fX1_take n w (pu_I a) o_4).bind fun (o_10 : Int32) => ((fX5_standInOf g o_10).bind fun (o_12 : Int32) => (if o_8 = o_12 then ((fX5_takeAlike_L3 g n w (pu_I b) (pu_I z) (pu_I a) k') (pu_I i + 1)) else some (Sum.inl 0))))))))) = _
        rw [pv_waysTo hB hw hb, Option.bind_some, if_neg (by rw [pu_le (by omega) (by omega)]; omega), p1, Option.bind_some, p2, Option.bind_some, p4, Option.bind_some, q2, Option.bind_some, q4, Option.bind_some, pu_su]
      rw [hform]
      by_cases c1 : pv_sg g (pv_tv w z (wb b + i)) = pv_sg g (pv_tv w a (wb b + i))
      · rw [if_pos c1]
        refine ih (i + 1) k' (by omega) (by omega) fun j j1 j2 => ?_
        by_cases hj : j = wb b + i
        · rw [hj]; exact c1
        · exact hI j j1 (by omega)
      · rw [if_neg c1]
        exact ⟨_, rfl, Or.inl rfl⟩
  obtain ⟨t, t1, t2⟩ := hrun (wb (b + 1) - wb b) 0 NF (by omega) (by have := pv_NF; omega) (fun j j1 j2 => by omega)
  have t1 : fX5_takeAlike_L3 g n w (pu_I b) (pu_I z) (pu_I a) NF 0 = some t := t1
  unfold fX5_takeAlike
  rw [t1, Option.bind_some]
  rcases t2 with rfl | ⟨rfl, h⟩
  · exact ⟨false, rfl, fun c => by cases c⟩
  · exact ⟨true, rfl, fun _ => h⟩
/-- one phi: it stays, or one value stands in for it -/
theorem pv_joinPhi (hk : pv_sk g) (hok : pv_ok n w n2 w2 B N M ch ph) (hw : pv_wys B w wb) (htk : pv_tk B w wb ph) {b a : Nat} (hb : b < B) {l1 l2 : List Nat} (hl : ph b = l1 ++ a :: l2) :
    ∃ g', fX5_joinPhi g n w (pu_I b) (pu_I a) = some g' ∧ (g' = g ∨ ∃ z, g' = upw g 6 (nn (w 19 a)) z ∧
      ((ixb z 250 = true ∧ z ≠ w 19 a ∧ (∀ j, wb b ≤ j → j < wb (b + 1) → pv_sg g (pv_tv w a j) = w 19 a ∨ pv_sg g (pv_tv w a j) = z) ∧ ∃ j, wb b ≤ j ∧ j < wb (b + 1) ∧ pv_sg g (pv_tv w a j) = z) ∨
       (∃ a2, a2 ∈ l1 ∧ z = w 19 a2 ∧ g 6 (nn (w 19 a2)) < 0 ∧ ∀ j, wb b ≤ j → j < wb (b + 1) → pv_sg g (pv_tv w a2 j) = pv_sg g (pv_tv w a j)))) := by
  obtain ⟨⟨_, _, hB⟩, _, ⟨hM19, hM20, hM21, hM⟩, _, _, hph, hdp, hix, _⟩ := id hok
  have ha : a ∈ ph b := by rw [hl]; exact List.mem_append_right _ List.mem_cons_self
  have haM := hdp.1 b hb a ha
  have hia : ixb (pu_I a) (n 19) = true := (pu_ix (by omega)).mpr (by omega)
  have hga := hix b hb a ha
  obtain ⟨o, o1, o2⟩ := pv_onlyTake hk hok hw htk hb ha
  have hnd := hdp.2.1 b hb
  have h40 : ∀ (rem : List Nat) (x : Int32) (k : Nat), rem.length < k → pv_ch (w 20) x (rem ++ a :: l2) → (∀ z ∈ rem, z ∈ l1) → ∃ t, fX5_joinPhi_L40 g n w (pu_I b) (pu_I a) k x = some t ∧ (t = Sum.inr () ∨ ∃ a2, a2 ∈ l1 ∧ t = Sum.inl (upw g 6 (nn (w 19 a)) (w 19 a2)) ∧ g 6 (nn (w 19 a2)) < 0 ∧ ∀ j, wb b ≤ j → j < wb (b + 1) → pv_sg g (pv_tv w a2 j) = pv_sg g (pv_tv w a j)) := by
    intro rem
    induction rem with
    | nil =>
      intro x k hk2 hch _
      obtain ⟨k', rfl⟩ : ∃ k', k = k' + 1 := ⟨k - 1, by simp at hk2; omega⟩
      obtain ⟨rfl, _⟩ := hch
      refine ⟨Sum.inr (), ?_, Or.inl rfl⟩
      show (if pu_I a < 0 then some (Sum.inr ()) else (if pu_I a = pu_I a then some (Sum.inr ()) else _)) = _
      rw [if_neg (pu_ge (by omega)), if_pos rfl]
    | cons z rem ih =>
      intro x k hk2 hch hrem
      obtain ⟨k', rfl⟩ : ∃ k', k = k' + 1 := ⟨k - 1, by simp at hk2; omega⟩
      obtain ⟨rfl, hch⟩ := hch
      have hz1 : z ∈ l1 := hrem z List.mem_cons_self
      have hzb : z ∈ ph b := by rw [hl]; exact List.mem_append_left _ hz1
      have hzM := hdp.1 b hb z hzb
      have hza : z ≠ a := by
        intro e
        rw [hl] at hnd
        exact (List.nodup_append.mp hnd).2.2 z hz1 a List.mem_cons_self e
      have hiz : ixb (pu_I z) (n 19) = true := (pu_ix (by omega)).mpr (by omega)
      have hgz := hix b hb z hzb
      obtain ⟨o3, e1, e2⟩ := pv_takeAlike hk hok hw htk hb ha hzb
      have hgo := ih (w 20 z) k' (by simp at hk2; omega) hch (fun y hy => hrem y (List.mem_cons_of_mem _ hy))
      have h93 : fX5_joinPhi_J93 (fX5_joinPhi_L40 g n w (pu_I b) (pu_I a) k') n w (pu_I z) = fX5_joinPhi_L40 g n w (pu_I b) (pu_I a) k' (w 20 z) := by
        unfold fX5_joinPhi_J93
        rw [if_pos ((pu_ix (by omega)).mpr (by omega)), pu_nn (by omega)]
      have hform : fX5_joinPhi_L40 g n w (pu_I b) (pu_I a) (k' + 1) (pu_I z) = (if 0 ≤ g 6 (nn (w 19 z)) then fX5_joinPhi_L40 g n w (pu_I b) (pu_I a) k' (w 20 z) else (if pv_b o3 = 0 then fX5_joinPhi_L40 g n w (pu_I b) (pu_I a) k' (w 20 z) else some (Sum.inl (upw g 6 (nn (w 19 a)) (w 19 z))))) := by
        show (if pu_I z < 0 then some (Sum.inr ()) else (if pu_I z = pu_I a then some (Sum.inr ()) else (if ixb (pu_I z) (n 19) = true then (if ixb (w 19 (nn (pu_I z))) 250 = true then (if 0 ≤ (g 6 (nn (w 19 (nn (pu_I z))))) then (fX5_joinPhi_J93 (fX5_joinPhi_L40 g n w (pu_I b) (pu_I a) k') n w (pu_I z)) else ((fX5_takeAlike g n w (pu_I b) (pu_I z) (pu_I a)).bind fun (o_12 : Int32) => (if o_12 = 0 then (fX5_joinPhi_J93 (fX5_joinPhi_L40 g n w (pu_I b) (pu_I a) k') n w (pu_I z)) else (if ixb (pu_I z) (n 19) = true then (if ixb (w 19 (nn (pu_I a))) 250 = true then (lt9 (upw g 6 (nn (w 19 (nn (pu_I a)))) (w 19 (nn (pu_I z)))) fun (w17 : ST) => some (Sum.inl w17)) else none) else none)))) else none) else none))) = _
        rw [if_neg (pu_ge (by omega)), if_neg (fun e => hza (pu_inj (by omega) (by omega) e)), if_pos hiz, pu_nn (by omega), if_pos hgz, e1, Option.bind_some, h93, if_pos hiz, pu_nn (by omega), if_pos hga]
        simp only [lt9]
      rw [hform]
      by_cases c1 : 0 ≤ g 6 (nn (w 19 z))
      · rw [if_pos c1]; exact hgo
      · rw [if_neg c1]
        by_cases c2 : o3 = true
        · subst c2
          rw [if_neg (by decide)]
          exact ⟨_, rfl, Or.inr ⟨z, hz1, rfl, Int32.not_le.mp c1, e2 rfl⟩⟩
        · have c2 : o3 = false := by simpa using c2
          subst c2
          rw [if_pos (by decide)]
          exact hgo
  unfold fX5_joinPhi
  rw [if_pos hia, o1, Option.bind_some]
  rcases o2 with o2 | ⟨q1, q2, q3, q4⟩
  · have hlen := pv_len M (ph b) hnd (hdp.1 b hb)
    have hc := hph.1 b hb
    rw [hl] at hc hlen
    obtain ⟨t, t1, t2⟩ := h40 l1 (w 6 b) NF (by simp at hlen; have := pv_NF; omega) hc (fun z hz => hz)
    rw [if_pos o2, if_pos ((pu_ix (by omega)).mpr (by omega)), pu_nn (by omega), t1, Option.bind_some]
    rcases t2 with rfl | ⟨a2, h1, rfl, h3, h4⟩
    · exact ⟨g, rfl, Or.inl rfl⟩
    · exact ⟨_, rfl, Or.inr ⟨_, rfl, Or.inr ⟨a2, h1, rfl, h3, h4⟩⟩⟩
  · rw [if_neg (pv_ixn q1).1, pu_nn (by omega), if_pos hga]
    exact ⟨_, rfl, Or.inr ⟨_, rfl, Or.inl ⟨q1, q2, q3, q4⟩⟩⟩
end JP
