/-! pure side, stores 18: the standing-in values are used, whole -/
def pv_fe (g w : ST) (b : Nat) : Int32 := if w 9 b < 0 then w 9 b else pv_sg g (w 9 b)
section UT
variable {n n2 : Nat → Nat} {B N M : Nat} {g w w2 : ST} {ch ph : Nat → List Nat} {wb : Nat → Nat}
theorem pv_us23 (hk : pv_sk g) (hok : pv_ok n w n2 w2 B N M ch ph) (hw : pv_wys B w wb) (htk : pv_tk B w wb ph) {b : Nat} (hb : b < B) {s : ST} {K : Nat → Prop} (hs : ∀ r, r ≠ 9 → r ≠ 21 → s r = w r) (hu : pv_ui g w s K) :
    ∃ s', fX5_useStandIns_L23 g n (pu_I b) NF (w 6 b) s = some s' ∧ (∀ r, r ≠ 21 → s' r = s r) ∧ pv_ui g w s' (fun x => K x ∨ ∃ a, a ∈ ph b ∧ ∃ j, wb b ≤ j ∧ j < wb (b + 1) ∧ x = a * 60 + nn (w 15 j)) := by
  obtain ⟨⟨hw0, _, hB⟩, _, ⟨hM19, hM20, hM21, hM⟩, _, _, hph, hdp, _, _⟩ := id hok
  obtain ⟨t, h1, h2, h3⟩ := pv_chl (G := fun k x (t : ST) => fX5_useStandIns_L23 g n (pu_I b) k x t) (nx := w 20)
    (Inv := fun done rem (t : ST) => (∀ a, a ∈ done ∨ a ∈ rem ↔ a ∈ ph b) ∧ (∀ r, r ≠ 21 → t r = s r) ∧ pv_ui g w t (fun x => K x ∨ ∃ a, a ∈ done ∧ ∃ j, wb b ≤ j ∧ j < wb (b + 1) ∧ x = a * 60 + nn (w 15 j)))
    (Q := fun (t : ST) => (∀ r, r ≠ 21 → t r = s r) ∧ pv_ui g w t (fun x => K x ∨ ∃ a, a ∈ ph b ∧ ∃ j, wb b ≤ j ∧ j < wb (b + 1) ∧ x = a * 60 + nn (w 15 j)))
    (fun k a done rem t hI => by
      obtain ⟨i1, i2, i3⟩ := hI
      have hal : a ∈ ph b := (i1 a).mp (Or.inr List.mem_cons_self)
      have haM := hdp.1 b hb a hal
      obtain ⟨t', e1, e2, e3⟩ := pv_us31 (n := n) (M := M) hk hB hM21 hM hw hb haM (fun j j1 j2 => htk b hb a hal j j1 j2) (s := t) (fun r h9 h21 => by rw [i2 r h21, hs r h9 h21]) i3
      refine ⟨t', ?_, fun y => by rw [← i1 y, List.mem_append, List.mem_singleton, List.mem_cons, or_assoc], fun r hr => by rw [e2 r hr, i2 r hr], pv_ui_cg (fun x => ?_) e3⟩
      · show (if pu_I a < 0 then some t else ((fX5_useStandIns_L31 g n (pu_I b) (pu_I a) NF 0 t).bind fun (o31 : ST) => (if ixb (pu_I a) (n 20) = true then ((fX5_useStandIns_L23 g n (pu_I b) k) (o31 20 (nn (pu_I a))) o31) else none))) = _
        rw [if_neg (pu_ge (by omega)), e1, Option.bind_some, if_pos ((pu_ix (by omega)).mpr (by omega)), pu_nn (by omega), e2 20 (by decide), i2 20 (by decide), hs 20 (by decide) (by decide)]
      · constructor
        · rintro ((h | ⟨y, y1, y2⟩) | h)
          · exact Or.inl h
          · exact Or.inr ⟨y, List.mem_append_left _ y1, y2⟩
          · exact Or.inr ⟨a, List.mem_append_right _ (List.mem_singleton.mpr rfl), h⟩
        · rintro (h | ⟨y, y1, y2⟩)
          · exact Or.inl (Or.inl h)
          · rcases List.mem_append.mp y1 with h | h
            · exact Or.inl (Or.inr ⟨y, h, y2⟩)
            · rw [List.mem_singleton.mp h] at y2
              exact Or.inr y2)
    (fun k x done t hx hI => ⟨t, by
      show (if x < 0 then some t else _) = _
      rw [if_pos hx], hI.2.1, pv_ui_cg (fun x => by
        have := hI.1
        simp only [List.not_mem_nil, or_false] at this
        simp only [this]) hI.2.2⟩) (ph b) [] (w 6 b) NF s (hph.1 b hb) (by have := pv_len M (ph b) (hdp.2.1 b hb) (hdp.1 b hb); have := pv_NF; omega) ⟨fun a => by simp, fun _ _ => rfl, pv_ui_cg (fun x => by simp) hu⟩
  exact ⟨t, h1, h2, h3⟩
theorem pv_useStandIns (hk : pv_sk g) (hok : pv_ok n w n2 w2 B N M ch ph) (hrg : pv_rg w2 B ch) (hw : pv_wys B w wb) (htk : pv_tk B w wb ph) (hev : ∀ b, b < B → ¬ w 9 b < 0 → ixb (w 9 b) 250 = true) :
    ∃ w' w2', fX5_useStandIns g n w n2 w2 = some (w', w2') ∧ (∀ r, r ≠ 9 → r ≠ 21 → w' r = w r) ∧ pv_ui g w w' (fun x => ∃ b, b < B ∧ ∃ a, a ∈ ph b ∧ ∃ j, wb b ≤ j ∧ j < wb (b + 1) ∧ x = a * 60 + nn (w 15 j)) ∧ (∀ b, b < B → w' 9 b = pv_fe g w b) ∧ pv_us g w2 w2' (fun a => ∃ b, b < B ∧ a ∈ ch b) := by
  obtain ⟨⟨hw0, _, hB⟩, ⟨hN2, hN3, hN4, hN5, hN6, hN⟩, ⟨hM19, hM20, hM21, hM⟩, hst, hd, hph, hdp, _, _⟩ := id hok
  obtain ⟨⟨w', w2'⟩, h1, h2, h3, h4, h5⟩ := pv_for (G := fun k i (s : ST × ST) => fX5_useStandIns_L7 g n n2 k i s.1 s.2) (hi := B)
    (Inv := fun i (s : ST × ST) => (∀ r, r ≠ 9 → r ≠ 21 → s.1 r = w r) ∧ pv_ui g w s.1 (fun x => ∃ b, b < i ∧ ∃ a, a ∈ ph b ∧ ∃ j, wb b ≤ j ∧ j < wb (b + 1) ∧ x = a * 60 + nn (w 15 j)) ∧ (∀ b, b < B → (b < i → s.1 9 b = pv_fe g w b) ∧ (i ≤ b → s.1 9 b = w 9 b)) ∧ pv_us g w2 s.2 (fun a => ∃ b, b < i ∧ a ∈ ch b))
    (Q := fun (s : ST × ST) => (∀ r, r ≠ 9 → r ≠ 21 → s.1 r = w r) ∧ pv_ui g w s.1 (fun x => ∃ b, b < B ∧ ∃ a, a ∈ ph b ∧ ∃ j, wb b ≤ j ∧ j < wb (b + 1) ∧ x = a * 60 + nn (w 15 j)) ∧ (∀ b, b < B → s.1 9 b = pv_fe g w b) ∧ pv_us g w2 s.2 (fun a => ∃ b, b < B ∧ a ∈ ch b))
    (fun k i s hi hI => by
      obtain ⟨s, z⟩ := s
      obtain ⟨i1, i2, i3, i4⟩ := hI
      have i1 : ∀ r, r ≠ 9 → r ≠ 21 → s r = w r := i1
      have i2 : pv_ui g w s _ := i2
      have i3 : ∀ b, b < B → (b < i → s 9 b = pv_fe g w b) ∧ (i ≤ b → s 9 b = w 9 b) := i3
      have i4 : pv_us g w2 z _ := i4
      have hi31 : i < 2147483648 := by omega
      have hii : ixb (pu_I i) 60 = true := (pu_ix hi31).mpr (by omega)
      obtain ⟨t, t1, t2, t3⟩ := pv_us23 hk hok hw htk hi i1 i2
      obtain ⟨z', z1, z2⟩ := pv_us96 (n2 := n2) hk hN2 hN4 hN5 hN6 hN (hst.1 i hi) (hd.1 i hi) (pv_len N (ch i) (hd.2.1 i hi) (hd.1 i hi)) (fun a ha => hrg i hi a ha) i4
      have ht9 : t 9 i = w 9 i := by rw [t2 9 (by decide)]; exact (i3 i hi).2 (Nat.le_refl _)
      have hform : fX5_useStandIns_L7 g n n2 (k + 1) (pu_I i) s z = fX5_useStandIns_L7 g n n2 k (pu_I (i + 1)) (if w 9 i < 0 then t else upw t 9 i (pv_fe g w i)) z' := by
        show (if (s 0 0) ≤ pu_I i then some (s, z) else (if ixb (pu_I i) 60 = true then ((fX5_useStandIns_L23 g n (pu_I i) NF (s 6 (nn (pu_I i))) s).bind fun (o23 : ST) => (if ixb (pu_I i) 60 = true then ((fX5_useStandIns_L96 g n2 NF (o23 4 (nn (pu_I i))) z).bind fun (o96 : ST) => (if ixb (pu_I i) 60 = true then (if (o23 9 (nn (pu_I i))) < 0 then (fX5_useStandIns_J200 (fX5_useStandIns_L7 g n n2 k) (pu_I i) o96 o23) else (if ixb (pu_I i) 60 = true then ((fX5_standInOf g (o23 9 (nn (pu_I i)))).bind fun (o_39 : Int32) => (if ixb (pu_I i) 60 = true then (lt9 (upw o23 9 (nn (pu_I i)) o_39) fun (w42 : ST) => (fX5_useStandIns_J200 (fX5_useStandIns_L7 g n n2 k) (pu_I i) o96 w42)) else none)) else none)) else none)) else none)) else none)) = _
        rw [i1 0 (by decide) (by decide), hw0, if_neg (by rw [pu_le (by omega) hi31]; omega), if_pos hii, pu_nn hi31, i1 6 (by decide) (by decide), t1, Option.bind_some, if_pos hii, t2 4 (by decide), i1 4 (by decide) (by decide), z1, Option.bind_some, if_pos hii, ht9]
        unfold fX5_useStandIns_J200
        rw [pu_su]
        by_cases h9 : w 9 i < 0
        · rw [if_pos h9, if_pos h9]
        · rw [if_neg h9, if_neg h9, if_pos hii, pv_standInOf hk (hev i hi h9), Option.bind_some, if_pos hii]
          simp only [lt9]
          unfold pv_fe
          rw [if_neg h9]
      refine ⟨(_, z'), hform, fun r r9 r21 => ?_, ?_, fun b hb => ?_, pv_us_cg (fun a => ?_) z2⟩
      · show (if w 9 i < 0 then t else upw t 9 i (pv_fe g w i)) r = w r
        by_cases h9 : w 9 i < 0
        · rw [if_pos h9, t2 r r21, i1 r r9 r21]
        · rw [if_neg h9, pv_upw_n r9, t2 r r21, i1 r r9 r21]
      · have h21 : (if w 9 i < 0 then t else upw t 9 i (pv_fe g w i)) 21 = t 21 := by
          by_cases h9 : w 9 i < 0
          · rw [if_pos h9]
          · rw [if_neg h9, pv_upw_n (by decide)]
        intro x
        show (_ → (if w 9 i < 0 then t else upw t 9 i (pv_fe g w i)) 21 x = _) ∧ (_ → (if w 9 i < 0 then t else upw t 9 i (pv_fe g w i)) 21 x = _)
        rw [h21]
        refine pv_ui_cg (K' := fun x => ∃ b, b < i + 1 ∧ ∃ a, a ∈ ph b ∧ ∃ j, wb b ≤ j ∧ j < wb (b + 1) ∧ x = a * 60 + nn (w 15 j)) (fun x => ?_) t3 x
        constructor
        · rintro (⟨b, b1, b2⟩ | h)
          · exact ⟨b, by omega, b2⟩
          · exact ⟨i, by omega, h⟩
        · rintro ⟨b, b1, b2⟩
          by_cases h : b = i
          · rw [h] at b2; exact Or.inr b2
          · exact Or.inl ⟨b, by omega, b2⟩
      · have h9 : (if w 9 i < 0 then t else upw t 9 i (pv_fe g w i)) 9 b = if b = i then pv_fe g w i else s 9 b := by
          by_cases h : b = i
          · rw [if_pos h, h]
            by_cases h9 : w 9 i < 0
            · rw [if_pos h9, ht9]
              unfold pv_fe
              rw [if_pos h9]
            · rw [if_neg h9, pv_upw, if_pos ⟨rfl, rfl⟩]
          · rw [if_neg h]
            by_cases h9 : w 9 i < 0
            · rw [if_pos h9, t2 9 (by decide)]
            · rw [if_neg h9, pv_upw, if_neg fun c => h c.2, t2 9 (by decide)]
        show (_ → (if w 9 i < 0 then t else upw t 9 i (pv_fe g w i)) 9 b = _) ∧ (_ → (if w 9 i < 0 then t else upw t 9 i (pv_fe g w i)) 9 b = _)
        rw [h9]
        refine ⟨fun hbi => ?_, fun hbi => ?_⟩
        · by_cases h : b = i
          · rw [if_pos h, h]
          · rw [if_neg h]; exact (i3 b hb).1 (by omega)
        · rw [if_neg (by omega)]; exact (i3 b hb).2 (by omega)
      · constructor
        · rintro (⟨b, b1, b2⟩ | h)
          · exact ⟨b, by omega, b2⟩
          · exact ⟨i, by omega, h⟩
        · rintro ⟨b, b1, b2⟩
          by_cases h : b = i
          · rw [h] at b2; exact Or.inr b2
          · exact Or.inl ⟨b, by omega, b2⟩)
    (fun k s hI => ⟨s, by
      show (if (s.1 0 0) ≤ pu_I B then some (s.1, s.2) else _) = _
      rw [hI.1 0 (by decide) (by decide), hw0, if_pos (Int32.le_refl _)], hI.1, hI.2.1, fun b hb => (hI.2.2.1 b hb).1 hb, hI.2.2.2⟩)
    B 0 NF (w, w2) (by omega) (by have := pv_NF; omega) ⟨fun _ _ _ => rfl, fun x => ⟨fun ⟨b, b1, _⟩ => absurd b1 (Nat.not_lt_zero _), fun _ => rfl⟩, fun b _ => ⟨fun c => absurd c (Nat.not_lt_zero _), fun _ => rfl⟩, fun _ _ _ => rfl, fun a => ⟨fun ⟨b, b1, _⟩ => absurd b1 (Nat.not_lt_zero _), fun _ => ⟨rfl, rfl⟩⟩⟩
  refine ⟨w', w2', ?_, h2, h3, h4, h5⟩
  have h1 : fX5_useStandIns_L7 g n n2 NF 0 w w2 = some (w', w2') := h1
  unfold fX5_useStandIns
  rw [h1, Option.bind_some]
end UT
