/-! pure side, stores 41: loops, and all that is measured -/
section LO
variable {B : Nat} {w : ST} {wb : Nat → Nat}
theorem pv_waysInto (hB : B ≤ 60) (hw : pv_wys B w wb) {b : Nat} (hb : b < B) :
    ∃ o, fX8_waysInto w (pu_I b) = some o ∧ ∀ d, pv_bt o d = true ↔ (d < B ∧ pv_eg w d b) := by
  have h120 := hw.2.2.1 (b + 1) (by omega)
  have hmo := hw.2.1 b hb
  obtain ⟨o, e1, e2⟩ := pv_for (G := fun k x (v : Int64) => fX8_waysInto_L5 w (pu_I b) k v x) (hi := wb (b + 1) - wb b)
    (Inv := fun i v => ∀ d, pv_bt v d = true ↔ ∃ j, wb b ≤ j ∧ j < wb b + i ∧ w 15 j = pu_I d ∧ d < B)
    (Q := fun v => ∀ d, pv_bt v d = true ↔ ∃ j, wb b ≤ j ∧ j < wb b + (wb (b + 1) - wb b) ∧ w 15 j = pu_I d ∧ d < B)
    (fun n i v hi hI => by
      obtain ⟨p, p1, p2, p3⟩ := hw.2.2.2.1 b (wb b + i) hb (by omega) (by omega)
      have hform : fX8_waysInto_L5 w (pu_I b) (n + 1) v (pu_I i) = fX8_waysInto_L5 w (pu_I b) n (v ||| ((1 : Int64) <<< ((pu_I p : Int32).toInt64 &&& 63))) (pu_I (i + 1)) := by
        show ((fX1_waysTo w (pu_I b)).bind fun (o_1 : Int32) => (if o_1 ≤ pu_I i then some v else ((fX1_wayFrom w (pu_I b) (pu_I i)).bind fun (o_4 : Int32) => ((fX8_waysInto_L5 w (pu_I b) n) (v ||| (((1 : Int64) <<< ((o_4 : Int32).toInt64 &&& 63)))) (pu_I i + 1))))) = _
        rw [pv_waysTo hB hw hb, Option.bind_some, if_neg (by rw [pu_le (by omega) (by omega)]; omega), pv_wayFrom hB hw hb (by omega), Option.bind_some, p2, pu_su]
      refine ⟨_, hform, fun d => ?_⟩
      rw [pv_bt_or, pv_bt_1 (by omega), Bool.or_eq_true, hI d, decide_eq_true_iff]
      constructor
      · rintro (⟨j, j1, j2, j3, j4⟩ | rfl)
        · exact ⟨j, j1, by omega, j3, j4⟩
        · exact ⟨wb b + i, by omega, by omega, p2, p1⟩
      · rintro ⟨j, j1, j2, j3, j4⟩
        by_cases e : j = wb b + i
        · refine Or.inr ?_
          rw [e, p2] at j3
          exact (pu_inj (by omega) (by omega) j3).symm
        · exact Or.inl ⟨j, j1, by omega, j3, j4⟩)
    (fun n v hI => ⟨v, by
      show ((fX1_waysTo w (pu_I b)).bind fun (o_1 : Int32) => (if o_1 ≤ pu_I (wb (b + 1) - wb b) then some v else _)) = _
      rw [pv_waysTo hB hw hb, Option.bind_some, if_pos (Int32.le_refl _)], hI⟩)
    (wb (b + 1) - wb b) 0 NF 0 (by omega) (by have := pv_NF; omega)
    (fun d => by
      rw [pv_bt_0]
      exact ⟨fun h => (by cases h), fun ⟨j, j1, j2, _⟩ => (by omega)⟩)
  have e1 : fX8_waysInto_L5 w (pu_I b) NF 0 0 = some o := e1
  refine ⟨o, by unfold fX8_waysInto; rw [e1, Option.bind_some], fun d => ?_⟩
  rw [e2 d]
  constructor
  · rintro ⟨j, j1, j2, j3, j4⟩
    obtain ⟨p, p1, p2, p3⟩ := hw.2.2.2.1 b j hb j1 (by omega)
    rw [p2] at j3
    have := pu_inj (by omega) (by omega) j3
    subst this
    exact ⟨p1, p3⟩
  · rintro ⟨h1, h2⟩
    obtain ⟨j, j1, j2, j3⟩ := hw.2.2.2.2.1 b d hb h1 h2
    exact ⟨j, j1, by omega, j3, h1⟩
/-- the ways back to a head -/
theorem pv_fl5 (hB : B ≤ 60) (hw : pv_wys B w wb) {h : Nat} (hh : h < B) (l : SL) :
    ∃ o, fX8_findLoop_L5 w l (pu_I h) NF 0 0 = some o ∧ ∀ d, pv_bt o d = true ↔ (d < B ∧ pv_eg w d h ∧ pv_bt (l 16 d) h = true) := by
  have h120 := hw.2.2.1 (h + 1) (by omega)
  have hmo := hw.2.1 h hh
  obtain ⟨o, e1, e2⟩ := pv_for (G := fun k x (v : Int64) => fX8_findLoop_L5 w l (pu_I h) k v x) (hi := wb (h + 1) - wb h)
    (Inv := fun i v => ∀ d, pv_bt v d = true ↔ ∃ j, wb h ≤ j ∧ j < wb h + i ∧ w 15 j = pu_I d ∧ d < B ∧ pv_bt (l 16 d) h = true)
    (Q := fun v => ∀ d, pv_bt v d = true ↔ ∃ j, wb h ≤ j ∧ j < wb h + (wb (h + 1) - wb h) ∧ w 15 j = pu_I d ∧ d < B ∧ pv_bt (l 16 d) h = true)
    (fun n i v hi hI => by
      obtain ⟨p, p1, p2, p3⟩ := hw.2.2.2.1 h (wb h + i) hh (by omega) (by omega)
      have hform : fX8_findLoop_L5 w l (pu_I h) (n + 1) v (pu_I i) = (if pv_b (pv_bt (l 16 p) h) = 0 then fX8_findLoop_L5 w l (pu_I h) n v (pu_I (i + 1)) else fX8_findLoop_L5 w l (pu_I h) n (v ||| ((1 : Int64) <<< ((pu_I p : Int32).toInt64 &&& 63))) (pu_I (i + 1))) := by
        show ((fX1_waysTo w (pu_I h)).bind fun (o_1 : Int32) => (if o_1 ≤ pu_I i then some v else ((fX1_wayFrom w (pu_I h) (pu_I i)).bind fun (o_4 : Int32) => (if ixb o_4 60 = true then ((fX11_holds (l 16 (nn o_4)) (pu_I h)).bind fun (o_7 : Int32) => (if o_7 = 0 then (fX8_findLoop_J45 (fX8_findLoop_L5 w l (pu_I h) n) (pu_I i) v) else (fX8_findLoop_J45 (fX8_findLoop_L5 w l (pu_I h) n) (pu_I i) (v ||| (((1 : Int64) <<< ((o_4 : Int32).toInt64 &&& 63))))))) else none)))) = _
        unfold fX8_findLoop_J45
        rw [pv_waysTo hB hw hh, Option.bind_some, if_neg (by rw [pu_le (by omega) (by omega)]; omega), pv_wayFrom hB hw hh (by omega), Option.bind_some, p2, if_pos ((pu_ix (by omega)).mpr (by omega)), pu_nn (by omega), pv_holds (by omega), Option.bind_some, pu_su]
      rw [hform]
      cases hb : pv_bt (l 16 p) h with
      | false =>
        rw [if_pos (by decide)]
        refine ⟨v, rfl, fun d => ?_⟩
        rw [hI d]
        constructor
        · rintro ⟨j, j1, j2, j3, j4⟩
          exact ⟨j, j1, by omega, j3, j4⟩
        · rintro ⟨j, j1, j2, j3, j4, j5⟩
          refine ⟨j, j1, ?_, j3, j4, j5⟩
          by_cases e : j = wb h + i
          · exfalso
            rw [e, p2] at j3
            have := pu_inj (by omega) (by omega) j3
            subst this
            rw [hb] at j5
            cases j5
          · omega
      | true =>
        rw [if_neg (by decide)]
        refine ⟨_, rfl, fun d => ?_⟩
        rw [pv_bt_or, pv_bt_1 (by omega), Bool.or_eq_true, hI d, decide_eq_true_iff]
        constructor
        · rintro (⟨j, j1, j2, j3, j4⟩ | rfl)
          · exact ⟨j, j1, by omega, j3, j4⟩
          · exact ⟨wb h + i, by omega, by omega, p2, p1, hb⟩
        · rintro ⟨j, j1, j2, j3, j4, j5⟩
          by_cases e : j = wb h + i
          · refine Or.inr ?_
            rw [e, p2] at j3
            exact (pu_inj (by omega) (by omega) j3).symm
          · exact Or.inl ⟨j, j1, by omega, j3, j4, j5⟩)
    (fun n v hI => ⟨v, by
      show ((fX1_waysTo w (pu_I h)).bind fun (o_1 : Int32) => (if o_1 ≤ pu_I (wb (h + 1) - wb h) then some v else _)) = _
      rw [pv_waysTo hB hw hh, Option.bind_some, if_pos (Int32.le_refl _)], hI⟩)
    (wb (h + 1) - wb h) 0 NF 0 (by omega) (by have := pv_NF; omega)
    (fun d => by
      rw [pv_bt_0]
      exact ⟨fun h => (by cases h), fun ⟨j, j1, j2, _⟩ => (by omega)⟩)
  refine ⟨o, e1, fun d => ?_⟩
  rw [e2 d]
  constructor
  · rintro ⟨j, j1, j2, j3, j4, j5⟩
    obtain ⟨p, p1, p2, p3⟩ := hw.2.2.2.1 h j hh j1 (by omega)
    rw [p2] at j3
    have := pu_inj (by omega) (by omega) j3
    subst this
    exact ⟨p1, p3, j5⟩
  · rintro ⟨h1, h2, h3⟩
    obtain ⟨j, j1, j2, j3⟩ := hw.2.2.2.2.1 h d hh h1 h2
    exact ⟨j, j1, by omega, j3, h1, h3⟩
/-- one round: all that leads to members joins -/
theorem pv_fl94 (hB : B ≤ 60) (hw : pv_wys B w wb) {h : Nat} (hh : h < B) {Ok : Nat → Prop} (hOk : ∀ c p, Ok c → c ≠ h → p < B → pv_eg w p c → Ok p) {m0 : Int64} (hm0 : ∀ d, pv_bt m0 d = true → d < B ∧ Ok d) :
    ∀ (k n : Nat) (m : Int64), k ≤ B → k < n → (∀ d, pv_bt m0 d = true → pv_bt m d = true) → (∀ d, pv_bt m d = true → d < B ∧ Ok d) → (m = m0 → ∀ b, k ≤ b → b < B → b ≠ h → pv_bt m0 b = true → ∀ p, p < B → pv_eg w p b → pv_bt m0 p = true) →
      ∃ m', fX8_findLoop_L94 w (pu_I h) n m (pu_I k + (-1)) = some m' ∧ (∀ d, pv_bt m0 d = true → pv_bt m' d = true) ∧ (∀ d, pv_bt m' d = true → d < B ∧ Ok d) ∧ (m' = m0 → ∀ b, b < B → b ≠ h → pv_bt m0 b = true → ∀ p, p < B → pv_eg w p b → pv_bt m0 p = true) := by
  intro k
  induction k with
  | zero =>
    intro n m _ hn h1 h2 h3
    obtain ⟨n', rfl⟩ : ∃ n', n = n' + 1 := ⟨n - 1, by omega⟩
    exact ⟨m, rfl, h1, h2, fun e b hb => h3 e b (Nat.zero_le _) hb⟩
  | succ k ih =>
    intro n m hk hn h1 h2 h3
    obtain ⟨n', rfl⟩ : ∃ n', n = n' + 1 := ⟨n - 1, by omega⟩
    have hm1 : pu_I (k + 1) + (-1) = pu_I k := by
      rw [← pu_su, Int32.add_assoc]
      show pu_I k + 0 = _
      exact Int32.add_zero _
    obtain ⟨o, o1, o2⟩ := pv_waysInto hB hw (b := k) (by omega)
    have hform : fX8_findLoop_L94 w (pu_I h) (n' + 1) m (pu_I k) = (if k = h then fX8_findLoop_L94 w (pu_I h) n' m (pu_I k + (-1)) else (if pv_b (pv_bt m k) = 0 then fX8_findLoop_L94 w (pu_I h) n' m (pu_I k + (-1)) else fX8_findLoop_L94 w (pu_I h) n' (m ||| o) (pu_I k + (-1)))) := by
      show (if pu_I k < 0 then some m else (if pu_I k = pu_I h then (fX8_findLoop_J123 (fX8_findLoop_L94 w (pu_I h) n') (pu_I k) m) else ((fX11_holds m (pu_I k)).bind fun (o_15 : Int32) => (if o_15 = 0 then (fX8_findLoop_J123 (fX8_findLoop_L94 w (pu_I h) n') (pu_I k) m) else ((fX8_waysInto w (pu_I k)).bind fun (o_18 : Int64) => (fX8_findLoop_J123 (fX8_findLoop_L94 w (pu_I h) n') (pu_I k) (m ||| o_18))))))) = _
      unfold fX8_findLoop_J123
      rw [if_neg (pu_ge (by omega)), pv_holds (by omega), Option.bind_some, o1]
      by_cases e : k = h
      · rw [if_pos e, if_pos (by rw [e])]
      · rw [if_neg e, if_neg fun c => e (pu_inj (by omega) (by omega) c), Option.bind_some]
    rw [hm1, hform]
    by_cases e : k = h
    · rw [if_pos e]
      refine ih n' m (by omega) (by omega) h1 h2 fun em b kb hb hbh => ?_
      exact h3 em b (by omega) hb hbh
    · rw [if_neg e]
      cases hb : pv_bt m k with
      | false =>
        rw [if_pos (by decide)]
        refine ih n' m (by omega) (by omega) h1 h2 fun em b kb hbB hbh hbit => ?_
        by_cases e2 : b = k
        · exfalso
          rw [e2, ← em, hb] at hbit
          cases hbit
        · exact h3 em b (by omega) hbB hbh hbit
      | true =>
        rw [if_neg (by decide)]
        refine ih n' (m ||| o) (by omega) (by omega) (fun d hd => by rw [pv_bt_or, h1 d hd]; rfl) (fun d hd => ?_) (fun em b kb hbB hbh hbit p hp he => ?_)
        · rw [pv_bt_or, Bool.or_eq_true] at hd
          rcases hd with hd | hd
          · exact h2 d hd
          · obtain ⟨q1, q2⟩ := (o2 d).mp hd
            exact ⟨q1, hOk k d (h2 k hb).2 e q1 q2⟩
        · have emm : m = m0 := by
            refine pv_bt_ext fun d _ => ?_
            cases hb1 : pv_bt m0 d with
            | true => exact h1 d hb1
            | false =>
              cases hb2 : pv_bt m d with
              | false => rfl
              | true =>
                rw [← em, pv_bt_or, hb2] at hb1
                cases hb1
          by_cases e2 : b = k
          · rw [← em, pv_bt_or]
            rw [e2] at he
            rw [(o2 p).mpr ⟨hp, he⟩, Bool.or_true]
          · exact h3 emm b (by omega) hbB hbh hbit p hp he
/-- rounds until nothing joins -/
theorem pv_fl71 (hB0 : 0 < B) (hB : B ≤ 60) (hw0 : w 0 0 = pu_I B) (hw : pv_wys B w wb) {h : Nat} (hh : h < B) {Ok : Nat → Prop} (hOk : ∀ c p, Ok c → c ≠ h → p < B → pv_eg w p c → Ok p) :
    ∀ (r n k : Nat) (f : Int32) (m : Int64), n + r = B → r < k → (∀ d, pv_bt m d = true → d < B ∧ Ok d) → (f ≠ 0 → n + 1 ≤ ((List.range B).filter (fun c => pv_bt m c)).length) → (f = 0 → ∀ b, b < B → b ≠ h → pv_bt m b = true → ∀ p, p < B → pv_eg w p b → pv_bt m p = true) →
      ∃ m', fX8_findLoop_L71 w (pu_I h) k m f (pu_I n) = some m' ∧ (∀ d, pv_bt m d = true → pv_bt m' d = true) ∧ (∀ d, pv_bt m' d = true → d < B ∧ Ok d) ∧ (∀ b, b < B → b ≠ h → pv_bt m' b = true → ∀ p, p < B → pv_eg w p b → pv_bt m' p = true) := by
  intro r
  induction r with
  | zero =>
    intro n k f m hn hk h2 hc h0
    obtain ⟨k', rfl⟩ : ∃ k', k = k' + 1 := ⟨k - 1, by omega⟩
    by_cases hf : f = 0
    · refine ⟨m, ?_, fun d hd => hd, h2, h0 hf⟩
      show (if f = 0 then some m else _) = _
      rw [if_pos hf]
    · exfalso
      have h9 := hc hf
      have h8 := List.length_filter_le (fun c => pv_bt m c) (List.range B)
      rw [List.length_range] at h8
      omega
  | succ r ih =>
    intro n k f m hn hk h2 hc h0
    obtain ⟨k', rfl⟩ : ∃ k', k = k' + 1 := ⟨k - 1, by omega⟩
    by_cases hf : f = 0
    · refine ⟨m, ?_, fun d hd => hd, h2, h0 hf⟩
      show (if f = 0 then some m else _) = _
      rw [if_pos hf]
    · have h9 := hc hf
      obtain ⟨m1, e1, e2, e3, e4⟩ := pv_fl94 hB hw hh hOk h2 B NF m (Nat.le_refl _) (by have := pv_NF; omega) (fun d hd => hd) h2 (fun _ b hb1 hb2 => by omega)
      have hsub : (w 0 0) - 1 = pu_I B + (-1) := by rw [hw0]; exact Int32.sub_eq_add_neg _ _
      have hlt : m1 ≠ m → ((List.range B).filter (fun c => pv_bt m c)).length < ((List.range B).filter (fun c => pv_bt m1 c)).length := by
        intro hne
        obtain ⟨d, hd⟩ : ∃ d, ¬ (d < 64 → pv_bt m1 d = pv_bt m d) := Classical.not_forall.mp fun hall => hne (pv_bt_ext hall)
        obtain ⟨hd64, hd⟩ := Classical.not_imp.mp hd
        have hb : pv_bt m1 d = true ∧ pv_bt m d = false := by
          cases hb1 : pv_bt m d with
          | true => rw [hb1, e2 d hb1] at hd; exact absurd rfl hd
          | false =>
            cases hb2 : pv_bt m1 d with
            | true => exact ⟨rfl, rfl⟩
            | false => rw [hb1, hb2] at hd; exact absurd rfl hd
        exact pv_flt_lt _ (fun x _ hx => e2 x hx) ⟨d, List.mem_range.mpr (e3 d hb.1).1, hb.1, hb.2⟩
      have hform : fX8_findLoop_L71 w (pu_I h) (k' + 1) m f (pu_I n) = (if lg_cmp m1 m = 0 then fX8_findLoop_L71 w (pu_I h) k' m1 0 (pu_I (n + 1)) else fX8_findLoop_L71 w (pu_I h) k' m1 1 (pu_I (n + 1))) := by
        show (if f = 0 then some m else (if 60 < pu_I n then some m else ((fX8_findLoop_L94 w (pu_I h) NF m ((w 0 0) - 1)).bind fun (o94 : Int64) => (if (lg_cmp o94 m) = 0 then (fX8_findLoop_J141 (fX8_findLoop_L71 w (pu_I h) k') (pu_I n) o94 0) else (fX8_findLoop_J141 (fX8_findLoop_L71 w (pu_I h) k') (pu_I n) o94 1))))) = _
        unfold fX8_findLoop_J141
        rw [if_neg hf, if_neg (by rw [show (60 : Int32) = pu_I 60 from rfl, pu_lt (by decide) (by omega)]; omega), hsub, e1, Option.bind_some, pu_su]
      rw [hform]
      by_cases hm : m1 = m
      · rw [if_pos ((pv_cmp0 _ _).mpr hm)]
        obtain ⟨m', q1, q2, q3, q4⟩ := ih (n + 1) k' 0 m1 (by omega) (by omega) e3 (fun h => absurd rfl h) (fun _ => by rw [hm]; exact e4 hm)
        exact ⟨m', q1, fun d hd => q2 d (e2 d hd), q3, q4⟩
      · rw [if_neg fun c => hm ((pv_cmp0 _ _).mp c)]
        have := hlt hm
        obtain ⟨m', q1, q2, q3, q4⟩ := ih (n + 1) k' 1 m1 (by omega) (by omega) e3 (fun _ => by omega) (fun h => absurd h (by decide))
        exact ⟨m', q1, fun d hd => q2 d (e2 d hd), q3, q4⟩
def pv_lpo (B : Nat) (w : ST) (l : SL) (h : Nat) (x : Int64) : Prop := x ≠ 0 → pv_bt x h = true ∧ (∀ c, pv_bt x c = true → c < B ∧ pv_bt (l 16 c) h = true) ∧ (∀ c p, pv_bt x c = true → c ≠ h → p < B → pv_eg w p c → pv_bt x p = true) ∧ (∀ p, p < B → pv_eg w p h → pv_bt (l 16 p) h = true → pv_bt x p = true)
theorem pv_findLoop (hB0 : 0 < B) (hB : B ≤ 60) (hw0 : w 0 0 = pu_I B) (hw : pv_wys B w wb) {l : SL} (hd : pv_di B w l) (hst : ∀ d, d < B → pv_st9 B w l d) {h : Nat} (hh : h < B) :
    ∃ o, fX8_findLoop w l (pu_I h) = some o ∧ pv_lpo B w l h o := by
  obtain ⟨m, e1, e2⟩ := pv_fl5 hB hw hh l
  unfold fX8_findLoop
  rw [e1, Option.bind_some]
  by_cases hm : m = 0
  · rw [if_pos ((pv_cmp0 _ _).mpr hm)]
    exact ⟨0, rfl, fun c => absurd rfl c⟩
  · rw [if_neg fun c => hm ((pv_cmp0 _ _).mp c)]
    have hOk : ∀ c p, pv_bt (l 16 c) h = true ∧ c < B → c ≠ h → p < B → pv_eg w p c → pv_bt (l 16 p) h = true ∧ p < B := by
      intro c p hc hch hp he
      refine ⟨?_, hp⟩
      by_cases hc0 : c = 0
      · subst hc0
        have := (hd.1 h).mp hc.1
        exact absurd this.symm hch
      · rcases hst h hh c hc.2 hc0 hc.1 with h9 | h9
        · exact absurd h9.symm hch
        · exact h9.2 p hp he
    have hh1 : ∀ d, pv_bt (m ||| ((1 : Int64) <<< ((pu_I h : Int32).toInt64 &&& 63))) d = true ↔ (pv_bt m d = true ∨ d = h) := fun d => by
      rw [pv_bt_or, pv_bt_1 (by omega), Bool.or_eq_true, decide_eq_true_iff]
    have hself := pv_di_self hd hh
    obtain ⟨m', q1, q2, q3, q4⟩ := pv_fl71 hB0 hB hw0 hw hh (Ok := fun c => pv_bt (l 16 c) h = true ∧ c < B) (fun c p => hOk c p) B 0 NF 1 (m ||| ((1 : Int64) <<< ((pu_I h : Int32).toInt64 &&& 63))) (by omega) (by have := pv_NF; omega)
      (fun d hd9 => by
        rcases (hh1 d).mp hd9 with h9 | rfl
        · obtain ⟨a1, a2, a3⟩ := (e2 d).mp h9
          exact ⟨a1, a3, a1⟩
        · exact ⟨hh, hself, hh⟩)
      (fun _ => by
        have hmem : h ∈ (List.range B).filter (fun c => pv_bt (m ||| ((1 : Int64) <<< ((pu_I h : Int32).toInt64 &&& 63))) c) := List.mem_filter.mpr ⟨List.mem_range.mpr hh, (hh1 h).mpr (Or.inr rfl)⟩
        have := List.length_pos_of_mem hmem
        omega)
      (fun h => absurd h (by decide))
    have q1 : fX8_findLoop_L71 w (pu_I h) NF (m ||| ((1 : Int64) <<< ((pu_I h : Int32).toInt64 &&& 63))) 1 0 = some m' := q1
    rw [q1, Option.bind_some]
    refine ⟨m', rfl, fun _ => ⟨q2 h ((hh1 h).mpr (Or.inr rfl)), fun c hc => ⟨(q3 c hc).1, (q3 c hc).2.1⟩, fun c p hc hch hp he => q4 c (q3 c hc).1 hch hc p hp he, fun p hp he hb => q2 p ((hh1 p).mpr (Or.inl ((e2 p).mpr ⟨hp, he, hb⟩)))⟩⟩
theorem pv_me41 (hB : B ≤ 60) (hw0 : w 0 0 = pu_I B) {b : Nat} (hb : b < B) (l : SL) :
    ∃ w', fX8_measure_L41 (pu_I b) l NF 0 w = some w' ∧ ∀ r, r ≠ 13 → w' r = w r := by
  refine pv_for (G := fun k x (t : ST) => fX8_measure_L41 (pu_I b) l k x t) (hi := B) (Inv := fun _ t => ∀ r, r ≠ 13 → t r = w r) (Q := fun t => ∀ r, r ≠ 13 → t r = w r)
    (fun n k t hk hI => ?_) (fun n t hI => ⟨t, ?_, hI⟩) B 0 NF w (by omega) (by have := pv_NF; omega) (fun r _ => rfl)
  · have h60 : ixb (pu_I k) 60 = true := (pu_ix (by omega)).mpr (by omega)
    have hb60 : ixb (pu_I b) 60 = true := (pu_ix (by omega)).mpr (by omega)
    have hform : fX8_measure_L41 (pu_I b) l (n + 1) (pu_I k) t = fX8_measure_L41 (pu_I b) l n (pu_I (k + 1)) (upw t 13 k (t 13 k + (if pv_b (pv_bt (l 17 b) k) = 0 then 0 else 1))) := by
      show (if (t 0 0) ≤ pu_I k then some t else (if ixb (pu_I k) 60 = true then (if ixb (pu_I b) 60 = true then ((fX11_holds (l 17 (nn (pu_I b))) (pu_I k)).bind fun (o_12 : Int32) => (if o_12 = 0 then (fX8_measure_J74 (fX8_measure_L41 (pu_I b) l n) (pu_I k) t 0 (t 13 (nn (pu_I k))) (pu_I k)) else (fX8_measure_J74 (fX8_measure_L41 (pu_I b) l n) (pu_I k) t 1 (t 13 (nn (pu_I k))) (pu_I k)))) else none) else none)) = _
      unfold fX8_measure_J74
      rw [hI 0 (by decide), hw0, if_neg (by rw [pu_le (by omega) (by omega)]; omega), if_pos h60, if_pos hb60, pu_nn (show b < 2147483648 by omega), pv_holds (by omega), Option.bind_some, pu_nn (show k < 2147483648 by omega), pu_su]
      simp only [lt9, if_pos h60]
      by_cases h0 : pv_b (pv_bt (l 17 b) k) = 0
      · rw [if_pos h0, if_pos h0]
      · rw [if_neg h0, if_neg h0]
    exact ⟨_, hform, fun r hr => by rw [pv_upw_n hr, hI r hr]⟩
  · show (if (t 0 0) ≤ pu_I B then some t else _) = _
    rw [hI 0 (by decide), hw0, if_pos (Int32.le_refl _)]
theorem pv_di_e {w w' : ST} {l l' : SL} (h10 : w' 10 = w 10) (h11 : w' 11 = w 11) (h16 : l' 16 = l 16) (hd : pv_di B w l) : pv_di B w' l' := by
  unfold pv_di pv_nb pv_eg
  rw [h10, h11, h16]
  exact hd
theorem pv_st9_e {w w' : ST} {l l' : SL} (h10 : w' 10 = w 10) (h11 : w' 11 = w 11) (h16 : l' 16 = l 16) {d : Nat} (hd : pv_st9 B w l d) : pv_st9 B w' l' d := by
  unfold pv_st9 pv_nb pv_eg
  rw [h10, h11, h16]
  exact hd
theorem pv_lpo_e {w w' : ST} {l l' : SL} (h10 : w' 10 = w 10) (h11 : w' 11 = w 11) (h16 : l' 16 = l 16) {h : Nat} {x : Int64} (hd : pv_lpo B w l h x) : pv_lpo B w' l' h x := by
  unfold pv_lpo pv_eg
  rw [h10, h11, h16]
  exact hd
theorem pv_wys_e {w w' : ST} (h10 : w' 10 = w 10) (h11 : w' 11 = w 11) (h14 : w' 14 = w 14) (h15 : w' 15 = w 15) (hw : pv_wys B w wb) : pv_wys B w' wb := by
  unfold pv_wys
  rw [h10, h11, h14, h15]
  exact hw
theorem pv_measure (hB0 : 0 < B) (hB : B ≤ 60) (hw0 : w 0 0 = pu_I B) (l : SL) :
    ∃ w' l', fX8_measure w l = some (w', l') ∧ (∀ r, r ≠ 12 → r ≠ 13 → r ≠ 14 → r ≠ 15 → w' r = w r) ∧ (∀ r, r ≠ 16 → r ≠ 17 → l' r = l r) ∧ pv_wys B w' (pv_wb B w) ∧ pv_di B w' l' ∧ (∀ d, d < B → pv_st9 B w' l' d) ∧
      (∀ b, b < B → (w' 12 b = -1 ∧ ∀ e, e < b → pv_bt (l' 16 b) e = false) ∨ ∃ d, d < b ∧ w' 12 b = pu_I d ∧ pv_bt (l' 16 b) d = true ∧ ∀ e, d < e → e < b → pv_bt (l' 16 b) e = false) ∧ (∀ h, h < B → pv_lpo B w' l' h (l' 17 h)) := by
  obtain ⟨w1, a1, a2, a3⟩ := pv_findWays hB0 hB hw0
  have hw01 : w1 0 0 = pu_I B := by rw [a2 0 (by decide) (by decide)]; exact hw0
  obtain ⟨w2, l2, b1, b2, b3, b4, b5, b6⟩ := pv_findDominators hB0 hB hw01 a3 l
  obtain ⟨f, c1, c2⟩ := pv_fill (n := 60) (f := w2 13) (v := 0) (by decide)
  have hd2 : pv_di B (srw w2 13 f) l2 := pv_di_e (by rw [pv_srw_n (by decide), b2 10 (by decide)]) (by rw [pv_srw_n (by decide), b2 11 (by decide)]) rfl b4
  have hw2 : pv_wys B (srw w2 13 f) (pv_wb B w) := pv_wys_e (by rw [pv_srw_n (by decide), b2 10 (by decide)]) (by rw [pv_srw_n (by decide), b2 11 (by decide)]) (by rw [pv_srw_n (by decide), b2 14 (by decide)]) (by rw [pv_srw_n (by decide), b2 15 (by decide)]) a3
  have hst2 : ∀ d, d < B → pv_st9 B (srw w2 13 f) l2 d := fun d hd => pv_st9_e (by rw [pv_srw_n (by decide), b2 10 (by decide)]) (by rw [pv_srw_n (by decide), b2 11 (by decide)]) rfl (b5 d hd)
  have hw02 : srw w2 13 f 0 0 = pu_I B := by rw [pv_srw_n (by decide), b2 0 (by decide)]; exact hw01
  obtain ⟨t, e1, e2, e3, e4⟩ := pv_for (G := fun k x (t : ST × SL) => fX8_measure_L20 k x t.1 t.2) (hi := B)
    (Inv := fun k (t : ST × SL) => (∀ r, r ≠ 13 → t.1 r = srw w2 13 f r) ∧ (∀ r, r ≠ 17 → t.2 r = l2 r) ∧ ∀ h, h < k → pv_lpo B (srw w2 13 f) l2 h (t.2 17 h))
    (Q := fun t : ST × SL => (∀ r, r ≠ 13 → t.1 r = srw w2 13 f r) ∧ (∀ r, r ≠ 17 → t.2 r = l2 r) ∧ ∀ h, h < B → pv_lpo B (srw w2 13 f) l2 h (t.2 17 h))
    (fun n k t hk hI => by
      obtain ⟨i1, i2, i3⟩ := hI
      have h60 : ixb (pu_I k) 60 = true := (pu_ix (by omega)).mpr (by omega)
      have r10 : t.1 10 = srw w2 13 f 10 := i1 10 (by decide)
      have r11 : t.1 11 = srw w2 13 f 11 := i1 11 (by decide)
      have r16 : t.2 16 = l2 16 := i2 16 (by decide)
      have hw0t : t.1 0 0 = pu_I B := by rw [i1 0 (by decide)]; exact hw02
      obtain ⟨o, o1, o2⟩ := pv_findLoop (w := t.1) (l := t.2) hB0 hB hw0t (pv_wys_e r10 r11 (i1 14 (by decide)) (i1 15 (by decide)) hw2) (pv_di_e r10 r11 r16 hd2) (fun d hd => pv_st9_e r10 r11 r16 (hst2 d hd)) hk
      obtain ⟨w3, m1, m2⟩ := pv_me41 (w := t.1) hB hw0t hk (upl t.2 17 k o)
      refine ⟨(w3, upl t.2 17 k o), ?_, fun r hr => (m2 r hr).trans (i1 r hr), fun r hr => (pv_upl_n hr).trans (i2 r hr), fun h hh => ?_⟩
      · show (if (t.1 0 0) ≤ pu_I k then some (t.1, t.2) else ((fX8_findLoop t.1 t.2 (pu_I k)).bind fun (o_5 : Int64) => (if ixb (pu_I k) 60 = true then (lt9 (upl t.2 17 (nn (pu_I k)) o_5) fun (l8 : SL) => ((fX8_measure_L41 (pu_I k) l8 NF 0 t.1).bind fun (o41 : ST) => ((fX8_measure_L20 n) (pu_I k + 1) o41 l8))) else none))) = _
        rw [hw0t, if_neg (by rw [pu_le (by omega) (by omega)]; omega), o1, Option.bind_some, if_pos h60, pu_nn (by omega)]
        simp only [lt9]
        rw [m1, Option.bind_some, pu_su]
      · show pv_lpo B (srw w2 13 f) l2 h (upl t.2 17 k o 17 h)
        rw [pv_upl]
        by_cases e : h = k
        · rw [if_pos ⟨rfl, e⟩, e]
          exact pv_lpo_e r10.symm r11.symm r16.symm o2
        · rw [if_neg fun q => e q.2]
          exact i3 h (by omega))
    (fun n t hI => ⟨t, by
      show (if (t.1 0 0) ≤ pu_I B then some (t.1, t.2) else _) = _
      rw [hI.1 0 (by decide), hw02, if_pos (Int32.le_refl _)], hI⟩)
    B 0 NF (srw w2 13 f, l2) (by omega) (by have := pv_NF; omega) ⟨fun r _ => rfl, fun r _ => rfl, fun h hh => by omega⟩
  have e1 : fX8_measure_L20 NF 0 (srw w2 13 f) l2 = some t := e1
  have q10 : t.1 10 = srw w2 13 f 10 := e2 10 (by decide)
  have q11 : t.1 11 = srw w2 13 f 11 := e2 11 (by decide)
  have q16 : t.2 16 = l2 16 := e3 16 (by decide)
  refine ⟨t.1, t.2, ?_, fun r r12 r13 r14 r15 => by rw [e2 r r13, pv_srw_n r13, b2 r r12, a2 r r14 r15], fun r r16 r17 => by rw [e3 r r17, b3 r r16], pv_wys_e q10 q11 (e2 14 (by decide)) (e2 15 (by decide)) hw2, pv_di_e q10 q11 q16 hd2, fun d hd => pv_st9_e q10 q11 q16 (hst2 d hd), fun b hb => ?_, fun h hh => pv_lpo_e q10 q11 q16 (e4 h hh)⟩
  · unfold fX8_measure
    rw [a1, Option.bind_some, b1, Option.bind_some, c1, Option.bind_some, e1, Option.bind_some]
  · rw [e2 12 (by decide), pv_srw_n (by decide), q16]
    exact b6 b hb
end LO
