/-! pure side, the maker 23: all blocks are filled -/
def pt_ln (fo ot : Nat → Nat) : Nat → Nat
  | 0 => 0
  | b + 1 => pt_ln fo ot b + (ot b - fo b)
theorem pt_ln_le {fo ot : Nat → Nat} {i j : Nat} (h : i ≤ j) : pt_ln fo ot i ≤ pt_ln fo ot j := by
  induction j with
  | zero => rw [show i = 0 by omega]; exact Nat.le_refl _
  | succ j ih =>
    by_cases e : i = j + 1
    · rw [e]; exact Nat.le_refl _
    · exact Nat.le_trans (ih (by omega)) (Nat.le_add_right _ _)
/-- an operand: of an op ahead in the block, or of a block with a smaller number -/
def pt_og (fo ot : Nat → Nat) (x j : Nat) (z : Int32) : Prop := z < 0 ∨ ∃ k y, k < 3200 ∧ z = pu_I k ∧ y ≤ x ∧ fo y ≤ k ∧ k < ot y ∧ (y = x → k < j)
section FA
variable {P w fw fw2 w' fw' : ST} {n n2 : Nat → Nat} {B R0 m f Vn : Nat} {ph : Nat → List Nat} {fo ot dm : Nat → Nat}
theorem pt_og_od (hod : ∀ b c i, b < B → c < B → fo b ≤ i → i < ot b → fo c ≤ i → i < ot c → b = c) {x j : Nat} (hx : x < B) (hj : fo x ≤ j) {z : Int32} (h : pt_og fo ot x j z) : pt_od z j (ot x) := by
  rcases h with h | ⟨k, y, k1, k2, k3, k4, k5, k6⟩
  · exact Or.inl h
  · refine Or.inr ⟨k, k1, k2, fun h => ?_⟩
    have := k6 (hod y x k (by omega) hx k4 k5 (by omega) h.2)
    omega
theorem pt_bf_e {x b : Nat} {S ro : Nat → Int32} (hxb : x < b) (h2 : w' 2 = w 2) (h19 : w' 19 = w 19) (hf19 : fw' 19 = fw 19) (h9 : fw' 9 x = fw 9 x) (h20 : ∀ z, z / 320 ≠ b → w' 20 z = w 20 z) (hvs : pt_vs (w 2) ro (w 4) (w' 4) (fo x) (ot x)) (hdm : x ≠ 0 → dm x < x) (hVn : Vn ≤ 320) (h : pt_bf P w fw Vn fo ot dm ph x S) : pt_bf P w' fw' Vn fo ot dm ph x S := by
  obtain ⟨p1, p2, p3, p4, p5⟩ := h
  refine ⟨fun a ha => ?_, fun u hu hno => ?_, fun v hv => ?_, fun j j1 j2 j3 => ?_, ?_⟩
  · rw [h19, hf19]; exact p1 a ha
  · rw [h19] at hno
    rw [p2 u hu hno]
    by_cases h0 : x = 0
    · rw [if_pos h0, if_pos h0]
    · have := hdm h0
      rw [if_neg h0, if_neg h0, h20 _ (by omega)]
  · rw [h20 _ (by omega), h2, pt_nw_e (ot x) hvs]
    exact p3 v hv
  · rw [h2, pt_nw_e j (pt_vs_lt hvs (by omega)), (hvs j j1 j2).1]
    exact p4 j j1 j2 j3
  · rw [h9, h2, pt_ev_e (ot x) hvs]
    exact p5
theorem pv_makeL116 {t73 : ST × ST × (Nat → Nat) × (Nat → Nat)} (ht : t73.2.2.1 = n) (hf : f < 6) (h5 : P 5 f = pu_I Vn) (hVn : Vn ≤ 320) (hw0 : fw 0 0 = pu_I B) (hdm : ∀ b, b < B → b ≠ 0 → fw 12 b = pu_I (dm b) ∧ dm b < b) (hR : pt_rm n m) (hm : m ≤ 250) (hph : pv_phc B fw ph) (hd : pv_dis B m ph)
    (hva : ∀ b, b < B → ∀ a, a ∈ ph b → ∃ u, u < 320 ∧ w 19 a = pu_I u) (hvi : ∀ b, b < B → ∀ a a', a ∈ ph b → a' ∈ ph b → w 19 a = w 19 a' → a = a') (hos : pt_os w B fo ot) (hod : ∀ b c i, b < B → c < B → fo b ≤ i → i < ot b → fo c ≤ i → i < ot c → b = c) (hB : B ≤ 60)
    (hvar : ∀ b, b < B → ∀ i, fo b ≤ i → i < ot b → (P 9 i = 30 ∨ P 9 i = 31 ∨ P 9 i = 32 ∨ P 9 i = 21) → ∃ u, u < 320 ∧ P 10 i = pu_I u) (hog : ∀ x j, x < B → fo x ≤ j → j < ot x → pt_og fo ot x j (w 2 j) ∧ pt_og fo ot x j (w 3 j)) (hR0 : R0 ≤ 50000) (hN : pt_ln fo ot B ≤ 3200)
    (hc : fw2 0 0 = 0) (hsR : pv_sR n2 R0) (h4 : ∀ b, b < B → fw 4 b = -1) (h9 : ∀ b, b < B → fw 9 b = -1) :
    ∃ (w' fw' fw2' : ST) (n2' : Nat → Nat) (N' : Nat) (ch' : Nat → List Nat) (S : Nat → Nat → Int32), fX4_make_L116 P (pu_I f) t73 NF 0 w fw fw2 n2 = some (w', fw', fw2', n2') ∧ (∀ r, r ≠ 4 → r ≠ 20 → w' r = w r) ∧ (∀ j, (∀ x, x < B → ¬ (fo x ≤ j ∧ j < ot x ∧ P 9 j = 30)) → w' 4 j = w 4 j) ∧ (∀ r, r ≠ 4 → r ≠ 5 → r ≠ 9 → fw' r = fw r) ∧ pt_ss B fw' fw2' n2' R0 N' ch' ∧ N' ≤ pt_ln fo ot B ∧
      (∀ x, x < B → pt_bf P w' fw' Vn fo ot dm ph x (S x) ∧ (ch' x).map (pv_S fw2') = pt_sl P (w 2) (w 3) (w' 4) (fo x) (ot x)) ∧ (∀ i, i ≠ 0 → fw2' 0 i = fw2 0 i) ∧ (∀ r, r ≠ 0 → r ≠ 2 → r ≠ 3 → r ≠ 4 → r ≠ 5 → r ≠ 6 → fw2' r = fw2 r) ∧ pt_mx n2 n2' := by
  obtain ⟨t, e1, w', fw', fw2', n2', N', ch', S, rfl, hall⟩ := pv_for (G := fun k b (s : ST × ST × ST × (Nat → Nat)) => fX4_make_L116 P (pu_I f) t73 k b s.1 s.2.1 s.2.2.1 s.2.2.2) (hi := B)
    (Inv := fun b s => ∃ (N' : Nat) (ch' : Nat → List Nat) (S : Nat → Nat → Int32), (∀ r, r ≠ 4 → r ≠ 20 → s.1 r = w r) ∧ (∀ j, (∀ x, x < b → ¬ (fo x ≤ j ∧ j < ot x ∧ P 9 j = 30)) → s.1 4 j = w 4 j) ∧ (∀ r, r ≠ 4 → r ≠ 5 → r ≠ 9 → s.2.1 r = fw r) ∧ (∀ x, b ≤ x → x < B → s.2.1 9 x = -1 ∧ ch' x = []) ∧ pt_ss B s.2.1 s.2.2.1 s.2.2.2 R0 N' ch' ∧ N' ≤ pt_ln fo ot b ∧
      (∀ x, x < b → pt_bf P s.1 s.2.1 Vn fo ot dm ph x (S x) ∧ (ch' x).map (pv_S s.2.2.1) = pt_sl P (w 2) (w 3) (s.1 4) (fo x) (ot x)) ∧ (∀ i, i ≠ 0 → s.2.2.1 0 i = fw2 0 i) ∧ (∀ r, r ≠ 0 → r ≠ 2 → r ≠ 3 → r ≠ 4 → r ≠ 5 → r ≠ 6 → s.2.2.1 r = fw2 r) ∧ pt_mx n2 s.2.2.2)
    (Q := fun t => ∃ (w' fw' fw2' : ST) (n2' : Nat → Nat) (N' : Nat) (ch' : Nat → List Nat) (S : Nat → Nat → Int32), t = (w', fw', fw2', n2') ∧ (∀ r, r ≠ 4 → r ≠ 20 → w' r = w r) ∧ (∀ j, (∀ x, x < B → ¬ (fo x ≤ j ∧ j < ot x ∧ P 9 j = 30)) → w' 4 j = w 4 j) ∧ (∀ r, r ≠ 4 → r ≠ 5 → r ≠ 9 → fw' r = fw r) ∧ pt_ss B fw' fw2' n2' R0 N' ch' ∧ N' ≤ pt_ln fo ot B ∧
      (∀ x, x < B → pt_bf P w' fw' Vn fo ot dm ph x (S x) ∧ (ch' x).map (pv_S fw2') = pt_sl P (w 2) (w 3) (w' 4) (fo x) (ot x)) ∧ (∀ i, i ≠ 0 → fw2' 0 i = fw2 0 i) ∧ (∀ r, r ≠ 0 → r ≠ 2 → r ≠ 3 → r ≠ 4 → r ≠ 5 → r ≠ 6 → fw2' r = fw2 r) ∧ pt_mx n2 n2')
    (by
      rintro k b ⟨w1, f1, f2, m2⟩ hb ⟨N1, ch1, S, s1, s2, s3, s4, s5, s6, s7, s8, s9, s10⟩
      have s1 : ∀ r, r ≠ 4 → r ≠ 20 → w1 r = w r := s1
      have s2 : ∀ j, (∀ x, x < b → ¬ (fo x ≤ j ∧ j < ot x ∧ P 9 j = 30)) → w1 4 j = w 4 j := s2
      have s3 : ∀ r, r ≠ 4 → r ≠ 5 → r ≠ 9 → f1 r = fw r := s3
      have s4 : ∀ x, b ≤ x → x < B → f1 9 x = -1 ∧ ch1 x = [] := s4
      have s5 : pt_ss B f1 f2 m2 R0 N1 ch1 := s5
      have s7 : ∀ x, x < b → pt_bf P w1 f1 Vn fo ot dm ph x (S x) ∧ (ch1 x).map (pv_S f2) = pt_sl P (w 2) (w 3) (w1 4) (fo x) (ot x) := s7
      have s8 : ∀ i, i ≠ 0 → f2 0 i = fw2 0 i := s8
      have s9 : ∀ r, r ≠ 0 → r ≠ 2 → r ≠ 3 → r ≠ 4 → r ≠ 5 → r ≠ 6 → f2 r = fw2 r := s9
      have s10 : pt_mx n2 m2 := s10
      have w12 : w1 2 = w 2 := s1 2 (by decide) (by decide)
      have w13 : w1 3 = w 3 := s1 3 (by decide) (by decide)
      have w19 : w1 19 = w 19 := s1 19 (by decide) (by decide)
      have hos1 := pt_os_e (s1 7 (by decide) (by decide)) (s1 8 (by decide) (by decide)) (s1 15 (by decide) (by decide)) hos
      have hlnB := pt_ln_le (fo := fo) (ot := ot) (show b + 1 ≤ B by omega)
      have hls : pt_ln fo ot (b + 1) = pt_ln fo ot b + (ot b - fo b) := rfl
      have hph1 : pv_phc B f1 ph := by
        unfold pv_phc
        rw [s3 20 (by decide) (by decide) (by decide), s3 6 (by decide) (by decide) (by decide), s3 7 (by decide) (by decide) (by decide)]
        exact hph
      obtain ⟨w2, g1, g2, m3, N2, ch2, x, T, e0, a1, a2, a3, a4, a5, a6, a7, a8, a9, b1, b2, b3, b4⟩ := pv_fillBlock (P := P) (w := w1) (n := n) (dm := dm) hf h5 hVn (fun h0 => by rw [s3 12 (by decide) (by decide) (by decide)]; exact hdm b hb h0) hR hm hph1 hd (by rw [w19]; exact hva b hb) (by rw [w19]; exact hvi b hb) hos1 hB hb (hvar b hb) (fun i i1 i2 => by
        rw [w12, w13]
        exact ⟨pt_og_od hod hb i1 (hog b i hb i1 i2).1, pt_og_od hod hb i1 (hog b i hb i1 i2).2⟩) hR0 (by omega) s5 (s4 b (Nat.le_refl b) hb).1
      have hout : ∀ y k, y < b → fo y ≤ k → k < ot y → w2 4 k = w1 4 k := fun y k hy k1 k2 => a2 k fun h => by
        have := hod y b k (by omega) hb k1 k2 h.1 h.2.1
        omega
      have hva9 : ∀ y j z, y < b → pt_og fo ot y j z → pt_va (w2 4) z = pt_va (w1 4) z := by
        intro y j z hy h
        unfold pt_va
        rcases h with h | ⟨k, y', k1, k2, k3, k4, k5, _⟩
        · rw [if_pos h, if_pos h]
        · rw [k2, pu_nn (by omega), hout y' k (by omega) k4 k5]
      have hvs : ∀ y, y < b → pt_vs (w1 2) (w 3) (w1 4) (w2 4) (fo y) (ot y) := fun y hy j j1 j2 => by
        have h9 := hog y j (by omega) j1 j2
        rw [w12]
        exact ⟨hout y j hy j1 j2, hva9 y j _ hy h9.1, hva9 y j _ hy h9.2⟩
      refine ⟨(w2, g1, g2, m3), ?_, N2, ch2, fun y => if y = b then T else S y, fun r r4 r20 => by rw [show (w2, g1, g2, m3).1 r = w2 r from rfl, a1 r r4 r20, s1 r r4 r20], fun j hj => ?_, fun r r4 r5 r9 => by rw [show (w2, g1, g2, m3).2.1 r = g1 r from rfl, a5 r r4 r5 r9, s3 r r4 r5 r9], fun y hy hyB => ⟨?_, ?_⟩, a7, by omega, fun y hy => ?_, fun i hi => by rw [show (w2, g1, g2, m3).2.2.1 0 i = g2 0 i from rfl, a8.2.1 i hi, s8 i hi], fun r r0 r2 r3 r4 r5 r6 => by rw [show (w2, g1, g2, m3).2.2.1 r = g2 r from rfl, a8.2.2 r r0 r2 r3 r4 r5 r6, s9 r r0 r2 r3 r4 r5 r6], fun r r2 r3 r4 r5 r6 => by rw [show (w2, g1, g2, m3).2.2.2 r = m3 r from rfl, b4 r r2 r3 r4 r5 r6, s10 r r2 r3 r4 r5 r6]⟩
      · show (if (f1 0 0) ≤ pu_I b then some (w1, f1, f2, m2) else ((fX4_fillBlock w1 P (pu_I f) (t73.2.2.1) f1 (pu_I b) m2 f2).bind fun (o_28 : ST × ST × ST × (Nat → Nat)) => (fX4_make_G134_39 (fX4_make_L116 P (pu_I f) t73 k) (pu_I b) o_28))) = _
        rw [s3 0 (by decide) (by decide) (by decide), hw0, if_neg (by rw [pu_le (by omega) (by omega)]; omega), ht, e0, Option.bind_some]
        unfold fX4_make_G134_39
        rw [pu_su]
      · show w2 4 j = w 4 j
        rw [a2 j (hj b (Nat.lt_succ_self b)), s2 j fun x hx => hj x (by omega)]
      · show g1 9 y = -1
        rw [a6 y (by omega)]
        exact (s4 y (by omega) hyB).1
      · rw [b1 y (by omega)]
        exact (s4 y (by omega) hyB).2
      · show pt_bf P w2 g1 Vn fo ot dm ph y (if y = b then T else S y) ∧ (ch2 y).map (pv_S g2) = pt_sl P (w 2) (w 3) (w2 4) (fo y) (ot y)
        by_cases e : y = b
        · rw [if_pos e, e]
          refine ⟨a4, ?_⟩
          rw [b2, (s4 b (Nat.le_refl b) hb).2, List.nil_append, b3, w12, w13]
        · have hyb : y < b := by omega
          rw [if_neg e]
          obtain ⟨q1, q2⟩ := s7 y hyb
          refine ⟨pt_bf_e hyb (a1 2 (by decide) (by decide)) (a1 19 (by decide) (by decide)) (a5 19 (by decide) (by decide) (by decide)) (a6 y e) a3 (hvs y hyb) (fun h0 => (hdm y (by omega) h0).2) hVn q1, ?_⟩
          have hvs9 := hvs y hyb
          rw [w12] at hvs9
          rw [b1 y e, pt_sl_e (ot y) hvs9, ← q2]
          exact List.map_congr_left fun a ha => pt_ex_S a8 (s5.2.2.2.1 y (by omega) a ha))
    (by
      rintro k ⟨w1, f1, f2, m2⟩ ⟨N1, ch1, S, s1, s2, s3, s4, s5, s6, s7, s8, s9, s10⟩
      have s3 : ∀ r, r ≠ 4 → r ≠ 5 → r ≠ 9 → f1 r = fw r := s3
      refine ⟨(w1, f1, f2, m2), ?_, w1, f1, f2, m2, N1, ch1, S, rfl, s1, s2, s3, s5, s6, s7, s8, s9, s10⟩
      show (if (f1 0 0) ≤ pu_I B then some (w1, f1, f2, m2) else _) = _
      rw [s3 0 (by decide) (by decide) (by decide), hw0, if_pos (Int32.le_refl _)]) B 0 NF (w, fw, fw2, n2) (by omega) (by have := pv_NF; omega)
    ⟨0, fun _ => [], fun _ _ => 0, fun r _ _ => rfl, fun j _ => rfl, fun r _ _ _ => rfl, fun x _ hx => ⟨h9 x hx, rfl⟩, ⟨hc, ⟨R0, hsR, Nat.zero_le _, Or.inl rfl⟩, ⟨fun b hb => h4 b hb, fun b x a _ h => (by cases x <;> cases h)⟩, ⟨fun b _ a h => (by cases h), fun b _ => List.nodup_nil, fun b c a _ _ h => (by cases h)⟩⟩, Nat.zero_le _, fun x hx => absurd hx (Nat.not_lt_zero x), fun i _ => rfl, fun r _ _ _ _ _ _ => rfl, fun r _ _ _ _ _ => rfl⟩
  exact ⟨w', fw', fw2', n2', N', ch', S, e1, hall⟩
end FA
