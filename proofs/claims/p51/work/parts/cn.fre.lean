/-! pure side, the graph 17: a register that is free -/
theorem pg_o8 : ∀ (m : Fin 256) (q : Fin 8), Int32.ofNat m.val ||| ((1 : Int32) <<< (Int32.ofNat q.val &&& 31)) = Int32.ofNat (m.val ||| 2 ^ q.val) := by decide +kernel
theorem pg_o8b : ∀ (m : Fin 256) (q : Fin 8), m.val ||| 2 ^ q.val < 256 := by decide +kernel
theorem pg_t8 : ∀ (m : Fin 256) (r : Fin 8), (((Int32.ofNat m.val >>> (Int32.ofNat r.val &&& 31)) &&& 1) = 0 ↔ m.val.testBit r.val = false) := by decide +kernel
/-- registers as bits -/
def pg_u8 (x : Int32) (P : Nat → Prop) : Prop := ∃ m, m < 256 ∧ x = pu_I m ∧ ∀ r, r < 8 → (m.testBit r = true ↔ P r)
theorem pg_u8_or {x : Int32} {P P' : Nat → Prop} {q : Nat} (h : pg_u8 x P) (hq : q < 8) (hP : ∀ r, r < 8 → (P' r ↔ P r ∨ r = q)) : pg_u8 (x ||| ((1 : Int32) <<< (pu_I q &&& 31))) P' := by
  obtain ⟨m, h1, rfl, h2⟩ := h
  refine ⟨m ||| 2 ^ q, pg_o8b ⟨m, h1⟩ ⟨q, hq⟩, pg_o8 ⟨m, h1⟩ ⟨q, hq⟩, fun r hr => ?_⟩
  rw [Nat.testBit_or, Nat.testBit_two_pow, hP r hr, ← h2 r hr, Bool.or_eq_true, decide_eq_true_iff]
  exact or_congr Iff.rfl ⟨fun e => e.symm, fun e => e.symm⟩
theorem pg_u8_0 {x : Int32} {P P' : Nat → Prop} (h : pg_u8 x P) (hP : ∀ r, r < 8 → (P' r ↔ P r)) : pg_u8 (x ||| 0) P' := by
  obtain ⟨m, h1, rfl, h2⟩ := h
  exact ⟨m, h1, Int32.or_zero, fun r hr => (h2 r hr).trans (hP r hr).symm⟩
theorem pg_u8_cg {x : Int32} {P P' : Nat → Prop} (h : pg_u8 x P) (hP : ∀ r, r < 8 → (P' r ↔ P r)) : pg_u8 x P' := by
  obtain ⟨m, h1, rfl, h2⟩ := h
  exact ⟨m, h1, rfl, fun r hr => (h2 r hr).trans (hP r hr).symm⟩
section FRE
variable {n : Nat → Nat} {w : ST} {l : SL} {V H wd : Nat}
/-- registers that some have -/
def pg_ur (w : ST) (V : Nat) (p : Nat → Prop) (x : Int32) : Prop := pg_u8 x (fun r => ∃ u, u < V ∧ p u ∧ w 17 u = pu_I r)
theorem pg_ur_cg {p p' : Nat → Prop} {x : Int32} (h : pg_ur w V p x) (he : ∀ u, u < V → (p' u ↔ p u)) : pg_ur w V p' x :=
  pg_u8_cg h fun _ _ => ⟨fun ⟨u, h1, h2, h3⟩ => ⟨u, h1, (he u h1).mp h2, h3⟩, fun ⟨u, h1, h2, h3⟩ => ⟨u, h1, (he u h1).mpr h2, h3⟩⟩
theorem pg_registerBit (h17 : V ≤ n 17) (hV : V < 100000) {x : Nat} (hx : x < V) (hr : w 17 x = -1 ∨ ∃ q, q < 8 ∧ w 17 x = pu_I q) :
    ∃ y, fX2_registerBit n w (pu_I x) = some y ∧ ∀ (p p' : Nat → Prop) (us : Int32), pg_ur w V p us → (∀ u, u < V → (p' u ↔ p u ∨ u = x)) → pg_ur w V p' (us ||| y) := by
  have hi : ixb (pu_I x) (n 17) = true := (pu_ix (by omega)).mpr (by omega)
  rcases hr with hr | ⟨q, hq, hr⟩
  · refine ⟨0, ?_, fun p p' us h he => pg_u8_0 h fun r hr8 => ⟨fun ⟨u, h1, h2, h3⟩ => ?_, fun ⟨u, h1, h2, h3⟩ => ⟨u, h1, (he u h1).mpr (Or.inl h2), h3⟩⟩⟩
    · unfold fX2_registerBit fX2_registerBit_J21
      rw [if_pos hi, pu_nn (by omega), hr, if_neg (by decide)]
    · rcases (he u h1).mp h2 with h2 | h2
      · exact ⟨u, h1, h2, h3⟩
      · rw [h2, hr] at h3
        exact absurd h3.symm (pg_In1 (by omega))
  · refine ⟨(1 : Int32) <<< (pu_I q &&& 31), ?_, fun p p' us h he => pg_u8_or h hq fun r hr8 => ⟨fun ⟨u, h1, h2, h3⟩ => ?_, fun h9 => ?_⟩⟩
    · unfold fX2_registerBit fX2_registerBit_J21
      rw [if_pos hi, pu_nn (by omega), hr, if_pos (show (0 : Int32) ≤ pu_I q from (pu_le (a := 0) (show 0 < 2147483648 by decide) (by omega)).mpr (Nat.zero_le q)), if_pos hi]
    · rcases (he u h1).mp h2 with h2 | h2
      · exact Or.inl ⟨u, h1, h2, h3⟩
      · rw [h2, hr] at h3
        exact Or.inr (pu_inj (by omega) (by omega) h3).symm
    · rcases h9 with ⟨u, h1, h2, h3⟩ | rfl
      · exact ⟨u, h1, (he u h1).mpr (Or.inl h2), h3⟩
      · exact ⟨x, hx, (he x hx).mpr (Or.inr rfl), hr⟩
theorem pg_fr5 (hsh : pg_shp n w l H V wd) {v : Nat} (hv : v < V) (hr : ∀ u, u < V → w 17 u = -1 ∨ ∃ q, q < 8 ∧ w 17 u = pu_I q) :
    ∃ us, fX2_freeRegister_L5 n w l (pu_I v) NF 0 0 = some us ∧ pg_ur w V (fun u => u < H ∧ pg_ad w l H wd v u = true) us := by
  obtain ⟨⟨a0, a1, a2⟩, ⟨b1, b2, b3, b4⟩, ⟨c1, c2⟩, ⟨d12, d13, d14, d15, d16, d17, d18, d19⟩, hcol, hmt⟩ := hsh
  obtain ⟨t, e1, e2⟩ := pg_row (σ := Int32) (wd := wd) (G1 := fun k x (s : Int32) => fX2_freeRegister_L5 n w l (pu_I v) k s x) (G2 := fun j k x (s : Int32) => fX2_freeRegister_L30 n w (pu_I j) k s x) (word := fun j => l 11 (v * wd + j))
    (Inv := fun c (s : Int32) => pg_ur w V (fun u => u < c ∧ u < wd * 64 ∧ pg_g l 11 wd v u = true) s)
    (Q := fun (s : Int32) => pg_ur w V (fun u => u < H ∧ pg_ad w l H wd v u = true) s) b1
    (fun k j s hj hI => by
      have hlt : v * wd + j < V * wd := pg_ixlt hv hj
      show (if (w 0 2) ≤ pu_I j then some s else (if ixb ((pu_I v * (w 0 2)) + pu_I j) (n 11) = true then ((fX2_freeRegister_L30 n w (pu_I j) NF s (l 11 (nn ((pu_I v * (w 0 2)) + pu_I j)))).bind fun (o30 : Int32) => ((fX2_freeRegister_L5 n w l (pu_I v) k) o30 (pu_I j + 1))) else none)) = _
      rw [a2, if_neg (by rw [pu_le (by omega) (by omega)]; omega), pv_mul, pv_add, if_pos ((pu_ix (by omega)).mpr (by omega)), pu_nn (show v * wd + j < 2147483648 by omega), pu_su])
    (fun k s hI => ⟨s, by
      show (if (w 0 2) ≤ pu_I wd then some s else _) = _
      rw [a2, if_pos (Int32.le_refl _)], pg_ur_cg hI fun u hu => by
        unfold pg_ad
        constructor
        · rintro ⟨q1, q2⟩
          rw [if_pos q1] at q2
          exact ⟨by omega, by omega, q2⟩
        · rintro ⟨q1, q2, q3⟩
          have := hcol v u hv q2 q3
          rw [if_pos this]
          exact ⟨this, q3⟩⟩)
    (fun j k x c s hj hx hc hb hl hI => by
      have hgg : pg_g l 11 wd v (j * 64 + c) = true := by
        unfold pg_g
        rw [show (j * 64 + c) / 64 = j by omega, show (j * 64 + c) % 64 = c by omega]
        exact hb
      have hcH := hcol v (j * 64 + c) hv (by omega) hgg
      obtain ⟨y, f1, f2⟩ := pg_registerBit (n := n) d17 b2 (show j * 64 + c < V by omega) (hr _ (by omega))
      refine ⟨s ||| y, ?_, f2 _ _ s hI fun u hu => ⟨fun ⟨q1, q2, q3⟩ => ?_, fun q => ?_⟩⟩
      · show (if (lg_cmp x (0 : Int64)) = 0 then some s else ((fX11_lowest x).bind fun (o_4 : Int32) => ((fX2_registerBit n w ((pu_I j * 64) + o_4)).bind fun (o_6 : Int32) => ((fX2_freeRegister_L30 n w (pu_I j) k) (s ||| o_6) (x &&& (x - (1 : Int64))))))) = _
        rw [if_neg (fun h => hx ((pv_cmp0 _ _).mp h)), hl, Option.bind_some, show (64 : Int32) = pu_I 64 from rfl, pv_mul, pv_add, f1, Option.bind_some]
      · by_cases e : u = j * 64 + c
        · exact Or.inr e
        · exact Or.inl ⟨by omega, q2, q3⟩
      · rcases q with ⟨q1, q2, q3⟩ | rfl
        · exact ⟨by omega, q2, q3⟩
        · exact ⟨by omega, by omega, hgg⟩)
    (fun j i s hj hi hb hI => pg_ur_cg hI fun u hu => by
      refine ⟨fun ⟨q1, q2, q3⟩ => ⟨?_, q2, q3⟩, fun ⟨q1, q2, q3⟩ => ⟨by omega, q2, q3⟩⟩
      by_cases e : u = j * 64 + i
      · have hgg : pg_g l 11 wd v u = false := by
          unfold pg_g
          rw [e, show (j * 64 + i) / 64 = j by omega, show (j * 64 + i) % 64 = i by omega]
          exact hb
        rw [hgg] at q3
        cases q3
      · omega)
    (fun j k s => rfl)
    wd 0 NF 0 (by omega) (by have := pv_NF; omega) ⟨0, by decide, rfl, fun r hr => ⟨fun q => (by rw [Nat.zero_testBit] at q; cases q), fun ⟨u, h1, h2, h3⟩ => by have := h2.1; omega⟩⟩
  exact ⟨t, e1, e2⟩
theorem pg_fr150 {K : Nat} (hK : K ≤ 8) {us : Int32} {P : Nat → Prop} (h : pg_u8 us P) :
    ∀ (m i k : Nat), i + m = K → m < k → (∀ r, r < i → P r) → ∃ o, fX2_freeRegister_L150 (pu_I K) us k (pu_I i) = some o ∧ ((∃ r, r < K ∧ o = .inl (pu_I r) ∧ ¬ P r) ∨ (o = .inr () ∧ ∀ r, r < K → P r)) := by
  obtain ⟨x, h1, rfl, h2⟩ := h
  intro m
  induction m with
  | zero =>
    intro i k hi hk hP
    obtain ⟨k', rfl⟩ : ∃ k', k = k' + 1 := ⟨k - 1, by omega⟩
    obtain rfl : i = K := by omega
    refine ⟨.inr (), ?_, Or.inr ⟨rfl, hP⟩⟩
    show (if pu_I i ≤ pu_I i then some (Sum.inr ()) else _) = _
    rw [if_pos (Int32.le_refl _)]
  | succ m ih =>
    intro i k hi hk hP
    obtain ⟨k', rfl⟩ : ∃ k', k = k' + 1 := ⟨k - 1, by omega⟩
    have hgo : fX2_freeRegister_L150 (pu_I K) (pu_I x) (k' + 1) (pu_I i) = (if ((pu_I x >>> (pu_I i &&& 31)) &&& 1) = 0 then some (.inl (pu_I i)) else fX2_freeRegister_L150 (pu_I K) (pu_I x) k' (pu_I (i + 1))) := by
      show (if pu_I K ≤ pu_I i then some (Sum.inr ()) else (if ((pu_I x >>> (pu_I i &&& 31)) &&& 1) = 0 then some (.inl (pu_I i)) else fX2_freeRegister_L150 (pu_I K) (pu_I x) k' (pu_I i + 1))) = _
      rw [if_neg (by rw [pu_le (by omega) (by omega)]; omega), pu_su]
    have ht : ((pu_I x >>> (pu_I i &&& 31)) &&& 1) = 0 ↔ x.testBit i = false := pg_t8 ⟨x, h1⟩ ⟨i, by omega⟩
    by_cases e : x.testBit i = true
    · obtain ⟨o, g1, g2⟩ := ih (i + 1) k' (by omega) (by omega) (fun r hr => by
        by_cases q : r = i
        · rw [q]; exact (h2 i (by omega)).mp e
        · exact hP r (by omega))
      exact ⟨o, by rw [hgo, if_neg (fun q => by rw [ht.mp q] at e; cases e), g1], g2⟩
    · refine ⟨_, by rw [hgo, if_pos (ht.mpr (by simpa using e))], Or.inl ⟨i, by omega, rfl, fun q => e ((h2 i (by omega)).mpr q)⟩⟩
/-- the least register that no neighbour has -/
theorem pg_freeRegister (hsh : pg_shp n w l H V wd) {K v : Nat} (hK : K ≤ 8) (hv : v < V) (hr : ∀ u, u < V → w 17 u = -1 ∨ ∃ q, q < 8 ∧ w 17 u = pu_I q) :
    ∃ o, fX2_freeRegister n w l (pu_I v) (pu_I K) = some o ∧ ((∃ r, r < K ∧ o = pu_I r ∧ ∀ u, u < V → pg_ad w l H wd v u = true → w 17 u ≠ pu_I r) ∨ (o = -1 ∧ ∀ r, r < K → ∃ u, u < V ∧ pg_ad w l H wd v u = true ∧ w 17 u = pu_I r)) := by
  obtain ⟨⟨a0, a1, a2⟩, ⟨b1, b2, b3, b4⟩, ⟨c1, c2⟩, ⟨d12, d13, d14, d15, d16, d17, d18, d19⟩, hcol, hmt⟩ := id hsh
  have i12 : ixb (pu_I v) (n 12) = true := (pu_ix (by omega)).mpr (by omega)
  obtain ⟨us, e1, e2⟩ := pg_fr5 hsh hv hr
  have fin : ∀ us, pg_ur w V (fun u => pg_ad w l H wd v u = true) us → ∃ o, fX2_freeRegister_J147 (pu_I K) us = some o ∧ ((∃ r, r < K ∧ o = pu_I r ∧ ∀ u, u < V → pg_ad w l H wd v u = true → w 17 u ≠ pu_I r) ∨ (o = -1 ∧ ∀ r, r < K → ∃ u, u < V ∧ pg_ad w l H wd v u = true ∧ w 17 u = pu_I r)) := fun us hus => by
    obtain ⟨o, g1, g2⟩ := pg_fr150 hK hus K 0 NF (by omega) (by have := pv_NF; omega) (fun r hr => by omega)
    unfold fX2_freeRegister_J147
    rw [show fX2_freeRegister_L150 (pu_I K) us NF 0 = some o from g1, Option.bind_some]
    rcases g2 with ⟨r, h1, rfl, h2⟩ | ⟨rfl, h2⟩
    · exact ⟨pu_I r, rfl, Or.inl ⟨r, h1, rfl, fun u hu ha he => h2 ⟨u, hu, ha, he⟩⟩⟩
    · exact ⟨-1, rfl, Or.inr ⟨rfl, h2⟩⟩
  have hgo : fX2_freeRegister n w l (pu_I v) (pu_I K) = (if (w 12 v) < 0 then fX2_freeRegister_J95 n w l (pu_I v) (pu_I K) us else (fX2_registerBit n w (w 12 v)).bind fun o_20 => fX2_freeRegister_J95 n w l (pu_I v) (pu_I K) (us ||| o_20)) := by
    unfold fX2_freeRegister
    rw [e1, Option.bind_some, if_pos i12, pu_nn (by omega), if_pos i12]
  rw [hgo]
  have h95 : ∀ us, fX2_freeRegister_J95 n w l (pu_I v) (pu_I K) us = (if H ≤ v then fX2_freeRegister_J147 (pu_I K) us else (fX2_freeRegister_L109 n w l (pu_I v) NF us (pu_I H)).bind fun o109 => fX2_freeRegister_J147 (pu_I K) o109) := fun us => by
    unfold fX2_freeRegister_J95
    rw [a0]
    by_cases q : H ≤ v
    · rw [if_pos ((pu_le (by omega) (by omega)).mpr q), if_pos q]
    · rw [if_neg (fun h => q ((pu_le (by omega) (by omega)).mp h)), if_neg q]
  by_cases hvH : v < H
  · have hm : w 12 v = -1 := by
      rcases hmt v hv with q | q
      · exact q
      · omega
    rw [hm, if_pos (by decide), h95, if_neg (by omega)]
    obtain ⟨t, f1, f2⟩ := pv_for (σ := Int32) (G := fun k i (s : Int32) => fX2_freeRegister_L109 n w l (pu_I v) k s i) (hi := V)
      (Inv := fun i (s : Int32) => H ≤ i ∧ pg_ur w V (fun u => u < i ∧ pg_ad w l H wd v u = true) s)
      (Q := fun (s : Int32) => pg_ur w V (fun u => pg_ad w l H wd v u = true) s)
      (fun k i s hi hI => by
        obtain ⟨i1, i2⟩ := hI
        have hadi : pg_ad w l H wd v i = pg_g l 11 wd i v := by
          unfold pg_ad
          rw [if_neg (by omega), if_pos hvH]
        have hin : fX2_isIn_a1_p0_10 n w l (pu_I i) (pu_I v) = some (pv_b (pg_g l 11 wd i v)) := pg_isIn10 a2 (by omega) (by have := pg_ixlt (wd := wd) hi (show v / 64 < wd by omega); omega) c2
        have hJ : ∀ s : Int32, fX2_freeRegister_J141 (fX2_freeRegister_L109 n w l (pu_I v) k) (pu_I i) s = fX2_freeRegister_L109 n w l (pu_I v) k s (pu_I (i + 1)) := fun s => by
          unfold fX2_freeRegister_J141
          rw [pu_su]
        have hgo2 : fX2_freeRegister_L109 n w l (pu_I v) (k + 1) s (pu_I i) = (if pv_b (pg_g l 11 wd i v) = 0 then fX2_freeRegister_L109 n w l (pu_I v) k s (pu_I (i + 1)) else (fX2_registerBit n w (pu_I i)).bind fun o_16 => fX2_freeRegister_L109 n w l (pu_I v) k (s ||| o_16) (pu_I (i + 1))) := by
          show (if (w 0 1) ≤ pu_I i then some s else ((fX2_isIn_a1_p0_10 n w l (pu_I i) (pu_I v)).bind fun (o_13 : Int32) => (if o_13 = 0 then (fX2_freeRegister_J141 (fX2_freeRegister_L109 n w l (pu_I v) k) (pu_I i) s) else ((fX2_registerBit n w (pu_I i)).bind fun (o_16 : Int32) => (fX2_freeRegister_J141 (fX2_freeRegister_L109 n w l (pu_I v) k) (pu_I i) (s ||| o_16)))))) = _
          rw [a1, if_neg (by rw [pu_le (by omega) (by omega)]; omega), hin, Option.bind_some, hJ]
          simp only [hJ]
        cases hg : pg_g l 11 wd i v with
        | false =>
          rw [hg] at hgo2
          refine ⟨s, ?_, by omega, pg_ur_cg i2 fun u hu => ⟨fun ⟨q1, q2⟩ => ⟨?_, q2⟩, fun ⟨q1, q2⟩ => ⟨by omega, q2⟩⟩⟩
          · show fX2_freeRegister_L109 n w l (pu_I v) (k + 1) s (pu_I i) = _
            rw [hgo2]
            rfl
          · by_cases e : u = i
            · rw [e, hadi, hg] at q2; cases q2
            · omega
        | true =>
          rw [hg] at hgo2
          obtain ⟨y, g1, g2⟩ := pg_registerBit (n := n) d17 b2 hi (hr i hi)
          refine ⟨s ||| y, ?_, by omega, g2 _ _ s i2 fun u hu => ⟨fun ⟨q1, q2⟩ => ?_, fun q => ?_⟩⟩
          · show fX2_freeRegister_L109 n w l (pu_I v) (k + 1) s (pu_I i) = _
            rw [hgo2]
            show (fX2_registerBit n w (pu_I i)).bind _ = _
            rw [g1, Option.bind_some]
          · by_cases e : u = i
            · exact Or.inr e
            · exact Or.inl ⟨by omega, q2⟩
          · rcases q with ⟨q1, q2⟩ | rfl
            · exact ⟨by omega, q2⟩
            · exact ⟨by omega, by rw [hadi, hg]⟩)
      (fun k s hI => ⟨s, by
        show (if (w 0 1) ≤ pu_I V then some s else _) = _
        rw [a1, if_pos (Int32.le_refl _)], pg_ur_cg hI.2 fun u hu => ⟨fun q => ⟨hu, q⟩, fun q => q.2⟩⟩)
      (V - H) H NF us (by omega) (by have := pv_NF; omega) ⟨Nat.le_refl H, e2⟩
    rw [show fX2_freeRegister_L109 n w l (pu_I v) NF us (pu_I H) = some t from f1, Option.bind_some]
    exact fin t f2
  · have hvH' : H ≤ v := by omega
    rcases hmt v hv with q | ⟨_, u0, ⟨u1, u2⟩, u3, u4, u5⟩
    · rw [q, if_pos (by decide), h95, if_pos hvH']
      refine fin us (pg_ur_cg e2 fun u hu => ⟨fun h => ⟨?_, h⟩, fun h => h.2⟩)
      by_cases e : u < H
      · exact e
      · unfold pg_ad at h
        rw [if_neg e, if_neg hvH, q] at h
        exact absurd (of_decide_eq_true h).symm (pg_In1 (by omega))
    · rw [u4, if_neg (pu_ge (by omega))]
      have hadu : ∀ u, H ≤ u → pg_ad w l H wd v u = decide (pu_I u0 = pu_I u) := fun u h => by
        unfold pg_ad
        rw [if_neg (by omega), if_neg hvH, u4]
      obtain ⟨y, g1, g2⟩ := pg_registerBit (n := n) d17 b2 u2 (hr u0 u2)
      rw [g1, Option.bind_some, h95, if_pos hvH']
      refine fin _ (g2 _ _ us e2 fun u hu => ⟨fun h => ?_, fun h => ?_⟩)
      · by_cases e : u < H
        · exact Or.inl ⟨e, h⟩
        · rw [hadu u (by omega)] at h
          exact Or.inr (pu_inj (by omega) (by omega) (of_decide_eq_true h)).symm
      · rcases h with h | rfl
        · exact h.2
        · rw [hadu u u1]; exact decide_eq_true rfl
end FRE
