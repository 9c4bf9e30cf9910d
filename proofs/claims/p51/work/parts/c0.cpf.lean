/-! pure side, the allocator 12: a flow is copied -/
section CPF
variable {n : Nat → Nat} {w : ST} {M : Nat}
theorem pa_rng (c l : Nat) : List.range' c (l + 1) = c :: List.range' (c + 1) l := rfl
theorem pa_cpk {sp dp k n0 n1 : Nat} (h1 : sp + k ≤ n0) (h2 : dp + k ≤ n1) (h3 : sp < 2147483648) (h4 : dp < 2147483648) (h5 : k < 2147483648) : cpk (pu_I sp) (pu_I dp) (pu_I k) n0 n1 = true := by
  unfold cpk
  rw [decide_eq_true_iff, pu_nn h3, pu_nn h4, pu_nn h5]
  exact ⟨pu_ge h3, pu_ge h4, pu_ge h5, h1, h2⟩
/-- the phis of a block are copied -/
theorem pa_cf70 (hn19 : M ≤ n 19) (hn20 : M ≤ n 20) (hn21 : M * 60 ≤ n 21) (hM : M < 50000) {b B : Nat} (hB : B ≤ 60) (hb : b < B) :
    ∀ (rem : List Nat) (k : Nat) (x : Int32) (c R : Nat) (v : ST) (m : Nat → Nat) (q : Nat → List Nat), pv_ch (w 20) x rem → (∀ a, a ∈ rem → a < M) → rem.length < k → v 0 17 = pu_I c → c + rem.length ≤ 250 → pt_pn m R → c ≤ R → R ≤ 375 → pv_phc B v q → pv_dis B c q →
      ∃ v' m' R', fX1_copyFrom_L70 n w (pu_I b) k x v m = some (v', m') ∧ v' 0 17 = pu_I (c + rem.length) ∧ (∀ i, i ≠ 17 → v' 0 i = v 0 i) ∧ pv_phc B v' (pv_up q b (q b ++ List.range' c rem.length)) ∧ pv_dis B (c + rem.length) (pv_up q b (q b ++ List.range' c rem.length)) ∧
        (∀ p, p < 60 → (List.range' c rem.length).map (pa_mv v' p) = rem.map (pa_mv w p)) ∧ (∀ i, i < c → v' 19 i = v 19 i) ∧ (∀ i, i < c * 60 → v' 21 i = v 21 i) ∧ (∀ r, r ≠ 0 → r ≠ 6 → r ≠ 7 → r ≠ 19 → r ≠ 20 → r ≠ 21 → v' r = v r) ∧
        pt_pn m' R' ∧ c + rem.length ≤ R' ∧ (R' = R ∨ R' ≤ (c + rem.length) + (c + rem.length) / 2) ∧ (∀ r, r ≠ 19 → r ≠ 20 → r ≠ 21 → m' r = m r) := by
  intro rem
  induction rem with
  | nil =>
    intro k x c R v m q hch _ hk hc _ hpn hcR _ hph hd
    obtain ⟨k', rfl⟩ : ∃ k', k = k' + 1 := ⟨k - 1, by have : 0 < k := hk; omega⟩
    have hx : x < 0 := pv_n1 hch
    refine ⟨v, m, R, ?_, hc, fun _ _ => rfl, ?_, ?_, fun p _ => rfl, fun _ _ => rfl, fun _ _ => rfl, fun _ _ _ _ _ _ _ => rfl, hpn, hcR, Or.inl rfl, fun _ _ _ _ => rfl⟩
    · show (if x < 0 then some (v, m) else _) = _
      rw [if_pos hx]
    · rw [show List.range' c ([] : List Nat).length = [] from rfl, pv_up_id (List.append_nil _)]; exact hph
    · rw [show List.range' c ([] : List Nat).length = [] from rfl, pv_up_id (List.append_nil _)]; exact hd
  | cons a rem ih =>
    intro k x c R v m q hch hlt hk hc hc6 hpn hcR hR hph hd
    obtain ⟨k', rfl⟩ : ∃ k', k = k' + 1 := ⟨k - 1, by have : 0 < k := Nat.lt_of_le_of_lt (Nat.zero_le _) hk; omega⟩
    obtain ⟨rfl, hch⟩ := hch
    have haM := hlt a List.mem_cons_self
    rw [List.length_cons] at hk hc6
    obtain ⟨w1, n1, R1, e1, e2, e3, e4, e5, e6, e7, e8, e9, e10, e11, e12, e13⟩ := pv_addPhi (n := m) hB hc (by omega) hpn hcR (by omega) hph hd hb (w 19 a)
    obtain ⟨w2, hw2⟩ : ∃ w2, w2 = srw w1 21 (va_cpy (w 21) (w1 21) (a * 60) (c * 60) 60) := ⟨_, rfl⟩
    have h2r : ∀ r, r ≠ 21 → w2 r = w1 r := fun r hr => by rw [hw2, pv_srw_n hr]
    have h21 : w2 21 = va_cpy (w 21) (w1 21) (a * 60) (c * 60) 60 := by rw [hw2, pv_srw_s]
    have hph2 : pv_phc B w2 (pv_up q b (q b ++ [c])) := by
      unfold pv_phc
      rw [h2r 20 (by decide), h2r 6 (by decide), h2r 7 (by decide)]
      exact e6
    obtain ⟨v', m', R', f1, f2, f3, f4, f5, f6, f7, f8, f9, f10, f11, f12, f13⟩ := ih k' (w 20 a) (c + 1) R1 w2 n1 (pv_up q b (q b ++ [c])) hch (fun z hz => hlt z (List.mem_cons_of_mem _ hz)) (by omega) (by rw [h2r 0 (by decide)]; exact e2) (by omega) e9 e10 (by rcases e11 with h | h <;> omega) hph2 e7
    obtain ⟨p19, p20, p21, p21'⟩ := id e9
    have hlen : c + 1 + rem.length = c + (a :: rem).length := by rw [List.length_cons]; omega
    have hup : pv_up (pv_up q b (q b ++ [c])) b (pv_up q b (q b ++ [c]) b ++ List.range' (c + 1) rem.length) = pv_up q b (q b ++ List.range' c (a :: rem).length) := by
      rw [pv_up_up, pv_up_s, List.append_assoc]
      rfl
    rw [hlen] at f2 f5 f11 f12
    rw [hup] at f4 f5
    refine ⟨v', m', R', ?_, f2, fun i hi => by rw [f3 i hi, h2r 0 (by decide), e3 i hi], f4, f5, fun p hp => ?_, fun i hi => by rw [f7 i (by omega), h2r 19 (by decide), e5 i hi], fun i hi => ?_, fun r r0 r6 r7 r19 r20 r21 => by rw [f9 r r0 r6 r7 r19 r20 r21, h2r r r21, e8 r r0 r6 r7 r19 r20 r21], f10, f11, ?_, fun r r19 r20 r21 => by rw [f13 r r19 r20 r21, e12 r r19 r20 r21]⟩
    · show (if pu_I a < 0 then some (v, m) else (if ixb (pu_I a) (n 19) = true then ((fX1_addPhi m v (pu_I b) (w 19 (nn (pu_I a)))).bind fun (o_16 : Int32 × ST × (Nat → Nat)) => (fX1_copyFrom_G85_24 (fX1_copyFrom_L70 n w (pu_I b) k') n w (pu_I a) o_16)) else none)) = _
      rw [if_neg (pu_ge (by omega)), if_pos ((pu_ix (by omega)).mpr (by omega)), pu_nn (show a < 2147483648 by omega), e1, Option.bind_some]
      unfold fX1_copyFrom_G85_24
      show (if cpk (pu_I a * 60) (pu_I c * 60) 60 (n 21) (n1 21) = true then _ else none) = _
      rw [show (60 : Int32) = pu_I 60 from rfl, pv_mul, pv_mul, if_pos (pa_cpk (by omega) (by omega) (by omega) (by omega) (by decide)), pu_nn (show a * 60 < 2147483648 by omega), pu_nn (show c * 60 < 2147483648 by omega), pu_nn (show 60 < 2147483648 by decide)]
      show (if ixb (pu_I a) (n 20) = true then (fX1_copyFrom_L70 n w (pu_I b) k' (w 20 (nn (pu_I a))) (srw w1 21 (va_cpy (w 21) (w1 21) (a * 60) (c * 60) 60)) n1) else none) = _
      rw [if_pos ((pu_ix (by omega)).mpr (by omega)), pu_nn (show a < 2147483648 by omega), ← hw2]
      exact f1
    · rw [List.length_cons, pa_rng, List.map_cons, List.map_cons, f6 p hp]
      congr 1
      unfold pa_mv
      rw [f7 c (Nat.lt_succ_self c), h2r 19 (by decide), e4, f8 (c * 60 + p) (by omega), h21, pk_cpy_in (by omega) (by omega)]
      rw [show a * 60 + (c * 60 + p - c * 60) = a * 60 + p by omega]
    · rw [f8 i (by omega), h21, pk_cpy_out (Or.inl hi), e13 i hi]
    · rcases f12 with h | h
      · rw [h]
        rcases e11 with h2 | h2
        · exact Or.inl h2
        · right; rw [h2, List.length_cons]; omega
      · exact Or.inr h
/-- the steps of a block are copied -/
theorem pa_cf126 {s2 : Nat → Nat} {x2 : ST} {N : Nat} (h2 : N ≤ s2 2) (h3 : N ≤ s2 3) (h4 : N ≤ s2 4) (h5 : N ≤ s2 5) (h6 : N ≤ s2 6) (hN : N < 50000) {b B : Nat} (hB : B ≤ 60) (hb : b < B) :
    ∀ (rem : List Nat) (k : Nat) (x : Int32) (c : Nat) (v x9 : ST) (m2 : Nat → Nat) (q : Nat → List Nat), pv_ch (x2 6) x rem → (∀ a, a ∈ rem → a < N) → rem.length < k → x9 0 0 = pu_I c → c + rem.length < 8500 → (∃ R, pv_sR m2 R ∧ c ≤ R ∧ R ≤ 12770) → pv_stc B v x9 q → pv_dis B c q →
      ∃ v' x9' m2', fX1_copyFrom_L126 s2 x2 (pu_I b) k x v x9 m2 = some (v', x9', m2') ∧ ∃ new, pa_ad B b v x9 m2 q c (rem.map (pv_S x2)) v' x9' m2' new (c + rem.length) := by
  intro rem
  induction rem with
  | nil =>
    intro k x c v x9 m2 q hch _ hk hc _ hR hst hd
    obtain ⟨k', rfl⟩ : ∃ k', k = k' + 1 := ⟨k - 1, by have : 0 < k := hk; omega⟩
    refine ⟨v, x9, m2, ?_, [], hc, hR, ?_, ?_, fun _ _ _ _ _ => rfl, fun _ _ _ => rfl, rfl, Nat.le_refl _, fun a ha => (by cases ha)⟩
    · show (if x < 0 then some (v, x9, m2) else _) = _
      rw [if_pos (pv_n1 hch)]
    · rw [pv_up_id (List.append_nil _)]; exact hst
    · rw [pv_up_id (List.append_nil _)]; exact hd
  | cons a rem ih =>
    intro k x c v x9 m2 q hch hlt hk hc hc4 hR hst hd
    obtain ⟨k', rfl⟩ : ∃ k', k = k' + 1 := ⟨k - 1, by have : 0 < k := Nat.lt_of_le_of_lt (Nat.zero_le _) hk; omega⟩
    obtain ⟨rfl, hch⟩ := hch
    have haN := hlt a List.mem_cons_self
    rw [List.length_cons] at hk hc4
    obtain ⟨v1, x1, m1, e1, e2⟩ := pa_add hB hb hc hR (by omega) hst hd (x2 2 a) (x2 3 a) (x2 4 a) (x2 5 a)
    obtain ⟨v', x9', m2', f1, new, f2⟩ := ih k' (x2 6 a) (c + 1) v1 x1 m1 (pv_up q b (q b ++ [c])) hch (fun z hz => hlt z (List.mem_cons_of_mem _ hz)) (by omega) e2.1 (by omega) e2.2.1 e2.2.2.1 e2.2.2.2.1
    refine ⟨v', x9', m2', ?_, [c] ++ new, ?_⟩
    · show (if pu_I a < 0 then some (v, x9, m2) else (if ixb (pu_I a) (s2 2) = true then (if ixb (pu_I a) (s2 3) = true then (if ixb (pu_I a) (s2 4) = true then (if ixb (pu_I a) (s2 5) = true then ((fX1_addStep v (pu_I b) (x2 2 (nn (pu_I a))) (x2 3 (nn (pu_I a))) (x2 4 (nn (pu_I a))) (x2 5 (nn (pu_I a))) m2 x9).bind fun (o_35 : Int32 × ST × ST × (Nat → Nat)) => (fX1_copyFrom_G171_47 (fX1_copyFrom_L126 s2 x2 (pu_I b) k') s2 x2 (pu_I a) o_35)) else none) else none) else none) else none)) = _
      have hi : ∀ y, N ≤ y → ixb (pu_I a) y = true := fun y hy => (pu_ix (by omega)).mpr (by omega)
      rw [if_neg (pu_ge (by omega)), if_pos (hi _ h2), if_pos (hi _ h3), if_pos (hi _ h4), if_pos (hi _ h5), pu_nn (show a < 2147483648 by omega), e1, Option.bind_some]
      unfold fX1_copyFrom_G171_47
      rw [if_pos (hi _ h6), pu_nn (show a < 2147483648 by omega)]
      exact f1
    · have h9 := pa_ad_tr e2 f2
      rw [List.length_cons, show c + (rem.length + 1) = c + 1 + rem.length by omega]
      exact h9
end CPF
