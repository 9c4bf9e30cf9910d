/-! pure side, the maker 21: the ops of a block -/
/-- what the variables are behind a step of the text -/
def pt_nw (P : ST) (lo vo : Nat → Int32) (a : Nat) (nw0 : Nat → Int32) : Nat → Nat → Int32
  | 0, v => nw0 v
  | i + 1, v => if i < a then nw0 v else if (P 9 i = 31 ∨ P 9 i = 32) ∧ P 10 i = pu_I v then pt_va vo (lo i) else if P 9 i = 21 ∧ P 10 i = pu_I v then vo i else pt_nw P lo vo a nw0 i v
def pt_sl (P : ST) (lo ro vo : Nat → Int32) (a : Nat) : Nat → List pu_Stp
  | 0 => []
  | i + 1 => if i < a then [] else pt_sl P lo ro vo a i ++ (if P 9 i ≤ 21 then [pt_stp P lo ro vo i] else [])
def pt_ev (P : ST) (lo vo : Nat → Int32) (a : Nat) : Nat → Int32
  | 0 => -1
  | i + 1 => if i < a then -1 else if pt_en3 (P 9 i) then pt_va vo (lo i) else pt_ev P lo vo a i
theorem pt_nw_a (P : ST) (lo vo : Nat → Int32) (a : Nat) (nw0 : Nat → Int32) (v : Nat) : ∀ i, i ≤ a → pt_nw P lo vo a nw0 i v = nw0 v := by
  intro i
  cases i with
  | zero => intro _; rfl
  | succ i => intro h; exact if_pos (by omega)
theorem pt_nw_s {P : ST} {lo vo : Nat → Int32} {a : Nat} {nw0 : Nat → Int32} {i v : Nat} (h : a ≤ i) : pt_nw P lo vo a nw0 (i + 1) v = if (P 9 i = 31 ∨ P 9 i = 32) ∧ P 10 i = pu_I v then pt_va vo (lo i) else if P 9 i = 21 ∧ P 10 i = pu_I v then vo i else pt_nw P lo vo a nw0 i v := if_neg (by omega)
theorem pt_sl_a (P : ST) (lo ro vo : Nat → Int32) (a : Nat) : ∀ i, i ≤ a → pt_sl P lo ro vo a i = [] := by
  intro i
  cases i with
  | zero => intro _; rfl
  | succ i => intro h; exact if_pos (by omega)
theorem pt_sl_s {P : ST} {lo ro vo : Nat → Int32} {a i : Nat} (h : a ≤ i) : pt_sl P lo ro vo a (i + 1) = pt_sl P lo ro vo a i ++ (if P 9 i ≤ 21 then [pt_stp P lo ro vo i] else []) := if_neg (by omega)
theorem pt_ev_a (P : ST) (lo vo : Nat → Int32) (a : Nat) : ∀ i, i ≤ a → pt_ev P lo vo a i = -1 := by
  intro i
  cases i with
  | zero => intro _; rfl
  | succ i => intro h; exact if_pos (by omega)
theorem pt_ev_s {P : ST} {lo vo : Nat → Int32} {a i : Nat} (h : a ≤ i) : pt_ev P lo vo a (i + 1) = if pt_en3 (P 9 i) then pt_va vo (lo i) else pt_ev P lo vo a i := if_neg (by omega)
/-- what is known already stays -/
def pt_vs (lo ro vo vo' : Nat → Int32) (a i : Nat) : Prop := ∀ j, a ≤ j → j < i → vo' j = vo j ∧ pt_va vo' (lo j) = pt_va vo (lo j) ∧ pt_va vo' (ro j) = pt_va vo (ro j)
theorem pt_vs_lt {lo ro vo vo' : Nat → Int32} {a i i' : Nat} (h : pt_vs lo ro vo vo' a i) (hi : i' ≤ i) : pt_vs lo ro vo vo' a i' := fun j j1 j2 => h j j1 (by omega)
theorem pt_nw_e {P : ST} {lo ro vo vo' : Nat → Int32} {a : Nat} {nw0 : Nat → Int32} {v : Nat} : ∀ i, pt_vs lo ro vo vo' a i → pt_nw P lo vo' a nw0 i v = pt_nw P lo vo a nw0 i v := by
  intro i
  induction i with
  | zero => intro _; rfl
  | succ i ih =>
    intro h
    by_cases hi : i < a
    · rw [pt_nw_a _ _ _ _ _ _ _ (by omega), pt_nw_a _ _ _ _ _ _ _ (by omega)]
    · have h9 := h i (by omega) (Nat.lt_succ_self i)
      rw [pt_nw_s (by omega), pt_nw_s (by omega), h9.1, h9.2.1, ih (pt_vs_lt h (by omega))]
theorem pt_sl_e {P : ST} {lo ro vo vo' : Nat → Int32} {a : Nat} : ∀ i, pt_vs lo ro vo vo' a i → pt_sl P lo ro vo' a i = pt_sl P lo ro vo a i := by
  intro i
  induction i with
  | zero => intro _; rfl
  | succ i ih =>
    intro h
    by_cases hi : i < a
    · rw [pt_sl_a _ _ _ _ _ _ (by omega), pt_sl_a _ _ _ _ _ _ (by omega)]
    · have h9 := h i (by omega) (Nat.lt_succ_self i)
      have hs : pt_stp P lo ro vo' i = pt_stp P lo ro vo i := by
        unfold pt_stp
        rw [h9.1, h9.2.1, h9.2.2]
      rw [pt_sl_s (by omega), pt_sl_s (by omega), hs, ih (pt_vs_lt h (by omega))]
theorem pt_ev_e {P : ST} {lo ro vo vo' : Nat → Int32} {a : Nat} : ∀ i, pt_vs lo ro vo vo' a i → pt_ev P lo vo' a i = pt_ev P lo vo a i := by
  intro i
  induction i with
  | zero => intro _; rfl
  | succ i ih =>
    intro h
    by_cases hi : i < a
    · rw [pt_ev_a _ _ _ _ _ (by omega), pt_ev_a _ _ _ _ _ (by omega)]
    · have h9 := h i (by omega) (Nat.lt_succ_self i)
      rw [pt_ev_s (by omega), pt_ev_s (by omega), h9.2.1, ih (pt_vs_lt h (by omega))]
/-- what an op works on is not ahead of it in its block -/
def pt_od (x : Int32) (i t : Nat) : Prop := x < 0 ∨ ∃ k, k < 3200 ∧ x = pu_I k ∧ ¬ (i ≤ k ∧ k < t)
theorem pt_od_ix {x : Int32} {i t : Nat} (h : pt_od x i t) : x < 0 ∨ ixb x 3200 = true := by
  rcases h with h | ⟨k, k1, k2, _⟩
  · exact Or.inl h
  · exact Or.inr (by rw [k2]; exact (pu_ix (by omega)).mpr k1)
theorem pt_od_va {vo vo' : Nat → Int32} {x : Int32} {j t i : Nat} (h : pt_od x j t) (hji : j ≤ i) (hit : i < t) (he : ∀ z, z ≠ i → vo' z = vo z) : pt_va vo' x = pt_va vo x := by
  unfold pt_va
  rcases h with h | ⟨k, k1, k2, k3⟩
  · rw [if_pos h, if_pos h]
  · rw [k2, pu_nn (by omega), he k fun e => k3 (by rw [e]; exact ⟨hji, hit⟩)]
section FB
variable {P w fw fw2 : ST} {n2 : Nat → Nat} {B R0 N b : Nat} {ch : Nat → List Nat} {fo ot : Nat → Nat}
theorem pv_fill114 (hos : pt_os w B fo ot) (hB : B ≤ 60) (hb : b < B) (hvar : ∀ i, fo b ≤ i → i < ot b → (P 9 i = 30 ∨ P 9 i = 31 ∨ P 9 i = 32 ∨ P 9 i = 21) → ∃ u, u < 320 ∧ P 10 i = pu_I u)
    (hop : ∀ i, fo b ≤ i → i < ot b → pt_od (w 2 i) i (ot b) ∧ pt_od (w 3 i) i (ot b)) (hR0 : R0 ≤ 50000) (hN : N + (ot b - fo b) ≤ 3200) (hss : pt_ss B fw fw2 n2 R0 N ch) (h9 : fw 9 b = -1) :
    ∃ w' fw' fw2' n2' N' ch' x, fX4_fillBlock_L114 P (pu_I b) NF (pu_I (fo b)) w fw fw2 n2 = some (w', fw', fw2', n2') ∧ (∀ r, r ≠ 4 → r ≠ 20 → w' r = w r) ∧ (∀ j, ¬ (fo b ≤ j ∧ j < ot b ∧ P 9 j = 30) → w' 4 j = w 4 j) ∧ (∀ z, z / 320 ≠ b → w' 20 z = w 20 z) ∧
      (∀ v, v < 320 → w' 20 (b * 320 + v) = pt_nw P (w 2) (w' 4) (fo b) (fun u => w 20 (b * 320 + u)) (ot b) v) ∧ (∀ j, fo b ≤ j → j < ot b → P 9 j = 30 → w' 4 j = pt_nw P (w 2) (w' 4) (fo b) (fun u => w 20 (b * 320 + u)) j (nn (P 10 j))) ∧
      (∀ r, r ≠ 4 → r ≠ 5 → r ≠ 9 → fw' r = fw r) ∧ (∀ c, c ≠ b → fw' 9 c = fw 9 c) ∧ fw' 9 b = pt_ev P (w 2) (w' 4) (fo b) (ot b) ∧ pt_ss B fw' fw2' n2' R0 N' ch' ∧ pt_ex N fw2 fw2' ∧ (N ≤ N' ∧ N' ≤ N + (ot b - fo b)) ∧ (∀ c, c ≠ b → ch' c = ch c) ∧ ch' b = ch b ++ x ∧
      x.map (pv_S fw2') = pt_sl P (w 2) (w 3) (w' 4) (fo b) (ot b) ∧ pt_mx n2 n2' := by
  obtain ⟨_, g2, g3, g4⟩ := hos b hb
  obtain ⟨t, e1, w', fw', fw2', n2', N', ch', x, rfl, hall⟩ := pv_for (G := fun k i (s : ST × ST × ST × (Nat → Nat)) => fX4_fillBlock_L114 P (pu_I b) k i s.1 s.2.1 s.2.2.1 s.2.2.2) (hi := ot b)
    (Inv := fun i s => fo b ≤ i ∧ ∃ N' ch' x, (∀ r, r ≠ 4 → r ≠ 20 → s.1 r = w r) ∧ (∀ j, ¬ (fo b ≤ j ∧ j < i ∧ P 9 j = 30) → s.1 4 j = w 4 j) ∧ (∀ z, z / 320 ≠ b → s.1 20 z = w 20 z) ∧
      (∀ v, v < 320 → s.1 20 (b * 320 + v) = pt_nw P (w 2) (s.1 4) (fo b) (fun u => w 20 (b * 320 + u)) i v) ∧ (∀ j, fo b ≤ j → j < i → P 9 j = 30 → s.1 4 j = pt_nw P (w 2) (s.1 4) (fo b) (fun u => w 20 (b * 320 + u)) j (nn (P 10 j))) ∧
      (∀ r, r ≠ 4 → r ≠ 5 → r ≠ 9 → s.2.1 r = fw r) ∧ (∀ c, c ≠ b → s.2.1 9 c = fw 9 c) ∧ s.2.1 9 b = pt_ev P (w 2) (s.1 4) (fo b) i ∧ pt_ss B s.2.1 s.2.2.1 s.2.2.2 R0 N' ch' ∧ pt_ex N fw2 s.2.2.1 ∧ (N ≤ N' ∧ N' ≤ N + (i - fo b)) ∧ (∀ c, c ≠ b → ch' c = ch c) ∧ ch' b = ch b ++ x ∧
      x.map (pv_S s.2.2.1) = pt_sl P (w 2) (w 3) (s.1 4) (fo b) i ∧ pt_mx n2 s.2.2.2)
    (Q := fun t => ∃ w' fw' fw2' n2' N' ch' x, t = (w', fw', fw2', n2') ∧ (∀ r, r ≠ 4 → r ≠ 20 → w' r = w r) ∧ (∀ j, ¬ (fo b ≤ j ∧ j < ot b ∧ P 9 j = 30) → w' 4 j = w 4 j) ∧ (∀ z, z / 320 ≠ b → w' 20 z = w 20 z) ∧
      (∀ v, v < 320 → w' 20 (b * 320 + v) = pt_nw P (w 2) (w' 4) (fo b) (fun u => w 20 (b * 320 + u)) (ot b) v) ∧ (∀ j, fo b ≤ j → j < ot b → P 9 j = 30 → w' 4 j = pt_nw P (w 2) (w' 4) (fo b) (fun u => w 20 (b * 320 + u)) j (nn (P 10 j))) ∧
      (∀ r, r ≠ 4 → r ≠ 5 → r ≠ 9 → fw' r = fw r) ∧ (∀ c, c ≠ b → fw' 9 c = fw 9 c) ∧ fw' 9 b = pt_ev P (w 2) (w' 4) (fo b) (ot b) ∧ pt_ss B fw' fw2' n2' R0 N' ch' ∧ pt_ex N fw2 fw2' ∧ (N ≤ N' ∧ N' ≤ N + (ot b - fo b)) ∧ (∀ c, c ≠ b → ch' c = ch c) ∧ ch' b = ch b ++ x ∧
      x.map (pv_S fw2') = pt_sl P (w 2) (w 3) (w' 4) (fo b) (ot b) ∧ pt_mx n2 n2')
    (by
      rintro k i ⟨w1, f1, f2, m2⟩ hi ⟨i0, N1, ch1, x, s1, s2, s3, s4, s5, s6, s7, s8, s9, s10, s11, s12, s13, s14, s15⟩
      have s1 : ∀ r, r ≠ 4 → r ≠ 20 → w1 r = w r := s1
      have s2 : ∀ j, ¬ (fo b ≤ j ∧ j < i ∧ P 9 j = 30) → w1 4 j = w 4 j := s2
      have s3 : ∀ z, z / 320 ≠ b → w1 20 z = w 20 z := s3
      have s4 : ∀ v, v < 320 → w1 20 (b * 320 + v) = pt_nw P (w 2) (w1 4) (fo b) (fun u => w 20 (b * 320 + u)) i v := s4
      have s5 : ∀ j, fo b ≤ j → j < i → P 9 j = 30 → w1 4 j = pt_nw P (w 2) (w1 4) (fo b) (fun u => w 20 (b * 320 + u)) j (nn (P 10 j)) := s5
      have s6 : ∀ r, r ≠ 4 → r ≠ 5 → r ≠ 9 → f1 r = fw r := s6
      have s7 : ∀ c, c ≠ b → f1 9 c = fw 9 c := s7
      have s8 : f1 9 b = pt_ev P (w 2) (w1 4) (fo b) i := s8
      have s9 : pt_ss B f1 f2 m2 R0 N1 ch1 := s9
      have s10 : pt_ex N fw2 f2 := s10
      have s14 : x.map (pv_S f2) = pt_sl P (w 2) (w 3) (w1 4) (fo b) i := s14
      have s15 : pt_mx n2 m2 := s15
      have hix : ixb (pu_I i) 3200 = true := (pu_ix (by omega)).mpr (by omega)
      have hin : nn (pu_I i) = i := pu_nn (by omega)
      obtain ⟨_, k2, _, _⟩ := pt_os_e (s1 7 (by decide) (by decide)) (s1 8 (by decide) (by decide)) (s1 15 (by decide) (by decide)) hos b hb
      have w12 : w1 2 = w 2 := s1 2 (by decide) (by decide)
      have w13 : w1 3 = w 3 := s1 3 (by decide) (by decide)
      obtain ⟨o1, o2⟩ := hop i i0 hi
      have hxN : ∀ a, a ∈ x → a < N1 := fun a ha => s9.2.2.2.1 b hb a (by rw [s13]; exact List.mem_append_right _ ha)
      have hvx : ∀ u, u < 320 → ixb ((pu_I b * 320) + pu_I u) 19200 = true ∧ nn ((pu_I b * 320) + pu_I u) = b * 320 + u := fun u hu => by
        rw [show (320 : Int32) = pu_I 320 from rfl, pv_mul, pv_add]
        exact ⟨(pu_ix (by omega)).mpr (by omega), pu_nn (by omega)⟩
      have hstart : ∀ X : Option (ST × ST × ST × (Nat → Nat)), ((fX4_opsTo w1 (pu_I b)).bind fun (o_10 : Int32) => (if o_10 ≤ pu_I i then some (w1, f1, f2, m2) else (if ixb (pu_I i) 3200 = true then (if ixb (pu_I i) 3200 = true then X else none) else none))) = X := by
        intro X
        rw [k2, Option.bind_some, if_neg (by rw [pu_le (by omega) (by omega)]; omega), if_pos hix, if_pos hix]
      -- a variable's value, no step
      have hset : ∀ u, u < 320 → ∀ y, (∀ v, v < 320 → (if v = u then y else w1 20 (b * 320 + v)) = pt_nw P (w 2) (w1 4) (fo b) (fun u => w 20 (b * 320 + u)) (i + 1) v) →
          (∀ r, r ≠ 4 → r ≠ 20 → upw w1 20 (b * 320 + u) y r = w r) ∧ upw w1 20 (b * 320 + u) y 4 = w1 4 ∧ (∀ z, z / 320 ≠ b → upw w1 20 (b * 320 + u) y 20 z = w 20 z) ∧ (∀ v, v < 320 → upw w1 20 (b * 320 + u) y 20 (b * 320 + v) = pt_nw P (w 2) (w1 4) (fo b) (fun u => w 20 (b * 320 + u)) (i + 1) v) := by
        intro u hu y hy
        refine ⟨fun r r4 r20 => by rw [pv_upw_n r20, s1 r r4 r20], pv_upw_n (by decide), fun z hz => ?_, fun v hv => ?_⟩
        · rw [pv_upw, if_neg fun h => hz (by omega)]
          exact s3 z hz
        · rw [pv_upw, ← hy v hv]
          by_cases e : v = u
          · rw [if_pos ⟨rfl, by rw [e]⟩, if_pos e]
          · rw [if_neg fun h => e (by omega), if_neg e]
      -- the same with a step laid, or an end
      have hstep : P 9 i ≠ 30 → ∀ w2 : ST, (∀ r, r ≠ 4 → r ≠ 20 → w2 r = w r) → w2 4 = w1 4 → (∀ z, z / 320 ≠ b → w2 20 z = w 20 z) → (∀ v, v < 320 → w2 20 (b * 320 + v) = pt_nw P (w 2) (w1 4) (fo b) (fun u => w 20 (b * 320 + u)) (i + 1) v) → ∀ f' f2' m' N' ch' y, pt_ss B f' f2' m' R0 N' ch' → pt_ex N1 f2 f2' → (N1 ≤ N' ∧ N' ≤ N1 + 1) → (∀ c, c ≠ b → ch' c = ch1 c) → ch' b = ch1 b ++ y → y.map (pv_S f2') = (if P 9 i ≤ 21 then [pt_stp P (w 2) (w 3) (w1 4) i] else []) → (∀ r, r ≠ 4 → r ≠ 5 → r ≠ 9 → f' r = f1 r) → (∀ c, c ≠ b → f' 9 c = f1 9 c) → f' 9 b = (if pt_en3 (P 9 i) then pt_va (w1 4) (w 2 i) else f1 9 b) → pt_mx m2 m' →
          (fo b ≤ i + 1 ∧ ∃ N' ch' x, (∀ r, r ≠ 4 → r ≠ 20 → w2 r = w r) ∧ (∀ j, ¬ (fo b ≤ j ∧ j < i + 1 ∧ P 9 j = 30) → w2 4 j = w 4 j) ∧ (∀ z, z / 320 ≠ b → w2 20 z = w 20 z) ∧
      (∀ v, v < 320 → w2 20 (b * 320 + v) = pt_nw P (w 2) (w2 4) (fo b) (fun u => w 20 (b * 320 + u)) (i + 1) v) ∧ (∀ j, fo b ≤ j → j < i + 1 → P 9 j = 30 → w2 4 j = pt_nw P (w 2) (w2 4) (fo b) (fun u => w 20 (b * 320 + u)) j (nn (P 10 j))) ∧
      (∀ r, r ≠ 4 → r ≠ 5 → r ≠ 9 → f' r = fw r) ∧ (∀ c, c ≠ b → f' 9 c = fw 9 c) ∧ f' 9 b = pt_ev P (w 2) (w2 4) (fo b) (i + 1) ∧ pt_ss B f' f2' m' R0 N' ch' ∧ pt_ex N fw2 f2' ∧ (N ≤ N' ∧ N' ≤ N + (i + 1 - fo b)) ∧ (∀ c, c ≠ b → ch' c = ch c) ∧ ch' b = ch b ++ x ∧
      x.map (pv_S f2') = pt_sl P (w 2) (w 3) (w2 4) (fo b) (i + 1) ∧ pt_mx n2 m') := by
        intro h30 w2 z1 z2 z3 z4 f' f2' m' N' ch' y a1 a2 a3 a4 a5 a6 a7 a8 a9 b1
        refine ⟨by omega, N', ch', x ++ y, z1, fun j hj => ?_, z3, ?_, fun j j1 j2 j3 => ?_, fun r r4 r5 r9 => by rw [a7 r r4 r5 r9, s6 r r4 r5 r9], fun c hc => by rw [a8 c hc, s7 c hc], ?_, a1, pt_ex_tr s11.1 s10 a2, ⟨by omega, by omega⟩, fun c hc => by rw [a4 c hc, s12 c hc], by rw [a5, s13, List.append_assoc], ?_, fun r r2 r3 r4 r5 r6 => by rw [b1 r r2 r3 r4 r5 r6, s15 r r2 r3 r4 r5 r6]⟩
        · rw [z2]
          exact s2 j fun h => hj ⟨h.1, by omega, h.2.2⟩
        · rw [z2]; exact z4
        · rw [z2]
          have : j ≠ i := fun e => h30 (by rw [← e]; exact j3)
          exact s5 j j1 (by omega) j3
        · rw [a9, s8, z2, pt_ev_s i0]
        · rw [z2, pt_sl_s i0, List.map_append, a6, ← s14]
          congr 1
          exact List.map_congr_left fun a ha => pt_ex_S a2 (hxN a ha)
      have hnw0 : ∀ v, ¬ ((P 9 i = 31 ∨ P 9 i = 32) ∧ P 10 i = pu_I v) → ¬ (P 9 i = 21 ∧ P 10 i = pu_I v) → pt_nw P (w 2) (w1 4) (fo b) (fun u => w 20 (b * 320 + u)) (i + 1) v = pt_nw P (w 2) (w1 4) (fo b) (fun u => w 20 (b * 320 + u)) i v := fun v n1 n2 => by
        rw [pt_nw_s i0, if_neg n1, if_neg n2]
      by_cases h21 : P 9 i = 21
      · obtain ⟨u, u1, u2⟩ := hvar i i0 hi (Or.inr (Or.inr (Or.inr h21)))
        obtain ⟨v1, v2⟩ := hvx u u1
        obtain ⟨t1, t2, t3, t4⟩ := hset u u1 (w1 4 i) (fun v hv => by
          rw [pt_nw_s i0, if_neg (show ¬ ((P 9 i = 31 ∨ P 9 i = 32) ∧ P 10 i = pu_I v) from fun h => by rw [h21] at h; exact absurd h.1 (by decide))]
          by_cases e : v = u
          · rw [if_pos e, if_pos ⟨h21, by rw [u2, e]⟩]
          · rw [if_neg e, if_neg fun h => e (pu_inj (by omega) (by omega) (h.2.symm.trans u2)), s4 v hv])
        obtain ⟨w2, hw2⟩ : ∃ w2, w2 = upw w1 20 (b * 320 + u) (w1 4 i) := ⟨_, rfl⟩
        rw [← hw2] at t1 t2 t3 t4
        have w22 : w2 2 = w 2 := t1 2 (by decide) (by decide)
        have w23 : w2 3 = w 3 := t1 3 (by decide) (by decide)
        obtain ⟨f', f2', m', N', ch', y, e0, a1, a2, a3, a4, a5, a6, a7, a8, a9, b1⟩ := pv_fillStep (P := P) (w := w2) (i := i) hB hb (by omega) (by rw [w22]; exact pt_od_ix o1) (by rw [w23]; exact pt_od_ix o2) hR0 (by omega) s9
        rw [w22, w23, t2] at a6
        rw [w22, t2] at a9
        refine ⟨(w2, f', f2', m'), ?_, hstep (by rw [h21]; decide) w2 t1 t2 t3 t4 f' f2' m' N' ch' y a1 a2 a3 a4 a5 a6 a7 a8 a9 b1⟩
        refine (hstart _).trans ?_
        rw [hin, if_pos h21, if_pos hix, u2, if_pos v1, v2, ← hw2]
        simp only [lt9]
        rw [e0, Option.bind_some]
        unfold fX4_fillBlock_G255_35 fX4_fillBlock_J268
        rw [pu_su]
      · by_cases h30 : P 9 i = 30
        · obtain ⟨u, u1, u2⟩ := hvar i i0 hi (Or.inl h30)
          obtain ⟨v1, v2⟩ := hvx u u1
          have hun : nn (P 10 i) = u := by rw [u2, pu_nn (by omega)]
          obtain ⟨w2, hw2⟩ : ∃ w2, w2 = upw w1 4 i (w1 20 (b * 320 + u)) := ⟨_, rfl⟩
          have hne : ∀ z, z ≠ i → w2 4 z = w1 4 z := fun z hz => by rw [hw2, pv_upw, if_neg fun h => hz h.2]
          have hvs : pt_vs (w 2) (w 3) (w1 4) (w2 4) (fo b) i := fun j j1 j2 => by
            obtain ⟨p1, p2⟩ := hop j j1 (by omega)
            exact ⟨hne j (by omega), pt_od_va p1 (by omega) hi hne, pt_od_va p2 (by omega) hi hne⟩
          have w2r : ∀ r, r ≠ 4 → w2 r = w1 r := fun r hr => by rw [hw2, pv_upw_n hr]
          have n3 : ¬ pt_en3 (P 9 i) := by rw [h30]; decide
          have n21 : ¬ P 9 i ≤ 21 := by rw [h30]; decide
          refine ⟨(w2, f1, f2, m2), ?_, by omega, N1, ch1, x, fun r r4 r20 => by rw [show (w2, f1, f2, m2).1 r = w2 r from rfl, w2r r r4, s1 r r4 r20], fun j hj => ?_, fun z hz => by rw [show (w2, f1, f2, m2).1 20 = w2 20 from rfl, w2r 20 (by decide), s3 z hz], fun v hv => ?_, fun j j1 j2 j3 => ?_, s6, s7, ?_, s9, s10, ⟨s11.1, by omega⟩, s12, s13, ?_, s15⟩
          · refine (hstart _).trans ?_
            rw [hin, if_neg h21, if_pos h30, u2, if_pos v1, v2, if_pos hix, ← hw2]
            simp only [lt9]
            unfold fX4_fillBlock_J268
            rw [pu_su]
          · show w2 4 j = w 4 j
            have : j ≠ i := fun e => hj (by rw [e]; exact ⟨i0, Nat.lt_succ_self i, h30⟩)
            rw [hne j this]
            exact s2 j fun h => hj ⟨h.1, by omega, h.2.2⟩
          · show w2 20 (b * 320 + v) = pt_nw P (w 2) (w2 4) (fo b) (fun u => w 20 (b * 320 + u)) (i + 1) v
            rw [w2r 20 (by decide), s4 v hv, pt_nw_s i0, if_neg (fun h => by rw [h30] at h; exact absurd h.1 (by decide)), if_neg fun h => h21 h.1, pt_nw_e i hvs]
          · show w2 4 j = pt_nw P (w 2) (w2 4) (fo b) (fun u => w 20 (b * 320 + u)) j (nn (P 10 j))
            rw [pt_nw_e j (pt_vs_lt hvs (by omega))]
            by_cases e : j = i
            · rw [e, hun, ← s4 u u1, hw2, pv_upw, if_pos ⟨rfl, rfl⟩]
            · rw [hne j e]
              exact s5 j j1 (by omega) j3
          · show f1 9 b = pt_ev P (w 2) (w2 4) (fo b) (i + 1)
            rw [pt_ev_s i0, if_neg n3, pt_ev_e i hvs, s8]
          · show x.map (pv_S f2) = pt_sl P (w 2) (w 3) (w2 4) (fo b) (i + 1)
            rw [pt_sl_s i0, if_neg n21, List.append_nil, pt_sl_e i hvs, s14]
        · by_cases h31 : P 9 i = 31 ∨ P 9 i = 32
          · obtain ⟨u, u1, u2⟩ := hvar i i0 hi (h31.elim (fun h => Or.inr (Or.inl h)) (fun h => Or.inr (Or.inr (Or.inl h))))
            obtain ⟨v1, v2⟩ := hvx u u1
            obtain ⟨t1, t2, t3, t4⟩ := hset u u1 (pt_va (w1 4) (w 2 i)) (fun v hv => by
              rw [pt_nw_s i0]
              by_cases e : v = u
              · rw [if_pos e, if_pos ⟨h31, by rw [u2, e]⟩]
              · rw [if_neg e, if_neg fun h => e (pu_inj (by omega) (by omega) (h.2.symm.trans u2)), if_neg fun h => h21 h.1, s4 v hv])
            obtain ⟨w2, hw2⟩ : ∃ w2, w2 = upw w1 20 (b * 320 + u) (pt_va (w1 4) (w 2 i)) := ⟨_, rfl⟩
            rw [← hw2] at t1 t2 t3 t4
            have n21 : ¬ P 9 i ≤ 21 := by rcases h31 with h | h <;> rw [h] <;> decide
            have n3 : ¬ pt_en3 (P 9 i) := by rcases h31 with h | h <;> rw [h] <;> decide
            refine ⟨(w2, f1, f2, m2), ?_, hstep h30 w2 t1 t2 t3 t4 f1 f2 m2 N1 ch1 [] s9 (pt_ex_rf N1 f2) ⟨Nat.le_refl _, by omega⟩ (fun c _ => rfl) (List.append_nil _).symm (by rw [if_neg n21]; rfl) (fun r _ _ _ => rfl) (fun c _ => rfl) (by rw [if_neg n3]) (fun r _ _ _ _ _ => rfl)⟩
            have h204 : fX4_fillBlock_J204 (fX4_fillBlock_L114 P (pu_I b) k) P (pu_I b) (pu_I i) w1 f1 f2 m2 = fX4_fillBlock_L114 P (pu_I b) k (pu_I (i + 1)) w2 f1 f2 m2 := by
              unfold fX4_fillBlock_J204 fX4_fillBlock_J268
              rw [if_pos hix, hin, pv_valueAt (by rw [w12]; exact pt_od_ix o1), Option.bind_some, u2, if_pos v1, v2, w12, ← hw2, pu_su]
              rfl
            refine (hstart _).trans ?_
            rw [hin, if_neg h21, if_neg h30, h204]
            rcases h31 with h | h
            · rw [if_pos h]
            · rw [if_neg (show ¬ P 9 i = 31 by rw [h]; decide), if_pos h]
          · obtain ⟨f', f2', m', N', ch', y, e0, a1, a2, a3, a4, a5, a6, a7, a8, a9, b1⟩ := pv_fillStep (P := P) (w := w1) (i := i) hB hb (by omega) (by rw [w12]; exact pt_od_ix o1) (by rw [w13]; exact pt_od_ix o2) hR0 (by omega) s9
            rw [w12, w13] at a6
            rw [w12] at a9
            refine ⟨(w1, f', f2', m'), ?_, hstep h30 w1 s1 rfl s3 (fun v hv => by rw [hnw0 v (fun h => h31 h.1) (fun h => h21 h.1)]; exact s4 v hv) f' f2' m' N' ch' y a1 a2 a3 a4 a5 a6 a7 a8 a9 b1⟩
            refine (hstart _).trans ?_
            rw [hin, if_neg h21, if_neg h30, if_neg (fun h => h31 (Or.inl h)), if_neg (fun h => h31 (Or.inr h)), e0, Option.bind_some]
            unfold fX4_fillBlock_G268_53 fX4_fillBlock_J268
            rw [pu_su])
    (by
      rintro k ⟨w1, f1, f2, m2⟩ ⟨i0, N1, ch1, x, s1, hs⟩
      have s1 : ∀ r, r ≠ 4 → r ≠ 20 → w1 r = w r := s1
      obtain ⟨_, k2, _, _⟩ := pt_os_e (s1 7 (by decide) (by decide)) (s1 8 (by decide) (by decide)) (s1 15 (by decide) (by decide)) hos b hb
      refine ⟨(w1, f1, f2, m2), ?_, w1, f1, f2, m2, N1, ch1, x, rfl, s1, hs⟩
      show ((fX4_opsTo w1 (pu_I b)).bind fun (o_10 : Int32) => (if o_10 ≤ pu_I (ot b) then some (w1, f1, f2, m2) else _)) = _
      rw [k2, Option.bind_some, if_pos (Int32.le_refl _)]) (ot b - fo b) (fo b) NF (w, fw, fw2, n2) (by omega) (by have := pv_NF; omega)
    ⟨Nat.le_refl _, N, ch, [], fun r _ _ => rfl, fun j _ => rfl, fun z _ => rfl, fun v _ => by rw [pt_nw_a _ _ _ _ _ _ _ (Nat.le_refl _)], fun j j1 j2 => absurd j1 (by omega), fun r _ _ _ => rfl, fun c _ => rfl, by rw [pt_ev_a _ _ _ _ _ (Nat.le_refl _)]; exact h9, hss, pt_ex_rf N fw2, ⟨Nat.le_refl _, by omega⟩, fun c _ => rfl, (List.append_nil _).symm, by rw [pt_sl_a _ _ _ _ _ _ (Nat.le_refl _)]; rfl, fun r _ _ _ _ _ => rfl⟩
  exact ⟨w', fw', fw2', n2', N', ch', x, e1, hall⟩
end FB
