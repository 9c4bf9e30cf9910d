/-! pure side, the machine 15: code, run -/
def pm_Cs (Cw : Nat → ST) : Nat → Nat → pu_Stp := fun f i => pv_S (Cw f) i
/-- calls of code -/
def pm_callC (fs : Nat) (np : Nat → Nat) (Cs : Nat → Nat → pu_Stp) (n : Nat) : Nat → pu_Call
  | 0 => fun _ _ m => some (3, 0, m)
  | d + 1 => fun f q m => if ixb f fs = true ∧ q.length = np (nn f) then pu_crn (Cs (nn f)) (pm_callC fs np Cs n d) q n 0 (fun _ => 0, m, [], fun _ => 0) else none
def pm_cc (P : ST) (fs : Nat) (np : Nat → Nat) (Cn : Nat → Nat → Nat) (Cw : Nat → ST) (Nl : Nat → Nat) (R : Nat) : Prop :=
  fs ≤ 6 ∧ ∀ f, f < fs → P 4 f = pu_I (np f) ∧ np f ≤ 4 ∧ 0 < Nl f ∧ (Nl f ≤ Cn f 2 ∧ Nl f ≤ Cn f 3 ∧ Nl f ≤ Cn f 4 ∧ Nl f ≤ Cn f 5 ∧ Nl f < 50000) ∧ ∀ i, i < Nl f → pm_ln (Cw f) (Nl f) fs (np f) R i
/-- the call of code is about to give its value back -/
def pm_RC (n17 : Nat → Nat) (Cn : Nat → Nat → Nat) (Cw : Nat → ST) (P : ST) (R c : Nat) (r : pu_Res) (K j : Nat) (w w' : ST) : Prop :=
  r.1 = 0 ∧ ¬ w' 0 8 = 0 ∧ ∃ c' w9 t', c = c' + 1 ∧ t' ≤ 5000 ∧ j + 1 + (5000 - t') ≤ K ∧ pm_fr c 0 R w w9 ∧ (w9 0 8 = 1 ∧ w9 0 9 = pu_I c ∧ w9 0 19 = 0 ∧ w9 0 2 = pu_I t' ∧ w9 0 17 = pu_I R ∧ w9 0 1 = 0) ∧ (∀ z, z < 16 → w9 4 z = r.2.2 z) ∧
    ∀ g i', g < 6 → w 11 c' = pu_I g → w 12 c' = pu_I (i' + 1) → i' < Cn g 3 → i' < 50000 → ixb (Cw g 3 i') 250 = true → fX3_moveInCode n17 w' Cn Cw P = some (upw w9 16 (c' * 320 + nn (Cw g 3 i')) r.2.1)
def pm_SD (n17 : Nat → Nat) (Cn : Nat → Nat → Nat) (Cw : Nat → ST) (P : ST) (R fs : Nat) (np Nl : Nat → Nat) (n d : Nat) : Prop :=
  ∀ (k c f i : Nat) (e : pu_E) (m : pu_M) (q : List Int32) (z : Nat → Int32) (ar : List Int32) (t : Nat) (w : ST) (r : pu_Res), c + d = 7 → pm_CX w f c i e m q z ar t R → f < fs → i < Nl f → ar.length = np f → t ≤ 5000 →
    pu_crn (pm_Cs Cw f) (pm_callC fs np (pm_Cs Cw) n d) ar k i (e, m, q, z) = some r → r.1 ≠ 9 →
    ∃ j w', pm_go (fun w => fX3_moveInCode n17 w Cn Cw P) j w w' ∧ pm_fr c 0 R w w' ∧ (pm_ST c r (5000 - t) j w' ∨ pm_RC n17 Cn Cw P R c r (5000 - t) j w w')
section SD
variable {P : ST} {fs : Nat} {np Nl : Nat → Nat} {Cn : Nat → Nat → Nat} {Cw : Nat → ST} {n17 : Nat → Nat} {R : Nat}
theorem pm_cT {w : ST} {f c b : Nat} {p9 at0 : Int32} {e : pu_E} {m : pu_M} {q ar : List Int32} {t : Nat} (h : pm_BX w f c b p9 at0 e m q ar t R) (hc : c < 8) (hf : f < 6) {w' : ST} (ht : fX3_tick w 1 = some (0, w')) : fX3_moveInCode n17 w Cn Cw P = some w' := by
  have h9 : w 0 9 - 1 = pu_I c := by rw [h.1.2.1]; exact pv_sub (b := 1) (by omega)
  have hcx : ixb (pu_I c) 8 = true := (pu_ix (by omega)).mpr hc
  have hcn : nn (pu_I c) = c := pu_nn (by omega)
  unfold fX3_moveInCode
  simp only [lt9]
  rw [h9, if_pos hcx, hcn, h.1.2.2.2.1, if_pos ((pu_ix (by omega)).mpr hf), if_pos hcx, ht, Option.bind_some, if_pos rfl]
theorem pm_code0 (hcc : pm_cc P fs np Cn Cw Nl R) (hn17 : 8 * R ≤ n17 17) (hn17' : n17 17 < 1000000) {n d : Nat} (hd : ∀ d', d = d' + 1 → pm_SD n17 Cn Cw P R fs np Nl n d') : pm_SD n17 Cn Cw P R fs np Nl n d := by
  intro k
  induction k with
  | zero => intro c f i e m q z ar t w r _ _ _ _ _ _ hr _; cases hr
  | succ k ih =>
    intro c f i e m q z ar t w r hcd hCX hf hi har ht hr h9
    obtain ⟨hfs, hall⟩ := id hcc
    obtain ⟨hnp, hnp4, hN0, hN, hlns⟩ := hall f hf
    obtain ⟨hN2, hN3, hN4, hN5, hNN⟩ := id hN
    have hln := hlns i hi
    obtain ⟨l22, l23, l24, l25, l26, l27, ⟨lgv, lrg, l20, l21⟩, lkd, lnx⟩ := id hln
    have hc8 : c < 8 := by omega
    have hf6 : f < 6 := by omega
    obtain ⟨hBX, hz⟩ := id hCX
    have hrun8 : ¬ w 0 8 = 0 := by rw [hBX.1.1]; decide
    have hcR : (c + 1) * R = c * R + R := Nat.succ_mul c R
    have hcR8 : (c + 1) * R ≤ n17 17 := Nat.le_trans (Nat.mul_le_mul_right R (show c + 1 ≤ 8 by omega)) hn17
    rcases (pm_btk hBX ht).symm with ⟨hle, w', htick, s8, s0, sfr⟩ | ⟨hle, htick⟩
    · have hmv := pm_cT (n17 := n17) (Cn := Cn) (Cw := Cw) (P := P) hBX hc8 hf6 htick
      exact ⟨1, w', pm_go_1 hrun8 hmv, sfr, Or.inl ⟨s8, by omega, Or.inl s0⟩⟩
    obtain ⟨g1, q1⟩ := pm_btick hBX (t + 1)
    obtain ⟨g2, q2⟩ := pm_bat g1 (pu_I (i + 1))
    have q3 := pm_fr_tr q1 q2
    obtain ⟨w9, hw9⟩ : ∃ w9, w9 = upw (upw w 0 2 (pu_I (t + 1))) 12 c (pu_I (i + 1)) := ⟨_, rfl⟩
    rw [← hw9] at g2 q2 q3
    have hCX9 : pm_CX w9 f c (i + 1) e m q z ar (t + 1) R := ⟨g2, fun v hv => by rw [hw9, pv_upw_n (by decide), pv_upw_n (by decide)]; exact hz v hv⟩
    have hcont : ∀ i2 e2 m2 q2 z2 w2, i2 < Nl f → pm_CX w2 f c i2 e2 m2 q2 z2 ar (t + 1) R → pm_fr c 0 R w w2 → fX3_moveInCode n17 w Cn Cw P = some w2 → pu_crn (pm_Cs Cw f) (pm_callC fs np (pm_Cs Cw) n d) ar k i2 (e2, m2, q2, z2) = some r →
        ∃ j w', pm_go (fun w => fX3_moveInCode n17 w Cn Cw P) j w w' ∧ pm_fr c 0 R w w' ∧ (pm_ST c r (5000 - t) j w' ∨ pm_RC n17 Cn Cw P R c r (5000 - t) j w w') := fun i2 e2 m2 q2 z2 w2 hi2 hc2 hfr2 hmv hr2 => by
      obtain ⟨j, w', x1, x2, x3⟩ := ih c f i2 e2 m2 q2 z2 ar (t + 1) w2 r hcd hc2 hf hi2 har hle hr2 h9
      refine ⟨1 + j, w', pm_go_app 1 j w w2 w' (pm_go_1 hrun8 hmv) x1, pm_fr_tr hfr2 x2, x3.imp (fun ⟨z1, z2, z3⟩ => ⟨z1, by omega, z3⟩) fun ⟨z1, z2, c', w9, t9, z3, z4, z5, z6, z7, z8, z10⟩ => ⟨z1, z2, c', w9, t9, z3, z4, by omega, pm_fr_tr hfr2 z6, z7, z8, fun g i' hg h11 h12 => z10 g i' hg ?_ ?_⟩⟩
      · rw [hfr2.1 11 (Or.inl rfl) c' (by omega)]; exact h11
      · rw [hfr2.1 12 (Or.inr (Or.inl rfl)) c' (by omega)]; exact h12
    have hcell : ∀ {x : Int32}, ixb x 250 = true → ixb (pu_I c * 320 + x) 2560 = true ∧ w9 16 (nn (pu_I c * 320 + x)) = e x ∧ nn (pu_I c * 320 + x) = c * 320 + nn x := fun h => pm_bget g2 hc8 h
    have hset : ∀ (x y : Int32), ixb x 250 = true → pm_CX (upw w9 16 (c * 320 + nn x) y) f c (i + 1) (pu_set e x y) m q z ar (t + 1) R ∧ pm_fr c 0 R w (upw w9 16 (c * 320 + nn x) y) := fun x y hx => by
      obtain ⟨v0, v1⟩ := pv_ixn hx
      have h9 := pm_bcell g2 v1 y
      rw [← pu_of v0] at h9
      exact ⟨⟨h9.1, fun v hv => by rw [pv_upw_n (by decide)]; exact hCX9.2 v hv⟩, pm_fr_tr q3 h9.2⟩
    have hat : ∀ j, pm_CX (upw w9 12 c (pu_I j)) f c j e m q z ar (t + 1) R ∧ pm_fr c 0 R w (upw w9 12 c (pu_I j)) := fun j => by
      have h9 := pm_bat g2 (pu_I j)
      exact ⟨⟨h9.1, fun v hv => by rw [pv_upw_n (by decide)]; exact hCX9.2 v hv⟩, pm_fr_tr q3 h9.2⟩
    have hslot : ∀ s, s < R → pu_I c * w9 0 17 + pu_I s = pu_I (c * R + s) ∧ ixb (pu_I (c * R + s)) (n17 17) = true ∧ nn (pu_I (c * R + s)) = c * R + s := fun s hs => by
      refine ⟨?_, (pu_ix (by omega)).mpr (by omega), pu_nn (by omega)⟩
      rw [g2.1.2.2.2.2.2.2.2.2.1, pv_mul, pv_add]
    have hS : ∀ a b c d : Int32, (pm_Cs Cw f i) = (a, b, c, d) → True := fun _ _ _ _ _ => trivial
    have hkw : pu_kw (Cw f 2 i) → (pu_stpW (pm_callC fs np (pm_Cs Cw) n d) ar (pm_Cs Cw f i) (e, m, q, z)).bind (fun o => Sum.elim some (fun τ => pu_crn (pm_Cs Cw f) (pm_callC fs np (pm_Cs Cw) n d) ar k (i + 1) τ) o) = some r := fun hk => by
      rw [← pu_cr_step (C := pm_Cs Cw f) (i := i) hk]
      exact hr
    have hr0 : (if Cw f 2 i = 22 then pu_crn (pm_Cs Cw f) (pm_callC fs np (pm_Cs Cw) n d) ar k (nn (Cw f 4 i)) (e, m, q, z)
      else if Cw f 2 i = 23 then (if e (Cw f 4 i) = 0 then pu_crn (pm_Cs Cw f) (pm_callC fs np (pm_Cs Cw) n d) ar k (i + 1) (e, m, q, z) else pu_crn (pm_Cs Cw f) (pm_callC fs np (pm_Cs Cw) n d) ar k (nn (Cw f 5 i)) (e, m, q, z))
      else if Cw f 2 i = 28 then (if e (Cw f 4 i) = 0 then pu_crn (pm_Cs Cw f) (pm_callC fs np (pm_Cs Cw) n d) ar k (nn (Cw f 5 i)) (e, m, q, z) else pu_crn (pm_Cs Cw f) (pm_callC fs np (pm_Cs Cw) n d) ar k (i + 1) (e, m, q, z))
      else if Cw f 2 i = 24 then some (pu_rq q, e (Cw f 4 i), m)
      else (pu_stpW (pm_callC fs np (pm_Cs Cw) n d) ar (pm_Cs Cw f i) (e, m, q, z)).bind fun o => Sum.elim some (fun τ => pu_crn (pm_Cs Cw f) (pm_callC fs np (pm_Cs Cw) n d) ar k (i + 1) τ) o) = some r := hr
    rcases lkd with hk | hk | hk | hk | hk
    · -- what is no jump
      have hr1 := hkw hk
      have hne := pu_kw_ne hk
      have hnx := lnx hne.1 hne.2.2.2
      obtain ⟨o1, ho1, ho2⟩ := Option.bind_eq_some_iff.mp hr1
      have ho1 : (if Cw f 2 i = 25 then some (.inr (pu_set e (Cw f 3 i) (e (Cw f 4 i)), m, q, z)) else if Cw f 2 i = 26 then some (.inr (pu_set e (Cw f 3 i) (z (nn (Cw f 4 i))), m, q, z)) else if Cw f 2 i = 27 then some (.inr (e, m, q, fun y => if y = nn (Cw f 5 i) then e (Cw f 4 i) else z y))
        else (pu_stp (pm_callC fs np (pm_Cs Cw) n d) ar (Cw f 2 i) (Cw f 3 i) (Cw f 4 i) (Cw f 5 i) e m q).bind fun o => some (Sum.elim .inl (fun τ => .inr (τ.1, τ.2.1, τ.2.2, z)) o)) = some o1 := ho1
      by_cases k25 : Cw f 2 i = 25
      · obtain ⟨a1, a2⟩ := l25 k25
        obtain ⟨c1, c2, c3⟩ := hcell a1
        obtain ⟨d1, d2, d3⟩ := hcell a2
        have hmv := pm_c25 (n17 := n17) (P := P) (Cn := Cn) (Cw := Cw) hBX hc8 hf6 hi hN2 hN4 hNN htick hw9 k25 hN3 d1 c1
        rw [if_pos k25] at ho1
        obtain rfl := Option.some.inj ho1
        obtain ⟨x1, x2⟩ := hset (Cw f 3 i) (e (Cw f 4 i)) a1
        rw [c3, d2] at hmv
        exact hcont _ _ _ _ _ _ hnx x1 x2 hmv ho2
      rw [if_neg k25] at ho1
      by_cases k26 : Cw f 2 i = 26
      · obtain ⟨a1, s, s1, s2⟩ := l26 k26
        obtain ⟨c1, c2, c3⟩ := hcell a1
        obtain ⟨d1, d2, d3⟩ := hslot s s1
        have hmv := pm_c26 (n17 := n17) (P := P) (Cn := Cn) (Cw := Cw) hBX hc8 hf6 hi hN2 hN4 hNN htick hw9 k26 hN3 (by rw [s2, d1]; exact d2) c1
        rw [if_pos k26, s2, pu_nn (by omega)] at ho1
        obtain rfl := Option.some.inj ho1
        obtain ⟨x1, x2⟩ := hset (Cw f 3 i) (z s) a1
        rw [c3, s2, d1, d3, hCX9.2 s s1] at hmv
        exact hcont _ _ _ _ _ _ hnx x1 x2 hmv ho2
      rw [if_neg k26] at ho1
      by_cases k27 : Cw f 2 i = 27
      · obtain ⟨a1, s, s1, s2⟩ := l27 k27
        obtain ⟨c1, c2, c3⟩ := hcell a1
        obtain ⟨d1, d2, d3⟩ := hslot s s1
        have hmv := pm_c27 (n17 := n17) (P := P) (Cn := Cn) (Cw := Cw) hBX hc8 hf6 hi hN2 hN4 hNN htick hw9 k27 hN5 c1 (by rw [s2, d1]; exact d2)
        rw [if_pos k27, s2, pu_nn (by omega)] at ho1
        obtain rfl := Option.some.inj ho1
        rw [s2, d1, d3, c2] at hmv
        refine hcont _ _ _ _ _ _ hnx ⟨?_, fun v hv => ?_⟩ ?_ hmv ho2
        · obtain ⟨⟨h1, h2, h3, h4, h5, h6, h7, h8, h9, h10⟩, hq, hcl, hm, har⟩ := g2
          have er : ∀ r, r ≠ 17 → upw w9 17 (c * R + s) (e (Cw f 4 i)) r = w9 r := fun r hr => pv_upw_n hr
          exact ⟨⟨by rw [er 0 (by decide)]; exact h1, by rw [er 0 (by decide)]; exact h2, by rw [er 12 (by decide)]; exact h3, by rw [er 11 (by decide)]; exact h4, by rw [er 13 (by decide)]; exact h5, by rw [er 14 (by decide)]; exact h6, by rw [er 0 (by decide)]; exact h7, by rw [er 0 (by decide)]; exact h8, by rw [er 0 (by decide)]; exact h9, by rw [er 0 (by decide)]; exact h10⟩, by rw [er 19 (by decide)]; exact hq, by rw [er 16 (by decide)]; exact hcl, by rw [er 4 (by decide)]; exact hm, by rw [er 15 (by decide)]; exact har⟩
        · show upw w9 17 (c * R + s) (e (Cw f 4 i)) 17 (c * R + v) = if v = s then e (Cw f 4 i) else z v
          rw [pv_upw]
          by_cases e9 : v = s
          · rw [if_pos ⟨rfl, by rw [e9]⟩, if_pos e9]
          · rw [if_neg fun h => e9 (by omega), if_neg e9]
            exact hCX9.2 v hv
        · refine pm_fr_tr q3 ⟨fun r hr j hj => by rw [pv_upw_n (by rcases hr with h | h | h | h <;> rw [h] <;> decide)], fun z hz => by rw [pv_upw_n (by decide)], fun z hz => by rw [pv_upw_n (by decide)], fun z hz => by rw [pv_upw, if_neg fun h => by omega], fun z hz => absurd hz (Nat.not_lt_zero z), by rw [pv_upw_n (by decide)], by rw [pv_upw_n (by decide)]⟩
      rw [if_neg k27] at ho1
      have hkd : pu_gk (Cw f 2 i) = true ∨ Cw f 2 i = 18 ∨ Cw f 2 i = 19 := by
        rcases hk with h | h | h | h | h | h
        · exact Or.inl h
        · exact Or.inr (Or.inl h)
        · exact Or.inr (Or.inr h)
        · exact absurd h k25
        · exact absurd h k26
        · exact absurd h k27
      have hmv := pm_cel (n17 := n17) (P := P) (Cn := Cn) (Cw := Cw) hBX hc8 hf6 hi hN2 hN4 hNN htick hw9 hkd
      obtain ⟨os, hos, hos2⟩ := Option.bind_eq_some_iff.mp ho1
      have hos2 := Option.some.inj hos2
      by_cases h20 : Cw f 2 i = 20
      · -- a call
        rw [if_pos h20] at hmv
        have hstp : ((pm_callC fs np (pm_Cs Cw) n d) (Cw f 4 i) q m).bind (fun o => if o.1 = 0 then some (.inr (pu_set e (Cw f 3 i) o.2.1, o.2.2, [])) else some (.inl o)) = some os := by
          have h8 := hos
          unfold pu_stp at h8
          rw [h20, if_neg (show ¬ (20 : Int32) = 0 by decide), if_neg (show ¬ (20 : Int32) = 21 by decide), if_pos rfl] at h8
          exact h8
        obtain ⟨oc, hoc, hoc2⟩ := Option.bind_eq_some_iff.mp hstp
        have hnz : oc.1 ≠ 0 → r = oc := fun h0 => by
          have h7 : (some (.inl oc) : Option (Sum pu_Res pu_S)) = some os := by
            rw [← hoc2]
            exact (if_neg h0).symm
          rw [← Option.some.inj h7] at hos2
          have hos2 : (.inl oc : Sum pu_Res pu_SW) = o1 := hos2
          rw [← hos2] at ho2
          have ho2 : (some oc : Option pu_Res) = some r := ho2
          exact (Option.some.inj ho2).symm
        by_cases hc7 : c = 7
        · have hd0 : d = 0 := by omega
          rw [pm_enter8 (w := w9) (P := P) (n17 := n17) (way := 2) (f := Cw f 4 i) (by rw [g2.1.2.1, hc7])] at hmv
          rw [hd0] at hoc
          have hoc : (some (3, 0, m) : Option pu_Res) = some oc := hoc
          have hoc := Option.some.inj hoc
          have hrr := hnz (by rw [← hoc]; show (3 : Int32) ≠ 0; decide)
          rw [← hoc] at hrr
          subst hrr
          refine ⟨1, _, pm_go_1 hrun8 hmv, pm_fr_tr q3 (pm_fr_stop c 0 R _ 3), Or.inl ⟨?_, by omega, Or.inr ⟨Or.inl (show (3 : Int32) ≠ 0 by decide), ?_, ?_, fun z hz => ?_⟩⟩⟩
          · rw [pv_upw, if_pos ⟨rfl, rfl⟩]
          · rw [pv_upw, if_neg fun h => absurd h.2 (by decide), pv_upw, if_pos ⟨rfl, rfl⟩]
          · rw [pv_upw, if_neg fun h => absurd h.2 (by decide), pv_upw, if_neg fun h => absurd h.2 (by decide)]
            exact g2.1.2.2.2.2.2.2.2.2.2
          · rw [pv_upw_n (by decide), pv_upw_n (by decide)]
            exact g2.2.2.2.1 z hz
        · obtain ⟨d', hd'⟩ : ∃ d', d = d' + 1 := ⟨d - 1, by omega⟩
          rw [hd'] at hoc
          have hoc' : (if ixb (Cw f 4 i) fs = true ∧ q.length = np (nn (Cw f 4 i)) then pu_crn (pm_Cs Cw (nn (Cw f 4 i))) (pm_callC fs np (pm_Cs Cw) n d') q n 0 (fun _ => 0, m, [], fun _ => 0) else none) = some oc := hoc
          by_cases hgd : ixb (Cw f 4 i) fs = true ∧ q.length = np (nn (Cw f 4 i))
          · rw [if_pos hgd] at hoc'
            obtain ⟨hgx, hql⟩ := hgd
            obtain ⟨hgn, hgf⟩ := pv_ixn hgx
            obtain ⟨g, hgdef⟩ : ∃ g, g = nn (Cw f 4 i) := ⟨_, rfl⟩
            have hgI : Cw f 4 i = pu_I g := by rw [hgdef]; exact pu_of hgn
            rw [← hgdef] at hoc' hql hgf
            obtain ⟨hnpg, hnpg4, hNg0, _, _⟩ := hall g hgf
            obtain ⟨w6, e1, e2, e3, e4, e5, e6, e7, e8, e9, e10, e11, e12, e13⟩ := pm_enter (w := w9) (P := P) (n17 := n17) (c := c + 1) (f := g) (p := np g) (q := 0) (R := R) (way := 2) (at0 := 0) g2.1.2.1 (by omega) (by omega) hnpg hnpg4 (by rw [g2.1.2.2.2.2.2.2.1]; congr 1; omega) (by omega) g2.1.2.2.2.2.2.2.2.2.1 hn17 hn17' (by rw [if_neg (by decide), if_neg (by decide)])
            rw [hgI, e1] at hmv
            have hCX6 : pm_CX w6 g (c + 1) 0 (fun _ => 0) m [] (fun _ => 0) q (t + 1) R := by
              refine ⟨⟨⟨by rw [e4 8 (by decide) (by decide)]; exact g2.1.1, e2, e8, e5, e6, e7, e3, by rw [e4 2 (by decide) (by decide)]; exact g2.1.2.2.2.2.2.2.2.1, by rw [e4 17 (by decide) (by decide)]; exact g2.1.2.2.2.2.2.2.2.2.1, by rw [e4 1 (by decide) (by decide)]; exact g2.1.2.2.2.2.2.2.2.2.2⟩, fun z hz _ => absurd hz (Nat.not_lt_zero z), fun v hv => e10 v (by omega), fun z hz => ?_, fun z hz => ?_⟩, e11⟩
              · rw [e13 4 (by decide) (by decide) (by decide) (by decide) (by decide) (by decide) (by decide) (by decide)]
                exact g2.2.2.2.1 z hz
              · rw [e9 z (by omega), Nat.zero_add, g2.2.1 z hz (by omega)]
            have hoc9 : oc.1 ≠ 9 := fun h => by
              have h7 := hnz (by rw [h]; decide)
              rw [h7] at h9
              exact h9 h
            obtain ⟨j1, w7, f1, f2, f3⟩ := hd d' hd' n (c + 1) g 0 (fun _ => 0) m [] (fun _ => 0) q (t + 1) w6 oc (by omega) hCX6 hgf hNg0 hql hle hoc' hoc9
            have hgo := pm_go_app 1 j1 w w6 w7 (pm_go_1 (mv := fun w => fX3_moveInCode n17 w Cn Cw P) hrun8 hmv) f1
            rcases f3 with ⟨k1, k2, k3⟩ | ⟨k1, k2, c', w8, t', kc, k3, k4, k5, ⟨l1', l2', l3', l4', l5', l6'⟩, k7, k8⟩
            · refine ⟨1 + j1, w7, hgo, pm_fr_tr q3 (pm_fr_le (Nat.le_succ c) (Nat.le_refl 0) (pm_fr_tr e12 f2)), Or.inl ⟨k1, by omega, k3.imp id fun ⟨z1, z2, z3, z4⟩ => ?_⟩⟩
              have h0 := z1.resolve_right (by omega)
              rw [hnz h0]
              exact ⟨Or.inl h0, z2, z3, z4⟩
            · obtain rfl : c' = c := by omega
              have hfr68 := pm_fr_tr e12 k5
              have hv := lgv (by rw [h20]; decide)
              have hmv2 := k8 f i hf6 (by rw [e12.1 11 (Or.inl rfl) c' (by omega)]; exact g2.1.2.2.2.1) (by rw [e12.1 12 (Or.inr (Or.inl rfl)) c' (by omega)]; exact g2.1.2.2.1) (by omega) (by omega) hv
              have hgo2 := pm_go_app _ 1 w w7 _ hgo (pm_go_1 (mv := fun w => fX3_moveInCode n17 w Cn Cw P) k2 hmv2)
              have hos' : os = .inr (pu_set e (Cw f 3 i) oc.2.1, oc.2.2, []) := by
                have h7 : (some (.inr (pu_set e (Cw f 3 i) oc.2.1, oc.2.2, [])) : Option (Sum pu_Res pu_S)) = some os := by
                  rw [← hoc2]
                  exact (if_pos k1).symm
                exact (Option.some.inj h7).symm
              rw [hos'] at hos2
              have hos2 : (.inr (pu_set e (Cw f 3 i) oc.2.1, oc.2.2, [], z) : Sum pu_Res pu_SW) = o1 := hos2
              rw [← hos2] at ho2
              have ho2 : pu_crn (pm_Cs Cw f) (pm_callC fs np (pm_Cs Cw) n d) ar k (i + 1) (pu_set e (Cw f 3 i) oc.2.1, oc.2.2, [], z) = some r := ho2
              have hBX8 : pm_BX w8 f c' 0 (-1) (pu_I (i + 1)) e oc.2.2 [] ar t' R := by
                refine ⟨⟨l1', l2', ?_, ?_, ?_, ?_, l3', l4', l5', l6'⟩, fun z hz _ => absurd hz (Nat.not_lt_zero z), fun v hv => ?_, k7, fun z hz => ?_⟩
                · rw [hfr68.1 12 (by decide) c' (by omega)]; exact g2.1.2.2.1
                · rw [hfr68.1 11 (by decide) c' (by omega)]; exact g2.1.2.2.2.1
                · rw [hfr68.1 13 (by decide) c' (by omega)]; exact g2.1.2.2.2.2.1
                · rw [hfr68.1 14 (by decide) c' (by omega)]; exact g2.1.2.2.2.2.2.1
                · rw [hfr68.2.2.1 _ (by omega)]; exact g2.2.2.1 v hv
                · rw [hfr68.2.1 _ (by omega)]; exact g2.2.2.2.2 z hz
              obtain ⟨v0, v1⟩ := pv_ixn hv
              obtain ⟨g3, q4⟩ := pm_bcell hBX8 v1 oc.2.1
              rw [← pu_of v0] at g3
              have hCX8 : pm_CX (upw w8 16 (c' * 320 + nn (Cw f 3 i)) oc.2.1) f c' (i + 1) (pu_set e (Cw f 3 i) oc.2.1) oc.2.2 [] z ar t' R := ⟨g3, fun v hv => by
                rw [pv_upw_n (by decide), hfr68.2.2.2.1 _ (by omega)]
                exact hCX9.2 v hv⟩
              obtain ⟨j2, w10, r1, r2, r3⟩ := ih c' f (i + 1) _ _ _ _ ar t' _ r hcd hCX8 hf hnx har k3 ho2 h9
              have hgo3 := pm_go_app _ j2 w _ w10 hgo2 r1
              have hfr8 : pm_fr c' 0 R w (upw w8 16 (c' * 320 + nn (Cw f 3 i)) oc.2.1) := pm_fr_tr q3 (pm_fr_tr (pm_fr_le (Nat.le_succ c') (Nat.le_refl 0) hfr68) q4)
              refine ⟨_, w10, hgo3, pm_fr_tr hfr8 r2, r3.imp (fun ⟨z1, z2, z3⟩ => ⟨z1, by omega, z3⟩) fun ⟨z1, z2, c2, w11, t9, z3, z4, z5, z6, z7, z8, z10⟩ => ⟨z1, z2, c2, w11, t9, z3, z4, by omega, pm_fr_tr hfr8 z6, z7, z8, fun g i' hg h11 h12 => z10 g i' hg ?_ ?_⟩⟩
              · rw [hfr8.1 11 (Or.inl rfl) c2 (by omega)]; exact h11
              · rw [hfr8.1 12 (Or.inr (Or.inl rfl)) c2 (by omega)]; exact h12
          · rw [if_neg hgd] at hoc'; cases hoc'
      · rw [if_neg h20] at hmv
        obtain ⟨w6, e1, e2, e3⟩ := pm_cstp (n17 := n17) (P := P) hN hi hln hc8 hkd h20 (by omega) (by omega) hCX9 (call := pm_callC fs np (pm_Cs Cw) n d)
        rw [e1] at hmv
        rcases e3 os hos with ⟨rfl, s1, s2, s3, s4⟩ | ⟨e', m', q', rfl, s1⟩
        · have hos2 : (.inl (1, 0, m) : Sum pu_Res pu_SW) = o1 := hos2
          rw [← hos2] at ho2
          have ho2 : (some (1, 0, m) : Option pu_Res) = some r := ho2
          have hrr := Option.some.inj ho2
          subst hrr
          exact ⟨1, w6, pm_go_1 hrun8 hmv, pm_fr_tr q3 e2, Or.inl ⟨s1, by omega, Or.inr ⟨Or.inl (show (1 : Int32) ≠ 0 by decide), s2, s3, s4⟩⟩⟩
        · have hos2 : (.inr (e', m', q', z) : Sum pu_Res pu_SW) = o1 := hos2
          rw [← hos2] at ho2
          exact hcont _ _ _ _ _ _ hnx s1 (pm_fr_tr q3 e2) hmv ho2
    · -- a leap
      obtain ⟨j, j1, j2⟩ := l22 hk
      have hmv := pm_c22 (n17 := n17) (P := P) (Cn := Cn) (Cw := Cw) hBX hc8 hf6 hi hN2 hN4 hNN htick hw9 hk
      rw [if_pos hk, j2, pu_nn (by omega)] at hr0
      rw [j2] at hmv
      exact hcont _ _ _ _ _ _ j1 (hat j).1 (hat j).2 hmv hr0
    · -- a fork
      obtain ⟨a1, j, j1, j2⟩ := l23 (Or.inl hk)
      obtain ⟨c1, c2, c3⟩ := hcell a1
      have hmv := pm_c23 (n17 := n17) (P := P) (Cn := Cn) (Cw := Cw) hBX hc8 hf6 hi hN2 hN4 hNN htick hw9 hk hN5 c1
      rw [if_neg (by rw [hk]; decide), if_pos hk, j2, pu_nn (by omega)] at hr0
      rw [c2, j2] at hmv
      by_cases h0 : e (Cw f 4 i) = 0
      · rw [if_pos h0] at hr0 hmv
        exact hcont _ _ _ _ _ _ (lnx (by rw [hk]; decide) (by rw [hk]; decide)) hCX9 q3 hmv hr0
      · rw [if_neg h0] at hr0 hmv
        exact hcont _ _ _ _ _ _ j1 (hat j).1 (hat j).2 hmv hr0
    · obtain ⟨a1, j, j1, j2⟩ := l23 (Or.inr hk)
      obtain ⟨c1, c2, c3⟩ := hcell a1
      have hmv := pm_c28 (n17 := n17) (P := P) (Cn := Cn) (Cw := Cw) hBX hc8 hf6 hi hN2 hN4 hNN htick hw9 hk hN5 c1
      rw [if_neg (by rw [hk]; decide), if_neg (by rw [hk]; decide), if_pos hk, j2, pu_nn (by omega)] at hr0
      rw [c2, j2] at hmv
      by_cases h0 : e (Cw f 4 i) = 0
      · rw [if_pos h0] at hr0 hmv
        exact hcont _ _ _ _ _ _ j1 (hat j).1 (hat j).2 hmv hr0
      · rw [if_neg h0] at hr0 hmv
        exact hcont _ _ _ _ _ _ (lnx (by rw [hk]; decide) (by rw [hk]; decide)) hCX9 q3 hmv hr0
    · -- a return
      have a1 := l24 hk
      obtain ⟨c1, c2, c3⟩ := hcell a1
      rw [if_neg (by rw [hk]; decide), if_neg (by rw [hk]; decide), if_neg (by rw [hk]; decide), if_pos hk] at hr0
      have hrr := Option.some.inj hr0
      have hq' : q = [] := Classical.byContradiction fun hq => h9 (by
        rw [← hrr]
        show pu_rq q = 9
        unfold pu_rq
        exact if_neg hq)
      subst hq'
      have hr1 : r = (0, e (Cw f 4 i), m) := by rw [← hrr]; rfl
      subst hr1
      by_cases hc0 : c = 0
      · have hmv := pm_c24 (n17 := n17) (P := P) (Cn := Cn) (Cw := Cw) hBX hc8 hf6 hi hN2 hN4 hNN htick hw9 hk c1 g2.1.2.1 hc0
        rw [c2] at hmv
        have er : ∀ r, r ≠ 0 → upw (upw (upw (upw w9 0 9 0) 0 0 0) 0 8 0) 0 1 (e (Cw f 4 i)) r = w9 r := fun r hr => by rw [pv_upw_n hr, pv_upw_n hr, pv_upw_n hr, pv_upw_n hr]
        refine ⟨1, _, pm_go_1 hrun8 hmv, pm_fr_tr q3 ⟨fun r hr j hj => by rw [er r (by rcases hr with h | h | h | h <;> rw [h] <;> decide)], fun z hz => by rw [er 15 (by decide)], fun z hz => by rw [er 16 (by decide)], fun z hz => by rw [er 17 (by decide)], fun z hz => absurd hz (Nat.not_lt_zero z), ?_, er 8 (by decide)⟩, Or.inl ⟨?_, by omega, Or.inr ⟨Or.inr hc0, ?_, ?_, fun z hz => ?_⟩⟩⟩
        · rw [pv_upw, if_neg fun h => absurd h.2 (by decide), pv_upw, if_neg fun h => absurd h.2 (by decide), pv_upw, if_neg fun h => absurd h.2 (by decide), pv_upw, if_neg fun h => absurd h.2 (by decide)]
        · rw [pv_upw, if_neg fun h => absurd h.2 (by decide), pv_upw, if_pos ⟨rfl, rfl⟩]
        · rw [pv_upw, if_neg fun h => absurd h.2 (by decide), pv_upw, if_neg fun h => absurd h.2 (by decide), pv_upw, if_pos ⟨rfl, rfl⟩]
        · rw [pv_upw, if_pos ⟨rfl, rfl⟩]
        · rw [er 4 (by decide)]; exact g2.2.2.2.1 z hz
      · obtain ⟨c', hc'⟩ : ∃ c', c = c' + 1 := ⟨c - 1, by omega⟩
        have er : ∀ r, r ≠ 0 → upw w9 0 9 (pu_I c) r = w9 r := fun r hr => pv_upw_n hr
        have e0 : ∀ y, y ≠ 9 → upw w9 0 9 (pu_I c) 0 y = w9 0 y := fun y y9 => by rw [pv_upw, if_neg fun h => y9 h.2]
        have hfr9 : pm_fr c 0 R w9 (upw w9 0 9 (pu_I c)) := ⟨fun r hr j hj => by rw [er r (by rcases hr with h | h | h | h <;> rw [h] <;> decide)], fun z hz => by rw [er 15 (by decide)], fun z hz => by rw [er 16 (by decide)], fun z hz => by rw [er 17 (by decide)], fun z hz => absurd hz (Nat.not_lt_zero z), e0 17 (by decide), er 8 (by decide)⟩
        refine ⟨0, w, rfl, pm_fr_rf c 0 R w, Or.inr ⟨rfl, hrun8, c', upw w9 0 9 (pu_I c), t + 1, hc', hle, by omega, pm_fr_tr q3 hfr9, ⟨by rw [e0 8 (by decide)]; exact g2.1.1, by rw [pv_upw, if_pos ⟨rfl, rfl⟩], by rw [e0 19 (by decide)]; exact g2.1.2.2.2.2.2.2.1, by rw [e0 2 (by decide)]; exact g2.1.2.2.2.2.2.2.2.1, by rw [e0 17 (by decide)]; exact g2.1.2.2.2.2.2.2.2.2.1, by rw [e0 1 (by decide)]; exact g2.1.2.2.2.2.2.2.2.2.2⟩, fun z hz => by rw [er 4 (by decide)]; exact g2.2.2.2.1 z hz, fun g i' hg h11 h12 hi' hi2 hv => ?_⟩⟩
        have hmv := pm_c24r (n17 := n17) (P := P) (Cn := Cn) (Cw := Cw) hBX hc8 hf6 hi hN2 hN4 hNN htick hw9 hk c1 g2.1.2.1 hc' hg (by rw [q3.1 11 (Or.inl rfl) c' (by omega)]; exact h11) (by rw [q3.1 12 (Or.inr (Or.inl rfl)) c' (by omega)]; exact h12) hi' hi2 hv
        rw [c2] at hmv
        exact hmv
theorem pm_code (hcc : pm_cc P fs np Cn Cw Nl R) (hn17 : 8 * R ≤ n17 17) (hn17' : n17 17 < 1000000) {n : Nat} : ∀ d, pm_SD n17 Cn Cw P R fs np Nl n d := by
  intro d
  induction d with
  | zero => exact pm_code0 hcc hn17 hn17' fun d' h => by omega
  | succ d ihd =>
    refine pm_code0 hcc hn17 hn17' (fun d' h => ?_)
    have : d' = d := by omega
    rw [this]
    exact ihd
end SD
