/-! pure side, the reader 3: tests in shape, put together -/
section TYF
variable {P : ST} {a0 a1 Vn fs np : Nat} {vis : Int32 → Prop}
/-- a test in shape: it leaves one value more; k: how many wait at most, B: what it costs -/
def tq_e (P : ST) (a0 a1 Vn fs np : Nat) (vis : Int32 → Prop) (i j k B : Nat) : Prop :=
  (a0 ≤ i ∧ i < j ∧ j ≤ a1 ∧ 1 ≤ k) ∧ tq_k P i ∧ (pt_Q P a0 i = [] → (pt_T P a0 i).length + k ≤ 60 → ∃ S t, tq_i P a0 a1 Vn fs np vis i j B S (fun _ => False) ∧ pt_T P a0 j = t :: pt_T P a0 i ∧ pt_Q P a0 j = [])
theorem tq_e_mono {i j k k' B B' : Nat} (h : tq_e P a0 a1 Vn fs np vis i j k B) (hk : k ≤ k') (hB : B ≤ B') : tq_e P a0 a1 Vn fs np vis i j k' B' := by
  obtain ⟨⟨h1, h2, h3, h4⟩, h5, h6⟩ := h
  refine ⟨⟨h1, h2, h3, by omega⟩, h5, fun hQ hl => ?_⟩
  obtain ⟨S, t, q1, q2, q3⟩ := h6 hQ (by omega)
  exact ⟨S, t, tq_B q1 hB, q2, q3⟩
theorem tq_e_vis {vis' : Int32 → Prop} {i j k B : Nat} (h : tq_e P a0 a1 Vn fs np vis i j k B) (hv : ∀ u, vis u → vis' u) : tq_e P a0 a1 Vn fs np vis' i j k B := by
  obtain ⟨h1, h5, h6⟩ := h
  refine ⟨h1, h5, fun hQ hl => ?_⟩
  obtain ⟨S, t, q1, q2, q3⟩ := h6 hQ hl
  exact ⟨S, t, tq_vis q1 hv, q2, q3⟩
theorem tq_e_lf (hG : tq_G P a0 a1) {x : Nat} {K : Int32} (hx : a0 ≤ x) (hx1 : x < a1) (hK : P 9 x = K) (hk : K = 0 ∨ (K = 30 ∧ (∃ u, u < Vn ∧ P 10 x = pu_I u) ∧ vis (P 10 x))) (ht : tq_k P x) : tq_e P a0 a1 Vn fs np vis x (x + 1) 1 1 := by
  refine ⟨⟨hx, by omega, hx1, Nat.le_refl 1⟩, ht, fun hQ hl => ?_⟩
  obtain ⟨q1, q2, q3⟩ := tq_lf (Vn := Vn) (fs := fs) (np := np) (vis := vis) hG hx hx1 hK hk (by omega) hQ
  exact ⟨[], x, q1, q2, q3⟩
theorem tq_ff {i j B : Nat} {S : List (Int32 × Nat × Nat)} (h : tq_i P a0 a1 Vn fs np vis i j B S (fun _ => False ∨ False)) : tq_i P a0 a1 Vn fs np vis i j B S (fun _ => False) := tq_Xm h fun x _ _ h => h.elim id id
theorem tq_e_op2 (hG : tq_G P a0 a1) {i m j k1 k2 B1 B2 : Nat} {K : Int32} (h1 : tq_e P a0 a1 Vn fs np vis i m k1 B1) (h2 : tq_e P a0 a1 Vn fs np vis m j k2 B2) (hj : j < a1) (hK : P 9 j = K) (ho : pu_isop K = true) : tq_e P a0 a1 Vn fs np vis i (j + 1) (max k1 (k2 + 1)) (max B1 (B2 + 1)) := by
  obtain ⟨⟨a1', a2', a3', a4'⟩, a5', a6'⟩ := h1
  obtain ⟨⟨b1, b2, b3, b4⟩, b5, b6⟩ := h2
  refine ⟨⟨a1', by omega, hj, by omega⟩, a5', fun hQ hl => ?_⟩
  obtain ⟨S1, t1, q1, q2, q3⟩ := a6' hQ (by omega)
  obtain ⟨S2, t2, r1, r2, r3⟩ := b6 q3 (by rw [q2, List.length_cons]; omega)
  rw [q2] at r2
  obtain ⟨p1, p2, p3⟩ := tq_op (Vn := Vn) (fs := fs) (np := np) (vis := vis) hG (by omega) hj hK ho r2 (by omega) r3
  exact ⟨_, j, tq_ff (tq_Xm (tq_appk q1 (tq_app r1 p1) b5 (B := max B1 (B2 + 1)) (by omega) (by omega)) fun x _ _ h => h.elim Or.inl fun h => h), p2, p3⟩
/-- a number 0, and an operator -/
theorem tq_tr (hG : tq_G P a0 a1) {m : Nat} {K : Int32} (hm0 : a0 ≤ m) (hm : m + 1 < a1) (h0 : P 9 m = 0) (hK : P 9 (m + 1) = K) (ho : pu_isop K = true) {t : Nat} {T : List Nat} (hT : pt_T P a0 m = t :: T) (hl : T.length + 2 ≤ 60) (hQ : pt_Q P a0 m = []) :
    tq_i P a0 a1 Vn fs np vis m (m + 2) 2 [] (fun _ => False) ∧ pt_T P a0 (m + 2) = (m + 1) :: T ∧ pt_Q P a0 (m + 2) = [] := by
  obtain ⟨q1, q2, q3⟩ := tq_lf (Vn := Vn) (fs := fs) (np := np) (vis := vis) hG hm0 (by omega) h0 (Or.inl rfl) (by rw [hT, List.length_cons]; omega) hQ
  rw [hT] at q2
  obtain ⟨p1, p2, p3⟩ := tq_op (Vn := Vn) (fs := fs) (np := np) (vis := vis) hG (by omega) hm hK ho q2 hl q3
  exact ⟨tq_ff (tq_app q1 p1), p2, p3⟩
theorem tq_e_tr (hG : tq_G P a0 a1) {i m k1 B1 : Nat} {K : Int32} (h1 : tq_e P a0 a1 Vn fs np vis i m k1 B1) (hm : m + 1 < a1) (h0 : P 9 m = 0) (hK : P 9 (m + 1) = K) (ho : pu_isop K = true) : tq_e P a0 a1 Vn fs np vis i (m + 2) (k1 + 1) (B1 + 2) := by
  obtain ⟨⟨a1', a2', a3', a4'⟩, a5', a6'⟩ := h1
  refine ⟨⟨a1', by omega, hm, by omega⟩, a5', fun hQ hl => ?_⟩
  obtain ⟨S1, t1, q1, q2, q3⟩ := a6' hQ (by omega)
  obtain ⟨p1, p2, p3⟩ := tq_tr (Vn := Vn) (fs := fs) (np := np) (vis := vis) hG (by omega) hm h0 hK ho q2 (by omega) q3
  exact ⟨_, m + 1, tq_ff (tq_app q1 p1), p2, p3⟩
/-- a word of memory -/
theorem tq_e_rd (hG : tq_G P a0 a1) {i m k1 B1 : Nat} (h1 : tq_e P a0 a1 Vn fs np vis i m k1 B1) (hm : m < a1) (hK : P 9 m = 17) : tq_e P a0 a1 Vn fs np vis i (m + 1) k1 (B1 + 1) := by
  obtain ⟨⟨a1', a2', a3', a4'⟩, a5', a6'⟩ := h1
  refine ⟨⟨a1', by omega, hm, by omega⟩, a5', fun hQ hl => ?_⟩
  obtain ⟨S1, t1, q1, q2, q3⟩ := a6' hQ hl
  have hp : pt_pop P m = 1 := by unfold pt_pop; rw [hK]; rfl
  have hlen : (pt_T P a0 m).length = (pt_T P a0 i).length + 1 := by rw [q2]; rfl
  obtain ⟨p1, p2, p3⟩ := tq_1 (Vn := Vn) (fs := fs) (np := np) (vis := vis) hG (by omega) hm hK (by decide) (by decide) (by rw [hp]; omega) (fun q => absurd q (by decide)) (by omega) (fun q => absurd q (by decide)) (fun q => absurd q (by decide)) q3 (fun q => absurd q (by decide))
  refine ⟨_, m, tq_ff (tq_app q1 p1), ?_, p3⟩
  rw [p2]
  unfold pt_nx
  rw [hK, if_pos (by decide), hp, q2]
  rfl
/-- a variable gets what waits -/
theorem tq_set (hG : tq_G P a0 a1) {m : Nat} (hm0 : a0 ≤ m) (hm : m < a1) (hK : P 9 m = 31) (hv : ∃ u, u < Vn ∧ P 10 m = pu_I u) {t : Nat} {T : List Nat} (hT : pt_T P a0 m = t :: T) (hl : T.length + 1 ≤ 60) (hQ : pt_Q P a0 m = []) :
    tq_i P a0 a1 Vn fs np vis m (m + 1) 1 [] (fun _ => False) ∧ pt_T P a0 (m + 1) = T ∧ pt_Q P a0 (m + 1) = [] := by
  have hp : pt_pop P m = 1 := by unfold pt_pop; rw [hK]; rfl
  have hlen : (pt_T P a0 m).length = T.length + 1 := by rw [hT]; rfl
  obtain ⟨p1, p2, p3⟩ := tq_1 (Vn := Vn) (fs := fs) (np := np) (vis := vis) hG hm0 hm hK (by decide) (by decide) (by rw [hp]; omega) (fun q => absurd q (by decide)) (by omega) (fun _ => hv) (fun q => absurd q (by decide)) hQ (fun q => absurd q (by decide))
  refine ⟨p1, ?_, p3⟩
  rw [p2]
  unfold pt_nx
  rw [hK, if_neg (by decide), hp, hT]
  rfl
/-- a variable gets what waits, and it goes on waiting -/
theorem tq_kep (hG : tq_G P a0 a1) {m : Nat} (hm0 : a0 ≤ m) (hm : m < a1) (hK : P 9 m = 32) (hv : ∃ u, u < Vn ∧ P 10 m = pu_I u) {t : Nat} {T : List Nat} (hT : pt_T P a0 m = t :: T) (hl : T.length + 1 ≤ 60) (hQ : pt_Q P a0 m = []) :
    tq_i P a0 a1 Vn fs np vis m (m + 1) 1 [] (fun _ => False) ∧ pt_T P a0 (m + 1) = t :: T ∧ pt_Q P a0 (m + 1) = [] := by
  have hp : pt_pop P m = 0 := by unfold pt_pop; rw [hK]; rfl
  have hlen : (pt_T P a0 m).length = T.length + 1 := by rw [hT]; rfl
  obtain ⟨p1, p2, p3⟩ := tq_1 (Vn := Vn) (fs := fs) (np := np) (vis := vis) hG hm0 hm hK (by decide) (by decide) (by rw [hp]; omega) (fun _ => by omega) (by omega) (fun _ => hv) (fun q => absurd q (by decide)) hQ (fun q => absurd q (by decide))
  refine ⟨p1, ?_, p3⟩
  rw [p2]
  unfold pt_nx
  rw [hK, if_neg (by decide), hp, hT]
  rfl
/-- an op of no account: a label, the beginning of a while -/
theorem tq_no (hG : tq_G P a0 a1) {m : Nat} {K : Int32} (hm0 : a0 ≤ m) (hm : m < a1) (hK : P 9 m = K) (hk : K = 35 ∨ K = 37) (hl : (pt_T P a0 m).length ≤ 60) (hQ : pt_Q P a0 m = []) :
    tq_i P a0 a1 Vn fs np vis m (m + 1) 1 [] (fun _ => False) ∧ pt_T P a0 (m + 1) = pt_T P a0 m ∧ pt_Q P a0 (m + 1) = [] := by
  rcases hk with h | h <;> subst h
  · have hp : pt_pop P m = 0 := by unfold pt_pop; rw [hK]; rfl
    obtain ⟨p1, p2, p3⟩ := tq_1 (Vn := Vn) (fs := fs) (np := np) (vis := vis) hG hm0 hm hK (by decide) (by decide) (by rw [hp]; omega) (fun q => absurd q (by decide)) hl (fun q => absurd q (by decide)) (fun q => absurd q (by decide)) hQ (fun q => absurd q (by decide))
    refine ⟨p1, ?_, p3⟩
    rw [p2]
    unfold pt_nx
    rw [hK, if_neg (by decide), hp]
    rfl
  · have hp : pt_pop P m = 0 := by unfold pt_pop; rw [hK]; rfl
    obtain ⟨p1, p2, p3⟩ := tq_1 (Vn := Vn) (fs := fs) (np := np) (vis := vis) hG hm0 hm hK (by decide) (by decide) (by rw [hp]; omega) (fun q => absurd q (by decide)) hl (fun q => absurd q (by decide)) (fun q => absurd q (by decide)) hQ (fun q => absurd q (by decide))
    refine ⟨p1, ?_, p3⟩
    rw [p2]
    unfold pt_nx
    rw [hK, if_neg (by decide), hp]
    rfl
/-- a leap by what waits -/
theorem tq_skp (hG : tq_G P a0 a1) {m : Nat} {K : Int32} (hm0 : a0 ≤ m) (hm : m < a1) (hK : P 9 m = K) (hk : K = 33 ∨ K = 34) (hlb : ∃ n, n < 640 ∧ P 10 m = pu_I n) {t : Nat} {T : List Nat} (hT : pt_T P a0 m = t :: T) (hl : T.length + 1 ≤ 60) (hQ : pt_Q P a0 m = []) :
    tq_i P a0 a1 Vn fs np vis m (m + 1) 1 [] (fun x => x = m) ∧ pt_T P a0 (m + 1) = T ∧ pt_Q P a0 (m + 1) = [] := by
  obtain ⟨hL, h3, hTk⟩ := hG
  have hlen : (pt_T P a0 m).length = T.length + 1 := by rw [hT]; rfl
  obtain ⟨n, hn, hn2⟩ := hlb
  have hixb : ixb (P 10 m) 640 = true := by rw [hn2]; exact (pu_ix (by omega)).mpr hn
  have key : ∀ K : Int32, P 9 m = K → (pu_ur K = false ∧ pt_one K = true ∧ pt_gv K = false ∧ ¬ K ≤ 21 ∧ 30 ≤ K ∧ K ≠ 19 ∧ K ≠ 32 ∧ K ≠ 20 ∧ K ≠ 24 ∧ K ≠ 30 ∧ K ≠ 31 ∧ K ≠ 21) → tq_i P a0 a1 Vn fs np vis m (m + 1) 1 [] (fun x => x = m) ∧ pt_T P a0 (m + 1) = T ∧ pt_Q P a0 (m + 1) = [] := by
    intro K hK ⟨d1, d2, d3, d4, d5, n19, n32, n20, n24, n30, n31, n21⟩
    have hp : pt_pop P m = 1 := by
      unfold pt_pop
      rw [hK, d1, if_neg (by decide), if_neg n19, if_neg n32, d2, if_pos rfl]
    have hone := tq_one (P := P) (Vn := Vn) (fs := fs) (np := np) (vis := vis) hL h3 hm0 hm ⟨⟨fun q => absurd q (by rw [hK]; exact d4), Or.inr (Or.inr (Or.inr (by rw [hK]; exact d5)))⟩, ⟨⟨by rw [hp]; omega, fun q => absurd (hK.symm.trans q) n19, fun q => absurd (hK.symm.trans q) n32, fun q => absurd (hK.symm.trans q) n20, by omega⟩, by omega, fun q => absurd (hK.symm.trans q) n24⟩, fun q => (by
      rcases q with q | q | q | q
      · exact absurd (hK.symm.trans q) n30
      · exact absurd (hK.symm.trans q) n31
      · exact absurd (hK.symm.trans q) n32
      · exact absurd (hK.symm.trans q) n21), fun _ => hixb, ⟨fun q => absurd (hK.symm.trans q) n20, fun q => absurd (hK.symm.trans q) n21⟩, hTk m hm0 hm, ⟨fun q => absurd hQ q, fun q => absurd (hK.symm.trans q) n20⟩⟩ (fun q => absurd (hK.symm.trans q) n30)
    rw [show tq_w P m = 1 from if_neg (by rw [hK]; exact n20)] at hone
    refine ⟨tq_Xm hone fun x _ _ h => h.1, ?_, ?_⟩
    · rw [pt_T_s hm0]
      unfold pt_nx
      rw [hK, d3, if_neg (by decide), hp, hT]
      rfl
    · rw [pt_Q_s hm0, if_neg (fun q => n19 (hK.symm.trans q)), if_neg (fun q => n20 (hK.symm.trans q)), hQ]
  rcases hk with h | h <;> subst h <;> exact key _ hK (by decide)
/-- && and || -/
theorem tq_e_sc (hG : tq_G P a0 a1) {i m q k1 k2 B1 B2 : Nat} {v : Nat} {K : Int32} (h1 : tq_e P a0 a1 Vn fs np vis i m k1 B1) (h2 : tq_e P a0 a1 Vn fs np vis (m + 4) q k2 B2) (hq : q + 4 < a1) (hv : v < Vn) (hV : Vn ≤ 1000) (e0 : P 9 m = 0) (e1 : P 9 (m + 1) = 16) (e2 : P 9 (m + 2) = 32 ∧ P 10 (m + 2) = pu_I v) (e3 : P 9 (m + 3) = K ∧ (K = 33 ∨ K = 34) ∧ ∃ n, n < 640 ∧ P 10 (m + 3) = pu_I n)
    (e4 : P 9 q = 0) (e5 : P 9 (q + 1) = 16) (e6 : P 9 (q + 2) = 31 ∧ P 10 (q + 2) = pu_I v) (e7 : P 9 (q + 3) = 35 ∧ P 10 (q + 3) = P 10 (m + 3)) (e8 : P 9 (q + 4) = 30 ∧ P 10 (q + 4) = pu_I v) : tq_e P a0 a1 Vn fs np vis i (q + 5) (max (k1 + 1) (k2 + 1)) (B1 + B2 + 8) := by
  obtain ⟨⟨a1', a2', a3', a4'⟩, a5', a6'⟩ := h1
  obtain ⟨⟨b1, b2, b3, b4⟩, b5, b6⟩ := h2
  refine ⟨⟨a1', by omega, by omega, by omega⟩, a5', fun hQ hl => ?_⟩
  obtain ⟨S1, t1, q1, q2, q3⟩ := a6' hQ (by omega)
  obtain ⟨r1, r2, r3⟩ := tq_tr (Vn := Vn) (fs := fs) (np := np) (vis := vis) hG (by omega) (by omega) e0 e1 (by decide) q2 (by omega) q3
  obtain ⟨s1, s2, s3⟩ := tq_kep (Vn := Vn) (fs := fs) (np := np) (vis := vis) hG (by omega) (by omega) e2.1 ⟨v, hv, e2.2⟩ r2 (by omega) r3
  obtain ⟨u1, u2, u3⟩ := tq_skp (Vn := Vn) (fs := fs) (np := np) (vis := fun u => u = pu_I v ∨ vis u) hG (by omega) (by omega) e3.1 e3.2.1 e3.2.2 s2 (by omega) s3
  have u2 : pt_T P a0 (m + 4) = pt_T P a0 i := u2
  obtain ⟨S2, t2, w1, w2, w3⟩ := b6 u3 (by rw [u2]; omega)
  rw [u2] at w2
  obtain ⟨x1, x2, x3⟩ := tq_tr (Vn := Vn) (fs := fs) (np := np) (vis := fun u => u = pu_I v ∨ vis u) hG (by omega) (by omega) e4 e5 (by decide) w2 (by omega) w3
  obtain ⟨y1, y2, y3⟩ := tq_set (Vn := Vn) (fs := fs) (np := np) (vis := fun u => u = pu_I v ∨ vis u) hG (by omega) (by omega) e6.1 ⟨v, hv, e6.2⟩ x2 (by omega) x3
  obtain ⟨z1, z2, z3⟩ := tq_no (Vn := Vn) (fs := fs) (np := np) (vis := fun u => u = pu_I v ∨ vis u) hG (m := q + 3) (by omega) (by omega) e7.1 (Or.inl rfl) (by rw [show q + 3 = q + 2 + 1 by omega, y2]; omega) y3
  have y2 : pt_T P a0 (q + 3) = pt_T P a0 i := y2
  have z2 : pt_T P a0 (q + 4) = pt_T P a0 (q + 3) := z2
  rw [y2] at z2
  obtain ⟨g1, g2, g3⟩ := tq_lf (Vn := Vn) (fs := fs) (np := np) (vis := fun u => u = pu_I v ∨ vis u) hG (x := q + 4) (by omega) (by omega) e8.1 (Or.inr ⟨rfl, ⟨v, hv, e8.2⟩, Or.inl e8.2⟩) (by rw [z2]; omega) z3
  rw [z2] at g2
  have hY := tq_app (tq_app (tq_vis w1 fun u h => Or.inr h) x1) y1
  have hZ := tq_appk u1 hY b5 (B := B2 + 2 + 1) (by omega) (Nat.le_refl _)
  have hZ2 := tq_lab hG.1 hG.2.1 hZ (by omega) (z1.2.1 (q + 3) (Nat.le_refl _) (by omega)) e7.1 (fun x y1' y2' hj hX h10 => by
    have hx : x = m + 3 := by
      rcases hX with h | (h | h) | h
      · exact h
      · exact h.elim
      · exact h.elim
      · exact h.elim
    rw [hx, y2]
    exact u2.symm)
  have hW := tq_Xm (tq_app hZ2 g1) (X' := fun _ => False) fun x _ _ h => by
    rcases h with ⟨h, h9⟩ | h
    · rcases h with h | (h | h) | h
      · exact h9 (by rw [h]; exact e7.2.symm)
      · exact h
      · exact h
      · exact h
    · exact h
  have hA := tq_app (tq_app q1 r1) s1
  have hall := tq_decl (v := pu_I v) (a := m + 2) hA hW (by omega) ⟨Or.inr (Or.inl e2.1), e2.2⟩ _ (tq_app (tq_vis hA fun u h => Or.inr h) hW)
  have hF := tq_B (B' := B1 + B2 + 8) (tq_Xm (X' := fun _ => False) hall fun x _ _ h => by
    rcases h with ((h | h) | h) | h
    · exact h
    · exact h
    · exact h
    · exact h) (by omega)
  exact ⟨_, q + 4, hF, g2, g3⟩
end TYF
