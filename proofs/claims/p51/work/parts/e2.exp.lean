/-! pure side, the reader 2: tests in shape -/
section TYE
/-- what is asked of a function's text as a whole -/
def tq_G (P : ST) (a0 a1 : Nat) : Prop := tq_L P a0 a1 ∧ a1 ≤ 3200 ∧ ∀ x, a0 ≤ x → x < a1 → ∃ t, t ≤ 1000 ∧ P 11 x = pu_I t
variable {P : ST} {a0 a1 Vn fs np : Nat} {vis : Int32 → Prop}
theorem tq_vis {vis' : Int32 → Prop} {i j B : Nat} {S : List (Int32 × Nat × Nat)} {X : Nat → Prop} (h : tq_i P a0 a1 Vn fs np vis i j B S X) (hv : ∀ u, vis u → vis' u) : tq_i P a0 a1 Vn fs np vis' i j B S X :=
  ⟨h.1, h.2.1, h.2.2.1, h.2.2.2.1, fun x a b c => (h.2.2.2.2.1 x a b c).imp (hv _) id, h.2.2.2.2.2⟩
theorem tq_B {i j B B' : Nat} {S : List (Int32 × Nat × Nat)} {X : Nat → Prop} (h : tq_i P a0 a1 Vn fs np vis i j B S X) (hB : B ≤ B') : tq_i P a0 a1 Vn fs np vis i j B' S X :=
  ⟨h.1, h.2.1, h.2.2.1, h.2.2.2.1, h.2.2.2.2.1, fun c hc hX x a b => tq_r_mono (h.2.2.2.2.2 c hc hX x a b) (by omega)⟩
theorem tq_Xm {i j B : Nat} {S : List (Int32 × Nat × Nat)} {X X' : Nat → Prop} (h : tq_i P a0 a1 Vn fs np vis i j B S X) (hX : ∀ x, i ≤ x → x < j → X x → X' x) : tq_i P a0 a1 Vn fs np vis i j B S X' :=
  ⟨h.1, h.2.1, fun x a b c => (h.2.2.1 x a b c).imp (hX x a b) id, h.2.2.2.1, h.2.2.2.2.1, fun c hc hX' x a b => h.2.2.2.2.2 c hc (fun y a b c => hX' y a b (hX y a b c)) x a b⟩
/-- one op that doesn't leap, call or return -/
theorem tq_1 (hG : tq_G P a0 a1) {x : Nat} {K : Int32} (hx : a0 ≤ x) (hx1 : x < a1) (hK : P 9 x = K) (hk : (K ≤ 21 → pu_gk K = true ∨ K = 18 ∨ K = 19) ∧ (K ≤ 21 ∨ K = 22 ∨ K = 24 ∨ 30 ≤ K)) (hn : K ≠ 22 ∧ K ≠ 33 ∧ K ≠ 34 ∧ K ≠ 24 ∧ K ≠ 20 ∧ K ≠ 19)
    (hpop : pt_pop P x ≤ (pt_T P a0 x).length) (h32 : K = 32 → 1 ≤ (pt_T P a0 x).length) (hlen : (pt_T P a0 x).length ≤ 60) (hv : (K = 30 ∨ K = 31 ∨ K = 32 ∨ K = 21) → ∃ u, u < Vn ∧ P 10 x = pu_I u) (h21 : K = 21 → ixb (P 10 x) np = true) (hQ : pt_Q P a0 x = []) (hvs : K = 30 → vis (P 10 x)) :
    tq_i P a0 a1 Vn fs np vis x (x + 1) 1 [] (fun _ => False) ∧ pt_T P a0 (x + 1) = pt_nx P x (pt_T P a0 x) ∧ pt_Q P a0 (x + 1) = [] := by
  obtain ⟨hL, h3, hT⟩ := hG
  obtain ⟨n1, n2, n3, n4, n5, n6⟩ := hn
  refine ⟨tq_one0 hL h3 hx hx1 ⟨⟨by rw [hK]; exact hk.1, by rw [hK]; exact hk.2⟩, ⟨⟨hpop, fun q => absurd (hK.symm.trans q) n6, fun q => h32 (hK.symm.trans q), fun q => absurd (hK.symm.trans q) n5, by omega⟩, hlen, fun q => absurd (hK.symm.trans q) n4⟩, by rw [hK]; exact hv, fun q => ?_, ⟨fun q => absurd (hK.symm.trans q) n5, fun q => h21 (hK.symm.trans q)⟩, hT x hx hx1, ⟨fun q => absurd hQ q, fun q => absurd (hK.symm.trans q) n5⟩⟩ (fun q => ?_) (by rw [hK]; exact n5) (fun q => hvs (hK.symm.trans q)), pt_T_s hx, ?_⟩
  · rcases q with q | q | q | q
    · obtain ⟨n, h1, h2, _⟩ := hL x hx hx1 q
      rw [h2]
      exact (pu_ix (by omega)).mpr h1
    · exact absurd (hK.symm.trans q) n1
    · exact absurd (hK.symm.trans q) n2
    · exact absurd (hK.symm.trans q) n3
  · rcases q with q | q | q
    · exact n1 (hK.symm.trans q)
    · exact n2 (hK.symm.trans q)
    · exact n3 (hK.symm.trans q)
  · rw [pt_Q_s hx, if_neg (fun q => n6 (hK.symm.trans q)), if_neg (fun q => n5 (hK.symm.trans q)), hQ]
theorem tq_op_f {K : Int32} (h : pu_isop K = true) : ((K ≤ 21 → pu_gk K = true ∨ K = 18 ∨ K = 19) ∧ (K ≤ 21 ∨ K = 22 ∨ K = 24 ∨ 30 ≤ K)) ∧ (K ≠ 22 ∧ K ≠ 33 ∧ K ≠ 34 ∧ K ≠ 24 ∧ K ≠ 20 ∧ K ≠ 19) ∧ (K ≠ 32 ∧ K ≠ 30 ∧ K ≠ 31 ∧ K ≠ 21) ∧ pu_ur K = true ∧ pt_gv K = true := by
  have h9 : pu_gk K = true := pu_op_gk h
  have h8 : pu_ur K = true := (pu_op_u h).2
  have hne : ∀ z : Int32, pu_isop z = false → K ≠ z := fun z hz e => by rw [e, hz] at h; cases h
  have hle : K ≤ 21 := by
    have h7 := of_decide_eq_true h
    exact Int32.le_trans h7.2 (by decide)
  exact ⟨⟨fun _ => Or.inl h9, Or.inl hle⟩, ⟨hne _ (by decide), hne _ (by decide), hne _ (by decide), hne _ (by decide), hne _ (by decide), hne _ (by decide)⟩, ⟨hne _ (by decide), hne _ (by decide), hne _ (by decide), hne _ (by decide)⟩, h8, by unfold pt_gv; rw [h]; rfl⟩
/-- an operator -/
theorem tq_op (hG : tq_G P a0 a1) {x : Nat} {K : Int32} (hx : a0 ≤ x) (hx1 : x < a1) (hK : P 9 x = K) (ho : pu_isop K = true) {s t : Nat} {T : List Nat} (hT : pt_T P a0 x = s :: t :: T) (hlen : T.length + 2 ≤ 60) (hQ : pt_Q P a0 x = []) :
    tq_i P a0 a1 Vn fs np vis x (x + 1) 1 [] (fun _ => False) ∧ pt_T P a0 (x + 1) = x :: T ∧ pt_Q P a0 (x + 1) = [] := by
  obtain ⟨f1, f2, ⟨f3, f4, f5, f6⟩, f7, f8⟩ := tq_op_f ho
  have hp : pt_pop P x = 2 := by unfold pt_pop; rw [hK, if_pos f7]
  have hl : (pt_T P a0 x).length = T.length + 2 := by rw [hT]; rfl
  obtain ⟨q1, q2, q3⟩ := tq_1 (Vn := Vn) (fs := fs) (np := np) (vis := vis) hG hx hx1 hK f1 f2 (by rw [hp]; omega) (fun q => absurd q f3) (by omega) (fun q => by rcases q with q | q | q | q <;> contradiction) (fun q => absurd q f6) hQ (fun q => absurd q f4)
  refine ⟨q1, ?_, q3⟩
  rw [q2]
  unfold pt_nx
  rw [hK, if_pos f8, hp, hT]
  rfl
/-- a number, a variable -/
theorem tq_lf (hG : tq_G P a0 a1) {x : Nat} {K : Int32} (hx : a0 ≤ x) (hx1 : x < a1) (hK : P 9 x = K) (hk : K = 0 ∨ (K = 30 ∧ (∃ u, u < Vn ∧ P 10 x = pu_I u) ∧ vis (P 10 x))) (hlen : (pt_T P a0 x).length ≤ 59) (hQ : pt_Q P a0 x = []) :
    tq_i P a0 a1 Vn fs np vis x (x + 1) 1 [] (fun _ => False) ∧ pt_T P a0 (x + 1) = x :: pt_T P a0 x ∧ pt_Q P a0 (x + 1) = [] := by
  rcases hk with h | ⟨h, u1, u3⟩
  · subst h
    have hp : pt_pop P x = 0 := by unfold pt_pop; rw [hK]; rfl
    obtain ⟨q1, q2, q3⟩ := tq_1 (Vn := Vn) (fs := fs) (np := np) (vis := vis) hG hx hx1 hK (by decide) (by decide) (by rw [hp]; omega) (fun q => absurd q (by decide)) (by omega) (fun q => absurd q (by decide)) (fun q => absurd q (by decide)) hQ (fun q => absurd q (by decide))
    refine ⟨q1, ?_, q3⟩
    rw [q2]
    unfold pt_nx
    rw [hK, if_pos (by decide), hp]
    rfl
  · subst h
    have hp : pt_pop P x = 0 := by unfold pt_pop; rw [hK]; rfl
    obtain ⟨q1, q2, q3⟩ := tq_1 (Vn := Vn) (fs := fs) (np := np) (vis := vis) hG hx hx1 hK (by decide) (by decide) (by rw [hp]; omega) (fun q => absurd q (by decide)) (by omega) (fun _ => u1) (fun q => absurd q (by decide)) hQ (fun _ => u3)
    refine ⟨q1, ?_, q3⟩
    rw [q2]
    unfold pt_nx
    rw [hK, if_pos (by decide), hp]
    rfl
end TYE
