/-! pure side, the maker 28: what a made flow is -/
/-- a text that is typed: kinds, operands, variables, what is surely assigned -/
def pt_tx (P : ST) (a0 a1 Vn : Nat) (A : Nat → Nat → Prop) : Prop :=
  (∀ i, a0 ≤ i → i < a1 → P 9 i ≤ 21 → (pu_gk (P 9 i) = true ∨ P 9 i = 18 ∨ P 9 i = 19)) ∧ (∀ i, a0 ≤ i → i < a1 → pt_en P i (pt_T P a0 i)) ∧
  (∀ i, a0 ≤ i → i < a1 → (P 9 i = 30 ∨ P 9 i = 31 ∨ P 9 i = 32 ∨ P 9 i = 21) → ∃ u, u < Vn ∧ P 10 i = pu_I u) ∧
  ((∀ v, ¬ A a0 v) ∧ (∀ i v, a0 ≤ i → i < a1 → P 9 i ≠ 22 → P 9 i ≠ 24 → A (i + 1) v → A i v ∨ pt_as P v i) ∧ (∀ i s v, a0 ≤ i → i < a1 → (P 9 i = 22 ∨ P 9 i = 33 ∨ P 9 i = 34) → pt_lab P a0 a1 i s → A s v → A i v) ∧ (∀ i u, a0 ≤ i → i < a1 → P 9 i = 30 → P 10 i = pu_I u → A i u)) ∧
  pt_Tc P a0 a1 ∧ (∀ i, a0 ≤ i → i < a1 → (P 9 i = 22 ∨ P 9 i = 33 ∨ P 9 i = 34) → ∃ s, pt_lab P a0 a1 i s) ∧ (a0 < a1 ∧ P 9 (a1 - 1) = 24)
abbrev pt_lor (P : ST) (a0 i : Nat) : Int32 := pt_lo P i (pt_T P a0 i)
abbrev pt_ror (P : ST) (a0 i : Nat) : Int32 := pt_ro P i (pt_T P a0 i)
/-- dominators -/
def pt_dd (F : pu_Flow) (w : ST) (B : Nat) (D : Nat → Nat → Prop) (dm : Nat → Nat) : Prop := pt_sw F w B ∧ pu_grf F (fun b => b < B) D ∧ pu_dom F B D ∧ pv_dmx B D dm ∧ (∀ p, p < B → ¬ pv_eg w p 0)
/-- where phis are -/
def pt_pp (P w : ST) (B Vn : Nat) (fo ot : Nat → Nat) (D : Nat → Nat → Prop) (W : Nat → Nat → Prop) (vl : Nat → List Nat) : Prop :=
  (∀ b, b < B → (vl b).Nodup ∧ ∀ v, v ∈ vl b → v < Vn ∧ W v b) ∧
  (∀ d b p v, d < B → b < B → p < B → v < Vn → (pt_asg P (fo d) (ot d) v ∨ v ∈ vl d) → pv_eg w p b → D p d → (d = b ∨ ¬ D b d) → W v b → v ∈ vl b) ∧ vl 0 = [] ∧
  (∀ v b, v < Vn → b < B → pt_use P (fo b) (ot b) v → W v b) ∧ (∀ v b c, v < Vn → b < B → c < B → pv_eg w b c → W v c → ¬ pt_asg P (fo b) (ot b) v → W v b) ∧ (∀ v, v < Vn → ¬ W v 0)
/-- the values -/
def pt_vv (P : ST) (a0 B Vn : Nat) (fo ot dm : Nat → Nat) (vl : Nat → List Nat) (vo : Nat → Int32) (S E : Nat → Nat → Int32) (nb : Nat → Nat) : Prop :=
  (∀ b v, b < B → v < Vn → v ∉ vl b → S b v = if b = 0 then -1 else E (dm b) v) ∧ (∀ b v, b < B → v < Vn → E b v = pt_nw P (pt_lor P a0) vo (fo b) (S b) (ot b) v) ∧
  (∀ b j u, b < B → fo b ≤ j → j < ot b → P 9 j = 30 → P 10 j = pu_I u → u < Vn → vo j = pt_nw P (pt_lor P a0) vo (fo b) (S b) j u) ∧
  (∀ b, b < B → (vl b).map (S b) = (List.range' (nb b) (vl b).length).map pu_I) ∧ (∀ b i, b < B → fo b ≤ i → i < ot b → pu_gk (P 9 i) = true → vo i = pu_I (nb b + (vl b).length + pt_gc P (fo b) i)) ∧
  (∀ b, b < B → nb (b + 1) = nb b + ((vl b).length + pt_gc P (fo b) (ot b))) ∧ nb B ≤ 250
/-- the flow -/
def pt_ff (P w : ST) (a0 B : Nat) (fo ot : Nat → Nat) (vl : Nat → List Nat) (vo : Nat → Int32) (S E : Nat → Nat → Int32) (F : pu_Flow) : Prop :=
  ∀ b, b < B → (F b).1.map Prod.fst = (vl b).map (S b) ∧ (∀ x, x ∈ (F b).1 → ∃ u, u ∈ vl b ∧ x.1 = S b u ∧ ∀ p, p < B → pv_eg w p b → x.2 p = E p u) ∧ ((F b).2.1 = pt_sl P (pt_lor P a0) (pt_ror P a0) vo (fo b) (ot b) ∧ (F b).2.2 = (w 8 b, pt_ev P (pt_lor P a0) vo (fo b) (ot b), w 10 b, w 11 b)) ∧ (∀ u, u ∈ vl b → ∃ x, x ∈ (F b).1 ∧ x.1 = S b u ∧ ∀ p, p < B → pv_eg w p b → x.2 p = E p u)
/-- wanted at a place of a block -/
def pt_wn (P w : ST) (B : Nat) (ot : Nat → Nat) (W : Nat → Nat → Prop) (b i v : Nat) : Prop := pt_use P i (ot b) v ∨ (¬ pt_asg P i (ot b) v ∧ ∃ c, c < B ∧ pv_eg w b c ∧ W v c)
section MM
variable {P w : ST} {a0 a1 Vn B : Nat} {A W : Nat → Nat → Prop} {po vo : Nat → Int32} {fo ot pj dm nb : Nat → Nat} {D : Nat → Nat → Prop} {vl : Nat → List Nat} {S E : Nat → Nat → Int32} {F : pu_Flow}
theorem pt_wn_s {b i v : Nat} (hi : i < ot b) (h : pt_wn P w B ot W b (i + 1) v) (hn : ¬ pt_as P v i) : pt_wn P w B ot W b i v := by
  rcases h with ⟨j, j1, j2, j3, j4⟩ | ⟨h1, h2⟩
  · refine Or.inl ⟨j, by omega, j2, j3, fun ⟨z, z1, z2, z3⟩ => ?_⟩
    by_cases e : z = i
    · rw [e] at z3; exact hn z3
    · exact j4 ⟨z, by omega, z2, z3⟩
  · refine Or.inr ⟨fun ⟨z, z1, z2, z3⟩ => ?_, h2⟩
    by_cases e : z = i
    · rw [e] at z3; exact hn z3
    · exact h1 ⟨z, by omega, z2, z3⟩
theorem pt_wn_get {b i v : Nat} (hi : i < ot b) (h30 : P 9 i = 30) (h : P 10 i = pu_I v) : pt_wn P w B ot W b i v :=
  Or.inl ⟨i, Nat.le_refl _, hi, ⟨h30, h⟩, fun ⟨z, z1, z2, _⟩ => by omega⟩
theorem pt_wn_0 (hp : pt_pp P w B Vn fo ot D W vl) {b v : Nat} (hb : b < B) (hv : v < Vn) (h : pt_wn P w B ot W b (fo b) v) : W v b := by
  obtain ⟨_, _, _, p4, p5, _⟩ := hp
  rcases h with h | ⟨h1, c, h2, h3, h4⟩
  · exact p4 v b hv hb h
  · exact p5 v b c hv hb h2 h3 h4 h1
theorem pt_wn_e {b c v : Nat} (hc : c < B) (he : pv_eg w b c) (h : W v c) : pt_wn P w B ot W b (ot b) v :=
  Or.inr ⟨fun ⟨z, z1, z2, _⟩ => by omega, c, hc, he, h⟩
/-- no assignment: the variable stays -/
theorem pt_nw_no {lo : Nat → Int32} {a v : Nat} {nw0 : Nat → Int32} : ∀ i, ¬ pt_asg P a i v → pt_nw P lo vo a nw0 i v = nw0 v := by
  intro i
  induction i with
  | zero => intro _; rfl
  | succ i ih =>
    intro h
    by_cases hi : i < a
    · exact pt_nw_a _ _ _ _ _ _ _ (by omega)
    · have hs : ¬ pt_as P v i := fun h9 => h ⟨i, by omega, Nat.lt_succ_self i, h9⟩
      rw [pt_nw_s (by omega), if_neg fun h9 => hs ⟨h9.1.elim Or.inl fun h => Or.inr (Or.inl h), h9.2⟩, if_neg fun h9 => hs ⟨Or.inr (Or.inr h9.1), h9.2⟩]
      exact ih fun ⟨z, z1, z2, z3⟩ => h ⟨z, z1, by omega, z3⟩
/-- without a phi, a wanted variable has at each way's beginning what it has at the dominator's end -/
theorem pt_same (hd : pt_dd F w B D dm) (hp : pt_pp P w B Vn fo ot D W vl) (hv : pt_vv P a0 B Vn fo ot dm vl vo S E nb) {b p v : Nat} (hb : b < B) (hpB : p < B) (hb0 : b ≠ 0) (hvn : v < Vn) (he : pv_eg w p b) (hW : W v b) (hno : v ∉ vl b) : E p v = E (dm b) v := by
  obtain ⟨hsw, hG, hdom, hm, _⟩ := hd
  obtain ⟨m1, m2, m3⟩ := hm b hb hb0
  have hsc := (hsw.1 p b hpB hb).mpr he
  have key : ∀ x, D p x → D x (dm b) → E x v = E (dm b) v := by
    intro x
    induction x using Nat.strongRecOn with
    | _ x ih =>
      intro h1 h2
      by_cases e : x = dm b
      · rw [e]
      · have hxB : x < B := (hG.2.1 p x hpB h1).2
        have hle := (hG.2.1 x (dm b) hxB h2).1
        have hx0 : x ≠ 0 := fun e0 => e (by omega)
        have hbr : x = b ∨ ¬ D b x := by
          by_cases exb : x = b
          · exact Or.inl exb
          · refine Or.inr fun h => ?_
            have h9 := (hG.2.1 (dm b) x (by omega) (m3 x h exb)).1
            omega
        have hna : ¬ pt_asg P (fo x) (ot x) v := fun h => hno (hp.2.1 x b p v hxB hb hpB hvn (Or.inl h) he h1 hbr hW)
        have hnp : v ∉ vl x := fun h => hno (hp.2.1 x b p v hxB hb hpB hvn (Or.inr h) he h1 hbr hW)
        obtain ⟨k1, k2, k3⟩ := hm x hxB hx0
        rw [hv.2.1 x v hxB hvn, pt_nw_no _ hna, hv.1 x v hxB hvn hnp, if_neg hx0]
        exact ih (dm x) k1 (hG.2.2.2.1 p x (dm x) hpB h1 k2) (k3 (dm b) h2 fun e9 => e e9.symm)
  exact key p (hG.2.2.1 p hpB) (hG.2.2.2.2 p b (dm b) hpB hsc m2 (by omega))
end MM
