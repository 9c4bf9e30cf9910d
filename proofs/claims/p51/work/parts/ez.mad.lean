/-! pure side, the made function 8: f, and the whole program -/
section MDZ
variable {dr : Nat → Nat → Nat}
/-- the rows of f, and what is drawn behind -/
def mf_l (dr : Nat → Nat → Nat) (d0 : Nat) : md_G × md_S := md_many (md_line dr 2) (3 + dr d0 4) (d0 + 1, 0, 0, 0)
/-- f's body -/
def mf_b (dr : Nat → Nat → Nat) (d0 : Nat) : RS := rs_cons (rs_var 99 (re_vr 98)) (rs_cons (rs_var 100 (re_nm 3)) ((mf_l dr d0).1 rs_nil))
theorem mf_lk (hd : ∀ k n, 0 < n → dr k n < n) (d0 : Nat) : md_lk 2 (3 + dr d0 4) 58 (d0 + 1, 0, 0, 0) (mf_l dr d0).2 (mf_l dr d0).1 :=
  (md_many_ok (Q := fun _ => True) (fun s _ => ⟨md_line_ok hd 2 s, trivial⟩) (3 + dr d0 4) (d0 + 1, 0, 0, 0) trivial).1
theorem md_sw_f {V1 V2 : Nat} (h1 : V1 < 320) (h2 : V2 < 320) : md_sw (rp_sv 0 [97, 98] ++ [(99, V1)] ++ [(100, V2)]) 0 := by
  refine ⟨fun k hk => ?_, fun m _ hm => ?_⟩
  · rcases (by omega : k = 0 ∨ k = 1 ∨ k = 2 ∨ k = 3) with e | e | e | e <;> subst e
    · exact ⟨0, by decide, rd_lk_app _ _ (rd_lk_app _ _ (show rd_lk (rp_sv 0 [97, 98]) 97 = some 0 by decide))⟩
    · exact ⟨1, by decide, rd_lk_app _ _ (rd_lk_app _ _ (show rd_lk (rp_sv 0 [97, 98]) 98 = some 1 by decide))⟩
    · exact ⟨V1, h1, rd_lk_app _ _ (rd_lk_new (show rd_lk (rp_sv 0 [97, 98]) 99 = none by decide))⟩
    · refine ⟨V2, h2, rd_lk_new ?_⟩
      show rd_lk (rp_sv 0 [97, 98] ++ [(99, V1)]) 100 = none
      rw [rd_lk_old (by decide)]
      decide
  · rcases (by omega : m = 0 ∨ m = 1 ∨ m = 2) with e | e | e <;> subst e
    · show rd_lk _ 26928 = none
      rw [rd_lk_old (by decide), rd_lk_old (by decide)]; decide
    · show rd_lk _ 26929 = none
      rw [rd_lk_old (by decide), rd_lk_old (by decide)]; decide
    · show rd_lk _ 26930 = none
      rw [rd_lk_old (by decide), rd_lk_old (by decide)]; decide
theorem mf_nm (hd : ∀ k n, 0 < n → dr k n < n) {d0 : Nat} {F : RF} {i : Nat} (h1 : F.2.1 i = [97, 98]) (h2 : F.2.2 i = mf_b dr d0) : rp_nm F i ∧ (∀ n, rs_cl (mf_b dr d0) n = []) ∧ (rs_tks (mf_b dr d0)).length ≤ 427 := by
  have hm4 := hd d0 4 (by decide)
  obtain ⟨X, I, W, Fk, gL, ⟨a1, a2, a3⟩, ⟨a4, a5, a6, a7, a8⟩, a9, a10⟩ := mf_lk hd d0
  obtain ⟨c1, ⟨c2, c3, c4, c5, c6⟩, ⟨c7, c8⟩, ⟨c9, c10⟩, c11⟩ := a10 rs_nil 0 0 0 rb_N_nil
  generalize hp' : (mf_l dr d0).2.2.1 = p' at a1 a2 a3 a9 c5 c6
  dsimp only at a1 a2 a3 a4 a5 a7 a8 a9 c5 c6 c11
  have hFk : Fk ≤ 8 := by have := a7 (by decide); omega
  have hW : W ≤ 3 := by have := a8 (by decide); omega
  have hp : p' ≤ 68 := by
    have : max (0 + 2) 58 = 58 := rfl
    omega
  have hI : I ≤ 45 := by
    have h3 : md_w 0 = 0 := rfl
    unfold md_w at a3 h3
    rw [if_pos rfl, if_neg (by omega)] at a3
    omega
  have z1 : rs_sL rs_nil = 0 := rfl
  have z2 : rs_sV rs_nil = 0 := rfl
  have z3 : rs_ln rs_nil = 0 := rfl
  have z4 : (rs_tks rs_nil).length = 0 := rfl
  have z7 : rs_br rs_nil = 0 := rfl
  have z8 : rs_dp rs_nil = 0 := rfl
  rw [z1] at c2; rw [z2] at c3; rw [z3] at c4 c5; rw [z4] at c6; rw [z7] at c9; rw [z8] at c10
  have hN : rb_N (mf_b dr d0) 123 Fk (1 + gL) := by
    refine rb_N_mono (rb_N_var re_N_vr (by decide) (rb_N_var re_N_nm (by decide) c1)) ?_ ?_ ?_
    · refine Nat.max_le.mpr ⟨by decide, Nat.max_le.mpr ⟨by decide, Nat.max_le.mpr ⟨?_, Nat.zero_le _⟩⟩⟩
      have : 2 ^ 2 = 4 := rfl
      omega
    · show 0 + (0 + (Fk + 0)) ≤ Fk; omega
    · omega
  have g1 : rs_sL (mf_b dr d0) = 0 + (0 + rs_sL ((mf_l dr d0).1 rs_nil)) := rfl
  have g2 : rs_sV (mf_b dr d0) = 0 + 1 + (0 + 1 + rs_sV ((mf_l dr d0).1 rs_nil)) := rfl
  have g3 : rs_ln (mf_b dr d0) = 1 + 1 + (1 + 1 + rs_ln ((mf_l dr d0).1 rs_nil)) := rfl
  have g4 : (rs_tks (mf_b dr d0)).length = 5 + (5 + (rs_tks ((mf_l dr d0).1 rs_nil)).length) := by
    show ([_, _, _, _, _] ++ ([_, _, _, _, _] ++ rs_tks ((mf_l dr d0).1 rs_nil))).length = _
    rw [List.length_append, List.length_append]; rfl
  refine ⟨?_, fun n => ?_, by rw [g4]; omega⟩
  · unfold rp_nm
    rw [h1, h2]
    have l2 : ([97, 98] : List Int64).length = 2 := rfl
    rw [l2, g1, g2, g3]
    refine ⟨123, Fk, 1 + gL, hN, ⟨by decide, by omega, by decide, by omega, by omega, by omega, ?_⟩, ?_, ?_, ?_, ?_⟩
    · have hmul := Nat.mul_le_mul (show 2 + (0 + 1 + (0 + 1 + rs_sV ((mf_l dr d0).1 rs_nil))) ≤ 4 + (X + W) by omega) (show Fk + 1 ≤ 9 by omega)
      omega
    · show max 13 (max 13 (rs_dp ((mf_l dr d0).1 rs_nil))) ≤ 99
      exact Nat.max_le.mpr ⟨by decide, Nat.max_le.mpr ⟨by decide, Nat.le_trans c10 (by decide)⟩⟩
    · exact ⟨rfl, by decide, trivial⟩
    · show max 0 (max 0 (rs_br ((mf_l dr d0).1 rs_nil))) ≤ 7
      exact Nat.max_le.mpr ⟨by decide, Nat.max_le.mpr ⟨by decide, Nat.le_trans c9 (by decide)⟩⟩
    · refine ⟨⟨⟨(by decide : 1 ≤ 9), 1, by decide, by decide⟩, by decide⟩, fun V hV => ?_⟩
      replace hV : V + 1 ≤ 320 := hV
      refine ⟨⟨⟨(by decide : 1 ≤ 9), trivial⟩, ?_⟩, fun U hU => ?_⟩
      · show rd_lk (rp_sv 0 [97, 98] ++ [(99, V + 0)]) 100 = none
        rw [rd_lk_old (by decide)]; decide
      · replace hU : U + 1 ≤ 320 := hU
        exact c11 _ (md_sw_f (V1 := V + 0) (V2 := U + 0) (by omega) (by omega)) (fun _ _ => trivial)
  · show [] ++ ([] ++ rs_cl ((mf_l dr d0).1 rs_nil) _) = []
    rw [c8 (fun _ => rfl)]; rfl
theorem mp_nms {i j : Nat} (hi : i < 3) (hj : j < 3) (h : (if i = 0 then 102 else if i = 1 then 103 else 104 : Int64) = (if j = 0 then 102 else if j = 1 then 103 else 104)) : i = j := by
  rcases (by omega : i = 0 ∨ i = 1 ∨ i = 2) with e | e | e <;> rcases (by omega : j = 0 ∨ j = 1 ∨ j = 2) with e2 | e2 | e2 <;> subst e <;> subst e2 <;> first | rfl | (revert h; decide)
/-- the program -/
def mp_F (dr : Nat → Nat → Nat) (d0 : Nat) (k : Int32) : RF := (fun i => if i = 0 then 102 else if i = 1 then 103 else 104, fun i => if i = 0 then [97, 98] else if i = 1 then [110, 98, 99] else [120, 121], fun i => if i = 0 then mf_b dr d0 else if i = 1 then rg_b k else rh_b)
/-- THE PROGRAM IS READ, whatever is drawn -/
theorem mp_prog (hd : ∀ k n, 0 < n → dr k n < n) {d0 : Nat} {k : Int32} {S0 : rd_S} (h0 : rp_in (mp_F dr d0 k) 3 0 S0) :
    ∃ S P, rp_st S0 3 S ∧ S.2.2.2.2.1 0 2 = 0 ∧ S.1 0 5 < 0 ∧ S.1 0 6 = 0 ∧ fX7_linkCalls S.1 S.2.1 S.2.2.1 S.2.2.2.1 = some (S.1, P) ∧ P 0 0 = pu_I 3 ∧ (∀ f, f < 3 → P 4 f = pu_I ((mp_F dr d0 k).2.1 f).length ∧ P 6 f = pu_I (rp_a (mp_F dr d0 k) f) ∧ P 7 f = pu_I (rp_a (mp_F dr d0 k) (f + 1))) ∧
      (∀ f, f < 3 → tq_fn P f (rp_a (mp_F dr d0 k) f) (rp_a (mp_F dr d0 k) (f + 1)) (((mp_F dr d0 k).2.1 f).length + rs_sV ((mp_F dr d0 k).2.2 f)) 3 ((mp_F dr d0 k).2.1 f).length) ∧
      ∃ A rk tk, pm_pg P 3 (rp_a (mp_F dr d0 k)) (fun f => rp_a (mp_F dr d0 k) (f + 1)) (fun f => ((mp_F dr d0 k).2.1 f).length + rs_sV ((mp_F dr d0 k).2.2 f)) A (fun f => ((mp_F dr d0 k).2.1 f).length) rk tk := by
  obtain ⟨hf, hfc, hft⟩ := mf_nm hd (F := mp_F dr d0 k) (i := 0) (d0 := d0) rfl rfl
  refine rp_prog (F := mp_F dr d0 k) (fun i hi => ?_) (fun i j hi hj h => ?_) ⟨?_, ?_⟩ (fun i hi n x p c hm => ?_) h0
  · rcases (by omega : i = 0 ∨ i = 1 ∨ i = 2) with e | e | e <;> subst e
    · exact hf
    · exact rg_nm rfl rfl
    · exact rh_nm rfl rfl
  · exact mp_nms hi hj h
  · show 1 + (rs_tks (mf_b dr d0)).length + (rs_tks (rg_b k)).length + (rs_tks rh_b).length ≤ 1000
    have e1 : (rs_tks (rg_b k)).length ≤ 100 := Nat.le_of_ble_eq_true rfl
    have e2 : (rs_tks rh_b).length ≤ 100 := Nat.le_of_ble_eq_true rfl
    omega
  · show (([] ++ rs_cl (mf_b dr d0) _) ++ rs_cl (rg_b k) _ ++ rs_cl rh_b _).length ≤ 600
    rw [hfc, rh_cl]
    exact Nat.le_of_ble_eq_true rfl
  · rcases (by omega : i = 0 ∨ i = 1 ∨ i = 2) with e | e | e <;> subst e
    · have hm : (x, p, c) ∈ rs_cl (mf_b dr d0) n := hm
      rw [hfc] at hm
      cases hm
    · rcases rg_cl (show (x, p, c) ∈ rs_cl (rg_b k) n from hm) with ⟨e1, e2⟩ | ⟨e1, e2⟩
      · exact ⟨1, by decide, e1, e2⟩
      · exact ⟨2, by decide, e1, e2⟩
    · have hm : (x, p, c) ∈ rs_cl rh_b n := hm
      rw [rh_cl] at hm
      cases hm
end MDZ
