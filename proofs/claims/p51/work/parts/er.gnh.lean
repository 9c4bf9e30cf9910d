/-! pure side, the reader 27: the functions g and h -/
section RDGH
theorem rd_lk_new {x : Int64} {v : Nat} : ∀ {l : rd_sv}, rd_lk l x = none → rd_lk (l ++ [(x, v)]) x = some v
  | [], _ => by show (if x = x then some v else none) = some v; rw [if_pos rfl]
  | (y, u) :: l, h => by
    have h : (if y = x then some u else rd_lk l x) = none := h
    show (if y = x then some u else rd_lk (l ++ [(x, v)]) x) = some v
    by_cases e : y = x
    · rw [if_pos e] at h; cases h
    · rw [if_neg e] at h ⊢; exact rd_lk_new h
theorem rd_lk_old {x y : Int64} {v : Nat} (hxy : y ≠ x) : ∀ {l : rd_sv}, rd_lk (l ++ [(y, v)]) x = rd_lk l x
  | [] => by show (if y = x then some v else none) = none; rw [if_neg hxy]
  | (z, u) :: l => by
    show (if z = x then some u else rd_lk (l ++ [(y, v)]) x) = (if z = x then some u else rd_lk l x)
    rw [rd_lk_old hxy]
theorem sg_lt : re_sg 60 11 2 := by unfold re_sg; decide
theorem sg_gt : re_sg 62 13 2 := by unfold re_sg; decide
theorem sg_sub : re_sg 45 2 3 := by unfold re_sg; decide
theorem sg_add : re_sg 43 1 3 := by unfold re_sg; decide
theorem sg_mul : re_sg 42 3 4 := by unfold re_sg; decide
theorem sg_or : re_sg 124 7 3 := by unfold re_sg; decide
theorem sg_mod : re_sg 37 5 4 := by unfold re_sg; decide
/-- g's body, for a bound k -/
def rg_b1 : RS := rs_cons (rs_ret (re_bn 45 2 3 (re_vr 98) (re_vr 99))) rs_nil
def rg_t1 (k : Int32) : RE := re_sc false (re_bn 60 11 2 (re_vr 110) (re_nm 1)) (re_bn 62 13 2 (re_vr 110) (re_nm k))
def rg_b4 : RS := rs_cons (rs_ret (re_bn 43 1 3 (re_vr 116) (re_c2 104 (re_vr 110) (re_vr 116)))) rs_nil
def rg_t3 : RE := re_bn 42 3 4 (re_c3 103 (re_bn 45 2 3 (re_vr 110) (re_nm 1)) (re_vr 99) (re_vr 98)) (re_nm 2)
def rg_b (k : Int32) : RS := rs_cons (rs_if (rg_t1 k) rg_b1) (rs_cons (rs_wr (re_vr 110) (re_bn 43 1 3 (re_ld (re_vr 98)) (re_vr 110))) (rs_cons (rs_var 116 rg_t3) rg_b4))
theorem rg_N (k : Int32) : rb_N (rg_b k) 18 2 18 := by
  have t1 : re_N (rg_t1 k) 3 12 8 := re_N_mono (re_N_sc (re_N_bn re_N_vr re_N_nm sg_lt (by decide)) (re_N_bn re_N_vr re_N_nm sg_gt ⟨(by decide : 2 < 6), (by decide : 2 < 6)⟩) ⟨(by decide : 0 < 2), (by decide : 0 < 2)⟩) (by decide) (by decide) (by decide)
  have b1 : rb_N rg_b1 3 0 1 := rb_N_mono (rb_N_cons (rs_N_ret (re_N_bn re_N_vr re_N_vr sg_sub (by decide)) (by decide)) rb_N_nil) (by decide) (by decide) (by decide)
  have s2 : rs_N (rs_wr (re_vr 110) (re_bn 43 1 3 (re_ld (re_vr 98)) (re_vr 110))) 3 0 2 := rs_N_mono (rs_N_wr re_N_vr (re_N_bn (re_N_ld re_N_vr) re_N_vr sg_add (by decide)) (by decide) (by decide)) (by decide) (by decide) (by decide)
  have t3 : re_N rg_t3 5 17 5 := re_N_mono (re_N_bn (re_N_c3 (k := 2) (B := 2) (re_N_bn re_N_vr re_N_nm sg_sub (by decide)) (re_N_mono re_N_vr (by decide) (by decide) (Nat.le_refl 0)) (re_N_mono re_N_vr (by decide) (by decide) (Nat.le_refl 0)) (show (3 : Int32) ≠ 41 by decide)) re_N_nm sg_mul (by decide)) (by decide) (by decide) (by decide)
  have b4 : rb_N rg_b4 17 0 2 := rb_N_mono (rb_N_cons (rs_N_ret (re_N_bn re_N_vr (re_N_c2 re_N_vr re_N_vr (show (3 : Int32) ≠ 41 by decide)) sg_add (by decide)) (by decide)) rb_N_nil) (by decide) (by decide) (by decide)
  refine rb_N_mono (rb_N_cons (rs_N_if t1 (by decide) b1) (rb_N_cons s2 (rb_N_var t3 (by decide) b4))) (by decide) ?_ (by decide)
  exact Nat.le_of_ble_eq_true rfl
theorem rg_nm {F : RF} {i : Nat} {k : Int32} (h1 : F.2.1 i = [110, 98, 99]) (h2 : F.2.2 i = rg_b k) : rp_nm F i := by
  unfold rp_nm
  rw [h1, h2]
  refine ⟨18, 2, 18, rg_N k, ⟨by decide, Nat.le_of_ble_eq_true rfl, by decide, Nat.le_of_ble_eq_true rfl, Nat.le_of_ble_eq_true rfl, Nat.le_of_ble_eq_true rfl, Nat.le_of_ble_eq_true rfl⟩, Nat.le_of_ble_eq_true rfl, ?_, Nat.le_of_ble_eq_true rfl, ?_⟩
  · exact ⟨rfl, by decide, by decide, trivial⟩
  · have n : ∃ v, v < 320 ∧ rd_lk (rp_sv 0 [110, 98, 99]) 110 = some v := ⟨0, by decide, by decide⟩
    have b : ∃ v, v < 320 ∧ rd_lk (rp_sv 0 [110, 98, 99]) 98 = some v := ⟨1, by decide, by decide⟩
    have c : ∃ v, v < 320 ∧ rd_lk (rp_sv 0 [110, 98, 99]) 99 = some v := ⟨2, by decide, by decide⟩
    refine ⟨⟨⟨Nat.le_of_ble_eq_true rfl, ⟨n, trivial⟩, n, trivial⟩, ⟨Nat.le_of_ble_eq_true rfl, b, c⟩, fun _ _ => trivial⟩, fun V1 hV1 => ⟨⟨⟨Nat.le_of_ble_eq_true rfl, ?_⟩, Nat.le_of_ble_eq_true rfl, ?_, ?_⟩, fun V2 hV2 => ⟨⟨⟨Nat.le_of_ble_eq_true rfl, ⟨⟨?_, trivial⟩, ?_, ?_⟩, trivial⟩, ?_⟩, fun V3 hV3 => ⟨⟨Nat.le_of_ble_eq_true rfl, ?_, ?_, ?_⟩, fun _ _ => trivial⟩⟩⟩⟩
    · exact n
    · exact b
    · exact n
    · exact n
    · exact c
    · exact b
    · show rd_lk (rp_sv 0 [110, 98, 99] ++ [] ++ []) 116 = none
      decide
    · exact ⟨V3 + 0, by have : V3 + 1 ≤ 320 := hV3; omega, rd_lk_new (show rd_lk (rp_sv 0 [110, 98, 99] ++ [] ++ []) 116 = none by decide)⟩
    · obtain ⟨v, v1, v2⟩ := n
      exact ⟨v, v1, rd_lk_app _ _ v2⟩
    · exact ⟨V3 + 0, by have : V3 + 1 ≤ 320 := hV3; omega, rd_lk_new (show rd_lk (rp_sv 0 [110, 98, 99] ++ [] ++ []) 116 = none by decide)⟩
theorem rg_cl {k : Int32} {n p c : Nat} {x : Int64} (h : (x, p, c) ∈ rs_cl (rg_b k) n) : (x = 103 ∧ c = 3) ∨ (x = 104 ∧ c = 2) := by
  have h : (x, p, c) ∈ ([(103, _, 3), (104, _, 2)] : List (Int64 × Nat × Nat)) := h
  rcases List.mem_cons.mp h with e | e
  · exact Or.inl ⟨congrArg (·.1) e, congrArg (·.2.2) e⟩
  · have e := List.mem_singleton.mp e
    exact Or.inr ⟨congrArg (·.1) e, congrArg (·.2.2) e⟩
/-- h's body -/
def rh_b2 : RS := rs_cons (rs_ret (re_bn 124 7 3 (re_vr 120) (re_vr 121))) rs_nil
def rh_b3 : RS := rs_cons (rs_set 120 (re_bn 45 2 3 (re_vr 120) (re_nm 1))) (rs_cons (rs_set 121 (re_bn 43 1 3 (re_vr 121) (re_bn 42 3 4 (re_vr 120) (re_vr 122)))) rs_nil)
def rh_b4 : RS := rs_cons (rs_ret (re_bn 45 2 3 (re_bn 37 5 4 (re_vr 121) (re_pr (re_bn 43 1 3 (re_vr 120) (re_nm 7)))) (re_vr 120))) rs_nil
def rh_b : RS := rs_cons (rs_var 122 (re_sc true (re_vr 120) (re_vr 121))) (rs_cons (rs_if (re_nt (re_vr 122)) rh_b2) (rs_cons (rs_wh (re_bn 62 13 2 (re_vr 120) (re_nm 0)) rh_b3) rh_b4))
theorem rh_N : rb_N rh_b 13 3 18 := by
  have t1 : re_N (re_sc true (re_vr 120) (re_vr 121)) 2 10 4 := re_N_mono (re_N_sc re_N_vr re_N_vr (by decide)) (by decide) (by decide) (by decide)
  have b2 : rb_N rh_b2 3 0 1 := rb_N_mono (rb_N_cons (rs_N_ret (re_N_bn re_N_vr re_N_vr sg_or (by decide)) (by decide)) rb_N_nil) (by decide) (by decide) (by decide)
  have b3 : rb_N rh_b3 4 0 4 := rb_N_mono (rb_N_cons (rs_N_set (re_N_bn re_N_vr re_N_nm sg_sub (by decide)) (by decide)) (rb_N_cons (rs_N_set (re_N_bn re_N_vr (re_N_bn re_N_vr re_N_vr sg_mul (by decide)) sg_add (by decide)) (by decide)) rb_N_nil)) (by decide) (by decide) (by decide)
  have b4 : rb_N rh_b4 4 0 4 := rb_N_mono (rb_N_cons (rs_N_ret (re_N_bn (re_N_bn re_N_vr (re_N_pr (re_N_bn re_N_vr re_N_nm sg_add (by decide))) sg_mod (by decide)) re_N_vr sg_sub (by decide)) (by decide)) rb_N_nil) (by decide) (by decide) (by decide)
  refine rb_N_mono (rb_N_var t1 (by decide) (rb_N_cons (rs_N_if (re_N_nt re_N_vr rfl) (by decide) b2) (rb_N_cons (rs_N_wh (re_N_bn re_N_vr re_N_nm sg_gt (by decide)) (by decide) b3) b4))) (by decide) ?_ (by decide)
  exact Nat.le_of_ble_eq_true rfl
theorem rh_nm {F : RF} {i : Nat} (h1 : F.2.1 i = [120, 121]) (h2 : F.2.2 i = rh_b) : rp_nm F i := by
  unfold rp_nm
  rw [h1, h2]
  refine ⟨13, 3, 18, rh_N, ⟨by decide, Nat.le_of_ble_eq_true rfl, by decide, Nat.le_of_ble_eq_true rfl, Nat.le_of_ble_eq_true rfl, Nat.le_of_ble_eq_true rfl, Nat.le_of_ble_eq_true rfl⟩, Nat.le_of_ble_eq_true rfl, ?_, Nat.le_of_ble_eq_true rfl, ?_⟩
  · exact ⟨rfl, by decide, trivial⟩
  · have x0 : ∃ v, v < 320 ∧ rd_lk (rp_sv 0 [120, 121]) 120 = some v := ⟨0, by decide, by decide⟩
    have y0 : ∃ v, v < 320 ∧ rd_lk (rp_sv 0 [120, 121]) 121 = some v := ⟨1, by decide, by decide⟩
    refine ⟨⟨⟨Nat.le_of_ble_eq_true rfl, x0, y0⟩, by decide⟩, fun V1 hV1 => ?_⟩
    replace hV1 : V1 + 2 ≤ 320 := hV1
    have x : ∃ v, v < 320 ∧ rd_lk (rp_sv 0 [120, 121] ++ rs_dv (rs_var 122 (re_sc true (re_vr 120) (re_vr 121))) V1) 120 = some v := x0.elim fun v hv => ⟨v, hv.1, rd_lk_app _ _ hv.2⟩
    have y : ∃ v, v < 320 ∧ rd_lk (rp_sv 0 [120, 121] ++ rs_dv (rs_var 122 (re_sc true (re_vr 120) (re_vr 121))) V1) 121 = some v := y0.elim fun v hv => ⟨v, hv.1, rd_lk_app _ _ hv.2⟩
    have z : ∃ v, v < 320 ∧ rd_lk (rp_sv 0 [120, 121] ++ rs_dv (rs_var 122 (re_sc true (re_vr 120) (re_vr 121))) V1) 122 = some v := ⟨V1 + 1, by omega, rd_lk_new (show rd_lk (rp_sv 0 [120, 121]) 122 = none by decide)⟩
    generalize rp_sv 0 [120, 121] ++ rs_dv (rs_var 122 (re_sc true (re_vr 120) (re_vr 121))) V1 = sv at x y z ⊢
    refine ⟨⟨⟨Nat.le_of_ble_eq_true rfl, z⟩, ⟨Nat.le_of_ble_eq_true rfl, x, y⟩, fun _ _ => trivial⟩, fun _ _ => ?_⟩
    show rs_sn (rs_cons (rs_wh (re_bn 62 13 2 (re_vr 120) (re_nm 0)) rh_b3) rh_b4) (sv ++ [])
    rw [List.append_nil]
    refine ⟨⟨⟨Nat.le_of_ble_eq_true rfl, x, trivial⟩, ⟨⟨Nat.le_of_ble_eq_true rfl, x, trivial⟩, x⟩, fun _ _ => ?_⟩, fun _ _ => ?_⟩
    · show rs_sn (rs_cons (rs_set 121 _) rs_nil) (sv ++ [])
      rw [List.append_nil]
      exact ⟨⟨⟨Nat.le_of_ble_eq_true rfl, y, x, z⟩, y⟩, fun _ _ => trivial⟩
    · show rs_sn rh_b4 (sv ++ [])
      rw [List.append_nil]
      exact ⟨⟨Nat.le_of_ble_eq_true rfl, ⟨y, x, trivial⟩, x⟩, fun _ _ => trivial⟩
theorem rh_cl {n : Nat} : rs_cl rh_b n = [] := rfl
end RDGH
