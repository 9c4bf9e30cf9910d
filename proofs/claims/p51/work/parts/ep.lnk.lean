/-! pure side, the reader 25: calls are linked; a function that was read is in shape -/
section RDLK
theorem rd_link {rw : ST} {rl : SL} {f lp fs : Nat} {sv : rd_sv} {cs : List (Int64 × Nat × Nat)} {pw : ST} {pl : SL} (h1 : rd_w rw rl f 0 sv cs lp) (h0 : pw 0 0 = pu_I fs) (hfs : fs ≤ 6) (hcs : cs.length ≤ 600) (hp : cs.Pairwise (fun a b => a.2.1 < b.2.1))
    (hg : ∀ x p k, (x, p, k) ∈ cs → p < 3200 ∧ ∃ g, g < fs ∧ pl 2 g = x ∧ (∀ j, j < g → pl 2 j ≠ x) ∧ pw 4 g = pu_I k) :
    ∃ P, fX7_linkCalls rw rl pw pl = some (rw, P) ∧ (∀ r, r ≠ 10 → P r = pw r) ∧ rd_ck P fs cs ∧ ∀ z, (∀ e, e ∈ cs → e.2.1 ≠ z) → P 10 z = pw 10 z := by
  have hL : ∀ (m : List (Int64 × Nat × Nat)) (k fu : Nat) (P : ST), cs.drop k = m → m.length < fu → k + m.length = cs.length → m.Pairwise (fun a b => a.2.1 < b.2.1) → (∀ r, r ≠ 10 → P r = pw r) →
      ∃ P', fX7_linkCalls_L2 rl pl fu (pu_I k) rw P = some (rw, P') ∧ (∀ r, r ≠ 10 → P' r = pw r) ∧ (∀ x p c, (x, p, c) ∈ m → ∃ g, g < fs ∧ P' 10 p = pu_I g ∧ pw 4 g = pu_I c) ∧ ∀ z, (∀ e, e ∈ m → e.2.1 ≠ z) → P' 10 z = P 10 z := by
    intro m
    induction m with
    | nil =>
      intro k fu P hd hfu hk hpw hP
      obtain ⟨fu, rfl⟩ : ∃ q, fu = q + 1 := ⟨fu - 1, by simp only [List.length_nil] at hfu; omega⟩
      simp only [List.length_nil] at hk
      refine ⟨P, ?_, hP, fun _ _ _ h => (by cases h), fun _ _ => rfl⟩
      show (if (rw 0 17) ≤ pu_I k then some (rw, P) else _) = _
      rw [h1.2.2.2.1, if_pos (by rw [pu_le (by omega) (by omega)]; omega)]
    | cons y m ih =>
      intro k fu P hd hfu hk hpw hP
      obtain ⟨fu, rfl⟩ : ∃ q, fu = q + 1 := ⟨fu - 1, by simp only [List.length_cons] at hfu; omega⟩
      simp only [List.length_cons] at hk hfu
      obtain ⟨x, p, c⟩ := y
      have hy : cs[k]? = some (x, p, c) := by
        have := List.getElem?_drop (xs := cs) (i := k) (j := 0)
        rw [hd] at this
        simpa using this.symm
      obtain ⟨r14, r15, r17⟩ := h1.2.2.2.2 k _ hy
      obtain ⟨hp32, g, g1, g2, g3, g4⟩ := hg x p c (List.mem_of_getElem? hy)
      have hfind : fX6_find pl x (pu_I fs) = some (pu_I g) := rd_find (pl := pl) (x := x) (fs := fs) hfs (some g) (fun j hj => by obtain rfl := Option.some.inj hj; exact ⟨g1, g2⟩) (fun j _ hj => g3 j (hj g rfl))
      dsimp only at r14 r15 r17
      have hix : ixb (pu_I k) 600 = true := (pu_ix (by omega)).mpr (by omega)
      obtain ⟨hpw1, hpw2⟩ := List.pairwise_cons.mp hpw
      obtain ⟨P', e1, e2, e3, e4⟩ := ih (k + 1) fu (upw P 10 p (pu_I g)) (by rw [← List.drop_drop, hd]; rfl) (by omega) (by omega) hpw2 (fun r hr => by rw [pv_upw_n hr]; exact hP r hr)
      refine ⟨P', ?_, e2, fun x' p' c' hm => ?_, fun z hz => ?_⟩
      · show (if (rw 0 17) ≤ pu_I k then some (rw, P) else (if ixb (pu_I k) 600 = true then ((fX6_find pl (rl 14 (nn (pu_I k))) (P 0 0)).bind fun (o_3 : Int32) => (if 0 ≤ o_3 then (if ixb (pu_I k) 600 = true then (if ixb o_3 6 = true then (if (rw 17 (nn (pu_I k))) = (P 4 (nn o_3)) then (if ixb (pu_I k) 600 = true then (if 3200 ≤ (rw 15 (nn (pu_I k))) then (fX7_linkCalls_J108 (fX7_linkCalls_L2 rl pl fu) (pu_I k) rw P) else (if ixb (pu_I k) 600 = true then (if ixb (rw 15 (nn (pu_I k))) 3200 = true then (lt9 (upw P 10 (nn (rw 15 (nn (pu_I k)))) o_3) fun (w13 : ST) => (fX7_linkCalls_J108 (fX7_linkCalls_L2 rl pl fu) (pu_I k) rw w13)) else none) else none)) else none) else (if ixb (pu_I k) 600 = true then ((fX7_blame rw 4 (rw 16 (nn (pu_I k)))).bind fun (o_15 : ST) => (fX7_linkCalls_J108 (fX7_linkCalls_L2 rl pl fu) (pu_I k) o_15 P)) else none)) else none) else none) else (if ixb (pu_I k) 600 = true then ((fX7_blame rw 3 (rw 16 (nn (pu_I k)))).bind fun (o_17 : ST) => (fX7_linkCalls_J108 (fX7_linkCalls_L2 rl pl fu) (pu_I k) o_17 P)) else none))) else none)) = _
        rw [h1.2.2.2.1, if_neg (by rw [pu_le (by omega) (by omega)]; omega), if_pos hix, pu_nn (show k < 2147483648 by omega), r14, hP 0 (by decide), h0, hfind]
        show (if 0 ≤ pu_I g then _ else _) = _
        rw [if_pos (by rw [show (0 : Int32) = pu_I 0 from rfl, pu_le (by decide) (by omega)]; omega), if_pos hix, if_pos ((pu_ix (by omega)).mpr (by omega)), r17, pu_nn (show g < 2147483648 by omega), hP 4 (by decide), g4, if_pos rfl, if_pos hix, r15]
        show (if (3200 : Int32) ≤ pu_I p then _ else _) = _
        rw [if_neg (by rw [show (3200 : Int32) = pu_I 3200 from rfl, pu_le (by decide) (by omega)]; omega), if_pos hix]
        show (if ixb (pu_I p) 3200 = true then fX7_linkCalls_J108 (fX7_linkCalls_L2 rl pl fu) (pu_I k) rw (upw P 10 (nn (pu_I p)) (pu_I g)) else none) = _
        rw [if_pos ((pu_ix (by omega)).mpr (by omega)), pu_nn (show p < 2147483648 by omega)]
        unfold fX7_linkCalls_J108
        rw [pu_su]
        exact e1
      · rcases List.mem_cons.mp hm with h | h
        · obtain ⟨h1', h2', h3'⟩ : x' = x ∧ p' = p ∧ c' = c := ⟨congrArg (·.1) h, congrArg (·.2.1) h, congrArg (·.2.2) h⟩
          subst h2' h3'
          refine ⟨g, g1, ?_, g4⟩
          rw [e4 p' (fun e he => by have := hpw1 e he; exact Nat.ne_of_gt this), pv_upw, if_pos ⟨rfl, rfl⟩]
        · exact e3 x' p' c' h
      · rw [e4 z (fun e he => hz e (List.mem_cons_of_mem _ he)), pv_upw, if_neg (fun q => hz _ (List.mem_cons_self) q.2.symm)]
  obtain ⟨P, e1, e2, e3, e4⟩ := hL cs 0 NF pw rfl (by unfold NF; omega) (by omega) hp (fun _ _ => rfl)
  refine ⟨P, ?_, e2, fun x p c hm => ?_, e4⟩
  · unfold fX7_linkCalls
    rw [show (0 : Int32) = pu_I 0 from rfl, e1]
    rfl
  · obtain ⟨g, g1, g2, g3⟩ := e3 x p c hm
    exact ⟨g, g1, g2, by rw [e2 4 (by decide)]; exact g3⟩
theorem rp_cd_at : ∀ (ps : List Int64) (k j : Nat), j < ps.length → (rp_cd k ps)[j]? = some (21, pu_I (k + j), false)
  | [], _, _, h => by simp only [List.length_nil] at h; omega
  | _ :: ps, k, 0, _ => rfl
  | _ :: ps, k, j + 1, h => by
    show (rp_cd (k + 1) ps)[j]? = _
    rw [rp_cd_at ps (k + 1) j (by simp only [List.length_cons] at h; omega), show k + 1 + j = k + (j + 1) by omega]
theorem rp_sv_lk {x : Int64} {v : Nat} : ∀ (ps : List Int64) (k : Nat), rd_lk (rp_sv k ps) x = some v → v < k + ps.length
  | [], _, h => by cases h
  | p :: ps, k, h => by
    have h : (if p = x then some k else rd_lk (rp_sv (k + 1) ps) x) = some v := h
    by_cases e : p = x
    · rw [if_pos e] at h
      have := Option.some.inj h
      simp only [List.length_cons]; omega
    · rw [if_neg e] at h
      have := rp_sv_lk ps (k + 1) h
      simp only [List.length_cons]; omega
theorem rp_ct {q : Int32 → Bool} : ∀ (ps : List Int64) (k : Nat), rd_ct q (rp_cd k ps) = if q 21 = true then ps.length else 0
  | [], _ => by by_cases h : q 21 = true <;> simp only [h, if_true, if_false] <;> rfl
  | p :: ps, k => by
    show rd_ct q ((21, pu_I k, false) :: rp_cd (k + 1) ps) = _
    rw [rd_ct_cons, rp_ct ps (k + 1)]
    by_cases h : q 21 = true
    · rw [if_pos h, if_pos h, if_pos h, List.length_cons, Nat.add_comm]
    · rw [if_neg h, if_neg h, if_neg h]
/-- a function that was read is in shape -/
theorem rd_fn {P : ST} {f a0 a1 L : Nat} {ps : List Int64} {b : RS} {B fk g : Nat} (hM : rb_M b B fk g) (hf : f < 6) (hG : tq_G P a0 a1) (hc : rd_c P a0 (rp_cd 0 ps ++ (rs_cd b (rp_sv 0 ps) L ps.length ++ [(0, 0, false), (24, 0, false)]))) (ha : a1 = a0 + ps.length + rs_ln b + 2)
    (hr : P 4 f = pu_I ps.length ∧ P 5 f = pu_I (ps.length + rs_sV b) ∧ P 6 f = pu_I a0 ∧ P 7 f = pu_I a1) (hck : rd_ck P 3 (rs_cl b (a0 + ps.length))) (hsn : rs_sn b (rp_sv 0 ps)) (hL : L + rs_sL b ≤ 640)
    (hn : ps.length ≤ 4 ∧ ps.length + rs_sV b ≤ 16 ∧ B ≤ 150 ∧ 1 ≤ rs_ln b ∧ 1 + rs_sL b + 3 * fk ≤ 60 ∧ ps.length + rs_ln b + 2 ≤ 640 ∧ (ps.length + rs_sV b) * (fk + 1) + (ps.length + g + 1) ≤ 250) : tq_fn P f a0 a1 (ps.length + rs_sV b) 3 ps.length := by
  obtain ⟨ok, Q, T, C⟩ := hM
  obtain ⟨n1, n2, n3, n4, n5, n6, n7⟩ := hn
  obtain ⟨r4, r5, r6, r7⟩ := hr
  obtain ⟨c1, c0⟩ := rd_c_app.mp hc
  rw [rp_cd_len] at c0
  obtain ⟨c2, c3⟩ := rd_c_app.mp c0
  rw [ok.1] at c3
  obtain ⟨⟨d1, _, _⟩, c4⟩ := rd_c_cons.mp c3
  obtain ⟨⟨d2, _, _⟩, _⟩ := rd_c_cons.mp c4
  have hlen : (rp_cd 0 ps ++ (rs_cd b (rp_sv 0 ps) L ps.length ++ [(0, 0, false), (24, 0, false)])).length = ps.length + rs_ln b + 2 := by
    rw [List.length_append, List.length_append, rp_cd_len, ok.1, List.length_cons, List.length_cons, List.length_nil]; omega
  have hct : ∀ q, rd_ct q (rp_cd 0 ps ++ (rs_cd b (rp_sv 0 ps) L ps.length ++ [(0, 0, false), (24, 0, false)])) = (if q 21 = true then ps.length else 0) + (rd_ct q (rs_cd b (rp_sv 0 ps) L ps.length) + ((if q 0 = true then 1 else 0) + ((if q 24 = true then 1 else 0) + 0))) := fun q => by
    rw [rd_ct_app, rd_ct_app, rp_ct, rd_ct_cons, rd_ct_cons, rd_ct_nil]
  have ha1 : a1 = a0 + (ps.length + rs_ln b + 2) := by omega
  obtain ⟨k1, k2, k3⟩ := C (rp_sv 0 ps) L ps.length
  have q35 := rd_ct_ks hc pt_q35 _ (Nat.le_refl _)
  have q33 := rd_ct_ks hc pt_q33 _ (Nat.le_refl _)
  have qg := rd_ct_gc hc _ (Nat.le_refl _)
  rw [List.take_length, hlen, ← ha1, hct] at q35 q33 qg
  rw [k1] at q35
  replace q35 : (pt_ks P a0 a1 pt_q35).length = 0 + (rs_sL b + (0 + (0 + 0))) := q35
  replace q33 : (pt_ks P a0 a1 pt_q33).length = 0 + (rd_ct pt_q33 (rs_cd b (rp_sv 0 ps) L ps.length) + (0 + (0 + 0))) := q33
  replace qg : pt_gc P a0 a1 = ps.length + (rd_ct pu_gk (rs_cd b (rp_sv 0 ps) L ps.length) + (1 + (0 + 0))) := qg
  have hpc : pt_c P a0 a1 ≤ 640 := by
    rw [ha1]
    exact Nat.le_trans (rd_pt_c _) (by omega)
  have hb := T P a0 a1 (ps.length + rs_sV b) 3 ps.length (fun u => ∃ n, n < ps.length ∧ u = pu_I n) (rp_sv 0 ps) L ps.length (a0 + ps.length) hG c2 hsn (fun x v hv => by
    have := rp_sv_lk ps 0 hv
    exact ⟨by omega, v, by omega, rfl⟩) (by omega) (by omega) (Nat.le_refl _) (by omega) hL (by decide) hck
  refine tq_fin (b := a0 + ps.length + rs_ln b) hG ⟨hf, r5, r6, r7, n2⟩ r4 (fun n hn => ?_) n1 (Nat.le_add_right _ _) hb n3 (by omega) d1 d2 ha ⟨?_, hpc, ?_⟩
  · have := c1 n _ (rp_cd_at ps 0 n hn)
    exact ⟨this.1, by rw [this.2.1 (show (21 : Int32) ≠ 20 by decide), Nat.zero_add]⟩
  · rw [q35, q33]; omega
  · rw [qg]
    have h1 : (pt_ks P a0 a1 pt_q33).length + 1 ≤ fk + 1 := by rw [q33]; omega
    have h2 := Nat.mul_le_mul_left (ps.length + rs_sV b) h1
    omega
end RDLK
