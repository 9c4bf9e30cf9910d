/-! pure side, the reader 17: how many ops of a kind -/
section RDC
def rd_ct (q : Int32 → Bool) (l : List (Int32 × Int32 × Bool)) : Nat := (l.filter fun c => q c.1).length
theorem rd_ct_app {q : Int32 → Bool} {l1 l2 : List (Int32 × Int32 × Bool)} : rd_ct q (l1 ++ l2) = rd_ct q l1 + rd_ct q l2 := by
  unfold rd_ct
  rw [List.filter_append, List.length_append]
theorem rd_ct_cons {q : Int32 → Bool} {c : Int32 × Int32 × Bool} {l : List (Int32 × Int32 × Bool)} : rd_ct q (c :: l) = (if q c.1 = true then 1 else 0) + rd_ct q l := by
  unfold rd_ct
  rw [List.filter_cons]
  by_cases h : q c.1 = true
  · rw [if_pos h, if_pos h, List.length_cons, Nat.add_comm]
  · rw [if_neg h, if_neg h, Nat.zero_add]
theorem rd_ct_nil {q : Int32 → Bool} : rd_ct q [] = 0 := rfl
/-- the ops that stand in a program -/
theorem rd_c_at {P : ST} {n : Nat} {l : List (Int32 × Int32 × Bool)} (h : rd_c P n l) {k : Nat} (hk : k < l.length) : l.take (k + 1) = l.take k ++ [l[k]] ∧ P 9 (n + k) = l[k].1 := by
  refine ⟨List.take_succ_eq_append_getElem hk, (h k l[k] (List.getElem?_eq_getElem hk)).1⟩
theorem rd_ct_ks {P : ST} {n : Nat} {l : List (Int32 × Int32 × Bool)} (h : rd_c P n l) (q : Int32 → Bool) : ∀ k, k ≤ l.length → (pt_ks P n (n + k) q).length = rd_ct q (l.take k) := by
  intro k
  induction k with
  | zero =>
    intro _
    have : pt_ks P n (n + 0) q = [] := by
      refine List.filter_eq_nil_iff.mpr fun j hj => ?_
      have := List.mem_range.mp hj
      rw [decide_eq_false (by omega : ¬ n ≤ j), Bool.false_and]
      exact Bool.noConfusion
    rw [this]
    rfl
  | succ k ih =>
    intro hk
    obtain ⟨h1, h2⟩ := rd_c_at h (show k < l.length by omega)
    rw [h1, rd_ct_app, ← ih (by omega), rd_ct_cons, rd_ct_nil]
    have : pt_ks P n (n + (k + 1)) q = pt_ks P n (n + k) q ++ (if q (P 9 (n + k)) = true then [n + k] else []) := by
      unfold pt_ks
      rw [show n + (k + 1) = n + k + 1 by omega, List.range_succ, List.filter_append]
      congr 1
      rw [List.filter_cons, decide_eq_true (by omega : n ≤ n + k), Bool.true_and]
      rfl
    rw [this, List.length_append, h2]
    by_cases e : q l[k].1 = true
    · rw [if_pos e, if_pos e]; rfl
    · rw [if_neg e, if_neg e]; rfl
theorem rd_ct_gc {P : ST} {n : Nat} {l : List (Int32 × Int32 × Bool)} (h : rd_c P n l) : ∀ k, k ≤ l.length → pt_gc P n (n + k) = rd_ct pu_gk (l.take k) := by
  intro k
  induction k with
  | zero =>
    intro _
    rw [show l.take 0 = [] from rfl, rd_ct_nil]
    cases n with
    | zero => rfl
    | succ n => show (if n < n + 1 then 0 else _) = 0; rw [if_pos (Nat.lt_succ_self n)]
  | succ k ih =>
    intro hk
    obtain ⟨h1, h2⟩ := rd_c_at h (show k < l.length by omega)
    rw [h1, rd_ct_app, ← ih (by omega), rd_ct_cons, rd_ct_nil]
    show (if n + k < n then 0 else pt_gc P n (n + k) + (if pu_gk (P 9 (n + k)) = true then 1 else 0)) = _
    rw [if_neg (by omega), h2]
    rfl
theorem rd_pt_c {P : ST} {n : Nat} : ∀ k, pt_c P n (n + k) ≤ k := by
  intro k
  induction k with
  | zero =>
    cases n with
    | zero => exact Nat.le_refl 0
    | succ n => show (if n < n + 1 then 0 else _) ≤ 0; rw [if_pos (Nat.lt_succ_self n)]; exact Nat.le_refl 0
  | succ k ih =>
    show (if n + k < n then 0 else pt_c P n (n + k) + (if pt_cut P (n + k) then 1 else 0)) ≤ k + 1
    rw [if_neg (by omega)]
    by_cases e : pt_cut P (n + k)
    · rw [if_pos e]; omega
    · rw [if_neg e]; omega
/-- labels, forks and givers of a test -/
def re_C (e : RE) (g : Nat) : Prop := ∀ sv L V, rd_ct pt_q35 (re_cd e sv L V) = re_ss e ∧ rd_ct pt_q33 (re_cd e sv L V) = re_ss e ∧ rd_ct pu_gk (re_cd e sv L V) ≤ g
theorem re_C_nm {v : Int32} : re_C (re_nm v) 1 := fun _ _ _ => ⟨rfl, rfl, Nat.le_refl 1⟩
theorem re_C_vr {x : Int64} : re_C (re_vr x) 0 := fun _ _ _ => ⟨rfl, rfl, Nat.le_refl 0⟩
theorem re_C_ld {e : RE} {g : Nat} (h : re_C e g) : re_C (re_ld e) (g + 1) := fun sv L V => by
  obtain ⟨h1, h2, h3⟩ := h sv L V
  show rd_ct pt_q35 (re_cd e sv L V ++ [(17, 0, false)]) = re_ss e ∧ rd_ct pt_q33 (re_cd e sv L V ++ [(17, 0, false)]) = re_ss e ∧ rd_ct pu_gk (re_cd e sv L V ++ [(17, 0, false)]) ≤ g + 1
  rw [rd_ct_app, rd_ct_app, rd_ct_app, h1, h2]
  exact ⟨rfl, rfl, Nat.add_le_add_right h3 1⟩
theorem re_C_pr {e : RE} {g : Nat} (h : re_C e g) : re_C (re_pr e) g := h
theorem re_C_ng {e : RE} {g : Nat} (h : re_C e g) : re_C (re_ng e) (g + 2) := fun sv L V => by
  obtain ⟨h1, h2, h3⟩ := h sv L V
  show rd_ct pt_q35 ([(0, 0, true)] ++ (re_cd e sv L V ++ [(2, 0, false)])) = re_ss e ∧ rd_ct pt_q33 ([(0, 0, true)] ++ (re_cd e sv L V ++ [(2, 0, false)])) = re_ss e ∧ rd_ct pu_gk ([(0, 0, true)] ++ (re_cd e sv L V ++ [(2, 0, false)])) ≤ g + 2
  simp only [rd_ct_app]
  rw [h1, h2]
  refine ⟨Nat.zero_add _, Nat.zero_add _, ?_⟩
  show 1 + (rd_ct pu_gk (re_cd e sv L V) + 1) ≤ g + 2
  omega
theorem re_C_nt {e : RE} {g : Nat} (h : re_C e g) : re_C (re_nt e) (g + 2) := fun sv L V => by
  obtain ⟨h1, h2, h3⟩ := h sv L V
  show rd_ct pt_q35 (re_cd e sv L V ++ [(0, 0, false), (15, 0, false)]) = re_ss e ∧ rd_ct pt_q33 (re_cd e sv L V ++ [(0, 0, false), (15, 0, false)]) = re_ss e ∧ rd_ct pu_gk (re_cd e sv L V ++ [(0, 0, false), (15, 0, false)]) ≤ g + 2
  rw [rd_ct_app, rd_ct_app, rd_ct_app, h1, h2]
  exact ⟨rfl, rfl, Nat.add_le_add_right h3 2⟩
theorem re_C_bn {s K : Int32} {r : Nat} {a b : RE} {ga gb : Nat} (ha : re_C a ga) (hb : re_C b gb) (hK : pu_isop K = true) : re_C (re_bn s K r a b) (ga + gb + 1) := fun sv L V => by
  obtain ⟨h1, h2, h3⟩ := ha sv L V
  obtain ⟨k1, k2, k3⟩ := hb sv (L + re_ss a) (V + re_ss a)
  have f35 : rd_ct pt_q35 [(K, 0, false)] = 0 := by
    rw [rd_ct_cons, rd_ct_nil, if_neg (fun q => by have q : K = 35 := of_decide_eq_true q; rw [q] at hK; cases hK)]
  have f33 : rd_ct pt_q33 [(K, 0, false)] = 0 := by
    rw [rd_ct_cons, rd_ct_nil, if_neg (fun q => by have q : K = 33 ∨ K = 34 := of_decide_eq_true q; rcases q with e | e <;> (rw [e] at hK; cases hK))]
  have fg : rd_ct pu_gk [(K, 0, false)] = 1 := by
    rw [rd_ct_cons, rd_ct_nil, if_pos (pu_op_gk hK)]
  show rd_ct pt_q35 (re_cd a sv L V ++ (re_cd b sv (L + re_ss a) (V + re_ss a) ++ [(K, 0, false)])) = re_ss a + re_ss b ∧ rd_ct pt_q33 (re_cd a sv L V ++ (re_cd b sv (L + re_ss a) (V + re_ss a) ++ [(K, 0, false)])) = re_ss a + re_ss b ∧ rd_ct pu_gk (re_cd a sv L V ++ (re_cd b sv (L + re_ss a) (V + re_ss a) ++ [(K, 0, false)])) ≤ ga + gb + 1
  simp only [rd_ct_app]
  rw [h1, h2, k1, k2, f35, f33, fg]
  exact ⟨rfl, rfl, by omega⟩
theorem re_C_sc {c : Bool} {a b : RE} {ga gb : Nat} (ha : re_C a ga) (hb : re_C b gb) : re_C (re_sc c a b) (ga + gb + 4) := fun sv L V => by
  obtain ⟨h1, h2, h3⟩ := ha sv L V
  obtain ⟨k1, k2, k3⟩ := hb sv (L + re_ss a + 1) (V + re_ss a + 1)
  have f : ∀ q : Int32 → Bool, rd_ct q (re_cd (re_sc c a b) sv L V) = rd_ct q (re_cd a sv L V) + (((if q 0 = true then 1 else 0) + ((if q 16 = true then 1 else 0) + ((if q 32 = true then 1 else 0) + ((if q (if c = true then 33 else 34) = true then 1 else 0) + 0)))) + (rd_ct q (re_cd b sv (L + re_ss a + 1) (V + re_ss a + 1)) +
      ((if q 0 = true then 1 else 0) + ((if q 16 = true then 1 else 0) + ((if q 31 = true then 1 else 0) + ((if q 35 = true then 1 else 0) + ((if q 30 = true then 1 else 0) + 0))))))) := fun q => by
    show rd_ct q (re_cd a sv L V ++ ([(0, 0, false), (16, 0, false), (32, pu_I (V + re_ss a), false), (if c = true then 33 else 34, pu_I (L + re_ss a), false)] ++
      (re_cd b sv (L + re_ss a + 1) (V + re_ss a + 1) ++ [(0, 0, false), (16, 0, false), (31, pu_I (V + re_ss a), false), (35, pu_I (L + re_ss a), false), (30, pu_I (V + re_ss a), false)]))) = _
    rw [rd_ct_app, rd_ct_app, rd_ct_app]
    simp only [rd_ct_cons, rd_ct_nil]
  refine ⟨?_, ?_, ?_⟩
  · rw [f, h1, k1]
    show _ = re_ss a + re_ss b + 1
    have : (if pt_q35 (if c = true then 33 else 34) = true then 1 else 0) = 0 := by cases c <;> rfl
    rw [this]
    show re_ss a + (0 + (re_ss b + 1)) = _
    omega
  · rw [f, h2, k2]
    show _ = re_ss a + re_ss b + 1
    have : (if pt_q33 (if c = true then 33 else 34) = true then 1 else 0) = 1 := by cases c <;> rfl
    rw [this]
    show re_ss a + (1 + (re_ss b + 0)) = _
    omega
  · rw [f]
    have : (if pu_gk (if c = true then 33 else 34) = true then 1 else 0) = 0 := by cases c <;> rfl
    rw [this]
    show rd_ct pu_gk (re_cd a sv L V) + (2 + (rd_ct pu_gk (re_cd b sv (L + re_ss a + 1) (V + re_ss a + 1)) + 2)) ≤ ga + gb + 4
    omega
theorem re_C_c2 {x : Int64} {a b : RE} {ga gb : Nat} (ha : re_C a ga) (hb : re_C b gb) : re_C (re_c2 x a b) (ga + gb + 1) := fun sv L V => by
  obtain ⟨h1, h2, h3⟩ := ha sv L V
  obtain ⟨k1, k2, k3⟩ := hb sv (L + re_ss a) (V + re_ss a)
  have f : ∀ q : Int32 → Bool, rd_ct q (re_cd (re_c2 x a b) sv L V) = rd_ct q (re_cd a sv L V) + (rd_ct q (re_cd b sv (L + re_ss a) (V + re_ss a)) + rd_ct q [(19, 2, false), (19, 1, false), (20, 0, false)]) := fun q => by
    show rd_ct q (re_cd a sv L V ++ (re_cd b sv (L + re_ss a) (V + re_ss a) ++ [(19, 2, false), (19, 1, false), (20, 0, false)])) = _
    rw [rd_ct_app, rd_ct_app]
  rw [f, f, f, h1, h2, k1, k2]
  refine ⟨rfl, rfl, ?_⟩
  show _ + (_ + 1) ≤ _
  omega
theorem re_C_c3 {x : Int64} {a b c : RE} {ga gb gc : Nat} (ha : re_C a ga) (hb : re_C b gb) (hc : re_C c gc) : re_C (re_c3 x a b c) (ga + gb + gc + 1) := fun sv L V => by
  obtain ⟨h1, h2, h3⟩ := ha sv L V
  obtain ⟨k1, k2, k3⟩ := hb sv (L + re_ss a) (V + re_ss a)
  obtain ⟨l1, l2, l3⟩ := hc sv (L + re_ss a + re_ss b) (V + re_ss a + re_ss b)
  have f : ∀ q : Int32 → Bool, rd_ct q (re_cd (re_c3 x a b c) sv L V) = rd_ct q (re_cd a sv L V) + (rd_ct q (re_cd b sv (L + re_ss a) (V + re_ss a)) + (rd_ct q (re_cd c sv (L + re_ss a + re_ss b) (V + re_ss a + re_ss b)) + rd_ct q [(19, 3, false), (19, 2, false), (19, 1, false), (20, 0, false)])) := fun q => by
    show rd_ct q (re_cd a sv L V ++ (re_cd b sv (L + re_ss a) (V + re_ss a) ++ (re_cd c sv (L + re_ss a + re_ss b) (V + re_ss a + re_ss b) ++ [(19, 3, false), (19, 2, false), (19, 1, false), (20, 0, false)]))) = _
    rw [rd_ct_app, rd_ct_app, rd_ct_app]
  rw [f, f, f, h1, h2, k1, k2, l1, l2]
  refine ⟨?_, ?_, ?_⟩
  · show re_ss a + (re_ss b + (re_ss c + 0)) = re_ss a + re_ss b + re_ss c
    omega
  · show re_ss a + (re_ss b + (re_ss c + 0)) = re_ss a + re_ss b + re_ss c
    omega
  · show _ + (_ + (_ + 1)) ≤ _
    omega
/-- a test that is right in all respects: k wait at most, B what it costs, g its givers -/
def re_M (e : RE) (k B g : Nat) : Prop := re_ok e ∧ re_Q e ∧ re_T e k B ∧ re_C e g
theorem re_M_nm {v : Int32} : re_M (re_nm v) 1 1 1 := ⟨re_ok_nm, re_Q_nm, re_T_nm, re_C_nm⟩
theorem re_M_vr {x : Int64} : re_M (re_vr x) 1 1 0 := ⟨re_ok_vr, re_Q_vr, re_T_vr, re_C_vr⟩
theorem re_M_ld {e : RE} {k B g : Nat} (h : re_M e k B g) : re_M (re_ld e) k (B + 1) (g + 1) := ⟨re_ok_ld h.1, re_Q_ld h.2.1 h.1, re_T_ld h.2.2.1 h.1, re_C_ld h.2.2.2⟩
theorem re_M_pr {e : RE} {k B g : Nat} (h : re_M e k B g) : re_M (re_pr e) k B g := ⟨re_ok_pr h.1, re_Q_pr h.2.1 h.1, re_T_pr h.2.2.1, re_C_pr h.2.2.2⟩
theorem re_M_ng {e : RE} {k B g : Nat} (h : re_M e k B g) (hlv : re_lv e = 6) : re_M (re_ng e) (k + 1) (B + 1) (g + 2) := ⟨re_ok_ng h.1, re_Q_ng h.2.1 h.1 hlv, re_T_ng h.2.2.1 h.1, re_C_ng h.2.2.2⟩
theorem re_M_nt {e : RE} {k B g : Nat} (h : re_M e k B g) (hlv : re_lv e = 6) : re_M (re_nt e) (k + 1) (B + 2) (g + 2) := ⟨re_ok_nt h.1, re_Q_nt h.2.1 h.1 hlv, re_T_nt h.2.2.1 h.1, re_C_nt h.2.2.2⟩
/-- a sign of row r -/
def re_sg (s K : Int32) (r : Nat) : Prop := (2 ≤ r ∧ r ≤ 4) ∧ (fX7_kindOfSign s = some K ∧ fX7_rowOf s = some (pu_I r) ∧ s ≠ 40 ∧ K ≠ 35) ∧ pu_isop K = true
theorem re_M_bn {s K : Int32} {r : Nat} {a b : RE} {ka Ba ga kb Bb gb : Nat} (ha : re_M a ka Ba ga) (hb : re_M b kb Bb gb) (hs : re_sg s K r) (hl : r < re_lv a ∧ r < re_lv b) : re_M (re_bn s K r a b) (max ka (kb + 1)) (max Ba (Bb + 1)) (ga + gb + 1) :=
  ⟨re_ok_bn ha.1 hb.1 hs.1.2, re_Q_bn ha.2.1 hb.2.1 ha.1 hb.1 hs.1 hs.2.1 hl, re_T_bn ha.2.2.1 hb.2.2.1 ha.1 hb.1 hs.2.2, re_C_bn ha.2.2.2 hb.2.2.2 hs.2.2⟩
theorem re_M_sc {c : Bool} {a b : RE} {ka Ba ga kb Bb gb : Nat} (ha : re_M a ka Ba ga) (hb : re_M b kb Bb gb) (hl : (if c = true then 1 else 0) < re_lv a ∧ (if c = true then 1 else 0) < re_lv b) : re_M (re_sc c a b) (max (ka + 1) (kb + 1)) (Ba + Bb + 8) (ga + gb + 4) :=
  ⟨re_ok_sc ha.1 hb.1, re_Q_sc ha.2.1 hb.2.1 ha.1 hb.1 hl, re_T_sc ha.2.2.1 hb.2.2.1 ha.1 hb.1, re_C_sc ha.2.2.2 hb.2.2.2⟩
theorem re_M_mono {e : RE} {k B g k' B' g' : Nat} (h : re_M e k B g) (hk : k ≤ k') (hB : B ≤ B') (hg : g ≤ g') : re_M e k' B' g' :=
  ⟨h.1, h.2.1, re_T_mono h.2.2.1 hk hB, fun sv L V => ⟨(h.2.2.2 sv L V).1, (h.2.2.2 sv L V).2.1, Nat.le_trans (h.2.2.2 sv L V).2.2 hg⟩⟩
theorem re_M_c2 {x : Int64} {a b : RE} {k B ga gb : Nat} (ha : re_M a k B ga) (hb : re_M b k B gb) (h41 : tk_h (re_tks a) ≠ 41) : re_M (re_c2 x a b) (k + 2) (B + 2 + 12) (ga + gb + 1) :=
  ⟨re_ok_c2 ha.1 hb.1, re_Q_c2 ha.2.1 hb.2.1 ha.1 hb.1 h41, re_T_c2 ha.2.2.1 hb.2.2.1 ha.1 hb.1, re_C_c2 ha.2.2.2 hb.2.2.2⟩
theorem re_M_c3 {x : Int64} {a b c : RE} {k B ga gb gc : Nat} (ha : re_M a k B ga) (hb : re_M b k B gb) (hc : re_M c k B gc) (h41 : tk_h (re_tks a) ≠ 41) : re_M (re_c3 x a b c) (k + 3) (B + 3 + 12) (ga + gb + gc + 1) :=
  ⟨re_ok_c3 ha.1 hb.1 hc.1, re_Q_c3 ha.2.1 hb.2.1 hc.2.1 ha.1 hb.1 hc.1 h41, re_T_c3 ha.2.2.1 hb.2.2.1 hc.2.2.1 ha.1 hb.1 hc.1, re_C_c3 ha.2.2.2 hb.2.2.2 hc.2.2.2⟩
end RDC
