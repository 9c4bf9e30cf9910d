/-! pure side, the reader 26: a program is read -/
section RDPG
/-- functions: names, parameters, bodies -/
abbrev RF := (Nat → Int64) × (Nat → List Int64) × (Nat → RS)
def rp_a (F : RF) : Nat → Nat
  | 0 => 0
  | i + 1 => rp_a F i + (F.2.1 i).length + rs_ln (F.2.2 i) + 2
def rp_L (F : RF) : Nat → Nat
  | 0 => 0
  | i + 1 => rp_L F i + rs_sL (F.2.2 i)
def rp_T (F : RF) : Nat → Nat
  | 0 => 1
  | i + 1 => rp_T F i + (rs_tks (F.2.2 i)).length
def rp_cs (F : RF) : Nat → List (Int64 × Nat × Nat)
  | 0 => []
  | i + 1 => rp_cs F i ++ rs_cl (F.2.2 i) (rp_a F i + (F.2.1 i).length)
def rp_c1 (F : RF) (i : Nat) : List (Int32 × Int32 × Bool) := rp_cd 0 (F.2.1 i) ++ (rs_cd (F.2.2 i) (rp_sv 0 (F.2.1 i)) (rp_L F i) (F.2.1 i).length ++ [(0, 0, false), (24, 0, false)])
def rp_W (F : RF) : Nat → List (Int32 × Int32 × Bool)
  | 0 => []
  | i + 1 => rp_W F i ++ rp_c1 F i
/-- the tokens of m functions from i on -/
def rp_ts (F : RF) : Nat → Nat → List Tok
  | 0, _ => []
  | m + 1, i => (7, 0, 0) :: (3, 0, F.1 i) :: (40, 0, 0) :: (rp_tk 0 (F.2.1 i) ++ ((41, 0, 0) :: (123, 0, 0) :: (rs_tks (F.2.2 i) ++ ((125, 0, 0) :: rp_ts F m (i + 1)))))
abbrev rd_S := ST × SL × ST × SL × ST × SL
/-- the functions ahead of i are read -/
def rp_st (S0 : rd_S) : Nat → rd_S → Prop
  | 0, S => S = S0
  | i + 1, S => ∃ R, rp_st S0 i R ∧ (i ≠ 0 → R.2.2.2.2.1 0 2 ≠ 0) ∧ fX7_readFunction ((rR 100).1) R.1 R.2.1 (pu_I i) R.2.2.1 R.2.2.2.1 R.2.2.2.2.1 R.2.2.2.2.2 = some S
/-- what is asked of function i -/
def rp_fn (F : RF) (i : Nat) : Prop :=
  (rb_Q (F.2.2 i) ∧ rs_ok (F.2.2 i) ∧ rs_P (F.2.2 i) ∧ rs_dp (F.2.2 i) ≤ 99) ∧ (F.2.1 i).length ≤ 4 ∧ rp_ok [] 0 (F.2.1 i) ∧ rs_br (F.2.2 i) ≤ 7 ∧ (F.2.1 i).length + rs_sV (F.2.2 i) ≤ 320 ∧ rs_sn (F.2.2 i) (rp_sv 0 (F.2.1 i))
/-- what holds ahead of function i -/
def rp_in (F : RF) (m i : Nat) (S : rd_S) : Prop :=
  (∃ f' sv lp, rd_w S.1 S.2.1 f' 0 sv (rp_cs F i) lp) ∧ rd_p S.2.2.1 (rp_a F i) (rp_L F i) (rp_T F i) ∧ (∀ j, j < i → S.2.2.2.1 2 j = F.1 j) ∧ rd_c S.2.2.1 0 (rp_W F i) ∧
  (∀ j, j < i → S.2.2.1 4 j = pu_I (F.2.1 j).length ∧ S.2.2.1 5 j = pu_I ((F.2.1 j).length + rs_sV (F.2.2 j)) ∧ S.2.2.1 6 j = pu_I (rp_a F j) ∧ S.2.2.1 7 j = pu_I (rp_a F (j + 1))) ∧ (i ≠ 0 → S.2.2.1 0 0 = pu_I i) ∧ tk_s S.2.2.2.2.1 S.2.2.2.2.2 (rp_ts F (m - i) i)
variable {F : RF}
theorem rp_c1_len (h : ∀ i, i < 6 → rs_ok (F.2.2 i)) {i : Nat} (hi : i < 6) : (rp_c1 F i).length = (F.2.1 i).length + rs_ln (F.2.2 i) + 2 := by
  unfold rp_c1
  rw [List.length_append, List.length_append, rp_cd_len, (h i hi).1, List.length_cons, List.length_cons, List.length_nil]; omega
theorem rp_a_mono : ∀ i j, i ≤ j → rp_a F i ≤ rp_a F j := by
  intro i j h
  induction j with
  | zero => obtain rfl : i = 0 := by omega
            exact Nat.le_refl _
  | succ j ih =>
    by_cases e : i ≤ j
    · have := ih e; show rp_a F i ≤ rp_a F j + _ + _ + 2; omega
    · obtain rfl : i = j + 1 := by omega
      exact Nat.le_refl _
theorem rp_L_mono : ∀ i j, i ≤ j → rp_L F i ≤ rp_L F j := by
  intro i j h
  induction j with
  | zero => obtain rfl : i = 0 := by omega
            exact Nat.le_refl _
  | succ j ih =>
    by_cases e : i ≤ j
    · have := ih e; show rp_L F i ≤ rp_L F j + _; omega
    · obtain rfl : i = j + 1 := by omega
      exact Nat.le_refl _
theorem rp_T_mono : ∀ i j, i ≤ j → rp_T F i ≤ rp_T F j := by
  intro i j h
  induction j with
  | zero => obtain rfl : i = 0 := by omega
            exact Nat.le_refl _
  | succ j ih =>
    by_cases e : i ≤ j
    · have := ih e; show rp_T F i ≤ rp_T F j + _; omega
    · obtain rfl : i = j + 1 := by omega
      exact Nat.le_refl _
theorem rp_cs_mono : ∀ i j, i ≤ j → (rp_cs F i).length ≤ (rp_cs F j).length := by
  intro i j h
  induction j with
  | zero => obtain rfl : i = 0 := by omega
            exact Nat.le_refl _
  | succ j ih =>
    by_cases e : i ≤ j
    · have := ih e
      show (rp_cs F i).length ≤ (rp_cs F j ++ _).length
      rw [List.length_append]; omega
    · obtain rfl : i = j + 1 := by omega
      exact Nat.le_refl _
theorem rp_W_len {m : Nat} (hm : m ≤ 6) (h : ∀ i, i < m → rp_fn F i) : ∀ i, i ≤ m → (rp_W F i).length = rp_a F i := by
  intro i
  induction i with
  | zero => intro _; rfl
  | succ i ih =>
    intro hi
    show (rp_W F i ++ rp_c1 F i).length = rp_a F i + (F.2.1 i).length + rs_ln (F.2.2 i) + 2
    rw [List.length_append, ih (by omega)]
    unfold rp_c1
    rw [List.length_append, List.length_append, rp_cd_len, (h i (by omega)).1.2.1.1, List.length_cons, List.length_cons, List.length_nil]; omega
/-- one function more -/
theorem rp_step {m i : Nat} {S0 S : rd_S} (hm : m ≤ 6) (hfn : ∀ i, i < m → rp_fn F i) (hx : ∀ i j, i < m → j < m → F.1 i = F.1 j → i = j) (hb : rp_a F m ≤ 3190 ∧ rp_L F m ≤ 640 ∧ rp_T F m ≤ 1000 ∧ (rp_cs F m).length ≤ 600) (hi : i < m) (hst : rp_st S0 i S) (h : rp_in F m i S) :
    ∃ S', rp_st S0 (i + 1) S' ∧ rp_in F m (i + 1) S' := by
  obtain ⟨⟨f', sv, lp, h1⟩, h2, h3, h4, h5, h6, h7⟩ := h
  obtain ⟨⟨q1, q2, q3, q4⟩, q5, q6, q7, q8, q9⟩ := hfn i hi
  obtain ⟨b1, b2, b3, b4⟩ := hb
  have m1 := rp_a_mono (F := F) (i + 1) m hi
  have m2 := rp_L_mono (F := F) (i + 1) m hi
  have m3 := rp_T_mono (F := F) (i + 1) m hi
  have m4 := rp_cs_mono (F := F) (i + 1) m hi
  have e1 : rp_a F (i + 1) = rp_a F i + (F.2.1 i).length + rs_ln (F.2.2 i) + 2 := rfl
  have e2 : rp_L F (i + 1) = rp_L F i + rs_sL (F.2.2 i) := rfl
  have e3 : rp_T F (i + 1) = rp_T F i + (rs_tks (F.2.2 i)).length := rfl
  have e4 : (rp_cs F (i + 1)).length = (rp_cs F i).length + rs_cn (F.2.2 i) := by
    show (rp_cs F i ++ _).length = _
    rw [List.length_append, q2.2.1]
  have hT1 : 1 ≤ rp_T F i := rp_T_mono (F := F) 0 i (Nat.zero_le i)
  obtain ⟨k, hk⟩ : ∃ k, m - i = k + 1 := ⟨m - i - 1, by omega⟩
  rw [hk] at h7
  obtain ⟨rw', rl', pw', pl', tw', tl', g1, g2, g3, g4, g5, g6, ⟨g7, g8, g9, g10, g11⟩, g12⟩ := rd_fun (f := i) (pl := S.2.2.2.1) (D := 99) q1 q2 q4 (by omega) h1 h2 (fun g hg => by
    rw [h3 g hg]
    exact fun q => by have := hx g i (by omega) hi q; omega) h7 q5 q6 ⟨⟨by omega, by omega, by omega, q8, hT1, by omega, by omega⟩, q9⟩
  refine ⟨(rw', rl', pw', pl', tw', tl'), ⟨S, hst, fun h0 => ?_, g1⟩, ⟨i, _, 0, g2⟩, g4, fun j hj => ?_, ?_, fun j hj => ?_, fun _ => g11, ?_⟩
  · have := h7.1.1
    rw [this]
    show (7 : Int32) ≠ 0
    decide
  · show pl' 2 j = F.1 j
    rw [g3, pv_upl]
    by_cases e : j = i
    · rw [if_pos ⟨rfl, e⟩, e]
    · rw [if_neg (fun q => e q.2)]
      exact h3 j (by omega)
  · have hl := rp_W_len hm hfn i (by omega)
    refine rd_c_app.mpr ⟨rd_c_z h4 g5 (by rw [hl]; omega), ?_⟩
    rw [Nat.zero_add, hl]
    exact g6
  · by_cases e : j = i
    · subst e
      exact ⟨g7, g8, g9, g10⟩
    · obtain ⟨u1, u2, u3, u4⟩ := h5 j (by omega)
      have z := g5.2.2
      exact ⟨by rw [← u1]; exact z 4 (by decide) (by decide) j e, by rw [← u2]; exact z 5 (by decide) (by decide) j e, by rw [← u3]; exact z 6 (by decide) (by decide) j e, by rw [← u4]; exact z 7 (by decide) (by decide) j e⟩
  · rw [show m - (i + 1) = k by omega]
    exact g12
theorem rp_all {m : Nat} {S0 : rd_S} (hm : m ≤ 6) (hfn : ∀ i, i < m → rp_fn F i) (hx : ∀ i j, i < m → j < m → F.1 i = F.1 j → i = j) (hb : rp_a F m ≤ 3190 ∧ rp_L F m ≤ 640 ∧ rp_T F m ≤ 1000 ∧ (rp_cs F m).length ≤ 600) (h0 : rp_in F m 0 S0) :
    ∀ i, i ≤ m → ∃ S, rp_st S0 i S ∧ rp_in F m i S := by
  intro i
  induction i with
  | zero => intro _; exact ⟨S0, rfl, h0⟩
  | succ i ih =>
    intro hi
    obtain ⟨S, h1, h2⟩ := ih (by omega)
    exact rp_step hm hfn hx hb (by omega) h1 h2
/-- where all calls stand -/
theorem rp_pc {m : Nat} (hm : m ≤ 6) (hfn : ∀ i, i < m → rp_fn F i) : ∀ i, i ≤ m → rd_pc 0 (rp_W F i) (rp_cs F i) := by
  intro i
  induction i with
  | zero => intro _; exact rd_pc_nil
  | succ i ih =>
    intro hi
    refine rd_pc_app (ih (by omega)) ?_
    rw [Nat.zero_add, rp_W_len hm hfn i (by omega)]
    exact rd_pc_r (rd_pc_l ((hfn i (by omega)).1.2.2.1 _ _ _ _)) (by rw [rp_cd_len])
theorem rp_cs_mem {i j : Nat} {y : Int64 × Nat × Nat} (hij : i < j) (h : y ∈ rs_cl (F.2.2 i) (rp_a F i + (F.2.1 i).length)) : y ∈ rp_cs F j := by
  induction j with
  | zero => omega
  | succ j ih =>
    by_cases e : i = j
    · subst e
      exact List.mem_append_right _ h
    · exact List.mem_append_left _ (ih (by omega))
theorem rp_cs_of {j : Nat} {y : Int64 × Nat × Nat} (h : y ∈ rp_cs F j) : ∃ i, i < j ∧ y ∈ rs_cl (F.2.2 i) (rp_a F i + (F.2.1 i).length) := by
  induction j with
  | zero => cases h
  | succ j ih =>
    rcases List.mem_append.mp h with h | h
    · obtain ⟨i, h1, h2⟩ := ih h
      exact ⟨i, by omega, h2⟩
    · exact ⟨j, by omega, h⟩
/-- the ops of function i among all -/
theorem rp_W_at {P : ST} {m : Nat} (hm : m ≤ 6) (hfn : ∀ i, i < m → rp_fn F i) : ∀ j, j ≤ m → rd_c P 0 (rp_W F j) → ∀ i, i < j → rd_c P (rp_a F i) (rp_c1 F i) := by
  intro j
  induction j with
  | zero => intro _ _ i hi; omega
  | succ j ih =>
    intro hj hc i hi
    obtain ⟨c1, c2⟩ := rd_c_app.mp hc
    by_cases e : i = j
    · subst e
      rw [Nat.zero_add, rp_W_len hm hfn i (by omega)] at c2
      exact c2
    · exact ih (by omega) c1 i (by omega)
/-- what is asked of a function for its shape -/
def rp_nm (F : RF) (i : Nat) : Prop :=
  ∃ B fk g, rb_N (F.2.2 i) B fk g ∧ ((F.2.1 i).length ≤ 4 ∧ (F.2.1 i).length + rs_sV (F.2.2 i) ≤ 16 ∧ B ≤ 150 ∧ 1 ≤ rs_ln (F.2.2 i) ∧ 1 + rs_sL (F.2.2 i) + 3 * fk ≤ 60 ∧ (F.2.1 i).length + rs_ln (F.2.2 i) + 2 ≤ 640 ∧ ((F.2.1 i).length + rs_sV (F.2.2 i)) * (fk + 1) + ((F.2.1 i).length + g + 1) ≤ 250) ∧
    rs_dp (F.2.2 i) ≤ 99 ∧ rp_ok [] 0 (F.2.1 i) ∧ rs_br (F.2.2 i) ≤ 7 ∧ rs_sn (F.2.2 i) (rp_sv 0 (F.2.1 i))
theorem rp_nm_fn {i : Nat} (h : rp_nm F i) : rp_fn F i := by
  obtain ⟨B, fk, g, h1, h2, h3, h4, h5, h6⟩ := h
  exact ⟨⟨h1.1.2.1, h1.1.1, h1.2, h3⟩, h2.1, h4, h5, by have := h2.2.1; omega, h6⟩
/-- A PROGRAM OF THREE FUNCTIONS IS READ, AND IT IS IN SHAPE -/
theorem rp_prog {S0 : rd_S} (hn : ∀ i, i < 3 → rp_nm F i) (hx : ∀ i j, i < 3 → j < 3 → F.1 i = F.1 j → i = j) (hb : rp_T F 3 ≤ 1000 ∧ (rp_cs F 3).length ≤ 600)
    (hcl : ∀ i, i < 3 → ∀ n x p k, (x, p, k) ∈ rs_cl (F.2.2 i) n → ∃ g, g < 3 ∧ x = F.1 g ∧ k = (F.2.1 g).length) (h0 : rp_in F 3 0 S0) :
    ∃ S P, rp_st S0 3 S ∧ S.2.2.2.2.1 0 2 = 0 ∧ S.1 0 5 < 0 ∧ S.1 0 6 = 0 ∧ fX7_linkCalls S.1 S.2.1 S.2.2.1 S.2.2.2.1 = some (S.1, P) ∧ P 0 0 = pu_I 3 ∧ (∀ f, f < 3 → P 4 f = pu_I (F.2.1 f).length ∧ P 6 f = pu_I (rp_a F f) ∧ P 7 f = pu_I (rp_a F (f + 1))) ∧
      (∀ f, f < 3 → tq_fn P f (rp_a F f) (rp_a F (f + 1)) ((F.2.1 f).length + rs_sV (F.2.2 f)) 3 (F.2.1 f).length) ∧
      ∃ A rk tk, pm_pg P 3 (rp_a F) (fun f => rp_a F (f + 1)) (fun f => (F.2.1 f).length + rs_sV (F.2.2 f)) A (fun f => (F.2.1 f).length) rk tk := by
  have hfn : ∀ i, i < 3 → rp_fn F i := fun i hi => rp_nm_fn (hn i hi)
  have hnum : ∀ i, i < 3 → rp_a F (i + 1) ≤ rp_a F i + 640 ∧ rp_L F (i + 1) ≤ rp_L F i + 59 := fun i hi => by
    obtain ⟨B, fk, g, _, h2, _⟩ := hn i hi
    have e1 : rp_a F (i + 1) = rp_a F i + (F.2.1 i).length + rs_ln (F.2.2 i) + 2 := rfl
    have e2 : rp_L F (i + 1) = rp_L F i + rs_sL (F.2.2 i) := rfl
    omega
  have n1 := hnum 0 (by decide)
  have n2 := hnum 1 (by decide)
  have n3 := hnum 2 (by decide)
  have a00 : rp_a F 0 = 0 := rfl
  have l00 : rp_L F 0 = 0 := rfl
  have ha3 : rp_a F 3 ≤ 1920 := by
    have : rp_a F (2 + 1) = rp_a F 3 := rfl
    have : rp_a F (1 + 1) = rp_a F 2 := rfl
    have : rp_a F (0 + 1) = rp_a F 1 := rfl
    omega
  have hl3 : rp_L F 3 ≤ 177 := by
    have : rp_L F (2 + 1) = rp_L F 3 := rfl
    have : rp_L F (1 + 1) = rp_L F 2 := rfl
    have : rp_L F (0 + 1) = rp_L F 1 := rfl
    omega
  obtain ⟨S, s1, ⟨f', sv, lp, s2⟩, s3, s4, s5, s6, s7, s8⟩ := rp_all (m := 3) (by decide) hfn hx ⟨by omega, by omega, hb.1, hb.2⟩ h0 3 (Nat.le_refl 3)
  have hpc := rp_pc (m := 3) (by decide) hfn 3 (Nat.le_refl 3)
  have hwl := rp_W_len (m := 3) (by decide) hfn 3 (Nat.le_refl 3)
  -- kinds of calls
  have hk20 : ∀ x p k, (x, p, k) ∈ rp_cs F 3 → p < rp_a F 3 ∧ S.2.2.1 9 p = 20 := fun x p k hm => by
    obtain ⟨_, d, hd⟩ := hpc.1 x p k hm
    rw [Nat.sub_zero] at hd
    have h1 := (s5 p _ hd).1
    rw [Nat.zero_add] at h1
    exact ⟨by rw [← hwl]; exact (List.getElem?_eq_some_iff.mp hd).1, h1⟩
  obtain ⟨P, p1, p2, p3, p4⟩ := rd_link (fs := 3) (pl := S.2.2.2.1) s2 (s7 (by decide)) (by decide) hb.2 hpc.2 (fun x p k hm => by
    refine ⟨by have := (hk20 x p k hm).1; omega, ?_⟩
    obtain ⟨i, i1, i2⟩ := rp_cs_of hm
    obtain ⟨g, g1, g2, g3⟩ := hcl i i1 _ x p k i2
    refine ⟨g, g1, by rw [s4 g g1, g2], fun j hj => ?_, by rw [g3]; exact (s6 g g1).1⟩
    rw [s4 j (by omega), g2]
    exact fun q => by have := hx j g (by omega) g1 q; omega)
  have hn20 : ∀ z, S.2.2.1 9 z ≠ 20 → P 10 z = S.2.2.1 10 z := fun z hz => p4 z fun e he q => by
    obtain ⟨e1, e2, e3⟩ := e
    exact hz (by have := (hk20 e1 e2 e3 he).2; rw [← show e2 = z from q]; exact this)
  have hcP : rd_c P 0 (rp_W F 3) := fun k c hc => by
    obtain ⟨u1, u2, u3⟩ := s5 k c hc
    refine ⟨by rw [p2 9 (by decide)]; exact u1, fun q => ?_, fun q => ?_⟩
    · rw [hn20 _ (by rw [u1]; exact q)]
      exact u2 q
    · unfold tq_k
      rw [p2 11 (by decide)]
      exact u3 q
  have hat := rp_W_at (m := 3) (by decide) hfn 3 (Nat.le_refl 3) hcP
  have hG : ∀ f, f < 3 → tq_G P (rp_a F f) (rp_a F (f + 1)) := fun f hf => by
    have hm := rp_a_mono (F := F) (f + 1) 3 (by omega)
    refine ⟨fun x _ hx1 h35 => ?_, by omega, fun x _ hx1 => ?_⟩
    · rw [p2 9 (by decide)] at h35
      obtain ⟨k, k1, k2, k3⟩ := s3.2.2 x (by omega) h35
      refine ⟨k, by omega, ?_, by rw [p2 13 (by decide)]; exact k3⟩
      rw [hn20 x (by rw [h35]; decide)]
      exact k2
    · obtain ⟨t, t1, t2⟩ := s3.2.1 x (by omega)
      exact ⟨t, by have := hb.1; omega, by rw [p2 11 (by decide)]; exact t1⟩
  have hTf : ∀ f, f < 3 → tq_fn P f (rp_a F f) (rp_a F (f + 1)) ((F.2.1 f).length + rs_sV (F.2.2 f)) 3 (F.2.1 f).length := fun f hf => by
    obtain ⟨B, fk, g, h1, h2, h3, h4, h5, h6⟩ := hn f hf
    obtain ⟨r4, r5, r6, r7⟩ := s6 f hf
    have hLm := rp_L_mono (F := F) (f + 1) 3 (by omega)
    exact rd_fn h1.1 (by omega) (hG f hf) (hat f hf) rfl ⟨by rw [p2 4 (by decide)]; exact r4, by rw [p2 5 (by decide)]; exact r5, by rw [p2 6 (by decide)]; exact r6, by rw [p2 7 (by decide)]; exact r7⟩ (fun x n c hm => p3 x n c (rp_cs_mem hf hm)) h6 (by show rp_L F (f + 1) ≤ 640; omega) h2
  have h4 : ∀ f, f < 3 → P 4 f = pu_I (F.2.1 f).length := fun f hf => by rw [p2 4 (by decide)]; exact (s6 f hf).1
  refine ⟨S, P, s1, ?_, s2.1.2.2.1, s2.1.2.2.2.1, p1, by rw [p2 0 (by decide)]; exact s7 (by decide), fun f hf => ⟨h4 f hf, by rw [p2 6 (by decide)]; exact (s6 f hf).2.2.1, by rw [p2 7 (by decide)]; exact (s6 f hf).2.2.2⟩, hTf, ?_⟩
  · exact s8
  · exact tq_pg (a := rp_a F) (Vs := fun f => (F.2.1 f).length + rs_sV (F.2.2 f)) (nps := fun f => (F.2.1 f).length) fun f hf => ⟨hTf f hf, h4 f hf, (hfn f hf).2.1⟩
end RDPG
