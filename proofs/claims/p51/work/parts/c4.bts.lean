/-! pure side, the graph 2: how many bits a long number has -/
theorem pv_sm_add (f : Nat → Nat) (a : Nat) : ∀ k, pv_sm f (a + k) = pv_sm f a + pv_sm (fun j => f (a + j)) k := by
  intro k
  induction k with
  | zero => rfl
  | succ k ih =>
    show pv_sm f (a + k) + f (a + k) = pv_sm f a + (pv_sm (fun j => f (a + j)) k + f (a + k))
    rw [ih]
    omega
theorem pg_bytes : ∀ (n X : Nat), X < 256 ^ n → ∃ l : List Nat, l.length = n ∧ (∀ b ∈ l, b < 256) ∧ pg_num l = X := by
  intro n
  induction n with
  | zero =>
    intro X h
    exact ⟨[], rfl, fun b hb => (by cases hb), by show 0 = X; rw [Nat.pow_zero] at h; omega⟩
  | succ n ih =>
    intro X h
    rw [Nat.pow_succ] at h
    obtain ⟨l, l1, l2, l3⟩ := ih (X / 256) (by omega)
    refine ⟨X % 256 :: l, by rw [List.length_cons, l1], fun b hb => ?_, ?_⟩
    · rcases List.mem_cons.mp hb with rfl | h9
      · omega
      · exact l2 b h9
    · show 256 * pg_num l + X % 256 = X
      rw [l3]
      omega
def pg_sum : List Nat → Nat
  | [] => 0
  | b :: l => pg_sum l + b
theorem pg_sumb : ∀ l : List Nat, (∀ b ∈ l, b < 256) → pv_sm (fun j => if (pg_num l).testBit j = true then 1 else 0) (8 * l.length) = pg_sum (l.map pg_pc) := by
  intro l
  induction l with
  | nil => intro _; rfl
  | cons r l ih =>
    intro h
    have hr := h r List.mem_cons_self
    have i1 := ih fun b hb => h b (List.mem_cons_of_mem _ hb)
    have hb : ∀ j, (256 * pg_num l + r).testBit j = if j < 8 then r.testBit j else (pg_num l).testBit (j - 8) := fun j => Nat.testBit_two_pow_mul_add (i := 8) (pg_num l) hr j
    rw [List.length_cons, show 8 * (l.length + 1) = 8 + 8 * l.length by omega, pv_sm_add]
    show pv_sm (fun j => if (256 * pg_num l + r).testBit j = true then 1 else 0) 8 + pv_sm (fun j => if (256 * pg_num l + r).testBit (8 + j) = true then 1 else 0) (8 * l.length) = pg_sum (l.map pg_pc) + pg_pc r
    rw [pv_sm_cg (f := fun j => if (256 * pg_num l + r).testBit j = true then 1 else 0) (g := fun j => if r.testBit j = true then 1 else 0) 8 (fun i hi => by
      show (if (256 * pg_num l + r).testBit i = true then 1 else 0) = (if r.testBit i = true then 1 else 0)
      rw [hb, if_pos hi]), pv_sm_cg (f := fun j => if (256 * pg_num l + r).testBit (8 + j) = true then 1 else 0) (g := fun j => if (pg_num l).testBit j = true then 1 else 0) (8 * l.length) (fun i hi => by
      show (if (256 * pg_num l + r).testBit (8 + i) = true then 1 else 0) = (if (pg_num l).testBit i = true then 1 else 0)
      rw [hb, if_neg (show ¬ 8 + i < 8 by omega), show 8 + i - 8 = i by omega]), i1]
    unfold pg_pc
    omega
theorem pg_8 : ∀ l : List Nat, l.length = 8 → ∃ a b c d e f g k, l = [a, b, c, d, e, f, g, k] := by
  intro l h
  match l, h with
  | [a, b, c, d, e, f, g, k], _ => exact ⟨a, b, c, d, e, f, g, k, rfl⟩
theorem pg_fin {p0 p1 p2 p3 p4 p5 p6 p7 : Nat} (h : p0 ≤ 8 ∧ p1 ≤ 8 ∧ p2 ≤ 8 ∧ p3 ≤ 8 ∧ p4 ≤ 8 ∧ p5 ≤ 8 ∧ p6 ≤ 8 ∧ p7 ≤ 8) {W V U T : Nat} (hW : W = pg_num [p0, p1, p2, p3, p4, p5, p6, p7]) (hV : V = W + W / 256) (hU : U = V + V / 65536) (hT : T = U + U / 4294967296) : T % 128 = p0 + p1 + p2 + p3 + p4 + p5 + p6 + p7 ∧ T < 2 ^ 64 ∧ U < 2 ^ 64 ∧ V < 2 ^ 64 := by
  obtain ⟨a7, h7⟩ : ∃ a7, a7 = 256 * 0 + p7 := ⟨_, rfl⟩
  obtain ⟨a6, h6⟩ : ∃ a6, a6 = 256 * a7 + p6 := ⟨_, rfl⟩
  obtain ⟨a5, h5⟩ : ∃ a5, a5 = 256 * a6 + p5 := ⟨_, rfl⟩
  obtain ⟨a4, h4⟩ : ∃ a4, a4 = 256 * a5 + p4 := ⟨_, rfl⟩
  obtain ⟨a3, h3⟩ : ∃ a3, a3 = 256 * a4 + p3 := ⟨_, rfl⟩
  obtain ⟨a2, h2⟩ : ∃ a2, a2 = 256 * a3 + p2 := ⟨_, rfl⟩
  obtain ⟨a1, h1⟩ : ∃ a1, a1 = 256 * a2 + p1 := ⟨_, rfl⟩
  have hW : W = 256 * a1 + p0 := by
    rw [hW, h1, h2, h3, h4, h5, h6, h7]
    rfl
  have e1 : W / 256 = a1 := by omega
  rw [e1] at hV
  have e2 : V / 65536 = a2 + a3 := by omega
  rw [e2] at hU
  have e3 : U / 4294967296 = a4 + a5 + a6 + a7 := by omega
  rw [e3] at hT
  omega
/-! the count of a word -/
def pg_sh (x : Int64) (k : Int32) : Int64 := (x.toUInt64 >>> (k.toInt64.toUInt64 &&& Int64.toUInt64 63)).toInt64
def pg_w1 (x : Int64) : Int64 := x - (pg_sh x 1 &&& 6148914691236517205)
def pg_w2 (x : Int64) : Int64 := (x &&& 3689348814741910323) + (pg_sh x 2 &&& 3689348814741910323)
def pg_w3 (x : Int64) : Int64 := (x + pg_sh x 4) &&& 1085102592571150095
def pg_w4 (x : Int64) : Int64 := x + pg_sh x 8
def pg_w5 (x : Int64) : Int64 := x + pg_sh x 16
def pg_w6 (x : Int64) : Int64 := x + pg_sh x 32
theorem pg_form (x : Int64) : fJ13_bitCount_95d88 x = some ((pg_w6 (pg_w5 (pg_w4 (pg_w3 (pg_w2 (pg_w1 x)))))).toInt32 &&& 127) := rfl
abbrev pg_tn (x : Int64) : Nat := x.toBitVec.toNat
theorem pg_tn_sh (x : Int64) {k : Nat} (hk : k < 64) : pg_tn (pg_sh x (pu_I k)) = pg_tn x / 2 ^ k := by
  have h : (pg_sh x (pu_I k)).toBitVec = x.toBitVec >>> k := by
    apply BitVec.eq_of_getLsbD_eq
    intro j _
    rw [BitVec.getLsbD_ushiftRight]
    exact pv_shr hk j
  show (pg_sh x (pu_I k)).toBitVec.toNat = _
  rw [h, BitVec.toNat_ushiftRight, Nat.shiftRight_eq_div_pow]
theorem pg_tn_and (x y : Int64) : pg_tn (x &&& y) = pg_tn x &&& pg_tn y := by
  show (x &&& y).toBitVec.toNat = _
  rw [Int64.toBitVec_and, BitVec.toNat_and]
theorem pg_tn_add {x y : Int64} (h : pg_tn x + pg_tn y < 2 ^ 64) : pg_tn (x + y) = pg_tn x + pg_tn y := by
  show (x + y).toBitVec.toNat = _
  rw [Int64.toBitVec_add, BitVec.toNat_add]
  exact Nat.mod_eq_of_lt h
theorem pg_tn_sub {x y : Int64} (h : pg_tn y ≤ pg_tn x) : pg_tn (x - y) = pg_tn x - pg_tn y := by
  have h1 : pg_tn x < 2 ^ 64 := x.toBitVec.isLt
  show (x - y).toBitVec.toNat = _
  rw [Int64.toBitVec_sub, BitVec.toNat_sub]
  show (2 ^ 64 - pg_tn y + pg_tn x) % 2 ^ 64 = _
  omega
theorem pg_bitCount (x : Int64) : fJ13_bitCount_95d88 x = some (pu_I (pv_sm (fun j => if pv_bt x j = true then 1 else 0) 64)) := by
  obtain ⟨l, l1, l2, l3⟩ := pg_bytes 8 (pg_tn x) x.toBitVec.isLt
  have hbits : ∀ j, pv_bt x j = (pg_num l).testBit j := fun j => by
    rw [l3]
    rfl
  have hS : pv_sm (fun j => if pv_bt x j = true then 1 else 0) 64 = pg_sum (l.map pg_pc) := by
    rw [← pg_sumb l l2, l1]
    refine pv_sm_cg 64 fun i _ => ?_
    show (if pv_bt x i = true then 1 else 0) = (if (pg_num l).testBit i = true then 1 else 0)
    rw [hbits]
  have hB : ∀ b ∈ l, pg_b3 (pg_b2 (pg_b1 b)) = pg_pc b ∧ pg_pc b ≤ 8 ∧ pg_b1 b < 256 ∧ pg_b2 (pg_b1 b) < 256 ∧ pg_b2 (pg_b1 b) % 16 ≤ 4 ∧ pg_b2 (pg_b1 b) / 16 ≤ 4 := fun b hb => pg_e4 ⟨b, l2 b hb⟩
  have hle : ∀ (m : List Nat), (∀ b ∈ m, b < 256) → m.length = 8 → pg_num m < 2 ^ 64 := by
    intro m hm h8
    obtain ⟨a, b, c, d, e, f, g, k, rfl⟩ := pg_8 m h8
    have ha := hm a (by simp)
    have hb := hm b (by simp)
    have hc := hm c (by simp)
    have hd := hm d (by simp)
    have he := hm e (by simp)
    have hf := hm f (by simp)
    have hg := hm g (by simp)
    have hk := hm k (by simp)
    show 256 * (256 * (256 * (256 * (256 * (256 * (256 * (256 * 0 + k) + g) + f) + e) + d) + c) + b) + a < 2 ^ 64
    omega
  -- step 1
  obtain ⟨s1, s1'⟩ := pg_s1 l l2
  rw [l1] at s1 s1'
  have t1 : pg_tn (pg_w1 x) = pg_num (l.map pg_b1) := by
    have h1 : pg_tn (pg_sh x 1 &&& 6148914691236517205) = (pg_num l / 2 &&& pg_rep 0x55 8) := by
      rw [pg_tn_and, show (1 : Int32) = pu_I 1 from rfl, pg_tn_sh x (by decide), ← l3]
      rfl
    unfold pg_w1
    rw [pg_tn_sub (by rw [h1, ← l3]; exact s1'), h1, ← l3, s1]
  have m1 : ∀ b ∈ l.map pg_b1, b < 256 := fun b hb => by
    obtain ⟨c, hc, rfl⟩ := List.mem_map.mp hb
    exact (hB c hc).2.2.1
  -- step 2
  have s2 := pg_s2 (l.map pg_b1) m1
  rw [List.length_map, l1, List.map_map] at s2
  have m2 : ∀ b ∈ l.map (pg_b2 ∘ pg_b1), b < 256 ∧ b % 16 ≤ 4 ∧ b / 16 ≤ 4 := fun b hb => by
    obtain ⟨c, hc, rfl⟩ := List.mem_map.mp hb
    exact (hB c hc).2.2.2
  have t2 : pg_tn (pg_w2 (pg_w1 x)) = pg_num (l.map (pg_b2 ∘ pg_b1)) := by
    have h1 : pg_tn (pg_w1 x &&& 3689348814741910323) = (pg_num (l.map pg_b1) &&& pg_rep 0x33 8) := by
      rw [pg_tn_and, t1]
      rfl
    have h2 : pg_tn (pg_sh (pg_w1 x) 2 &&& 3689348814741910323) = (pg_num (l.map pg_b1) / 4 &&& pg_rep 0x33 8) := by
      rw [pg_tn_and, show (2 : Int32) = pu_I 2 from rfl, pg_tn_sh _ (by decide), t1]
      rfl
    unfold pg_w2
    rw [pg_tn_add (by rw [h1, h2, s2]; exact hle _ (fun b hb => (m2 b hb).1) (by rw [List.length_map, l1])), h1, h2, s2]
  -- step 3
  have s3 := pg_s3 (l.map (pg_b2 ∘ pg_b1)) m2
  rw [List.length_map, l1, List.map_map] at s3
  have hp : l.map (pg_b3 ∘ (pg_b2 ∘ pg_b1)) = l.map pg_pc := List.map_congr_left fun b hb => (hB b hb).1
  rw [hp] at s3
  have hsm : pg_num (l.map (pg_b2 ∘ pg_b1)) + pg_num (l.map (pg_b2 ∘ pg_b1)) / 16 < 2 ^ 64 := by
    obtain ⟨a, b, c, d, e, f, g, k, h9⟩ := pg_8 (l.map (pg_b2 ∘ pg_b1)) (by rw [List.length_map, l1])
    have hk := m2 k (by rw [h9]; simp)
    have hx := hle [a, b, c, d, e, f, g, 0] (fun z hz => by
      by_cases hz0 : z = 0
      · omega
      · refine (m2 z ?_).1
        rw [h9]
        simp only [List.mem_cons, List.not_mem_nil, or_false] at hz ⊢
        omega) rfl
    have ha := m2 a (by rw [h9]; simp)
    have hb := m2 b (by rw [h9]; simp)
    have hc := m2 c (by rw [h9]; simp)
    have hd := m2 d (by rw [h9]; simp)
    have he := m2 e (by rw [h9]; simp)
    have hf := m2 f (by rw [h9]; simp)
    have hg := m2 g (by rw [h9]; simp)
    have hnum : pg_num (l.map (pg_b2 ∘ pg_b1)) = 256 * (256 * (256 * (256 * (256 * (256 * (256 * (256 * 0 + k) + g) + f) + e) + d) + c) + b) + a := by rw [h9]; rfl
    rw [hnum]
    omega
  have t3 : pg_tn (pg_w3 (pg_w2 (pg_w1 x))) = pg_num (l.map pg_pc) := by
    have h1 : pg_tn (pg_sh (pg_w2 (pg_w1 x)) 4) = pg_num (l.map (pg_b2 ∘ pg_b1)) / 16 := by
      rw [show (4 : Int32) = pu_I 4 from rfl, pg_tn_sh _ (by decide), t2]
    unfold pg_w3
    rw [pg_tn_and, pg_tn_add (by rw [h1, t2]; exact hsm), h1, t2, ← s3]
    rfl
  -- the sum
  obtain ⟨p0, p1, p2, p3, p4, p5, p6, p7, h9⟩ := pg_8 (l.map pg_pc) (by rw [List.length_map, l1])
  have hp8 : ∀ b ∈ l.map pg_pc, b ≤ 8 := fun b hb => by
    obtain ⟨c, hc, rfl⟩ := List.mem_map.mp hb
    exact (hB c hc).2.1
  rw [h9] at hp8 t3 hS
  obtain ⟨f1, f2, f3, f4⟩ := pg_fin (p0 := p0) (p1 := p1) (p2 := p2) (p3 := p3) (p4 := p4) (p5 := p5) (p6 := p6) (p7 := p7) ⟨hp8 p0 (by simp), hp8 p1 (by simp), hp8 p2 (by simp), hp8 p3 (by simp), hp8 p4 (by simp), hp8 p5 (by simp), hp8 p6 (by simp), hp8 p7 (by simp)⟩ t3 rfl rfl rfl
  obtain ⟨W, hW⟩ : ∃ W, W = pg_w3 (pg_w2 (pg_w1 x)) := ⟨_, rfl⟩
  rw [← hW] at f1 f2 f3 f4
  have t4 : pg_tn (pg_w4 W) = pg_tn W + pg_tn W / 256 := by
    have h1 : pg_tn (pg_sh W 8) = pg_tn W / 256 := by rw [show (8 : Int32) = pu_I 8 from rfl, pg_tn_sh _ (by decide)]
    unfold pg_w4
    rw [pg_tn_add (by rw [h1]; exact f4), h1]
  have t5 : pg_tn (pg_w5 (pg_w4 W)) = (pg_tn W + pg_tn W / 256) + (pg_tn W + pg_tn W / 256) / 65536 := by
    have h1 : pg_tn (pg_sh (pg_w4 W) 16) = (pg_tn W + pg_tn W / 256) / 65536 := by rw [show (16 : Int32) = pu_I 16 from rfl, pg_tn_sh _ (by decide), t4]
    unfold pg_w5
    rw [pg_tn_add (by rw [h1, t4]; exact f3), h1, t4]
  have t6 : pg_tn (pg_w6 (pg_w5 (pg_w4 W))) % 128 = p0 + p1 + p2 + p3 + p4 + p5 + p6 + p7 := by
    have h1 : pg_tn (pg_sh (pg_w5 (pg_w4 W)) 32) = ((pg_tn W + pg_tn W / 256) + (pg_tn W + pg_tn W / 256) / 65536) / 4294967296 := by rw [show (32 : Int32) = pu_I 32 from rfl, pg_tn_sh _ (by decide), t5]
    unfold pg_w6
    rw [pg_tn_add (by rw [h1, t5]; exact f2), h1, t5]
    exact f1
  have hS8 : pg_sum [p0, p1, p2, p3, p4, p5, p6, p7] = p0 + p1 + p2 + p3 + p4 + p5 + p6 + p7 := by
    show ((((((((0 + p7) + p6) + p5) + p4) + p3) + p2) + p1) + p0) = _
    omega
  rw [pg_form, ← hW, hS, hS8, ← t6]
  congr 1
  apply Int32.toBitVec_inj.mp
  apply BitVec.eq_of_toNat_eq
  rw [Int32.toBitVec_and, BitVec.toNat_and, Int64.toBitVec_toInt32, BitVec.signExtend_eq_setWidth_of_le _ (by decide), BitVec.toNat_setWidth]
  show (pg_tn (pg_w6 (pg_w5 (pg_w4 W))) % 2 ^ 32) &&& (127 % 2 ^ 32) = (pg_tn (pg_w6 (pg_w5 (pg_w4 W))) % 128) % 2 ^ 32
  rw [show (127 % 2 ^ 32 : Nat) = 2 ^ 7 - 1 by decide, Nat.and_two_pow_sub_one_eq_mod]
  omega
