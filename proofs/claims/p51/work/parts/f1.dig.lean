/-! pure side, bytes 2: figures -/
section DIG
/-- the digits of a number below 10000 -/
def mp_d (v : Nat) : List Int32 :=
  if v < 10 then [pu_I (48 + v)] else if v < 100 then [pu_I (48 + v / 10), pu_I (48 + v % 10)] else if v < 1000 then [pu_I (48 + v / 100), pu_I (48 + v / 10 % 10), pu_I (48 + v % 10)] else [pu_I (48 + v / 1000), pu_I (48 + v / 100 % 10), pu_I (48 + v / 10 % 10), pu_I (48 + v % 10)]
theorem mp_fg (a k : Nat) : pu_I a * 10 + (pu_I (48 + k) - 48) = pu_I (a * 10 + k) := by
  rw [show (48 : Int32) = pu_I 48 from rfl, pu_sub (by omega), Nat.add_sub_cancel_left, show (10 : Int32) = pu_I 10 from rfl, ← Int32.ofNat_mul, ← Int32.ofNat_add]
theorem mp_dg {k : Nat} (h : k < 10) : (48 : Int32) ≤ pu_I (48 + k) ∧ pu_I (48 + k) ≤ 57 :=
  ⟨(pu_le (a := 48) (by decide) (by omega)).mpr (by omega), (pu_le (b := 57) (by omega) (by decide)).mpr (by omega)⟩
theorem lx_g_d {v : Nat} (hv : v < 10000) : lx_g lx_na (mp_d v) [(2, pu_I v, 0)] := by
  have h0 : (0 : Int32) = pu_I 0 := rfl
  unfold mp_d
  by_cases c1 : v < 10
  · rw [if_pos c1]
    have e : lx_fg 0 [pu_I (48 + v)] = pu_I v := by
      show 0 * 10 + (pu_I (48 + v) - 48) = _
      rw [h0, mp_fg, Nat.zero_mul, Nat.zero_add]
    rw [← e]
    exact lx_g_fg (fun q => by cases q) (fun x hx => by rw [List.mem_singleton.mp hx]; exact mp_dg c1) (show 1 ≤ 9 by decide)
  rw [if_neg c1]
  by_cases c2 : v < 100
  · rw [if_pos c2]
    have e : lx_fg 0 [pu_I (48 + v / 10), pu_I (48 + v % 10)] = pu_I v := by
      show (0 * 10 + (pu_I (48 + v / 10) - 48)) * 10 + (pu_I (48 + v % 10) - 48) = _
      rw [h0, mp_fg, mp_fg]
      congr 1; omega
    rw [← e]
    refine lx_g_fg (fun q => by cases q) (fun x hx => ?_) (show 2 ≤ 9 by decide)
    simp only [List.mem_cons, List.not_mem_nil, or_false] at hx
    rcases hx with q | q <;> rw [q] <;> exact mp_dg (by omega)
  rw [if_neg c2]
  by_cases c3 : v < 1000
  · rw [if_pos c3]
    have e : lx_fg 0 [pu_I (48 + v / 100), pu_I (48 + v / 10 % 10), pu_I (48 + v % 10)] = pu_I v := by
      show ((0 * 10 + (pu_I (48 + v / 100) - 48)) * 10 + (pu_I (48 + v / 10 % 10) - 48)) * 10 + (pu_I (48 + v % 10) - 48) = _
      rw [h0, mp_fg, mp_fg, mp_fg]
      congr 1; omega
    rw [← e]
    refine lx_g_fg (fun q => by cases q) (fun x hx => ?_) (show 3 ≤ 9 by decide)
    simp only [List.mem_cons, List.not_mem_nil, or_false] at hx
    rcases hx with q | q | q <;> rw [q] <;> exact mp_dg (by omega)
  rw [if_neg c3]
  have e : lx_fg 0 [pu_I (48 + v / 1000), pu_I (48 + v / 100 % 10), pu_I (48 + v / 10 % 10), pu_I (48 + v % 10)] = pu_I v := by
    show (((0 * 10 + (pu_I (48 + v / 1000) - 48)) * 10 + (pu_I (48 + v / 100 % 10) - 48)) * 10 + (pu_I (48 + v / 10 % 10) - 48)) * 10 + (pu_I (48 + v % 10) - 48) = _
    rw [h0, mp_fg, mp_fg, mp_fg, mp_fg]
    congr 1; omega
  rw [← e]
  refine lx_g_fg (fun q => by cases q) (fun x hx => ?_) (show 4 ≤ 9 by decide)
  simp only [List.mem_cons, List.not_mem_nil, or_false] at hx
  rcases hx with q | q | q | q <;> rw [q] <;> exact mp_dg (by omega)
theorem mp_d_len (v : Nat) : 1 ≤ (mp_d v).length ∧ (mp_d v).length ≤ 4 := by
  unfold mp_d
  by_cases c1 : v < 10
  · rw [if_pos c1]; exact ⟨show 1 ≤ 1 by decide, show 1 ≤ 4 by decide⟩
  · rw [if_neg c1]
    by_cases c2 : v < 100
    · rw [if_pos c2]; exact ⟨show 1 ≤ 2 by decide, show 2 ≤ 4 by decide⟩
    · rw [if_neg c2]
      by_cases c3 : v < 1000
      · rw [if_pos c3]; exact ⟨show 1 ≤ 3 by decide, show 3 ≤ 4 by decide⟩
      · rw [if_neg c3]; exact ⟨show 1 ≤ 4 by decide, show 4 ≤ 4 by decide⟩
end DIG
