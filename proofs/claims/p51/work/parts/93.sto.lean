/-! pure side, stores 24: the path of the walk -/
def pv_pth (g : ST) : List Nat → Prop
  | [] => True
  | b :: S => g 12 S.length = pu_I b ∧ pv_pth g S
theorem pv_pth_up {g : ST} {m : Nat} {v : Int32} : ∀ (T : List Nat), T.length ≤ m → pv_pth g T → pv_pth (upw g 12 m v) T := by
  intro T
  induction T with
  | nil => intro _ _; exact trivial
  | cons b T ih =>
    intro hm h
    have hm : T.length + 1 ≤ m := hm
    refine ⟨?_, ih (by omega) h.2⟩
    rw [pv_upw, if_neg fun c => by omega]
    exact h.1
theorem pv_pth_e {g g' : ST} (he : g' 12 = g 12) : ∀ (T : List Nat), pv_pth g T → pv_pth g' T := by
  intro T
  induction T with
  | nil => intro _; exact trivial
  | cons b T ih => intro h; exact ⟨by rw [he]; exact h.1, ih h.2⟩
theorem pv_L73 {w g0 : ST} {b B : Nat} {dm : Nat → Nat} {v2 : Int32} (hB : B ≤ 60) (hdm : ∀ c, c < B → c ≠ 0 → w 12 c = pu_I (dm c) ∧ dm c < 60) (hb : b < 60) (hg0 : g0 12 (nn (v2 + (-1))) = pu_I b) :
    ∀ (k n : Nat) (T : List Nat) (g : ST), k < n → k < B → pv_pth g T → ((List.range (k + 1)).filter (fun c => decide (c ≠ 0 ∧ dm c = b))).length + T.length ≤ 60 →
      ∃ g', fX5_joinEquals_L73 w v2 g0 n (pu_I T.length) (pu_I k) g = some (pu_I ((List.range (k + 1)).filter (fun c => decide (c ≠ 0 ∧ dm c = b)) ++ T).length, g') ∧ pv_pth g' ((List.range (k + 1)).filter (fun c => decide (c ≠ 0 ∧ dm c = b)) ++ T) ∧ ∀ r, r ≠ 12 → g' r = g r := by
  intro k
  induction k with
  | zero =>
    intro n T g hn _ hT _
    obtain ⟨n', rfl⟩ : ∃ n', n = n' + 1 := ⟨n - 1, by omega⟩
    have e : (List.range (0 + 1)).filter (fun c => decide (c ≠ 0 ∧ dm c = b)) = [] := by
      show List.filter _ [0] = []
      rw [List.filter_cons, if_neg (by simp)]
      rfl
    rw [e, List.nil_append]
    exact ⟨g, rfl, hT, fun _ _ => rfl⟩
  | succ k ih =>
    intro n T g hn hk hT hlen
    obtain ⟨n', rfl⟩ : ∃ n', n = n' + 1 := ⟨n - 1, by omega⟩
    obtain ⟨d1, d2⟩ := hdm (k + 1) hk (by omega)
    have hm1 : pu_I (k + 1) + (-1) = pu_I k := by
      rw [← pu_su, Int32.add_assoc]
      show pu_I k + 0 = _
      exact Int32.add_zero _
    have hle : ¬ pu_I (k + 1) ≤ 0 := by
      rw [show (0 : Int32) = pu_I 0 from rfl, pu_le (by omega) (by decide)]
      omega
    have hform : fX5_joinEquals_L73 w v2 g0 (n' + 1) (pu_I T.length) (pu_I (k + 1)) g = (if dm (k + 1) = b then (if ixb (pu_I T.length) 60 = true then fX5_joinEquals_L73 w v2 g0 n' (pu_I (T.length + 1)) (pu_I k) (upw g 12 (nn (pu_I T.length)) (pu_I (k + 1))) else none) else fX5_joinEquals_L73 w v2 g0 n' (pu_I T.length) (pu_I k) g) := by
      show (if pu_I (k + 1) ≤ 0 then some (pu_I T.length, g) else (if ixb (pu_I (k + 1)) 60 = true then (if (w 12 (nn (pu_I (k + 1)))) = (g0 12 (nn (v2 + (-1)))) then (if ixb (pu_I T.length) 60 = true then (lt9 (upw g 12 (nn (pu_I T.length)) (pu_I (k + 1))) fun (w14 : ST) => (fX5_joinEquals_J101 (fX5_joinEquals_L73 w v2 g0 n') (pu_I (k + 1)) (pu_I T.length + 1) w14)) else none) else (fX5_joinEquals_J101 (fX5_joinEquals_L73 w v2 g0 n') (pu_I (k + 1)) (pu_I T.length) g)) else none)) = _
      rw [if_neg hle, if_pos ((pu_ix (by omega)).mpr (by omega)), pu_nn (show k + 1 < 2147483648 by omega), d1, hg0]
      unfold fX5_joinEquals_J101
      rw [hm1, pu_su]
      simp only [lt9]
      by_cases h : dm (k + 1) = b
      · rw [if_pos h, if_pos (by rw [h])]
      · rw [if_neg h, if_neg fun c => h (pu_inj (by omega) (by omega) c)]
    have hr : (List.range (k + 1 + 1)).filter (fun c => decide (c ≠ 0 ∧ dm c = b)) = (List.range (k + 1)).filter (fun c => decide (c ≠ 0 ∧ dm c = b)) ++ (if dm (k + 1) = b then [k + 1] else []) := by
      rw [List.range_succ, List.filter_append, List.filter_cons]
      by_cases h : dm (k + 1) = b
      · rw [if_pos (by rw [decide_eq_true_iff]; exact ⟨by omega, h⟩), if_pos h]
        rfl
      · rw [if_neg (by rw [decide_eq_true_iff]; exact fun c => h c.2), if_neg h]
        rfl
    rw [hr] at hlen ⊢
    rw [hform]
    by_cases h : dm (k + 1) = b
    · rw [if_pos h] at hlen ⊢
      rw [if_pos h, List.append_assoc, List.singleton_append]
      rw [List.length_append] at hlen
      have hlen : ((List.range (k + 1)).filter (fun c => decide (c ≠ 0 ∧ dm c = b))).length + 1 + T.length ≤ 60 := hlen
      have hT60 : T.length < 60 := by omega
      rw [if_pos ((pu_ix (by omega)).mpr hT60), pu_nn (by omega)]
      obtain ⟨g', e1, e2, e3⟩ := ih n' ((k + 1) :: T) (upw g 12 T.length (pu_I (k + 1))) (by omega) (by omega) ⟨by rw [pv_upw, if_pos ⟨rfl, rfl⟩], pv_pth_up T (Nat.le_refl _) hT⟩ (by show _ + (T.length + 1) ≤ 60; omega)
      exact ⟨g', e1, e2, fun r hr => by rw [e3 r hr, pv_upw_n hr]⟩
    · rw [if_neg h] at hlen ⊢
      rw [if_neg h, List.append_nil]
      rw [List.append_nil] at hlen
      exact ih n' T g (by omega) (by omega) hT hlen
