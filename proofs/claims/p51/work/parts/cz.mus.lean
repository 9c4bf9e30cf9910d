/-! pure side, the allocator 25: how much putting away adds -/
theorem pa_hb_k {H k : Nat} (h : H ≤ k) (hk : k < 2147483648) : pa_hb H (pu_I k) = false := by
  unfold pa_hb
  refine decide_eq_false fun q => ?_
  rw [pu_nn hk] at q
  omega
theorem pa_b1_le (b : Bool) : pa_b1 b ≤ 1 := by cases b <;> decide
section MUS
variable {H : Nat} {S ns : Int32 → Bool} {sl nm : Int32 → Int32}
theorem pa_m1_fe {v : Int32} {k : Nat} (h : H ≤ k) (hk : k < 2147483648) : pa_m1 H (pu_fe ns sl nm v k) = 0 := by
  obtain ⟨h1, h2, h3, h4⟩ := pg_fe_k (ns := ns) (sl := sl) (nm := nm) v k
  unfold pa_m1
  rw [h1, h2, h4, pa_hb_k h hk, Bool.and_false]
  rfl
theorem pa_mu_pa (hS : ∀ x, S x = true → pa_hb H x = true) : ∀ (l : List pu_Stp) (k : Nat), H ≤ k → (pu_pa S ns sl nm l k).2 < 2147483648 → pa_mu H (pu_pa S ns sl nm l k).1 + (pu_pa S ns sl nm l k).2 ≤ pa_mu H l + k := by
  intro l
  induction l with
  | nil => intro k _ _; exact Nat.le_refl _
  | cons s l ih =>
    intro k hk hk2
    have hk2 : (pu_pa S ns sl nm l (pu_k3 S ns k s)).2 < 2147483648 := hk2
    have hk3 := pu_pa_k (S := S) (ns := ns) (sl := sl) (nm := nm) l (pu_k3 S ns k s)
    obtain ⟨j1, j2, j3, _⟩ := pu_k12 (S := S) (ns := ns) k s
    have h1 := ih (pu_k3 S ns k s) (by omega) hk2
    show pa_mu H (pu_pre S ns sl nm k s ++ (pu_own S ns sl k s ++ (pu_pa S ns sl nm l (pu_k3 S ns k s)).1)) + (pu_pa S ns sl nm l (pu_k3 S ns k s)).2 ≤ pa_m1 H s + pa_mu H l + k
    rw [pa_mu_app, pa_mu_app]
    have hpre : pa_mu H (pu_pre S ns sl nm k s) = 0 := by
      unfold pu_pre
      rw [pa_mu_app]
      have e1 : pa_mu H (if pu_fl S s = true then [pu_fe ns sl nm s.2.2.1 k] else []) = 0 := by
        by_cases c : pu_fl S s = true
        · rw [if_pos c]
          show pa_m1 H _ + 0 = 0
          rw [pa_m1_fe hk (by omega)]
        · rw [if_neg c]; rfl
      have e2 : pa_mu H (if pu_fr S s = true then [pu_fe ns sl nm s.2.2.2 (pu_k1 S k s)] else []) = 0 := by
        by_cases c : pu_fr S s = true
        · rw [if_pos c]
          show pa_m1 H _ + 0 = 0
          rw [pa_m1_fe (by omega) (by omega)]
        · rw [if_neg c]; rfl
      rw [e1, e2]
    -- what is left of the operands' mentions
    obtain ⟨A, hA⟩ : ∃ A, A = pa_b1 (pu_ul s.1 && pa_hb H (pu_lf S k s)) + pa_b1 (pu_ur s.1 && pa_hb H (pu_rt S k s)) := ⟨_, rfl⟩
    have hops : A + pu_k2 S k s ≤ pa_b1 (pu_ul s.1 && pa_hb H s.2.2.1) + pa_b1 (pu_ur s.1 && pa_hb H s.2.2.2) + k := by
      rw [hA]
      have hkf := pa_hb_k (H := H) (k := k) hk (by omega)
      have hkf1 := pa_hb_k (H := H) (k := pu_k1 S k s) (by omega) (by omega)
      cases hfl : pu_fl S s with
      | true =>
        have hf2 := hfl
        unfold pu_fl at hf2
        obtain ⟨eul, eSl⟩ := (Bool.and_eq_true _ _).mp hf2
        have elf : pu_lf S k s = pu_I k := by unfold pu_lf; rw [if_pos hfl]
        have ek1 : pu_k1 S k s = k + 1 := by unfold pu_k1; rw [if_pos hfl]
        rw [elf, hkf, Bool.and_false, eul, hS _ eSl]
        cases hfr : pu_fr S s with
        | true =>
          have hf3 := hfr
          unfold pu_fr at hf3
          obtain ⟨eur, hf4⟩ := (Bool.and_eq_true _ _).mp hf3
          obtain ⟨eSr, esm⟩ := (Bool.and_eq_true _ _).mp hf4
          have esm : ¬ pu_sm S s = true := by intro c; rw [c] at esm; cases esm
          have ert : pu_rt S k s = pu_I (pu_k1 S k s) := by unfold pu_rt; rw [if_neg esm, if_pos hfr]
          have ek2 : pu_k2 S k s = pu_k1 S k s + 1 := by unfold pu_k2; rw [if_pos hfr]
          rw [ert, hkf1, Bool.and_false, eur, hS _ eSr, ek2, ek1]
          show 0 + 0 + (k + 1 + 1) ≤ 1 + 1 + k
          omega
        | false =>
          have ek2 : pu_k2 S k s = pu_k1 S k s := by unfold pu_k2; rw [if_neg (by rw [hfr]; decide)]
          rw [ek2, ek1]
          have hr : pa_b1 (pu_ur s.1 && pa_hb H (pu_rt S k s)) ≤ pa_b1 (pu_ur s.1 && pa_hb H s.2.2.2) := by
            unfold pu_rt
            by_cases c : pu_sm S s = true
            · rw [if_pos c, hkf, Bool.and_false]
              exact Nat.zero_le _
            · rw [if_neg c, if_neg (by rw [hfr]; decide)]
              exact Nat.le_refl _
          show 0 + _ + (k + 1) ≤ 1 + _ + k
          omega
      | false =>
        have elf : pu_lf S k s = s.2.2.1 := by unfold pu_lf; rw [if_neg (by rw [hfl]; decide)]
        have ek1 : pu_k1 S k s = k := by unfold pu_k1; rw [if_neg (by rw [hfl]; decide)]
        have hsm : pu_sm S s = false := by unfold pu_sm; rw [hfl]; simp
        rw [elf]
        cases hfr : pu_fr S s with
        | true =>
          have hf3 := hfr
          unfold pu_fr at hf3
          obtain ⟨eur, hf4⟩ := (Bool.and_eq_true _ _).mp hf3
          obtain ⟨eSr, _⟩ := (Bool.and_eq_true _ _).mp hf4
          have ert : pu_rt S k s = pu_I (pu_k1 S k s) := by unfold pu_rt; rw [if_neg (by rw [hsm]; decide), if_pos hfr]
          have ek2 : pu_k2 S k s = pu_k1 S k s + 1 := by unfold pu_k2; rw [if_pos hfr]
          rw [ert, hkf1, Bool.and_false, eur, hS _ eSr, ek2, ek1]
          show _ + 0 + (k + 1) ≤ _ + 1 + k
          omega
        | false =>
          have ert : pu_rt S k s = s.2.2.2 := by unfold pu_rt; rw [if_neg (by rw [hsm]; decide), if_neg (by rw [hfr]; decide)]
          have ek2 : pu_k2 S k s = pu_k1 S k s := by unfold pu_k2; rw [if_neg (by rw [hfr]; decide)]
          rw [ert, ek2, ek1]
          exact Nat.le_refl _
    have hown : pa_mu H (pu_own S ns sl k s) + pu_k3 S ns k s ≤ pa_m1 H s + k := by
      unfold pu_own pu_k3
      by_cases c : pu_gw s.1 = true ∧ S s.2.1 = true
      · rw [if_pos c]
        have hg : pa_m1 H s = pa_b1 (pu_ul s.1 && pa_hb H s.2.2.1) + pa_b1 (pu_ur s.1 && pa_hb H s.2.2.2) + 1 := by
          unfold pa_m1
          rw [c.1, hS _ c.2]
          rfl
        by_cases c2 : ns s.2.1 = true
        · rw [if_pos c2, if_neg (fun h => by rw [c2] at h; cases h.2.2)]
          show 0 + _ ≤ _
          omega
        · rw [if_neg c2, if_pos ⟨c.1, c.2, by simpa using c2⟩]
          have hk2f : pa_hb H (pu_I (pu_k2 S k s)) = false := pa_hb_k (by omega) (by omega)
          have e1 : pa_m1 H (s.1, pu_I (pu_k2 S k s), pu_lf S k s, pu_rt S k s) = A := by
            rw [hA]
            show _ + pa_b1 (pu_gw s.1 && pa_hb H (pu_I (pu_k2 S k s))) = _
            rw [hk2f, Bool.and_false]
            rfl
          have e2 : pa_m1 H (27, -1, pu_I (pu_k2 S k s), sl s.2.1) = 0 := by
            show pa_b1 (pu_ul 27 && pa_hb H (pu_I (pu_k2 S k s))) + pa_b1 (pu_ur 27 && _) + pa_b1 (pu_gw 27 && _) = 0
            rw [hk2f, Bool.and_false, show pu_ur 27 = false from by decide, show pu_gw 27 = false from by decide]
            rfl
          show pa_m1 H (s.1, pu_I (pu_k2 S k s), pu_lf S k s, pu_rt S k s) + (pa_m1 H (27, -1, pu_I (pu_k2 S k s), sl s.2.1) + 0) + (pu_k2 S k s + 1) ≤ _
          rw [e1, e2]
          omega
      · rw [if_neg c, if_neg (fun h => c ⟨h.1, h.2.1⟩)]
        have e1 : pa_m1 H (s.1, s.2.1, pu_lf S k s, pu_rt S k s) = A + pa_b1 (pu_gw s.1 && pa_hb H s.2.1) := by rw [hA]; rfl
        have e2 : pa_m1 H s = pa_b1 (pu_ul s.1 && pa_hb H s.2.2.1) + pa_b1 (pu_ur s.1 && pa_hb H s.2.2.2) + pa_b1 (pu_gw s.1 && pa_hb H s.2.1) := rfl
        show pa_m1 H (s.1, s.2.1, pu_lf S k s, pu_rt S k s) + 0 + pu_k2 S k s ≤ _
        rw [e1, e2]
        omega
    omega
end MUS
