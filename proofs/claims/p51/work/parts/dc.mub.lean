/-! pure side, the allocator 37: how often homes are named at most -/
section MUB
variable {B N H : Nat} {fw x9 : ST} {qs : Nat → List Nat}
theorem pa_mu_3 : ∀ l : List pu_Stp, pa_mu H l ≤ 3 * l.length := by
  intro l
  induction l with
  | nil => exact Nat.le_refl _
  | cons s l ih =>
    have h1 := pa_b1_le (pu_ul s.1 && pa_hb H s.2.2.1)
    have h2 := pa_b1_le (pu_ur s.1 && pa_hb H s.2.2.2)
    have h3 := pa_b1_le (pu_gw s.1 && pa_hb H s.2.1)
    have e : pa_m1 H s = pa_b1 (pu_ul s.1 && pa_hb H s.2.2.1) + pa_b1 (pu_ur s.1 && pa_hb H s.2.2.2) + pa_b1 (pu_gw s.1 && pa_hb H s.2.1) := rfl
    show pa_m1 H s + pa_mu H l ≤ 3 * (l.length + 1)
    omega
theorem pa_mF_le : ∀ i, pa_mF H (pg_F fw x9 qs) i ≤ 3 * ((List.range i).flatMap qs).length + i := by
  intro i
  induction i with
  | zero => exact Nat.zero_le _
  | succ i ih =>
    rw [pa_mF_s, pa_flat_su, List.length_append]
    have h1 := pa_mu_3 (H := H) (pg_F fw x9 qs i).2.1
    have h2 := pa_b1_le (pa_hb H (pg_F fw x9 qs i).2.2.2.1)
    have h3 : (pg_F fw x9 qs i).2.1.length = (qs i).length := List.length_map _
    omega
theorem pa_mF_bd (hd : pv_dis B N qs) : pa_mF H (pg_F fw x9 qs) B ≤ 3 * N + B := by
  obtain ⟨h1, h2⟩ := pa_flat hd B (Nat.le_refl B)
  have h3 := pv_len N _ h1 h2
  have := pa_mF_le (H := H) (fw := fw) (x9 := x9) (qs := qs) B
  omega
end MUB
