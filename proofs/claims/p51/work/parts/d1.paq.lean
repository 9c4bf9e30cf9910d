/-! pure side, the allocator 26: steps when values are put away, and how many values there are then -/
/-- what is asked of each step -/
def pa_sq (fs na V c0 : Nat) (s : pu_Stp) : Prop := pu_kw s.1 ∧ pa_op V s ∧ (s.1 = 26 → pa_nl c0 s.2.2.1) ∧ (s.1 = 27 → pa_nl c0 s.2.2.2) ∧ (s.1 = 25 → s.2.1 ≠ s.2.2.1) ∧ (s.1 = 20 → ixb s.2.2.1 fs = true) ∧ (s.1 = 21 → ixb s.2.2.1 na = true)
section PAQ
variable {fs na V V2 c0 c1 : Nat} {S ns : Int32 → Bool} {sl nm : Int32 → Int32}
theorem pu_pa_k3 : ∀ (l : List pu_Stp) (k : Nat), (pu_pa S ns sl nm l k).2 ≤ k + 3 * l.length := by
  intro l
  induction l with
  | nil => intro k; exact Nat.le_refl _
  | cons s l ih =>
    intro k
    have h := pu_k12 (S := S) (ns := ns) k s
    have := ih (pu_k3 S ns k s)
    show (pu_pa S ns sl nm l (pu_k3 S ns k s)).2 ≤ k + 3 * (l.length + 1)
    omega
theorem pa_fe_q (hsl : ∀ x, S x = true → ns x = false → pa_nl c1 (sl x)) {v : Int32} (hS : S v = true) {k : Nat} (hk : k < V2) : pa_sq fs na V2 c1 (pu_fe ns sl nm v k) := by
  refine ⟨pa_fe_kw v k, ?_⟩
  unfold pu_fe
  by_cases h : ns v = true
  · rw [if_pos h]
    exact ⟨⟨fun q => absurd q (show ¬ pu_ul 0 = true by decide), fun q => absurd q (show ¬ pu_ur 0 = true by decide), fun _ => ⟨k, hk, rfl⟩, fun q => absurd q (show ¬ pu_gw 0 = false by decide)⟩, fun q => absurd q (show ¬ (0 : Int32) = 26 by decide), fun q => absurd q (show ¬ (0 : Int32) = 27 by decide), fun q => absurd q (show ¬ (0 : Int32) = 25 by decide), fun q => absurd q (show ¬ (0 : Int32) = 20 by decide), fun q => absurd q (show ¬ (0 : Int32) = 21 by decide)⟩
  · rw [if_neg h]
    exact ⟨⟨fun q => absurd q (show ¬ pu_ul 26 = true by decide), fun q => absurd q (show ¬ pu_ur 26 = true by decide), fun _ => ⟨k, hk, rfl⟩, fun q => absurd q (show ¬ pu_gw 26 = false by decide)⟩, fun _ => hsl v hS (by simpa using h), fun q => absurd q (show ¬ (26 : Int32) = 27 by decide), fun q => absurd q (show ¬ (26 : Int32) = 25 by decide), fun q => absurd q (show ¬ (26 : Int32) = 20 by decide), fun q => absurd q (show ¬ (26 : Int32) = 21 by decide)⟩
theorem pa_pa_q (hsl : ∀ x, S x = true → ns x = false → pa_nl c1 (sl x)) (hc : c0 ≤ c1) (hV2 : V2 < 2147483648) : ∀ (l : List pu_Stp) (k : Nat), V ≤ k → (pu_pa S ns sl nm l k).2 ≤ V2 → (∀ s, s ∈ l → pa_sq fs na V c0 s) → ∀ s, s ∈ (pu_pa S ns sl nm l k).1 → pa_sq fs na V2 c1 s := by
  intro l
  induction l with
  | nil => intro k _ _ _ s hs; cases hs
  | cons s l ih =>
    intro k hk hk2 hq t ht
    have hk2 : (pu_pa S ns sl nm l (pu_k3 S ns k s)).2 ≤ V2 := hk2
    have hk3 := pu_pa_k (S := S) (ns := ns) (sl := sl) (nm := nm) l (pu_k3 S ns k s)
    obtain ⟨j1, j2, j3, _⟩ := pu_k12 (S := S) (ns := ns) k s
    have ht : t ∈ pu_pre S ns sl nm k s ++ (pu_own S ns sl k s ++ (pu_pa S ns sl nm l (pu_k3 S ns k s)).1) := ht
    obtain ⟨q1, ⟨q2, q3, q4, q5⟩, q6, q7, q8, q9, q10⟩ := hq s List.mem_cons_self
    -- the operands
    have hk1 : pu_fl S s = true → k < pu_k1 S k s := fun c => by unfold pu_k1; rw [if_pos c]; exact Nat.lt_succ_self k
    have hk2' : pu_fr S s = true → pu_k1 S k s < pu_k2 S k s := fun c => by unfold pu_k2; rw [if_pos c]; exact Nat.lt_succ_self _
    have hlf : pu_ul s.1 = true → ∃ u, u < V2 ∧ pu_lf S k s = pu_I u := fun h => by
      unfold pu_lf
      by_cases c : pu_fl S s = true
      · rw [if_pos c]; exact ⟨k, by have := hk1 c; omega, rfl⟩
      · rw [if_neg c]
        obtain ⟨u, u1, u2⟩ := q2 h
        exact ⟨u, by omega, u2⟩
    have hsmfl : pu_sm S s = true → pu_fl S s = true := fun h => by
      unfold pu_sm at h
      exact ((Bool.and_eq_true _ _).mp ((Bool.and_eq_true _ _).mp h).2).1
    have hrt : pu_ur s.1 = true → ∃ u, u < V2 ∧ pu_rt S k s = pu_I u := fun h => by
      unfold pu_rt
      by_cases c : pu_sm S s = true
      · rw [if_pos c]; exact ⟨k, by have := hk1 (hsmfl c); omega, rfl⟩
      · rw [if_neg c]
        by_cases c2 : pu_fr S s = true
        · rw [if_pos c2]; exact ⟨pu_k1 S k s, by have := hk2' c2; omega, rfl⟩
        · rw [if_neg c2]
          obtain ⟨u, u1, u2⟩ := q3 h
          exact ⟨u, by omega, u2⟩
    have hlf0 : pu_ul s.1 = false → pu_lf S k s = s.2.2.1 := fun h => by
      unfold pu_lf
      rw [if_neg (fun c => by unfold pu_fl at c; rw [h] at c; cases c)]
    have hrt0 : pu_ur s.1 = false → pu_rt S k s = s.2.2.2 := fun h => by
      unfold pu_rt
      rw [if_neg (fun c => by unfold pu_sm at c; rw [h] at c; cases c), if_neg (fun c => by unfold pu_fr at c; rw [h] at c; cases c)]
    have h26 : s.1 = 26 → pa_nl c1 (pu_lf S k s) := fun e => by
      rw [hlf0 (by rw [e]; decide)]
      exact ⟨Nat.lt_of_lt_of_le (q6 e).1 hc, (q6 e).2⟩
    have h27 : s.1 = 27 → pa_nl c1 (pu_rt S k s) := fun e => by
      rw [hrt0 (by rw [e]; decide)]
      exact ⟨Nat.lt_of_lt_of_le (q7 e).1 hc, (q7 e).2⟩
    have h20 : s.1 = 20 → ixb (pu_lf S k s) fs = true := fun e => by
      rw [hlf0 (by rw [e]; decide)]
      exact q9 e
    have h21 : s.1 = 21 → ixb (pu_lf S k s) na = true := fun e => by
      rw [hlf0 (by rw [e]; decide)]
      exact q10 e
    rcases List.mem_append.mp ht with ht | ht
    · unfold pu_pre at ht
      rcases List.mem_append.mp ht with ht | ht
      · by_cases c : pu_fl S s = true
        · rw [if_pos c] at ht
          rw [List.mem_singleton.mp ht]
          have hf2 := c
          unfold pu_fl at hf2
          exact pa_fe_q hsl ((Bool.and_eq_true _ _).mp hf2).2 (by have := hk1 c; omega)
        · rw [if_neg c] at ht; cases ht
      · by_cases c : pu_fr S s = true
        · rw [if_pos c] at ht
          rw [List.mem_singleton.mp ht]
          have hf2 := c
          unfold pu_fr at hf2
          exact pa_fe_q hsl ((Bool.and_eq_true _ _).mp ((Bool.and_eq_true _ _).mp hf2).2).1 (by have := hk2' c; omega)
        · rw [if_neg c] at ht; cases ht
    · rcases List.mem_append.mp ht with ht | ht
      · unfold pu_own at ht
        by_cases c : pu_gw s.1 = true ∧ S s.2.1 = true
        · rw [if_pos c] at ht
          by_cases c2 : ns s.2.1 = true
          · rw [if_pos c2] at ht; cases ht
          · rw [if_neg c2] at ht
            have hk4 : pu_k3 S ns k s = pu_k2 S k s + 1 := by
              unfold pu_k3
              rw [if_pos ⟨c.1, c.2, by simpa using c2⟩]
            rcases List.mem_cons.mp ht with rfl | ht
            · refine ⟨q1, ⟨hlf, hrt, fun _ => ⟨pu_k2 S k s, by omega, rfl⟩, fun h => ?_⟩, h26, h27, fun e h => ?_, h20, h21⟩
              · have h : pu_gw s.1 = false := h
                rw [c.1] at h; cases h
              · have e : s.1 = 25 := e
                have h : pu_I (pu_k2 S k s) = pu_lf S k s := h
                unfold pu_lf at h
                by_cases c3 : pu_fl S s = true
                · rw [if_pos c3] at h
                  have := hk1 c3
                  have := pu_inj (by omega) (by omega) h
                  omega
                · rw [if_neg c3] at h
                  obtain ⟨u, u1, u2⟩ := q2 (by rw [e]; decide)
                  rw [u2] at h
                  have := pu_inj (by omega) (by omega) h
                  omega
            · rw [List.mem_singleton.mp ht]
              refine ⟨(by unfold pu_kw; decide : pu_kw 27), ⟨fun _ => ⟨pu_k2 S k s, by omega, rfl⟩, fun q => absurd q (show ¬ pu_ur 27 = true by decide), fun q => absurd q (show ¬ pu_gw 27 = true by decide), fun _ => rfl⟩, fun q => absurd q (show ¬ (27 : Int32) = 26 by decide), fun _ => hsl _ c.2 (by simpa using c2), fun q => absurd q (show ¬ (27 : Int32) = 25 by decide), fun q => absurd q (show ¬ (27 : Int32) = 20 by decide), fun q => absurd q (show ¬ (27 : Int32) = 21 by decide)⟩
        · rw [if_neg c] at ht
          rw [List.mem_singleton.mp ht]
          refine ⟨q1, ⟨hlf, hrt, fun h => ?_, q5⟩, h26, h27, fun e h => ?_, h20, h21⟩
          · obtain ⟨u, u1, u2⟩ := q4 h
            exact ⟨u, by omega, u2⟩
          · have e : s.1 = 25 := e
            have h : s.2.1 = pu_lf S k s := h
            obtain ⟨g, g1, g2⟩ := q4 (by rw [e]; decide)
            unfold pu_lf at h
            by_cases c3 : pu_fl S s = true
            · rw [if_pos c3, g2] at h
              have := hk1 c3
              have := pu_inj (by omega) (by omega) h
              omega
            · rw [if_neg c3] at h
              exact q8 e h
      · exact ih (pu_k3 S ns k s) (by omega) hk2 (fun s hs => hq s (List.mem_cons_of_mem _ hs)) t ht
end PAQ
section PAM
variable {V H : Nat} {S ns : Int32 → Bool} {sl nm : Int32 → Int32} {F : pu_Flow}
theorem pa_kb3 {M : Nat} : ∀ i, (∀ b, b < i → (F b).2.1.length ≤ M) → pa_kb S ns sl nm F V i ≤ V + i * (3 * M + 1) := by
  intro i
  induction i with
  | zero => intro _; show V ≤ V + 0 * _; omega
  | succ i ih =>
    intro h
    have h1 := ih fun b hb => h b (by omega)
    have h2 := h i (Nat.lt_succ_self i)
    have h3 := pu_pa_k3 (S := S) (ns := ns) (sl := sl) (nm := nm) (F i).2.1 (pa_kb S ns sl nm F V i)
    rw [Nat.succ_mul]
    show (pu_pa S ns sl nm (F i).2.1 (pa_kb S ns sl nm F V i)).2 + (if S (F i).2.2.2.1 = true then 1 else 0) ≤ _
    have h4 := pg_if1 (S (F i).2.2.2.1 = true)
    omega
theorem pa_mF_0 (G : pu_Flow) : pa_mF H G 0 = 0 := rfl
theorem pa_mF_s (G : pu_Flow) (i : Nat) : pa_mF H G (i + 1) = pa_mF H G i + (pa_mu H (G i).2.1 + pa_b1 (pa_hb H (G i).2.2.2.1)) := rfl
theorem pa_paF_1 {kb : Nat → Nat} {i : Nat} : (pu_paF S ns sl nm F kb i).2.1 = (pu_pa S ns sl nm (F i).2.1 (kb i)).1 ++ (if S (F i).2.2.2.1 = true then [pu_fe ns sl nm (F i).2.2.2.1 (pu_pa S ns sl nm (F i).2.1 (kb i)).2] else []) := rfl
theorem pa_paF_2 {kb : Nat → Nat} {i : Nat} : (pu_paF S ns sl nm F kb i).2.2.2.1 = (if S (F i).2.2.2.1 = true then pu_I (pu_pa S ns sl nm (F i).2.1 (kb i)).2 else (F i).2.2.2.1) := rfl
/-- values and mentions of homes together don't get more -/
theorem pa_kb_mu (hS : ∀ x, S x = true → pa_hb H x = true) (hHV : H ≤ V) : ∀ i, pa_kb S ns sl nm F V i < 2000000000 → pa_kb S ns sl nm F V i + pa_mF H (pu_paF S ns sl nm F (pa_kb S ns sl nm F V)) i ≤ V + pa_mF H F i := by
  intro i
  induction i with
  | zero =>
    intro _
    rw [pa_mF_0, pa_mF_0]
    exact Nat.le_refl _
  | succ i ih =>
    intro hlt
    have hle := pa_kb_le (S := S) (ns := ns) (sl := sl) (nm := nm) (F := F) (V := V) (i := i)
    have h1 := ih (by omega)
    have hV := pa_kb_mono (S := S) (ns := ns) (sl := sl) (nm := nm) (F := F) (V := V) (Nat.zero_le i)
    have hV : V ≤ pa_kb S ns sl nm F V i := hV
    have h2 := pa_mu_pa (H := H) (ns := ns) (sl := sl) (nm := nm) hS (F i).2.1 (pa_kb S ns sl nm F V i) (by omega) (by omega)
    generalize hkb : pa_kb S ns sl nm F V = kb at *
    have hsu : kb (i + 1) = (pu_pa S ns sl nm (F i).2.1 (kb i)).2 + (if S (F i).2.2.2.1 = true then 1 else 0) := by rw [← hkb]; rfl
    rw [pa_mF_s, pa_mF_s, pa_paF_1, pa_paF_2, pa_mu_app, hsu]
    by_cases c : S (F i).2.2.2.1 = true
    · rw [if_pos c, if_pos c, if_pos c, hS _ c, pa_hb_k (by omega) (by omega)]
      have e1 : pa_mu H [pu_fe ns sl nm (F i).2.2.2.1 (pu_pa S ns sl nm (F i).2.1 (kb i)).2] = 0 := by
        show pa_m1 H _ + 0 = 0
        rw [pa_m1_fe (by omega) (by omega)]
      have e2 : pa_b1 false = 0 := rfl
      have e3 : pa_b1 true = 1 := rfl
      rw [e1, e2, e3]
      omega
    · rw [if_neg c, if_neg c, if_neg c]
      have e0 : pa_mu H [] = 0 := rfl
      rw [e0]
      omega
end PAM
