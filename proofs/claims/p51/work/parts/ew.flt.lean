/-! pure side, the made function 5: lines that don't fork -/
section MDF
variable {dr : Nat → Nat → Nat}
/-- what is known of a part -/
def md_pk (d : Nat) (p p' I : Nat) (f f' c c' : Nat) (e : RE) (B g : Nat) : Prop :=
  re_N e (d + 1) B g ∧ (re_cn e = 0 ∧ (∀ n, re_cl e n = []) ∧ ∀ sv, md_sv sv → re_sn e sv) ∧ (p + 1 ≤ p' ∧ p' ≤ max (p + 1) (46 + d + 1) ∧ I + md_w p ≤ md_w p') ∧ (f' = f + re_ss e ∧ (f ≤ 8 → f' ≤ 8) ∧ c' = c) ∧
    (B ≤ 1 + 2 * d + 9 * re_ss e ∧ g + p ≤ p' + I + 2 * re_ss e ∧ re_ln e + p ≤ p' + I + 7 * re_ss e ∧ (re_tks e).length + p ≤ p' + 4 * I) ∧ (re_dp e ≤ 12 + 24 * d ∧ re_ht e ≤ d + 1 ∧ re_br e ≤ d)
theorem md_pk_of (hd : ∀ k n, 0 < n → dr k n < n) {d : Nat} (h2 : d ≤ 2) (s : md_S) : ∃ B g I, md_pk d s.2.1 (md_part dr d s).2.2.1 I s.2.2.1 (md_part dr d s).2.2.2.1 s.2.2.2 (md_part dr d s).2.2.2.2 (md_part dr d s).1 B g := by
  obtain ⟨B, g, I, h1, ⟨_, h3, h4, h5⟩, ⟨h6, h7⟩, ⟨h8, h9⟩, h10, h11, h12⟩ := md_part_ok hd d h2 s
  have hp := md_part_p (dr := dr) d s
  have h27 : 2 ^ (d + 1) ≤ 8 := by
    rcases (by omega : d = 0 ∨ d = 1 ∨ d = 2) with e | e | e <;> subst e <;> decide
  exact ⟨B, g, I, h1, ⟨h3, h4, h5⟩, ⟨h6, h7, md_w_le h6 (by omega) h8 h9⟩, h10, h11, h12⟩
theorem md_ar4 {p p' C : Nat} (h : p' ≤ max (p + 1) 49) (hC : 50 ≤ C) : p' + 2 ≤ max (p + 2) C + 2 := by omega
theorem md_ar5 {p p1 p' C : Nat} (h : p1 ≤ max (p + 1) 49) (h' : p' ≤ max (p1 + 1) 48) (hC : 50 ≤ C) : p' + 2 ≤ max (p + 2) C + 2 := by omega
theorem md_set_lk {h C q k : Nat} {s t2 : md_S} {e : RE} {B g I : Nat} (hC : 50 ≤ C) (hk : k < 4) (ht : md_pk 2 s.2.1 t2.2.1 I s.2.2.1 t2.2.2.1 s.2.2.2 t2.2.2.2 e B g) : md_lk h 1 C s (q, t2.2) (fun b => rs_cons (rs_set (md_nm k) e) b) := by
  obtain ⟨h1, ⟨h2, h3, h4⟩, ⟨h5, h6, h7⟩, ⟨h8, h9, h10⟩, ⟨h11, h12, h13, h14⟩, h15, h16, h17⟩ := ht
  have hlen : (rs_tks (rs_set (md_nm k) e)).length = (re_tks e).length + 3 := by
    show (_ :: _ :: (re_tks e ++ [_])).length = _
    rw [List.length_cons, List.length_cons, List.length_append]; rfl
  refine md_c1 (X := re_ss e) (I := I) (W := 0) (Fk := re_ss e) ⟨h5, md_ar4 h6 hC, h7⟩ ⟨h8, h10, Nat.le_refl _, h9, fun q => by rw [h10]; exact q⟩ (rs_N_set h1 (by decide)) (by omega) (Nat.le_refl _) (by dsimp only; omega) ⟨?_, Nat.le_refl _, ?_, ?_⟩ ⟨h2, h3⟩ ⟨?_, ?_⟩ (fun sv hsv => ⟨⟨by omega, h4 sv hsv.1⟩, hsv.1 k hk⟩)
  · show re_ss e ≤ 2 * re_ss e; omega
  · show re_ln e + 1 + s.2.1 ≤ _; dsimp only; omega
  · rw [hlen]; dsimp only; omega
  · show re_br e ≤ _; omega
  · show re_dp e + 1 ≤ _; omega
theorem md_ret_lk {h C q : Nat} {s t2 : md_S} {e : RE} {B g I : Nat} (hC : 50 ≤ C) (ht : md_pk 2 s.2.1 t2.2.1 I s.2.2.1 t2.2.2.1 s.2.2.2 t2.2.2.2 e B g) : md_lk h 1 C s (q, t2.2) (fun b => rs_cons (rs_ret e) b) := by
  obtain ⟨h1, ⟨h2, h3, h4⟩, ⟨h5, h6, h7⟩, ⟨h8, h9, h10⟩, ⟨h11, h12, h13, h14⟩, h15, h16, h17⟩ := ht
  have hlen : (rs_tks (rs_ret e)).length = (re_tks e).length + 2 := by
    show (_ :: (re_tks e ++ [_])).length = _
    rw [List.length_cons, List.length_append]; rfl
  refine md_c1 (X := re_ss e) (I := I) (W := 0) (Fk := re_ss e) ⟨h5, md_ar4 h6 hC, h7⟩ ⟨h8, h10, Nat.le_refl _, h9, fun q => by rw [h10]; exact q⟩ (rs_N_ret h1 (by decide)) (by omega) (Nat.le_refl _) (by dsimp only; omega) ⟨?_, Nat.le_refl _, ?_, ?_⟩ ⟨h2, h3⟩ ⟨?_, ?_⟩ (fun sv hsv => ⟨by omega, h4 sv hsv.1⟩)
  · show re_ss e ≤ 2 * re_ss e; omega
  · show re_ln e + 1 + s.2.1 ≤ _; dsimp only; omega
  · rw [hlen]; dsimp only; omega
  · show re_br e ≤ _; omega
  · show re_dp e + 1 ≤ _; omega
theorem md_wr_lk {h C : Nat} {s t2 o2 : md_S} {e e2 : RE} {B g I B2 g2 I2 : Nat} (hC : 50 ≤ C) (ht : md_pk 2 s.2.1 t2.2.1 I s.2.2.1 t2.2.2.1 s.2.2.2 t2.2.2.2 e B g) (ho : md_pk 1 t2.2.1 o2.2.1 I2 t2.2.2.1 o2.2.2.1 t2.2.2.2 o2.2.2.2 e2 B2 g2) : md_lk h 1 C s o2 (fun b => rs_cons (rs_wr e e2) b) := by
  obtain ⟨h1, ⟨h2, h3, h4⟩, ⟨h5, h6, h7⟩, ⟨h8, h9, h10⟩, ⟨h11, h12, h13, h14⟩, h15, h16, h17⟩ := ht
  obtain ⟨k1, ⟨k2, k3, k4⟩, ⟨k5, k6, k7⟩, ⟨k8, k9, k10⟩, ⟨k11, k12, k13, k14⟩, k15, k16, k17⟩ := ho
  have hlen : (rs_tks (rs_wr e e2)).length = (re_tks e).length + (re_tks e2).length + 4 := by
    show (_ :: (re_tks e ++ (_ :: _ :: (re_tks e2 ++ [_])))).length = _
    simp only [List.length_append, List.length_cons, List.length_nil]; omega
  have ar := md_ar5 h6 k6 hC
  clear h6 k6
  refine md_c1 (X := re_ss e + re_ss e2) (I := I + I2) (W := 0) (Fk := re_ss e + re_ss e2) ⟨by omega, ar, by omega⟩ ⟨by omega, k10.trans h10, Nat.le_refl _, fun q => k9 (h9 q), fun q => by rw [k10, h10]; exact q⟩ (rs_N_wr h1 k1 (by decide) (by decide)) (Nat.max_le.mpr ⟨by omega, by omega⟩) (Nat.le_refl _) (by omega) ⟨?_, Nat.le_refl _, ?_, ?_⟩ ⟨?_, fun n => ?_⟩ ⟨?_, ?_⟩ (fun sv hsv => ⟨⟨by omega, h4 sv hsv.1⟩, by omega, k4 sv hsv.1⟩)
  · show re_ss e + re_ss e2 ≤ 2 * (re_ss e + re_ss e2); omega
  · show re_ln e + re_ln e2 + 1 + s.2.1 ≤ _; omega
  · rw [hlen]; omega
  · show re_cn e + re_cn e2 = 0; omega
  · show re_cl e n ++ re_cl e2 _ = []; rw [h3, k3]; rfl
  · exact Nat.max_le.mpr ⟨by omega, by omega⟩
  · show max (re_dp e) (re_dp e2) + 1 ≤ 61 + 3 * h
    have : max (re_dp e) (re_dp e2) ≤ 60 := Nat.max_le.mpr ⟨by omega, by omega⟩
    omega
/-- a line that doesn't fork -/
theorem md_flat (hd : ∀ k n, 0 < n → dr k n < n) {h C : Nat} (hC : 50 ≤ C) {inner fork : Bool} {sub : md_S → md_G × md_S} {s : md_S} (hn : ¬ (fork = true ∧ (md_part dr 2 (s.1 + 1, s.2)).2.2.1 < 46 ∧ (md_part dr 2 (s.1 + 1, s.2)).2.2.2.1 < 8 ∧ 6 < dr s.1 10)) : md_lk h 1 C s (md_step dr inner fork sub s).2 (md_step dr inner fork sub s).1 := by
  obtain ⟨B, g, I, ht⟩ := md_pk_of hd (Nat.le_refl 2) (s.1 + 1, s.2)
  unfold md_step
  generalize md_part dr 2 (s.1 + 1, s.2) = t at hn ht ⊢
  dsimp only at ht ⊢
  rw [if_neg hn]
  by_cases c1 : dr s.1 10 = 5 ∧ inner = true
  · rw [if_pos c1]
    by_cases c2 : dr t.2.1 4 = 0
    · rw [if_pos c2]
      exact md_ret_lk hC ht
    · rw [if_neg c2]
      exact md_set_lk hC (hd _ 4 (by decide)) ht
  rw [if_neg c1]
  by_cases c3 : dr s.1 10 = 6
  · rw [if_pos c3]
    obtain ⟨B2, g2, I2, ho⟩ := md_pk_of hd (d := 1) (by decide) (t.2.1 + 1, t.2.2)
    exact md_wr_lk hC ht ho
  · rw [if_neg c3]
    exact md_set_lk hC (hd _ 4 (by decide)) ht
end MDF
