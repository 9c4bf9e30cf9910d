/-! pure side, the reader 4: calls in shape -/
section TYC
variable {P : ST} {a0 a1 Vn fs np : Nat} {vis : Int32 → Prop}
/-- tests one behind the other -/
def tq_al (P : ST) (a0 a1 Vn fs np : Nat) (vis : Int32 → Prop) (k B : Nat) : Nat → Nat → Nat → Prop
  | 0, i, j => i = j ∧ a0 ≤ i ∧ i ≤ a1
  | n + 1, i, j => ∃ m, tq_al P a0 a1 Vn fs np vis k B n i m ∧ tq_e P a0 a1 Vn fs np vis m j k B
theorem tq_al_i {k B : Nat} : ∀ n i j, tq_al P a0 a1 Vn fs np vis k B n i j → (a0 ≤ i ∧ i ≤ j ∧ j ≤ a1 ∧ (0 < n → i < j ∧ tq_k P i)) ∧ (pt_Q P a0 i = [] → (pt_T P a0 i).length + (k + n) ≤ 60 → ∃ S ts, tq_i P a0 a1 Vn fs np vis i j B S (fun _ => False) ∧ ts.length = n ∧ pt_T P a0 j = ts ++ pt_T P a0 i ∧ pt_Q P a0 j = []) := by
  intro n
  induction n with
  | zero =>
    intro i j ⟨h1, h2, h3⟩
    subst h1
    exact ⟨⟨h2, Nat.le_refl i, h3, fun h => absurd h (Nat.lt_irrefl 0)⟩, fun hQ _ => ⟨[], [], tq_B (tq_nil h2 h3) (Nat.zero_le _), rfl, rfl, hQ⟩⟩
  | succ n ih =>
    intro i j ⟨m, h1, h2⟩
    obtain ⟨⟨a1', a2', a3', a4'⟩, a5'⟩ := ih i m h1
    obtain ⟨⟨b1, b2, b3, b4⟩, b5, b6⟩ := h2
    refine ⟨⟨a1', by omega, b3, fun _ => ⟨by omega, ?_⟩⟩, fun hQ hl => ?_⟩
    · by_cases hn : 0 < n
      · exact (a4' hn).2
      · obtain rfl : n = 0 := by omega
        rw [h1.1]; exact b5
    · obtain ⟨S1, ts, q1, q2, q3, q4⟩ := a5' hQ (by omega)
      obtain ⟨S2, t, r1, r2, r3⟩ := b6 q4 (by rw [q3, List.length_append]; omega)
      refine ⟨_, t :: ts, tq_ff (tq_appk q1 r1 b5 (Nat.le_refl B) (Nat.le_refl B)), by rw [List.length_cons, q2], by rw [r2, q3]; rfl, r3⟩
theorem tq_rv {ts T : List Nat} {d : Nat} (hd : d < ts.length) : ts.reverse.take d ++ [(ts ++ T).getD (ts.length - d - 1) 0] = ts.reverse.take (d + 1) := by
  have h1 : ts.reverse[d]? = some ((ts ++ T).getD (ts.length - d - 1) 0) := by
    rw [List.getElem?_reverse hd, List.getD_eq_getElem?_getD, List.getElem?_append_left (by omega), show ts.length - 1 - d = ts.length - d - 1 by omega, List.getElem?_eq_getElem (show ts.length - d - 1 < ts.length by omega)]
    rfl
  rw [List.take_succ, h1]
  rfl
/-- the arguments of a call -/
theorem tq_args (hG : tq_G P a0 a1) {j n : Nat} (hn : n ≤ 4) (hj0 : a0 ≤ j) (hj : j + n < a1) (h19 : ∀ d, d < n → P 9 (j + d) = 19 ∧ P 10 (j + d) = pu_I (n - d)) {ts T : List Nat} (hts : ts.length = n) (hT : pt_T P a0 j = ts ++ T) (hl : T.length + n ≤ 60) (hQ : pt_Q P a0 j = []) :
    ∀ d, d ≤ n → tq_i P a0 a1 Vn fs np vis j (j + d) d [] (fun _ => False) ∧ pt_T P a0 (j + d) = ts ++ T ∧ pt_Q P a0 (j + d) = ts.reverse.take d := by
  obtain ⟨hL, h3, hTk⟩ := id hG
  intro d
  induction d with
  | zero => intro _; exact ⟨tq_nil hj0 (by omega), hT, hQ⟩
  | succ d ih =>
    intro hd
    obtain ⟨q1, q2, q3⟩ := ih (by omega)
    obtain ⟨e9, e10⟩ := h19 d (by omega)
    have hx0 : a0 ≤ j + d := by omega
    have hx1 : j + d < a1 := by omega
    have hlen : (pt_T P a0 (j + d)).length = n + T.length := by rw [q2, List.length_append, hts]
    have hp : pt_pop P (j + d) = 0 := by unfold pt_pop; rw [e9]; rfl
    have hne : ∀ z : Int32, (19 : Int32) ≠ z → P 9 (j + d) ≠ z := fun z hz e => hz (e9.symm.trans e)
    have hone := tq_one0 (P := P) (Vn := Vn) (fs := fs) (np := np) (vis := vis) hL h3 hx0 hx1 ⟨⟨fun _ => Or.inr (Or.inr e9), Or.inl (by rw [e9]; decide)⟩, ⟨⟨by rw [hp]; omega, fun _ => ⟨n - d, e10, by omega, by omega⟩, fun q => absurd q (hne _ (by decide)), fun q => absurd q (hne _ (by decide)), by omega⟩, by omega, fun q => absurd q (hne _ (by decide))⟩, fun q => (by
      rcases q with q | q | q | q
      · exact absurd q (hne _ (by decide))
      · exact absurd q (hne _ (by decide))
      · exact absurd q (hne _ (by decide))
      · exact absurd q (hne _ (by decide))), fun q => (by
      rcases q with q | q | q | q
      · exact absurd q (hne _ (by decide))
      · exact absurd q (hne _ (by decide))
      · exact absurd q (hne _ (by decide))
      · exact absurd q (hne _ (by decide))), ⟨fun q => absurd q (hne _ (by decide)), fun q => absurd q (hne _ (by decide))⟩, hTk _ hx0 hx1, ⟨fun _ => Or.inl e9, fun q => absurd q (hne _ (by decide))⟩⟩ (fun q => (by
      rcases q with q | q | q
      · exact absurd q (hne _ (by decide))
      · exact absurd q (hne _ (by decide))
      · exact absurd q (hne _ (by decide)))) (hne _ (by decide)) (fun q => absurd q (hne _ (by decide)))
    refine ⟨tq_ff (tq_app q1 hone), ?_, ?_⟩
    · show pt_T P a0 (j + d + 1) = _
      rw [pt_T_s hx0]
      unfold pt_nx
      rw [e9, if_neg (by decide), hp, q2]
      rfl
    · show pt_Q P a0 (j + d + 1) = _
      rw [pt_Q_s hx0, if_pos e9, e10, pu_nn (by omega), q2, q3, ← hts, tq_rv (by omega)]
theorem tq_e_call (hG : tq_G P a0 a1) {i j n g k B : Nat} (h : tq_al P a0 a1 Vn fs np vis k B n i j) (hn0 : 0 < n) (hn : n ≤ 4) (hj : j + n < a1) (h19 : ∀ d, d < n → P 9 (j + d) = 19 ∧ P 10 (j + d) = pu_I (n - d)) (h20 : P 9 (j + n) = 20) (hg : P 10 (j + n) = pu_I g) (hgf : g < fs) (hf6 : fs ≤ 6) (h4 : P 4 g = pu_I n) : tq_e P a0 a1 Vn fs np vis i (j + n + 1) (k + n) (B + n + 12) := by
  obtain ⟨hL, h3, hTk⟩ := id hG
  obtain ⟨⟨a1', a2', a3', a4'⟩, a5'⟩ := tq_al_i n i j h
  refine ⟨⟨a1', by omega, hj, by omega⟩, (a4' hn0).2, fun hQ hl => ?_⟩
  obtain ⟨S, ts, q1, q2, q3, q4⟩ := a5' hQ hl
  obtain ⟨r1, r2, r3⟩ := tq_args (Vn := Vn) (fs := fs) (np := np) (vis := vis) hG hn (by omega) hj h19 q2 q3 (by omega) q4 n (Nat.le_refl n)
  rw [List.take_of_length_le (by rw [List.length_reverse]; omega)] at r3
  have hx0 : a0 ≤ j + n := by omega
  have hlen : (pt_T P a0 (j + n)).length = n + (pt_T P a0 i).length := by rw [r2, List.length_append, q2]
  have hpx : px_n P (j + n) = n := by
    show nn (P 4 (nn (P 10 (j + n)))) = n
    rw [hg, pu_nn (show g < 2147483648 by omega), h4, pu_nn (by omega)]
  have hp : pt_pop P (j + n) = n := by
    unfold pt_pop
    rw [h20]
    exact hpx
  have hne : ∀ z : Int32, (20 : Int32) ≠ z → P 9 (j + n) ≠ z := fun z hz e => hz (h20.symm.trans e)
  have hone := tq_one (P := P) (Vn := Vn) (fs := fs) (np := np) (vis := vis) hL h3 hx0 hj ⟨⟨fun _ => Or.inl (by rw [h20]; decide), Or.inl (by rw [h20]; decide)⟩, ⟨⟨by rw [hp]; omega, fun q => absurd q (hne _ (by decide)), fun q => absurd q (hne _ (by decide)), fun _ => ⟨by rw [hg]; exact (pu_ix (by omega)).mpr (by omega), n, by rw [hg, pu_nn (show g < 2147483648 by omega)]; exact h4, hn⟩, by omega⟩, by omega, fun q => absurd q (hne _ (by decide))⟩, fun q => (by
      rcases q with q | q | q | q
      · exact absurd q (hne _ (by decide))
      · exact absurd q (hne _ (by decide))
      · exact absurd q (hne _ (by decide))
      · exact absurd q (hne _ (by decide))), fun q => (by
      rcases q with q | q | q | q
      · exact absurd q (hne _ (by decide))
      · exact absurd q (hne _ (by decide))
      · exact absurd q (hne _ (by decide))
      · exact absurd q (hne _ (by decide))), ⟨fun _ => by rw [hg]; exact (pu_ix (by omega)).mpr hgf, fun q => absurd q (hne _ (by decide))⟩, hTk _ hx0 hj, ⟨fun _ => Or.inr h20, fun _ => by rw [r3, r2, hpx, List.take_left' q2]⟩⟩ (fun q => absurd q (hne _ (by decide)))
  rw [show tq_w P (j + n) = 12 from if_pos h20] at hone
  have hone := tq_Xm (X' := fun _ => False) hone fun x _ _ h => by
    obtain ⟨e, q⟩ := h
    rcases q with q | q | q
    · exact absurd q (hne _ (by decide))
    · exact absurd q (hne _ (by decide))
    · exact absurd q (hne _ (by decide))
  refine ⟨_, j + n, tq_ff (tq_app (tq_ff (tq_app q1 r1)) hone), ?_, ?_⟩
  · rw [pt_T_s hx0]
    unfold pt_nx
    rw [h20, if_pos (by decide), hp, r2, List.drop_left' q2]
  · rw [pt_Q_s hx0, if_neg (hne _ (by decide)), if_pos h20]
end TYC
