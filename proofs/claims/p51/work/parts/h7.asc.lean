/-! pure side: the made text has bytes below 128; written and read -/
section ASC
def asc (l : List Int32) : Prop := ∀ c, c ∈ l → ∃ b, b < 128 ∧ c = pu_I b
theorem asc_nil : asc [] := fun c h => (by cases h)
theorem asc_cons {b : Nat} {l : List Int32} (hb : b < 128) (h : asc l) : asc (pu_I b :: l) := fun c hc => by
  rcases List.mem_cons.mp hc with e | e
  · exact ⟨b, hb, e⟩
  · exact h c e
theorem asc_app {l m : List Int32} (h : asc l) (k : asc m) : asc (l ++ m) := fun c hc => (List.mem_append.mp hc).elim (h c) (k c)
def ascb (l : List Int32) : Bool := l.all fun c => (decide (0 ≤ c) && decide (c < 128))
theorem asc_of {l : List Int32} (h : ascb l = true) : asc l := fun c hc => by
  have h1 := List.all_eq_true.mp h c hc
  rw [Bool.and_eq_true] at h1
  have h2 := of_decide_eq_true h1.1
  have h3 := of_decide_eq_true h1.2
  have e0 : 0 ≤ c.toInt := by have := Int32.le_iff_toInt_le.mp h2; simpa using this
  have e1 : c.toInt < 128 := by have := Int32.lt_iff_toInt_lt.mp h3; simpa using this
  refine ⟨c.toInt.toNat, by omega, ?_⟩
  apply Int32.toInt.inj
  rw [pu_ti (by omega)]
  omega
theorem asc_d {v : Nat} (h : v < 10000) : asc (mp_d v) := by
  unfold mp_d
  by_cases c1 : v < 10
  · rw [if_pos c1]; exact asc_cons (by omega) asc_nil
  rw [if_neg c1]
  by_cases c2 : v < 100
  · rw [if_pos c2]; exact asc_cons (by omega) (asc_cons (by omega) asc_nil)
  rw [if_neg c2]
  by_cases c3 : v < 1000
  · rw [if_pos c3]; exact asc_cons (by omega) (asc_cons (by omega) (asc_cons (by omega) asc_nil))
  rw [if_neg c3]; exact asc_cons (by omega) (asc_cons (by omega) (asc_cons (by omega) (asc_cons (by omega) asc_nil)))
theorem asc_if {c : Prop} [Decidable c] {a b : List Int32} (ha : asc a) (hb : asc b) : asc (if c then a else b) := by
  by_cases h : c
  · rw [if_pos h]; exact ha
  · rw [if_neg h]; exact hb
theorem asc_nm (k : Nat) : asc (mx_nm k) := by
  unfold mx_nm
  split
  · exact asc_of rfl
  split
  · exact asc_of rfl
  split
  · exact asc_of rfl
  exact asc_of rfl
theorem asc_op (k : Nat) : asc (mx_op k) := by
  unfold mx_op
  exact asc_if (asc_of rfl) (asc_if (asc_of rfl) (asc_if (asc_of rfl) (asc_if (asc_of rfl) (asc_if (asc_of rfl) (asc_if (asc_of rfl) (asc_if (asc_of rfl) (asc_if (asc_of rfl) (asc_if (asc_of rfl) (asc_if (asc_of rfl) (asc_if (asc_of rfl) (asc_if (asc_of rfl) (asc_if (asc_of rfl) (asc_if (asc_of rfl) (asc_if (asc_of rfl) (asc_of rfl)))))))))))))))
variable {dr : Nat → Nat → Nat}
theorem asc_leaf (hd : ∀ k n, 0 < n → dr k n < n) (sort : Nat) (s : md_S) : asc (mx_leaf dr sort s) := by
  unfold mx_leaf
  split
  · split
    · exact asc_d (Nat.lt_trans (hd _ 5000 (by decide)) (by decide))
    · exact asc_d (Nat.lt_trans (hd _ 9 (by decide)) (by decide))
  · exact asc_nm _
theorem asc_part (hd : ∀ k n, 0 < n → dr k n < n) : ∀ (d : Nat) (s : md_S), asc (mx_part dr d s) := by
  intro d
  induction d with
  | zero => intro s; exact asc_leaf hd _ _
  | succ d ih =>
    intro s
    unfold mx_part
    split
    · exact asc_leaf hd _ _
    split
    · refine asc_cons (b := 40) (by decide) (asc_app ?_ (asc_of rfl))
      split
      · exact asc_cons (b := 45) (by decide) (ih _)
      · exact asc_cons (b := 33) (by decide) (ih _)
    split
    · exact asc_cons (b := 91) (by decide) (asc_app (ih _) (asc_of rfl))
    split
    · refine asc_cons (b := 40) (by decide) (asc_app (asc_app (ih _) (asc_app ?_ (ih _))) (asc_of rfl))
      split
      · exact asc_of rfl
      · exact asc_of rfl
    · refine asc_cons (b := 40) (by decide) (asc_app (asc_app (ih _) (asc_app (asc_op _) ?_)) (asc_of rfl))
      split
      · split
        · exact ih _
        · exact asc_d (by have := hd ((md_part dr d (s.1 + 2, s.2.1 + 1, s.2.2)).2.1 + 1) 9 (by decide); omega)
      · exact ih _
theorem asc_many {line : md_S → md_G × md_S} {bx : md_S → List Int32} (h : ∀ s, asc (bx s)) : ∀ (n : Nat) (s : md_S), asc (mx_many line bx n s) := by
  intro n
  induction n with
  | zero => intro s; exact asc_nil
  | succ n ih => intro s; exact asc_app (h s) (ih _)
theorem asc_wh {n v : Nat} {x : List Int32} (hn : n < 10000) (hv : v < 10000) (hx : asc x) : asc (mx_wh n v x) :=
  asc_app (asc_of rfl) (asc_app (asc_d hn) (asc_app (asc_of rfl) (asc_app (asc_d hn) (asc_app (asc_of rfl) (asc_app (asc_d hv) (asc_app (asc_of rfl) (asc_app hx (asc_app (asc_of rfl) (asc_app (asc_d hn) (asc_app (asc_of rfl) (asc_app (asc_d hn) (asc_of rfl))))))))))))
theorem asc_step (hd : ∀ k n, 0 < n → dr k n < n) {inner fork : Bool} {sub : md_S → md_G × md_S} {subx : md_S → List Int32} (h : ∀ s, asc (subx s)) (s : md_S) : asc (mx_step dr inner fork sub subx s) := by
  have hx := asc_part hd 2 (s.1 + 1, s.2)
  have hm : ∀ n s, asc (mx_many sub subx n s) := asc_many h
  unfold mx_step
  generalize md_part dr 2 (s.1 + 1, s.2) = t
  generalize mx_part dr 2 (s.1 + 1, s.2) = x at hx
  dsimp only
  split
  · split
    · rename_i c
      exact asc_wh (by omega) (Nat.lt_trans (hd _ 4 (by decide)) (by decide)) (hm _ _)
    · split
      · exact asc_app (asc_of rfl) (asc_app hx (asc_app (asc_of rfl) (asc_app (hm _ _) (asc_of rfl))))
      · exact asc_app (asc_of rfl) (asc_app hx (asc_app (asc_of rfl) (asc_app (hm _ _) (asc_app (asc_of rfl) (asc_app (asc_of rfl) (asc_app (hm _ _) (asc_of rfl)))))))
  split
  · split
    · exact asc_app (asc_of rfl) (asc_app hx (asc_of rfl))
    · exact asc_app (asc_nm _) (asc_app (asc_of rfl) (asc_app hx (asc_of rfl)))
  split
  · exact asc_app (asc_of rfl) (asc_app hx (asc_app (asc_of rfl) (asc_app (asc_part hd 1 _) (asc_of rfl))))
  · exact asc_app (asc_nm _) (asc_app (asc_of rfl) (asc_app hx (asc_of rfl)))
theorem asc_line (hd : ∀ k n, 0 < n → dr k n < n) : ∀ (h : Nat) (s : md_S), asc (mx_line dr h s) := by
  intro h
  induction h with
  | zero => intro s; exact asc_step hd (fun _ => asc_nil) s
  | succ h ih => intro s; exact asc_step hd ih s
theorem asc_txt (hd : ∀ k n, 0 < n → dr k n < n) {d0 n : Nat} (hn : n < 10000) : asc (mx_txt dr d0 n) := by
  unfold mx_txt mx_ft
  exact asc_app (asc_app (asc_of rfl) (asc_app (asc_many (asc_line hd 2) _ _) (asc_of rfl))) (asc_app (asc_of rfl) (asc_app (asc_d hn) (asc_of rfl)))
/-- WRITTEN AND READ: write, then readProgram -/
theorem wr_rd (hd : ∀ k n, 0 < n → dr k n < n) {d0 n : Nat} (h1 : 2 ≤ n) (h2 : n ≤ 4) {f : RI} {m : Nat} (hm : m = (mx_txt dr d0 n).length) (hf : ∀ j, j < m → f j = (mx_txt dr d0 n).getD j 0) {w : ST} (hw : w 0 1 = 0) :
    ∃ w' bs, fL_write m f w = some w' ∧ tq9 w w' ∧ tk_b (upw (upw w' 0 6 0) 0 7 0) bs ∧ lx_s bs (rp_ts (mp_F dr d0 (pu_I n)) 3 0) := by
  have hl := (mx_txt_len hd (d0 := d0) (n := n) h2).2.1
  have ha := asc_txt hd (d0 := d0) (n := n) (by omega)
  have hok : tx_ok m f := ⟨by omega, fun k hk => by
    rw [hf k hk]
    apply ha
    rw [List.getD_eq_getElem?_getD, List.getElem?_eq_getElem (hm ▸ hk)]
    exact List.getElem_mem _⟩
  obtain ⟨w', q, e, q1, q2, ⟨t1, t2, t3⟩, u⟩ := wr_ok hok hw
  refine ⟨w', mx_txt dr d0 n ++ List.replicate (q - m) 32, e, u, ?_, mx_txt_s hd h1 h2 (fun c hc => List.eq_of_mem_replicate hc)⟩
  have hlen : (mx_txt dr d0 n ++ List.replicate (q - m) 32).length = q := by rw [List.length_append, List.length_replicate, ← hm]; omega
  refine ⟨0, rfl, ?_, by rw [hlen]; omega, fun k c hc => ?_⟩
  · show w' 0 1 = _
    rw [hlen, Nat.zero_add]; exact t1
  · show w' 1 (0 + k) = c
    rw [Nat.zero_add]
    have hk : k < q := by rw [← hlen]; exact (List.getElem?_eq_some_iff.mp hc).1
    rw [t3 k hk]
    unfold tbN
    by_cases c1 : k < m
    · rw [if_pos c1]
      rw [List.getElem?_append_left (hm ▸ c1)] at hc
      obtain ⟨b, hb, e2⟩ := hok.2 k c1
      rw [e2, pu_nn (by omega), ← e2, hf k c1, List.getD_eq_getElem?_getD, hc]
      rfl
    · rw [if_neg c1]
      rw [List.getElem?_append_right (by omega), List.getElem?_replicate] at hc
      rw [if_pos (by omega)] at hc
      exact Option.some.inj hc
end ASC
