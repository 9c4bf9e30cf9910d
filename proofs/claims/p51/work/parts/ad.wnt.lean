/-! pure side, the maker 12: sets that grow till they don't; where a variable is wanted -/
def pt_cb (W : Int64) : Nat := ((List.range 60).filter (fun i => pv_bt W i)).length
theorem pt_cb_le (W : Int64) : pt_cb W ≤ 60 := by
  unfold pt_cb
  have := List.length_filter_le (fun i => pv_bt W i) (List.range 60)
  rw [List.length_range] at this
  exact this
def pt_sub (W V : Int64) : Prop := ∀ i, pv_bt W i = true → pv_bt V i = true
theorem pt_cb_lt {W V : Int64} (hs : pt_sub W V) (hV : ∀ i, pv_bt V i = true → i < 60) (hne : V ≠ W) : pt_cb W < pt_cb V := by
  have hex : ∃ i, pv_bt V i = true ∧ ¬ pv_bt W i = true := by
    refine Classical.byContradiction fun h => hne (pv_bt_ext fun j _ => ?_)
    cases h1 : pv_bt V j with
    | true =>
      cases h2 : pv_bt W j with
      | true => rfl
      | false => exact absurd ⟨j, h1, by rw [h2]; decide⟩ h
    | false =>
      cases h2 : pv_bt W j with
      | true => rw [hs j h2] at h1; cases h1
      | false => rfl
  obtain ⟨i, h1, h2⟩ := hex
  unfold pt_cb
  have h3 : ∀ l : List Nat, ((l.filter (fun i => pv_bt W i)).length ≤ (l.filter (fun i => pv_bt V i)).length) ∧ (i ∈ l → (l.filter (fun i => pv_bt W i)).length < (l.filter (fun i => pv_bt V i)).length) := by
    intro l
    induction l with
    | nil => exact ⟨Nat.le_refl _, fun h => (by cases h)⟩
    | cons a l ih =>
      rw [List.filter_cons, List.filter_cons]
      by_cases hW : pv_bt W a = true
      · rw [if_pos hW, if_pos (hs a hW)]
        refine ⟨Nat.succ_le_succ ih.1, fun h => ?_⟩
        rcases List.mem_cons.mp h with h | h
        · rw [← h] at hW; exact absurd hW h2
        · exact Nat.succ_lt_succ (ih.2 h)
      · rw [if_neg hW]
        by_cases hVa : pv_bt V a = true
        · rw [if_pos hVa]
          exact ⟨Nat.le_succ_of_le ih.1, fun _ => Nat.lt_succ_of_le ih.1⟩
        · rw [if_neg hVa]
          refine ⟨ih.1, fun h => ?_⟩
          rcases List.mem_cons.mp h with h | h
          · rw [← h] at hVa; exact absurd h1 hVa
          · exact ih.2 h
  exact (h3 _).2 (List.mem_range.mpr (hV i h1))
/-- a loop over a set that a pass makes grow, at most 61 times -/
theorem pt_fix {pass : Int64 → Option Int64} {G : Nat → Int64 → Int32 → Int32 → Option Int64} {Inv : Int64 → Prop}
    (hG : ∀ k W y n, G (k + 1) W y n = (if y = 0 then some W else (if (60 : Int32) < n then some W else ((pass W).bind fun (o : Int64) => (if (lg_cmp o W) = 0 then G k o 0 (n + 1) else G k o 1 (n + 1))))))
    (hp : ∀ W, Inv W → ∃ W', pass W = some W' ∧ Inv W' ∧ pt_sub W W') (hb : ∀ W, Inv W → ∀ i, pv_bt W i = true → i < 60) :
    ∀ (m n k : Nat) (W : Int64), Inv W → 60 ≤ pt_cb W + m → n + m ≤ 60 → m + 2 ≤ k → ∃ W', G k W 1 (pu_I n) = some W' ∧ Inv W' ∧ pass W' = some W' := by
  intro m
  induction m with
  | zero =>
    intro n k W hI hc hn hk
    obtain ⟨k', rfl⟩ : ∃ k', k = (k' + 1) + 1 := ⟨k - 2, by omega⟩
    obtain ⟨W', q1, q2, q3⟩ := hp W hI
    have heq : W' = W := by
      refine Classical.byContradiction fun h => ?_
      have h1 := pt_cb_lt q3 (hb W' q2) h
      have h2 := pt_cb_le W'
      omega
    subst heq
    refine ⟨W', ?_, q2, q1⟩
    rw [hG, if_neg (by decide), if_neg (fun h => by have := (pu_lt (a := 60) (b := n) (by decide) (by omega)).mp h; omega), q1, Option.bind_some, if_pos ((pv_cmp0 _ _).mpr rfl), hG, if_pos rfl]
  | succ m ih =>
    intro n k W hI hc hn hk
    obtain ⟨k', rfl⟩ : ∃ k', k = (k' + 1) + 1 := ⟨k - 2, by omega⟩
    obtain ⟨W', q1, q2, q3⟩ := hp W hI
    have hn60 : ¬ (60 : Int32) < pu_I n := fun h => by
      have := (pu_lt (a := 60) (b := n) (by decide) (by omega)).mp h
      omega
    by_cases heq : W' = W
    · subst heq
      refine ⟨W', ?_, q2, q1⟩
      rw [hG, if_neg (by decide), if_neg hn60, q1, Option.bind_some, if_pos ((pv_cmp0 _ _).mpr rfl), hG, if_pos rfl]
    · have h1 := pt_cb_lt q3 (hb W' q2) heq
      obtain ⟨V, e1, e2, e3⟩ := ih (n + 1) (k' + 1) W' q2 (by omega) (by omega) (by omega)
      refine ⟨V, ?_, e2, e3⟩
      rw [hG, if_neg (by decide), if_neg hn60, q1, Option.bind_some, if_neg (fun h => heq ((pv_cmp0 _ _).mp h)), pu_su]
      exact e1
