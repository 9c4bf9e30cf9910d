/-! pure side, the graph 5: life spreads against the ways -/
theorem pg_sm_le {f g : Nat → Nat} : ∀ k, (∀ i, i < k → f i ≤ g i) → pv_sm f k ≤ pv_sm g k := by
  intro k
  induction k with
  | zero => intro _; exact Nat.le_refl _
  | succ k ih =>
    intro h
    have h1 := ih fun i hi => h i (by omega)
    have h2 := h k (Nat.lt_succ_self k)
    show pv_sm f k + f k ≤ pv_sm g k + g k
    omega
theorem pg_sm_lt {f g : Nat → Nat} : ∀ k, (∀ i, i < k → f i ≤ g i) → (∃ i, i < k ∧ f i < g i) → pv_sm f k < pv_sm g k := by
  intro k
  induction k with
  | zero => intro _ ⟨i, hi, _⟩; omega
  | succ k ih =>
    intro h ⟨i, hi, hlt⟩
    have h2 := h k (Nat.lt_succ_self k)
    show pv_sm f k + f k < pv_sm g k + g k
    by_cases e : i = k
    · subst e
      have h1 := pg_sm_le i fun j hj => h j (by omega)
      omega
    · have h1 := ih (fun j hj => h j (by omega)) ⟨i, by omega, hlt⟩
      omega
section SPR
variable {n : Nat → Nat} {w fw : ST} {B wd : Nat}
/-- how many bits there are -/
def pg_mu (B wd : Nat) (l : SL) : Nat := pv_sm (fun b => pv_sm (fun h => if pg_g l 6 wd b h = true then 1 else 0) (wd * 64)) B
theorem pg_mu_max (l : SL) : pg_mu B wd l ≤ wd * 64 * B := by
  refine pv_sm_le (c := wd * 64) (fun b => ?_) B
  have h := pv_sm_le (f := fun h => if pg_g l 6 wd b h = true then 1 else 0) (c := 1) (fun i => by by_cases h : pg_g l 6 wd b i = true <;> simp only [h, if_true, if_false] <;> decide) (wd * 64)
  omega
theorem pg_mu_lt {l l' : SL} (h : ∀ b h, b < B → h < wd * 64 → pg_g l 6 wd b h = true → pg_g l' 6 wd b h = true) (hx : ∃ b h, b < B ∧ h < wd * 64 ∧ pg_g l 6 wd b h = false ∧ pg_g l' 6 wd b h = true) : pg_mu B wd l < pg_mu B wd l' := by
  have h1 : ∀ b i, b < B → i < wd * 64 → (if pg_g l 6 wd b i = true then 1 else 0) ≤ (if pg_g l' 6 wd b i = true then 1 else 0) := fun b i hb hi => by
    by_cases e : pg_g l 6 wd b i = true
    · rw [if_pos e, if_pos (h b i hb hi e)]; exact Nat.le_refl 1
    · rw [if_neg e]; exact Nat.zero_le _
  obtain ⟨b, i, hb, hi, e1, e2⟩ := hx
  refine pg_sm_lt B (fun c hc => pg_sm_le _ fun j hj => h1 c j hc hj) ⟨b, hb, pg_sm_lt _ (fun j hj => h1 b j hb hj) ⟨i, hi, ?_⟩⟩
  show (if pg_g l 6 wd b i = true then 1 else 0) < (if pg_g l' 6 wd b i = true then 1 else 0)
  rw [e1, e2, if_pos rfl, if_neg (by decide)]
  exact Nat.zero_lt_one
/-- the word that is new -/
def pg_mo (l : SL) (wd c b j : Nat) : Int64 := (l 6 (c * wd + j) &&& (l 5 (b * wd + j) ^^^ ((-1) : Int64))) &&& (l 6 (b * wd + j) ^^^ ((-1) : Int64))
theorem pg_mo_bt (l : SL) (wd c b j : Nat) {i : Nat} (hi : i < 64) : pv_bt (pg_mo l wd c b j) i = (pv_bt (l 6 (c * wd + j)) i && !pv_bt (l 5 (b * wd + j)) i && !pv_bt (l 6 (b * wd + j)) i) := by
  unfold pg_mo
  rw [pv_bt_and, pv_bt_and, pg_bt_not _ hi, pg_bt_not _ hi]
/-- what goes from one block to the one ahead of it -/
def pg_sp (wd c b : Nat) (l l' : SL) : Prop :=
  (∀ r, r ≠ 6 → l' r = l r) ∧ ∀ b' h, h < wd * 64 → pg_g l' 6 wd b' h = (pg_g l 6 wd b' h || (decide (b' = b) && pg_g l 6 wd c h && !pg_g l 5 wd b h))
theorem pg_spreadInto (hw2 : w 0 2 = pu_I wd) (h5 : B * wd ≤ n 5) (h6 : B * wd ≤ n 6) (hn5 : n 5 < 1000000) (hn6 : n 6 < 1000000) (hB : B ≤ 60) {b c : Nat} (hb : b < B) (hc : c < B) (hwd : wd < 1000000) (l : SL) :
    ∃ v l', fX2_spreadInto n w l (pu_I c) (pu_I b) = some (v, l') ∧ pg_sp wd c b l l' ∧ ((v = 0 ∧ ∀ h, h < wd * 64 → pg_g l 6 wd c h = true → pg_g l 5 wd b h = false → pg_g l 6 wd b h = true) ∨ (v = 1 ∧ ∃ h, h < wd * 64 ∧ pg_g l 6 wd b h = false ∧ pg_g l' 6 wd b h = true)) := by
  have hx : ∀ x j, x < B → j < wd → x * wd + j < B * wd := fun x j h1 h2 => pg_ixlt h1 h2
  obtain ⟨t, e1, e2, e3, e4⟩ := pv_for (G := fun k i (t : Int32 × SL) => fX2_spreadInto_L11 n w (pu_I c) (pu_I b) k t.1 i t.2) (hi := wd)
    (Inv := fun i (t : Int32 × SL) => (∀ r, r ≠ 6 → t.2 r = l r) ∧ (∀ x j, j < wd → t.2 6 (x * wd + j) = if x = b ∧ j < i then l 6 (b * wd + j) ||| pg_mo l wd c b j else l 6 (x * wd + j)) ∧ ((t.1 = 0 ∧ ∀ j, j < i → pg_mo l wd c b j = 0) ∨ (t.1 = 1 ∧ ∃ j, j < wd ∧ pg_mo l wd c b j ≠ 0)))
    (Q := fun (t : Int32 × SL) => (∀ r, r ≠ 6 → t.2 r = l r) ∧ (∀ x j, j < wd → t.2 6 (x * wd + j) = if x = b ∧ j < wd then l 6 (b * wd + j) ||| pg_mo l wd c b j else l 6 (x * wd + j)) ∧ ((t.1 = 0 ∧ ∀ j, j < wd → pg_mo l wd c b j = 0) ∨ (t.1 = 1 ∧ ∃ j, j < wd ∧ pg_mo l wd c b j ≠ 0)))
    (fun k i t hi hI => by
      obtain ⟨i1, i2, i3⟩ := hI
      have hbi := hx b i hb hi
      have hci := hx c i hc hi
      have hmo : (t.2 6 (c * wd + i) &&& (t.2 5 (b * wd + i) ^^^ ((-1) : Int64))) &&& (t.2 6 (b * wd + i) ^^^ ((-1) : Int64)) = pg_mo l wd c b i := by
        unfold pg_mo
        rw [i1 5 (by decide), i2 b i hi, if_neg (fun h => by omega), i2 c i hi, if_neg (fun h => by omega)]
      obtain ⟨s, hs⟩ : ∃ s, s = upl t.2 6 (b * wd + i) (t.2 6 (b * wd + i) ||| pg_mo l wd c b i) := ⟨_, rfl⟩
      have hform : fX2_spreadInto_L11 n w (pu_I c) (pu_I b) (k + 1) t.1 (pu_I i) t.2 = fX2_spreadInto_L11 n w (pu_I c) (pu_I b) k (if t.1 = 0 then (if pg_mo l wd c b i = 0 then 0 else 1) else 1) (pu_I (i + 1)) s := by
        show (if (w 0 2) ≤ pu_I i then some (t.1, t.2) else (if ixb ((pu_I c * (w 0 2)) + pu_I i) (n 6) = true then (if ixb ((pu_I b * (w 0 2)) + pu_I i) (n 5) = true then (if ixb ((pu_I b * (w 0 2)) + pu_I i) (n 6) = true then (if ixb ((pu_I b * (w 0 2)) + pu_I i) (n 6) = true then (if ixb ((pu_I b * (w 0 2)) + pu_I i) (n 6) = true then (lt9 (upl t.2 6 (nn ((pu_I b * (w 0 2)) + pu_I i)) ((t.2 6 (nn ((pu_I b * (w 0 2)) + pu_I i))) ||| (((t.2 6 (nn ((pu_I c * (w 0 2)) + pu_I i))) &&& ((t.2 5 (nn ((pu_I b * (w 0 2)) + pu_I i))) ^^^ ((-1) : Int64))) &&& ((t.2 6 (nn ((pu_I b * (w 0 2)) + pu_I i))) ^^^ ((-1) : Int64))))) fun (l8 : SL) => (if t.1 = 0 then (if (lg_cmp (((t.2 6 (nn ((pu_I c * (w 0 2)) + pu_I i))) &&& ((t.2 5 (nn ((pu_I b * (w 0 2)) + pu_I i))) ^^^ ((-1) : Int64))) &&& ((t.2 6 (nn ((pu_I b * (w 0 2)) + pu_I i))) ^^^ ((-1) : Int64))) (0 : Int64)) = 0 then (fX2_spreadInto_J109 (fX2_spreadInto_L11 n w (pu_I c) (pu_I b) k) (pu_I i) l8 0) else (fX2_spreadInto_J104 (fX2_spreadInto_L11 n w (pu_I c) (pu_I b) k) (pu_I i) l8)) else (fX2_spreadInto_J104 (fX2_spreadInto_L11 n w (pu_I c) (pu_I b) k) (pu_I i) l8))) else none) else none) else none) else none) else none)) = _
        rw [hw2, if_neg (by rw [pu_le (by omega) (by omega)]; omega), pv_mul, pv_mul, pv_add, pv_add]
        have q1 : ixb (pu_I (c * wd + i)) (n 6) = true := (pu_ix (by omega)).mpr (by omega)
        have q2 : ixb (pu_I (b * wd + i)) (n 5) = true := (pu_ix (by omega)).mpr (by omega)
        have q3 : ixb (pu_I (b * wd + i)) (n 6) = true := (pu_ix (by omega)).mpr (by omega)
        rw [if_pos q1, if_pos q2, if_pos q3, if_pos q3, if_pos q3, pu_nn (show b * wd + i < 2147483648 by omega), pu_nn (show c * wd + i < 2147483648 by omega), hmo]
        unfold lt9
        rw [← hs]
        unfold fX2_spreadInto_J104 fX2_spreadInto_J109
        rw [pu_su]
        show (if t.1 = 0 then (if (lg_cmp (pg_mo l wd c b i) (0 : Int64)) = 0 then fX2_spreadInto_L11 n w (pu_I c) (pu_I b) k 0 (pu_I (i + 1)) s else fX2_spreadInto_L11 n w (pu_I c) (pu_I b) k 1 (pu_I (i + 1)) s) else fX2_spreadInto_L11 n w (pu_I c) (pu_I b) k 1 (pu_I (i + 1)) s) = _
        by_cases h0 : t.1 = 0
        · rw [if_pos h0, if_pos h0]
          by_cases h1 : pg_mo l wd c b i = 0
          · rw [if_pos ((pv_cmp0 _ _).mpr h1), if_pos h1]
          · rw [if_neg (fun h => h1 ((pv_cmp0 _ _).mp h)), if_neg h1]
        · rw [if_neg h0, if_neg h0]
      refine ⟨(if t.1 = 0 then (if pg_mo l wd c b i = 0 then 0 else 1) else 1, s), hform, fun r hr => ?_, fun x j hj => ?_, ?_⟩
      · show s r = l r
        rw [hs, pv_upl_n hr, i1 r hr]
      · show s 6 (x * wd + j) = _
        rw [hs, pv_upl]
        by_cases e : x * wd + j = b * wd + i
        · obtain ⟨e1, e2⟩ := pg_ix hj hi e
          rw [if_pos ⟨rfl, e⟩, if_pos ⟨e1, by omega⟩, i2 b i hi, if_neg (fun h => by omega), e2]
        · rw [if_neg fun h => e h.2, i2 x j hj]
          by_cases e1 : x = b ∧ j < i
          · rw [if_pos e1, if_pos ⟨e1.1, by omega⟩]
          · rw [if_neg e1, if_neg]
            rintro ⟨e2, e3⟩
            by_cases e4 : j = i
            · exact e (by rw [e2, e4])
            · exact e1 ⟨e2, by omega⟩
      · show ((if t.1 = 0 then (if pg_mo l wd c b i = 0 then 0 else 1) else 1) = (0 : Int32) ∧ _) ∨ ((if t.1 = 0 then (if pg_mo l wd c b i = 0 then 0 else 1) else 1) = (1 : Int32) ∧ _)
        rcases i3 with ⟨z1, z2⟩ | ⟨z1, z2⟩
        · rw [if_pos z1]
          by_cases h1 : pg_mo l wd c b i = 0
          · rw [if_pos h1]
            refine Or.inl ⟨rfl, fun j hj => ?_⟩
            by_cases e : j = i
            · rw [e]; exact h1
            · exact z2 j (by omega)
          · rw [if_neg h1]
            exact Or.inr ⟨rfl, i, hi, h1⟩
        · rw [if_neg (by rw [z1]; decide)]
          exact Or.inr ⟨rfl, z2⟩)
    (fun k t hI => ⟨t, by
      show (if (w 0 2) ≤ pu_I wd then some (t.1, t.2) else _) = _
      rw [hw2, if_pos (Int32.le_refl _)], hI⟩)
    wd 0 NF (0, l) (by omega) (by have := pv_NF; omega) ⟨fun _ _ => rfl, fun x j hj => by rw [if_neg (fun h => by omega)], Or.inl ⟨rfl, fun j hj => by omega⟩⟩
  have hsp : pg_sp wd c b l t.2 := by
    refine ⟨e2, fun b' h hh => ?_⟩
    unfold pg_g
    rw [e3 b' (h / 64) (by omega)]
    by_cases e : b' = b
    · rw [if_pos ⟨e, by omega⟩, pv_bt_or, pg_mo_bt _ _ _ _ _ (by omega), decide_eq_true e, e]
      cases pv_bt (l 6 (b * wd + h / 64)) (h % 64) <;> cases pv_bt (l 6 (c * wd + h / 64)) (h % 64) <;> cases pv_bt (l 5 (b * wd + h / 64)) (h % 64) <;> rfl
    · rw [if_neg fun h9 => e h9.1, decide_eq_false e]
      cases pv_bt (l 6 (b' * wd + h / 64)) (h % 64) <;> rfl
  refine ⟨t.1, t.2, ?_, hsp, ?_⟩
  · unfold fX2_spreadInto
    rw [if_pos (show (0 : Int32) ≤ pu_I c from (pu_le (a := 0) (by decide) (by omega)).mpr (Nat.zero_le _))]
    rw [show fX2_spreadInto_L11 n w (pu_I c) (pu_I b) NF 0 0 l = some t from e1, Option.bind_some, if_pos]
    rcases e4 with h | h
    · exact Or.inl h.1
    · exact Or.inr h.1
  · rcases e4 with ⟨z1, z2⟩ | ⟨z1, j, z2, z3⟩
    · refine Or.inl ⟨z1, fun h hh h1 h2 => ?_⟩
      have h3 := pg_mo_bt l wd c b (h / 64) (show h % 64 < 64 by omega)
      rw [z2 (h / 64) (by omega), pv_bt_0] at h3
      unfold pg_g at h1 h2 ⊢
      rw [h1, h2] at h3
      cases e : pv_bt (l 6 (b * wd + h / 64)) (h % 64) with
      | true => rfl
      | false => rw [e] at h3; cases h3
    · refine Or.inr ⟨z1, ?_⟩
      have h0 : ∃ i, i < 64 ∧ pv_bt (pg_mo l wd c b j) i = true := by
        refine Classical.byContradiction fun h => z3 (pv_bt_ext fun i hi => ?_)
        rw [pv_bt_0]
        cases e : pv_bt (pg_mo l wd c b j) i with
        | false => rfl
        | true => exact absurd ⟨i, hi, e⟩ h
      obtain ⟨i, i1, i2⟩ := h0
      have e64 : (j * 64 + i) / 64 = j := by omega
      have e65 : (j * 64 + i) % 64 = i := by omega
      have hh : j * 64 + i < wd * 64 := by omega
      rw [pg_mo_bt l wd c b j i1, Bool.and_eq_true, Bool.and_eq_true] at i2
      obtain ⟨⟨a1, a2⟩, a3⟩ := i2
      have g6b : pg_g l 6 wd b (j * 64 + i) = false := by
        unfold pg_g
        rw [e64, e65]
        cases e : pv_bt (l 6 (b * wd + j)) i with
        | false => rfl
        | true => rw [e] at a3; cases a3
      have g5b : pg_g l 5 wd b (j * 64 + i) = false := by
        unfold pg_g
        rw [e64, e65]
        cases e : pv_bt (l 5 (b * wd + j)) i with
        | false => rfl
        | true => rw [e] at a2; cases a2
      have g6c : pg_g l 6 wd c (j * 64 + i) = true := by
        unfold pg_g
        rw [e64, e65]
        exact a1
      refine ⟨j * 64 + i, hh, g6b, ?_⟩
      rw [hsp.2 b _ hh, g6b, g6c, g5b, decide_eq_true rfl]
      rfl
end SPR
