/-! pure side, the reader 7: tokens -/
section LEX
def lx_hd : List Int32 → Int32
  | [] => 0
  | c :: _ => c
/-- a letter or a digit -/
def lx_al (c : Int32) : Prop := (97 ≤ c ∧ c ≤ 122) ∨ (48 ≤ c ∧ c ≤ 57)
/-- the bytes that are left on the tape -/
def tk_b (tw : ST) (bs : List Int32) : Prop := ∃ p, tw 0 6 = pu_I p ∧ tw 0 1 = pu_I (p + bs.length) ∧ p + bs.length ≤ 1200 ∧ ∀ k c, bs[k]? = some c → tw 1 (p + k) = c
theorem tk_b_up {tw : ST} {bs : List Int32} {j : Nat} {v : Int32} (h : tk_b tw bs) (h1 : j ≠ 1) (h6 : j ≠ 6) : tk_b (upw tw 0 j v) bs := by
  obtain ⟨p, a, b, c, d⟩ := h
  exact ⟨p, by rw [pv_upw, if_neg (by omega)]; exact a, by rw [pv_upw, if_neg (by omega)]; exact b, c, fun k x hx => by rw [pv_upw_n (by decide)]; exact d k x hx⟩
theorem tk_b_0 {tw : ST} (h : tk_b tw []) : tw 0 1 ≤ tw 0 6 := by
  obtain ⟨p, a, b, c, d⟩ := h
  rw [a, b]
  exact Int32.le_refl _
theorem tk_b_h {tw : ST} {c : Int32} {bs : List Int32} (h : tk_b tw (c :: bs)) : ixb (tw 0 6) 1200 = true ∧ tw 1 (nn (tw 0 6)) = c ∧ ¬ tw 0 1 ≤ tw 0 6 ∧ tw 0 6 < tw 0 1 := by
  obtain ⟨p, a, b, e, d⟩ := h
  rw [List.length_cons] at b e
  have h0 := d 0 c rfl
  rw [a, b]
  exact ⟨(pu_ix (by omega)).mpr (by omega), by rw [pu_nn (by omega)]; exact h0, by rw [pu_le (by omega) (by omega)]; omega, (pu_lt (by omega) (by omega)).mpr (by omega)⟩
theorem tk_b_s {tw : ST} {c : Int32} {bs : List Int32} (h : tk_b tw (c :: bs)) : tk_b (upw tw 0 6 (tw 0 6 + 1)) bs := by
  obtain ⟨p, a, b, e, d⟩ := h
  rw [List.length_cons] at b e
  refine ⟨p + 1, by rw [pv_upw, if_pos ⟨rfl, rfl⟩, a, pu_su], by rw [pv_upw, if_neg (by decide), b]; congr 1; omega, by omega, fun k x hx => ?_⟩
  rw [pv_upw_n (by decide), show p + 1 + k = p + (k + 1) by omega]
  exact d (k + 1) x hx
/-- what reading leaves -/
def tk_k (tw tw' : ST) : Prop := (∀ r, r ≠ 0 → tw' r = tw r) ∧ tw' 0 1 = tw 0 1
/-- how far reading came -/
def tk_f (tw tw' : ST) (m : Nat) : Prop := ∃ p, tw 0 6 = pu_I p ∧ tw' 0 6 = pu_I (p + m) ∧ p + m ≤ 1200
/-- blanks -/
theorem tk_L0 : ∀ (bl rest : List Int32) (k : Nat) (tw : ST), bl.length < k → (∀ c, c ∈ bl → c = 32 ∨ c = 10) → (lx_hd rest ≠ 32 ∧ lx_hd rest ≠ 10) → tk_b tw (bl ++ rest) →
    ∃ tw', fX10_advance_L0 k tw = some tw' ∧ tk_b tw' rest ∧ tk_k tw tw' ∧ ∀ j, j ≠ 6 → tw' 0 j = tw 0 j := by
  intro bl
  induction bl with
  | nil =>
    intro rest k tw hk _ hr hb
    obtain ⟨k', rfl⟩ : ∃ k', k = k' + 1 := ⟨k - 1, by omega⟩
    refine ⟨tw, ?_, hb, ⟨fun _ _ => rfl, rfl⟩, fun _ _ => rfl⟩
    cases rest with
    | nil =>
      show (if (tw 0 1) ≤ (tw 0 6) then some tw else _) = _
      rw [if_pos (tk_b_0 hb)]
    | cons c rest =>
      obtain ⟨h1, h2, h3, _⟩ := tk_b_h hb
      show (if (tw 0 1) ≤ (tw 0 6) then some tw else (if ixb (tw 0 6) 1200 = true then (if (tw 1 (nn (tw 0 6))) = 32 then _ else (if ixb (tw 0 6) 1200 = true then (if (tw 1 (nn (tw 0 6))) = 10 then _ else some tw) else none)) else none)) = _
      have hr1 : c ≠ 32 := hr.1
      have hr2 : c ≠ 10 := hr.2
      rw [if_neg h3, if_pos h1, h2, if_neg hr1, if_pos h1, if_neg hr2]
  | cons b bl ih =>
    intro rest k tw hk hbl hr hb
    obtain ⟨k', rfl⟩ : ∃ k', k = k' + 1 := ⟨k - 1, by omega⟩
    rw [List.length_cons] at hk
    obtain ⟨h1, h2, h3, _⟩ := tk_b_h hb
    obtain ⟨tw', e1, e2, e3, e4⟩ := ih rest k' (upw tw 0 6 (tw 0 6 + 1)) (by omega) (fun c hc => hbl c (List.mem_cons_of_mem _ hc)) hr (tk_b_s hb)
    refine ⟨tw', ?_, e2, ⟨fun r hr => by rw [e3.1 r hr, pv_upw_n hr], by rw [e3.2, pv_upw, if_neg (by decide)]⟩, fun j hj => by rw [e4 j hj, pv_upw, if_neg (by omega)]⟩
    show (if (tw 0 1) ≤ (tw 0 6) then some tw else (if ixb (tw 0 6) 1200 = true then (if (tw 1 (nn (tw 0 6))) = 32 then (fX10_advance_J39 (fX10_advance_L0 k') tw) else (if ixb (tw 0 6) 1200 = true then (if (tw 1 (nn (tw 0 6))) = 10 then (fX10_advance_J39 (fX10_advance_L0 k') tw) else some tw) else none)) else none)) = _
    rw [if_neg h3, if_pos h1, h2]
    have hJ : fX10_advance_J39 (fX10_advance_L0 k') tw = some tw' := e1
    rcases hbl b List.mem_cons_self with h | h
    · rw [if_pos h, hJ]
    · rw [if_neg (by rw [h]; decide), if_pos h1, if_pos h, hJ]
def lx_nm (x : Int64) : List Int32 → Int64
  | [] => x
  | c :: cs => lx_nm (x * 256 + c.toInt64) cs
def lx_fg (x : Int32) : List Int32 → Int32
  | [] => x
  | c :: cs => lx_fg (x * 10 + (c - 48)) cs
theorem lx_le {a b : Int32} : ¬ a < b ↔ b ≤ a := Int32.not_lt
theorem lx_lt {a b : Int32} : ¬ a ≤ b ↔ b < a := Int32.not_le
/-- the letters and digits of a word -/
theorem tk_L15 : ∀ (cs rest : List Int32) (k : Nat) (tw : ST) (tl : SL), cs.length < k → (∀ c, c ∈ cs → lx_al c) → ¬ lx_al (lx_hd rest) → tk_b tw (cs ++ rest) →
    ∃ tw' tl', fX10_readWord_L15 k (lx_hd (cs ++ rest)) tw tl = some (tw', tl') ∧ tk_b tw' rest ∧ tk_k tw tw' ∧ (∀ j, j ≠ 6 → tw' 0 j = tw 0 j) ∧ tl' 0 5 = lx_nm (tl 0 5) cs ∧ (∀ r, r ≠ 0 → tl' r = tl r) := by
  intro cs
  induction cs with
  | nil =>
    intro rest k tw tl hk _ hr hb
    obtain ⟨k', rfl⟩ : ∃ k', k = k' + 1 := ⟨k - 1, by omega⟩
    refine ⟨tw, tl, ?_, hb, ⟨fun _ _ => rfl, rfl⟩, fun _ _ => rfl, rfl, fun _ _ => rfl⟩
    rw [List.nil_append]
    generalize lx_hd rest = v at hr
    show (if v < 97 then (fX10_readWord_J27 (fX10_readWord_L15 k') v tw tl) else (if v ≤ 122 then (fX10_readWord_J39 (fX10_readWord_L15 k') v tw tl) else (fX10_readWord_J27 (fX10_readWord_L15 k') v tw tl))) = _
    have hJ : fX10_readWord_J27 (fX10_readWord_L15 k') v tw tl = some (tw, tl) := by
      unfold fX10_readWord_J27
      by_cases h1 : v < 48
      · rw [if_pos h1]
      · rw [if_neg h1]
        by_cases h2 : 57 < v
        · rw [if_pos h2]
        · exact absurd (Or.inr ⟨lx_le.mp h1, lx_le.mp h2⟩) hr
    by_cases h1 : v < 97
    · rw [if_pos h1, hJ]
    · rw [if_neg h1]
      by_cases h2 : v ≤ 122
      · exact absurd (Or.inl ⟨lx_le.mp h1, h2⟩) hr
      · rw [if_neg h2, hJ]
  | cons c cs ih =>
    intro rest k tw tl hk hcs hr hb
    obtain ⟨k', rfl⟩ : ∃ k', k = k' + 1 := ⟨k - 1, by omega⟩
    rw [List.length_cons] at hk
    have hb2 : tk_b (upw tw 0 6 (tw 0 6 + 1)) (cs ++ rest) := tk_b_s hb
    obtain ⟨tw', tl', e1, e2, e3, e4, e5, e6⟩ := ih rest k' (upw tw 0 6 (tw 0 6 + 1)) (upl tl 0 5 (tl 0 5 * 256 + c.toInt64)) (by omega) (fun c hc => hcs c (List.mem_cons_of_mem _ hc)) hr hb2
    have hul : upl tl 0 5 (tl 0 5 * 256 + c.toInt64) 0 5 = tl 0 5 * 256 + c.toInt64 := by
      unfold upl
      rw [if_pos rfl]
      exact if_pos rfl
    refine ⟨tw', tl', ?_, e2, ⟨fun r hr => by rw [e3.1 r hr, pv_upw_n hr], by rw [e3.2, pv_upw, if_neg (by decide)]⟩, fun j hj => by rw [e4 j hj, pv_upw, if_neg (by omega)], by rw [e5, hul]; rfl, fun r hr => by rw [e6 r hr]; unfold upl; rw [if_neg hr]⟩
    have hJ : fX10_readWord_J39 (fX10_readWord_L15 k') c tw tl = some (tw', tl') := by
      unfold fX10_readWord_J39 fX10_readWord_J88 lt9
      dsimp only
      cases hcr : cs ++ rest with
      | nil =>
        rw [hcr] at hb2 e1
        rw [if_pos (tk_b_0 hb2)]
        exact e1
      | cons d ds =>
        rw [hcr] at hb2 e1
        obtain ⟨h1, h2, h3, _⟩ := tk_b_h hb2
        rw [if_neg h3, if_pos h1, h2]
        exact e1
    show (if c < 97 then (fX10_readWord_J27 (fX10_readWord_L15 k') c tw tl) else (if c ≤ 122 then (fX10_readWord_J39 (fX10_readWord_L15 k') c tw tl) else (fX10_readWord_J27 (fX10_readWord_L15 k') c tw tl))) = _
    rcases hcs c List.mem_cons_self with ⟨h1, h2⟩ | ⟨h1, h2⟩
    · rw [if_neg (lx_le.mpr h1), if_pos h2, hJ]
    · rw [if_pos (Int32.lt_of_le_of_lt h2 (by decide))]
      unfold fX10_readWord_J27
      rw [if_neg (lx_le.mpr h1), if_neg (lx_le.mpr h2), hJ]
/-- the digits of a number -/
theorem tk_L5 : ∀ (cs rest : List Int32) (k : Nat) (tw : ST), cs.length < k → (∀ c, c ∈ cs → 48 ≤ c ∧ c ≤ 57) → ¬ (48 ≤ lx_hd rest ∧ lx_hd rest ≤ 57) → tk_b tw (cs ++ rest) →
    ∃ tw', fX10_readFigure_L5 k tw = some tw' ∧ tk_b tw' rest ∧ tk_k tw tw' ∧ (∀ j, j ≠ 6 → j ≠ 4 → tw' 0 j = tw 0 j) ∧ tw' 0 4 = lx_fg (tw 0 4) cs := by
  intro cs
  induction cs with
  | nil =>
    intro rest k tw hk _ hr hb
    obtain ⟨k', rfl⟩ : ∃ k', k = k' + 1 := ⟨k - 1, by omega⟩
    refine ⟨tw, ?_, hb, ⟨fun _ _ => rfl, rfl⟩, fun _ _ _ => rfl, rfl⟩
    cases rest with
    | nil =>
      show (if (tw 0 1) ≤ (tw 0 6) then some tw else _) = _
      rw [if_pos (tk_b_0 hb)]
    | cons c rest =>
      obtain ⟨h1, h2, h3, _⟩ := tk_b_h hb
      show (if (tw 0 1) ≤ (tw 0 6) then some tw else (if ixb (tw 0 6) 1200 = true then (if (tw 1 (nn (tw 0 6))) < 48 then some tw else (if ixb (tw 0 6) 1200 = true then (if 57 < (tw 1 (nn (tw 0 6))) then some tw else _) else none)) else none)) = _
      rw [if_neg h3, if_pos h1, h2]
      by_cases h4 : c < 48
      · rw [if_pos h4]
      · rw [if_neg h4, if_pos h1]
        by_cases h5 : 57 < c
        · rw [if_pos h5]
        · exact absurd ⟨lx_le.mp h4, lx_le.mp h5⟩ hr
  | cons c cs ih =>
    intro rest k tw hk hcs hr hb
    obtain ⟨k', rfl⟩ : ∃ k', k = k' + 1 := ⟨k - 1, by omega⟩
    rw [List.length_cons] at hk
    obtain ⟨h1, h2, h3, _⟩ := tk_b_h hb
    obtain ⟨hc1, hc2⟩ := hcs c List.mem_cons_self
    have hb4 : tk_b (upw tw 0 4 (tw 0 4 * 10 + (c - 48))) (c :: (cs ++ rest)) := tk_b_up hb (by decide) (by decide)
    obtain ⟨tw', e1, e2, e3, e4, e5⟩ := ih rest k' (upw (upw tw 0 4 (tw 0 4 * 10 + (c - 48))) 0 6 (upw tw 0 4 (tw 0 4 * 10 + (c - 48)) 0 6 + 1)) (by omega) (fun c hc => hcs c (List.mem_cons_of_mem _ hc)) hr (tk_b_s hb4)
    refine ⟨tw', ?_, e2, ⟨fun r hr => by rw [e3.1 r hr, pv_upw_n hr, pv_upw_n hr], by rw [e3.2, pv_upw, if_neg (by decide), pv_upw, if_neg (by decide)]⟩, fun j hj hj4 => by rw [e4 j hj hj4, pv_upw, if_neg (by omega), pv_upw, if_neg (by omega)], by rw [e5, pv_upw, if_neg (by decide), pv_upw, if_pos ⟨rfl, rfl⟩]; rfl⟩
    show (if (tw 0 1) ≤ (tw 0 6) then some tw else (if ixb (tw 0 6) 1200 = true then (if (tw 1 (nn (tw 0 6))) < 48 then some tw else (if ixb (tw 0 6) 1200 = true then (if 57 < (tw 1 (nn (tw 0 6))) then some tw else (if ixb (tw 0 6) 1200 = true then (lt9 (upw tw 0 4 (((tw 0 4) * 10) + ((tw 1 (nn (tw 0 6))) - 48))) fun (w8 : ST) => (lt9 (upw w8 0 6 ((w8 0 6) + 1)) fun (w9 : ST) => ((fX10_readFigure_L5 k') w9))) else none)) else none)) else none)) = _
    rw [if_neg h3, if_pos h1, h2, if_neg (lx_le.mpr hc1), if_pos h1, if_neg (lx_le.mpr hc2), if_pos h1]
    exact e1
end LEX
