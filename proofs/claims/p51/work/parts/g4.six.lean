/-! where a sign stands: String.indexOf over the row of signs; literals by their number -/
def litN (i : Nat) : Nat := (litL.getD i ("", 0, "", [])).2.2.2.length
def litB (i : Nat) : RI := fun j => (litL.getD i ("", 0, "", [])).2.2.2.getD j 0
theorem st9_q {aK aV : Nat → Nat} {A : Nat → Prop} {U : State} {H : Heap} (h : st9 aK aV A U H) (i : Nat) (q : String × Nat × String × List Int32) (hq : litL[i]? = some q) : sq9 (aK i) (aV i) (litN i) (litB i) A U H := by
  have h1 := (h i q hq).1
  have e : litL.getD i ("", 0, "", []) = q := by rw [List.getD_eq_getElem?_getD, hq]; rfl
  unfold litN litB
  rw [e]
  exact h1
theorem sx_lit0 : litN 0 = 20 ∧ ∀ j, litB 0 j = sx_bytes.getD j 0 := ⟨rfl, fun _ => rfl⟩
theorem sx_b8 : ∀ b ∈ sx_bytes, 0 ≤ b ∧ b < 128 := by decide
theorem sx_i8 {b c : Int32} (hb : 0 ≤ b ∧ b < 128) (h0 : ¬ c < 0) (h1 : ¬ 255 < c) : b = (c : Int32).toInt8.toInt32 ↔ b = c := by
  have e0 : 0 ≤ b.toInt := by have := Int32.le_iff_toInt_le.mp hb.1; simpa using this
  have e1 : b.toInt < 128 := by have := Int32.lt_iff_toInt_lt.mp hb.2; simpa using this
  have e2 : 0 ≤ c.toInt := by have : ¬ c.toInt < (0 : Int32).toInt := fun q => h0 (Int32.lt_iff_toInt_lt.mpr q); simp at this; omega
  have e3 : c.toInt ≤ 255 := by have : ¬ (255 : Int32).toInt < c.toInt := fun q => h1 (Int32.lt_iff_toInt_lt.mpr q); simp at this; omega
  have e5 : Int.bmod c.toInt 256 = if c.toInt < 128 then c.toInt else c.toInt - 256 := by
    show (if c.toInt % 256 < 128 then c.toInt % 256 else c.toInt % 256 - 256) = _
    rw [Int.emod_eq_of_lt e2 (by omega)]
  have e4 : c.toInt8.toInt32.toInt = Int.bmod c.toInt 256 := by rw [Int8.toInt_toInt32, Int32.toInt_toInt8]
  constructor
  · intro h
    apply Int32.toInt.inj
    have h2 : b.toInt = Int.bmod c.toInt 256 := by rw [← e4, ← h]
    rw [e5] at h2
    by_cases q : c.toInt < 128
    · rw [if_pos q] at h2; exact h2
    · rw [if_neg q] at h2; omega
  · intro h
    apply Int32.toInt.inj
    rw [e4, h]
    rw [h] at e1
    rw [e5, if_pos e1]
theorem sx_nn {k : Nat} (h : k < 21) : nn (Int32.ofNat k) = k ∧ (Int32.ofNat k) + 1 = Int32.ofNat (k + 1) ∧ ((20 : Int32) ≤ Int32.ofNat k ↔ k = 20) ∧ (ixb (Int32.ofNat k) 20 = true ↔ k < 20) ∧ ¬ Int32.ofNat k < 0 := by
  have : ∀ k : Fin 21, nn (Int32.ofNat k.val) = k.val ∧ (Int32.ofNat k.val) + 1 = Int32.ofNat (k.val + 1) ∧ ((20 : Int32) ≤ Int32.ofNat k.val ↔ k.val = 20) ∧ (ixb (Int32.ofNat k.val) 20 = true ↔ k.val < 20) ∧ ¬ Int32.ofNat k.val < 0 := by decide +kernel
  exact this ⟨k, h⟩
theorem sx_loop {c : Int32} (h0 : ¬ c < 0) (h1 : ¬ 255 < c) : ∀ (l : List Int32) (k n : Nat), sx_bytes.drop k = l → k + l.length = 20 → l.length < n →
    ∃ r, fJ1_indexOfChar_4cfef_L7 20 (litB 0) c 20 n (Int32.ofNat k) = some r ∧ Sum.elim (fun x => x) (fun _ => -1) r = sx_ixF c l k := by
  intro l
  induction l with
  | nil =>
    intro k n hd hk hn
    obtain ⟨m, rfl⟩ : ∃ m, n = m + 1 := ⟨n - 1, by simp at hn; omega⟩
    have hk' : k = 20 := by simpa using hk
    refine ⟨Sum.inr (), ?_, rfl⟩
    show (if _ then _ else _) = _
    rw [if_pos ((sx_nn (by omega)).2.2.1.mpr hk')]
  | cons b l ih =>
    intro k n hd hk hn
    obtain ⟨m, rfl⟩ : ∃ m, n = m + 1 := ⟨n - 1, by simp at hn; omega⟩
    have hk2 : k + l.length = 19 := by simp at hk; omega
    have hs := sx_nn (k := k) (by omega)
    have hg : litB 0 k = b := by
      rw [sx_lit0.2, List.getD_eq_getElem?_getD]
      have : sx_bytes[k]? = some b := by have e := congrArg (fun z => z[0]?) hd; simpa using e
      rw [this]; rfl
    have hm : b ∈ sx_bytes := by
      have e := List.mem_of_mem_drop (i := k) (l := sx_bytes) (a := b) (by rw [hd]; exact List.mem_cons_self)
      exact e
    have hi := sx_i8 (sx_b8 b hm) h0 h1
    have hd2 : sx_bytes.drop (k + 1) = l := by rw [← List.drop_drop, hd]; rfl
    obtain ⟨r, hr, hr2⟩ := ih (k + 1) m hd2 (by omega) (by simp at hn; omega)
    by_cases hb : b = c
    · refine ⟨Sum.inl (Int32.ofNat k), ?_, ?_⟩
      · show (if _ then _ else (if _ then (if litB 0 (nn (Int32.ofNat k)) = _ then _ else _) else _)) = _
        rw [if_neg (fun q => by have := hs.2.2.1.mp q; omega), if_pos (hs.2.2.2.1.mpr (by omega)), hs.1, hg, if_pos (hi.mpr hb)]
      · show Int32.ofNat k = (if b = c then _ else _)
        rw [if_pos hb]
    · refine ⟨r, ?_, ?_⟩
      · show (if _ then _ else (if _ then (if litB 0 (nn (Int32.ofNat k)) = _ then _ else fJ1_indexOfChar_4cfef_L7 20 (litB 0) c 20 m (Int32.ofNat k + 1)) else _)) = _
        rw [if_neg (fun q => by have := hs.2.2.1.mp q; omega), if_pos (hs.2.2.2.1.mpr (by omega)), hs.1, hg, if_neg (fun q => hb (hi.mp q)), hs.2.1]
        exact hr
      · show _ = (if b = c then _ else _)
        rw [if_neg hb]; exact hr2
theorem sx_ixN {c : Int32} (h : c < 0 ∨ 255 < c) : sx_ix c = -1 := by
  have : ∀ (l : List Int32) (k : Nat), (∀ b ∈ l, 0 ≤ b ∧ b < 128) → sx_ixF c l k = -1 := by
    intro l
    induction l with
    | nil => intro k _; rfl
    | cons b l ih =>
      intro k hb
      have h1 := hb b List.mem_cons_self
      have hne : ¬ b = c := by
        intro e
        subst e
        have a0 := Int32.le_iff_toInt_le.mp h1.1
        have a1 := Int32.lt_iff_toInt_lt.mp h1.2
        rcases h with h | h
        · have a2 := Int32.lt_iff_toInt_lt.mp h; omega
        · have a2 := Int32.lt_iff_toInt_lt.mp h; simp at a1 a2; omega
      show (if b = c then _ else _) = _
      rw [if_neg hne]
      exact ih (k + 1) fun x hx => hb x (List.mem_cons_of_mem _ hx)
  exact this _ 0 sx_b8
theorem sx_ixok (c : Int32) : fJ0_indexOf_0f7a4 (litN 0) (litB 0) c = some (sx_ix c) := by
  have hlen : fJ0_length_8abf5 20 = some 20 := by decide
  have hlat : fJ0_isLatin1_aae02 = some 1 := by decide
  have key : fJ1_indexOf_4cfef 20 (litB 0) c 0 20 = some (sx_ix c) := by
    unfold fJ1_indexOf_4cfef fJ1_canEncode_9a6ad
    by_cases h0 : c < 0
    · rw [if_pos h0, sx_ixN (Or.inl h0)]; rfl
    · rw [if_neg h0]
      by_cases h1 : 255 < c
      · rw [if_pos h1, sx_ixN (Or.inr h1)]; rfl
      · rw [if_neg h1]
        obtain ⟨r, hr, hr2⟩ := sx_loop h0 h1 sx_bytes 0 NF rfl rfl (by decide)
        have e : fJ1_indexOfChar_4cfef 20 (litB 0) c 0 20 = some (sx_ix c) := by
          unfold fJ1_indexOfChar_4cfef
          rw [show fJ1_indexOfChar_4cfef_L7 20 (litB 0) c 20 NF 0 = some r from hr, Option.bind_some]
          rcases r with r | r
          · exact congrArg some hr2
          · exact congrArg some hr2
        show ((fJ1_indexOfChar_4cfef 20 (litB 0) c 0 20).bind fun o_5 => some o_5) = _
        rw [e]; rfl
  show ((fJ0_isLatin1_aae02.bind fun o_1 => (if o_1 = 0 then ((fJ0_length_8abf5 20).bind fun o_4 => none) else ((fJ0_length_8abf5 20).bind fun o_6 => ((fJ1_indexOf_4cfef 20 (litB 0) c 0 o_6).bind fun o_8 => (fJ0_indexOf_7cf53_J36 o_8))))).bind fun o_1 => some o_1) = _
  rw [hlat, Option.bind_some, if_neg (by decide), hlen, Option.bind_some, key]
  rfl
