/-! pure side, bytes 1: pieces of a text and their tokens -/
section BYT
/-- bytes that are these tokens, ahead of whatever begins so -/
def lx_g (B : Int32 → Prop) (bs : List Int32) (ts : List Tok) : Prop := ∀ rest rts, B (lx_hd rest) → lx_s rest rts → lx_s (bs ++ rest) (ts ++ rts)
theorem lx_g_app {B1 B2 : Int32 → Prop} {b1 b2 : List Int32} {t1 t2 : List Tok} (h1 : lx_g B1 b1 t1) (h2 : lx_g B2 b2 t2) (hn : b2 ≠ []) (hb : B1 (lx_hd b2)) : lx_g B2 (b1 ++ b2) (t1 ++ t2) := by
  intro rest rts hB hr
  rw [List.append_assoc, List.append_assoc]
  refine h1 _ _ ?_ (h2 rest rts hB hr)
  cases b2 with
  | nil => exact absurd rfl hn
  | cons c cs => exact hb
theorem lx_g_mono {B1 B2 : Int32 → Prop} {bs : List Int32} {ts : List Tok} (h : lx_g B1 bs ts) (hB : ∀ c, B2 c → B1 c) : lx_g B2 bs ts := fun rest rts hb hr => h rest rts (hB _ hb) hr
theorem lx_g_nil {B : Int32 → Prop} : lx_g B [] [] := fun _ _ _ hr => hr
/-- one token -/
theorem lx_g_1 {B : Int32 → Prop} {core : List Int32} {t : Tok} (h : ∀ rest, B (lx_hd rest) → lx_t core rest t) : lx_g B core [t] := fun rest rts hB hr => ⟨[], core, rest, rfl, fun c hc => (by cases hc), h rest hB, hr⟩
/-- no letter, no digit -/
def lx_na (c : Int32) : Prop := ¬ lx_al c
/-- nothing that makes a sign longer -/
def lx_ns (c : Int32) : Prop := c ≠ 61 ∧ c ≠ 60 ∧ c ≠ 62 ∧ c ≠ 38 ∧ c ≠ 124
theorem lx_g_wd {core : List Int32} {t : Tok} (h1 : core ≠ []) (h2 : 97 ≤ lx_hd core ∧ lx_hd core ≤ 122) (h3 : ∀ x, x ∈ core → lx_al x) (h4 : core.length ≤ 8) (h5 : t.1 = lx_kw (lx_nm 0 core)) (h6 : t.1 = 3 → t.2.2 = lx_nm 0 core) : lx_g lx_na core [t] :=
  lx_g_1 fun rest hB => Or.inl (by
    cases core with
    | nil => exact absurd rfl h1
    | cons c cs => exact ⟨c, cs, rfl, h2, h3, hB, h4, h5, h6⟩)
theorem lx_g_fg {core : List Int32} (h1 : core ≠ []) (h3 : ∀ x, x ∈ core → 48 ≤ x ∧ x ≤ 57) (h4 : core.length ≤ 9) : lx_g lx_na core [(2, lx_fg 0 core, 0)] :=
  lx_g_1 fun rest hB => Or.inr (Or.inl (by
    cases core with
    | nil => exact absurd rfl h1
    | cons c cs => exact ⟨c, cs, rfl, h3, fun q => hB (Or.inr q), h4, rfl⟩))
/-- a sign of one byte -/
theorem lx_g_s1 {c : Int32} (h : ¬ lx_al c ∧ c ≠ 32 ∧ c ≠ 10 ∧ 0 ≤ c ∧ c < 128 ∧ ¬ sx_ix c < 0) : lx_g lx_ns [c] [(c, 0, 0)] :=
  lx_g_1 fun rest hB => Or.inr (Or.inr (Or.inl ⟨c, rfl, h.1, h.2.1, h.2.2.1, h.2.2.2.1, h.2.2.2.2.1, fun q => by
    rcases q.2 with e | e | e | e
    · exact hB.2.1 (q.1.trans e)
    · exact hB.2.2.1 (q.1.trans e)
    · exact hB.2.2.2.1 (q.1.trans e)
    · exact hB.2.2.2.2 (q.1.trans e), fun q => hB.1 q.1, h.2.2.2.2.2, rfl⟩))
/-- a sign that nothing makes longer -/
theorem lx_g_s0 {c : Int32} (h : ¬ lx_al c ∧ c ≠ 32 ∧ c ≠ 10 ∧ 0 ≤ c ∧ c < 128 ∧ ¬ sx_ix c < 0) (h2 : c ≠ 60 ∧ c ≠ 62 ∧ c ≠ 38 ∧ c ≠ 124 ∧ c ≠ 61 ∧ c ≠ 33) : lx_g (fun _ => True) [c] [(c, 0, 0)] :=
  lx_g_1 fun rest _ => Or.inr (Or.inr (Or.inl ⟨c, rfl, h.1, h.2.1, h.2.2.1, h.2.2.2.1, h.2.2.2.2.1, fun q => by
    rcases q.2 with e | e | e | e
    · exact h2.1 e
    · exact h2.2.1 e
    · exact h2.2.2.1 e
    · exact h2.2.2.2.1 e, fun q => by
    rcases q.2 with e | e | e | e
    · exact h2.1 e
    · exact h2.2.1 e
    · exact h2.2.2.2.2.1 e
    · exact h2.2.2.2.2.2 e, h.2.2.2.2.2, rfl⟩))
theorem lx_g_s2 {c : Int32} (h : c = 60 ∨ c = 62 ∨ c = 38 ∨ c = 124) : lx_g (fun _ => True) [c, c] [(256 + c, 0, 0)] := lx_g_1 fun rest _ => Or.inr (Or.inr (Or.inr (Or.inl ⟨c, rfl, h, rfl⟩)))
theorem lx_g_s3 {c : Int32} (h : c = 60 ∨ c = 62 ∨ c = 61 ∨ c = 33) : lx_g (fun _ => True) [c, 61] [(512 + c, 0, 0)] := lx_g_1 fun rest _ => Or.inr (Or.inr (Or.inr (Or.inr ⟨c, rfl, h, rfl⟩)))
/-- a blank -/
theorem lx_g_bl {B : Int32 → Prop} {bs : List Int32} {t : Tok} {ts : List Tok} (h : lx_g B bs (t :: ts)) : lx_g B (32 :: bs) (t :: ts) := by
  intro rest rts hB hr
  obtain ⟨bl, core, r2, e1, e2, e3, e4⟩ := h rest rts hB hr
  refine ⟨32 :: bl, core, r2, ?_, fun c hc => ?_, e3, e4⟩
  · show 32 :: (bs ++ rest) = 32 :: (bl ++ (core ++ r2))
    rw [e1]
  · rcases List.mem_cons.mp hc with e | e
    · exact Or.inl e
    · exact e2 c e
end BYT
