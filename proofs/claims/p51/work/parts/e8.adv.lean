/-! pure side, the reader 8: from token to token -/
section ADV
/-- the kind of a word -/
def lx_kw (n : Int64) : Int32 := if n = 422826041707 then 4 else if n = 7165066978433856869 then 5 else if n = 1701606245 then 6 else if n = 6714734 then 7 else if n = 26982 then 8 else if n = 125780071117422 then 9 else if n = 7758194 then 10 else if n = 512852847717 then 11 else 3
theorem lx_kw_e (n : Int64) : fX10_kindOfWord n = some (lx_kw n) := by
  unfold fX10_kindOfWord fX10_kindOfWord_J89 lx_kw
  simp only [pv_cmp0]
  repeat' split
  all_goals rfl
/-- a token: its kind, its number, its name -/
abbrev Tok := Int32 × Int32 × Int64
/-- core is a token, ahead of rest -/
def lx_t (core rest : List Int32) (t : Tok) : Prop :=
  (∃ c cs, core = c :: cs ∧ (97 ≤ c ∧ c ≤ 122) ∧ (∀ x, x ∈ core → lx_al x) ∧ ¬ lx_al (lx_hd rest) ∧ core.length ≤ 8 ∧ t.1 = lx_kw (lx_nm 0 core) ∧ (t.1 = 3 → t.2.2 = lx_nm 0 core)) ∨
  (∃ c cs, core = c :: cs ∧ (∀ x, x ∈ core → 48 ≤ x ∧ x ≤ 57) ∧ ¬ (48 ≤ lx_hd rest ∧ lx_hd rest ≤ 57) ∧ core.length ≤ 9 ∧ t = (2, lx_fg 0 core, 0)) ∨
  (∃ c, core = [c] ∧ ¬ lx_al c ∧ c ≠ 32 ∧ c ≠ 10 ∧ 0 ≤ c ∧ c < 128 ∧ ¬ (lx_hd rest = c ∧ (c = 60 ∨ c = 62 ∨ c = 38 ∨ c = 124)) ∧ ¬ (lx_hd rest = 61 ∧ (c = 60 ∨ c = 62 ∨ c = 61 ∨ c = 33)) ∧ ¬ sx_ix c < 0 ∧ t = (c, 0, 0)) ∨
  (∃ c, core = [c, c] ∧ (c = 60 ∨ c = 62 ∨ c = 38 ∨ c = 124) ∧ t = (256 + c, 0, 0)) ∨
  (∃ c, core = [c, 61] ∧ (c = 60 ∨ c = 62 ∨ c = 61 ∨ c = 33) ∧ t = (512 + c, 0, 0))
/-- bytes are tokens, with blanks ahead of them and behind them -/
def lx_s : List Int32 → List Tok → Prop
  | bs, [] => ∀ c, c ∈ bs → c = 32 ∨ c = 10
  | bs, t :: ts => ∃ bl core rest, bs = bl ++ (core ++ rest) ∧ (∀ c, c ∈ bl → c = 32 ∨ c = 10) ∧ lx_t core rest t ∧ lx_s rest ts
/-- where the reader is: ts are the token that it looks at and those behind it -/
def tk_s (tw : ST) (tl : SL) : List Tok → Prop
  | [] => tw 0 2 = 0
  | t :: ts => (tw 0 2 = t.1 ∧ (t.1 = 2 → tw 0 4 = t.2.1) ∧ (t.1 = 3 → tl 0 5 = t.2.2)) ∧ ∃ bs k, tk_b tw bs ∧ lx_s bs ts ∧ tw 0 7 = pu_I k ∧ k + ts.length ≤ 600
theorem lx_t_hd {core rest : List Int32} {t : Tok} (h : lx_t core rest t) : ∃ c cs, core = c :: cs ∧ c ≠ 32 ∧ c ≠ 10 := by
  rcases h with ⟨c, cs, h, ⟨h1, h2⟩, _⟩ | ⟨c, cs, h, h1, _⟩ | ⟨c, h, _, h1, h2, _⟩ | ⟨c, h, h1, _⟩ | ⟨c, h, h1, _⟩
  · exact ⟨c, cs, h, fun e => by rw [e] at h1; exact absurd h1 (by decide), fun e => by rw [e] at h1; exact absurd h1 (by decide)⟩
  · have h2 := (h1 c (by rw [h]; exact List.mem_cons_self)).1
    exact ⟨c, cs, h, fun e => by rw [e] at h2; exact absurd h2 (by decide), fun e => by rw [e] at h2; exact absurd h2 (by decide)⟩
  · exact ⟨c, [], h, h1, h2⟩
  · exact ⟨c, [c], h, by rcases h1 with e | e | e | e <;> rw [e] <;> decide, by rcases h1 with e | e | e | e <;> rw [e] <;> decide⟩
  · exact ⟨c, [61], h, by rcases h1 with e | e | e | e <;> rw [e] <;> decide, by rcases h1 with e | e | e | e <;> rw [e] <;> decide⟩
theorem tk_b_c {tw tw' : ST} {bs : List Int32} (h : tk_b tw bs) (h1 : tw' 0 1 = tw 0 1) (h6 : tw' 0 6 = tw 0 6) (hr : tw' 1 = tw 1) : tk_b tw' bs := by
  obtain ⟨p, a, b, c, d⟩ := h
  exact ⟨p, by rw [h6]; exact a, by rw [h1]; exact b, c, fun k x hx => by rw [hr]; exact d k x hx⟩
theorem tk_b_m {tw tw' : ST} {core rest : List Int32} (h : tk_b tw (core ++ rest)) (h' : tk_b tw' rest) (h1 : tw' 0 1 = tw 0 1) : tw' 0 6 = tw 0 6 + pu_I core.length ∧ ∃ p, tw 0 6 = pu_I p ∧ p + core.length ≤ 1200 := by
  obtain ⟨p, a, b, c, d⟩ := h
  obtain ⟨p', a', b', c', d'⟩ := h'
  rw [List.length_append] at b c
  rw [h1, b] at b'
  have e := pu_inj (by omega) (by omega) b'
  exact ⟨by rw [a, a', pv_add]; congr 1; omega, p, a, by omega⟩
theorem pu_sub {a b : Nat} (h : b ≤ a) : pu_I a - pu_I b = pu_I (a - b) := by
  have e : pu_I a = pu_I (a - b) + pu_I b := by rw [pv_add]; congr 1; omega
  rw [e, Int32.add_sub_cancel]
theorem lx_i2c {c : Int32} (h0 : 0 ≤ c) (h1 : c < 128) : ((c : Int32).toUInt32 % 65536).toInt32 = c := by
  have hc : c = pu_I (nn c) := pu_of (Int32.not_lt.mpr h0)
  have hn : nn c < 128 := by
    rw [hc] at h1
    exact (pu_lt (b := 128) (Int32.toNatClampNeg_lt c) (by decide)).mp h1
  have : ∀ n : Fin 128, ((pu_I n.val : Int32).toUInt32 % 65536).toInt32 = pu_I n.val := by decide +kernel
  rw [hc]
  exact this ⟨nn c, hn⟩
/-- a sign -/
theorem tk_sign {core rest : List Int32} {t : Tok} {tw : ST} {c : Int32} {cs : List Int32} (hco : core = c :: cs) (ht : (core = [c] ∧ 0 ≤ c ∧ c < 128 ∧ ¬ (lx_hd rest = c ∧ (c = 60 ∨ c = 62 ∨ c = 38 ∨ c = 124)) ∧ ¬ (lx_hd rest = 61 ∧ (c = 60 ∨ c = 62 ∨ c = 61 ∨ c = 33)) ∧ ¬ sx_ix c < 0 ∧ t = (c, 0, 0)) ∨
    (core = [c, c] ∧ (c = 60 ∨ c = 62 ∨ c = 38 ∨ c = 124) ∧ t = (256 + c, 0, 0)) ∨ (core = [c, 61] ∧ (c = 60 ∨ c = 62 ∨ c = 61 ∨ c = 33) ∧ t = (512 + c, 0, 0))) (hb : tk_b tw (core ++ rest)) :
    ∃ tw', fX10_readSign tw c = some tw' ∧ tk_b tw' rest ∧ tk_k tw tw' ∧ tw' 0 2 = t.1 ∧ ∀ j, j ≠ 2 → j ≠ 6 → tw' 0 j = tw 0 j := by
  obtain ⟨w1, hw1⟩ : ∃ w1, w1 = upw tw 0 6 (tw 0 6 + 1) := ⟨_, rfl⟩
  have hb1 : tk_b w1 (cs ++ rest) := by rw [hw1]; rw [hco] at hb; exact tk_b_s hb
  have hk1 : tk_k tw w1 := ⟨fun r hr => by rw [hw1, pv_upw_n hr], by rw [hw1, pv_upw, if_neg (by decide)]⟩
  have hj1 : ∀ j, j ≠ 6 → w1 0 j = tw 0 j := fun j hj => by rw [hw1, pv_upw, if_neg (by omega)]
  have hgo : fX10_readSign tw c = fX10_readSign_J34 c w1 (lx_hd (cs ++ rest)) := by
    unfold fX10_readSign lt9
    dsimp only
    rw [← hw1]
    cases hcr : cs ++ rest with
    | nil =>
      rw [hcr] at hb1
      rw [if_pos (tk_b_0 hb1)]
      rfl
    | cons d ds =>
      rw [hcr] at hb1
      obtain ⟨h1, h2, h3, _⟩ := tk_b_h hb1
      rw [if_neg h3, if_pos h1, h2]
      rfl
  rw [hgo]
  -- one byte
  have one : ∀ v : Int32, cs = [] → ∃ tw', fX10_readSign_J154 w1 v = some tw' ∧ tk_b tw' rest ∧ tk_k tw tw' ∧ tw' 0 2 = v ∧ ∀ j, j ≠ 2 → j ≠ 6 → tw' 0 j = tw 0 j := fun v he => by
    rw [he] at hb1
    exact ⟨upw w1 0 2 v, rfl, tk_b_up hb1 (by decide) (by decide), ⟨fun r hr => by rw [pv_upw_n hr]; exact hk1.1 r hr, by rw [pv_upw, if_neg (by decide)]; exact hk1.2⟩, by rw [pv_upw, if_pos ⟨rfl, rfl⟩], fun j h2 h6 => by rw [pv_upw, if_neg (by omega)]; exact hj1 j h6⟩
  have two : ∀ v d : Int32, cs = [d] → ∃ tw', some (upw (upw w1 0 2 v) 0 6 (upw w1 0 2 v 0 6 + 1)) = some tw' ∧ tk_b tw' rest ∧ tk_k tw tw' ∧ tw' 0 2 = v ∧ ∀ j, j ≠ 2 → j ≠ 6 → tw' 0 j = tw 0 j := fun v d he => by
    rw [he] at hb1
    have hb2 : tk_b (upw w1 0 2 v) (d :: rest) := tk_b_up hb1 (by decide) (by decide)
    exact ⟨_, rfl, tk_b_s hb2, ⟨fun r hr => by rw [pv_upw_n hr, pv_upw_n hr]; exact hk1.1 r hr, by rw [pv_upw, if_neg (by decide), pv_upw, if_neg (by decide)]; exact hk1.2⟩, by rw [pv_upw, if_neg (by decide), pv_upw, if_pos ⟨rfl, rfl⟩], fun j h2 h6 => by rw [pv_upw, if_neg (by omega), pv_upw, if_neg (by omega)]; exact hj1 j h6⟩
  rcases ht with ⟨h1, h2, h3, h4, h5, h6, rfl⟩ | ⟨h1, h2, rfl⟩ | ⟨h1, h2, rfl⟩
  · rw [hco] at h1
    have he : cs = [] := (List.cons.inj h1).2
    have h138 : fX10_readSign_J138 c w1 = fX10_readSign_J154 w1 c := by
      unfold fX10_readSign_J138
      rw [lx_i2c h2 h3, if_neg h6]
    have h86 : fX10_readSign_J86 c w1 (lx_hd rest) = fX10_readSign_J154 w1 c := by
      unfold fX10_readSign_J86
      rw [h138]
      by_cases e : lx_hd rest = 61
      · have hn : ¬ (c = 60 ∨ c = 62 ∨ c = 61 ∨ c = 33) := fun q => h5 ⟨e, q⟩
        rw [if_pos e, if_neg (fun q => hn (Or.inl q)), if_neg (fun q => hn (Or.inr (Or.inl q))), if_neg (fun q => hn (Or.inr (Or.inr (Or.inl q)))), if_neg (fun q => hn (Or.inr (Or.inr (Or.inr q))))]
      · rw [if_neg e]
    have h34 : fX10_readSign_J34 c w1 (lx_hd (cs ++ rest)) = fX10_readSign_J154 w1 c := by
      rw [he, List.nil_append]
      unfold fX10_readSign_J34
      rw [h86]
      by_cases e : lx_hd rest = c
      · have hn : ¬ (c = 60 ∨ c = 62 ∨ c = 38 ∨ c = 124) := fun q => h4 ⟨e, q⟩
        rw [if_pos e, if_neg (fun q => hn (Or.inl q)), if_neg (fun q => hn (Or.inr (Or.inl q))), if_neg (fun q => hn (Or.inr (Or.inr (Or.inl q)))), if_neg (fun q => hn (Or.inr (Or.inr (Or.inr q))))]
      · rw [if_neg e]
    rw [h34]
    exact one c he
  · rw [hco] at h1
    have he : cs = [c] := (List.cons.inj h1).2
    have hh : lx_hd (cs ++ rest) = c := by rw [he]; rfl
    rw [hh]
    have h34 : fX10_readSign_J34 c w1 c = some (upw (upw w1 0 2 (256 + c)) 0 6 (upw w1 0 2 (256 + c) 0 6 + 1)) := by
      unfold fX10_readSign_J34
      rw [if_pos rfl]
      by_cases e1 : c = 60
      · rw [if_pos e1]; rfl
      · rw [if_neg e1]
        by_cases e2 : c = 62
        · rw [if_pos e2]; rfl
        · rw [if_neg e2]
          by_cases e3 : c = 38
          · rw [if_pos e3]; rfl
          · rw [if_neg e3, if_pos (((h2.resolve_left e1).resolve_left e2).resolve_left e3)]; rfl
    rw [h34]
    exact two _ c he
  · rw [hco] at h1
    have he : cs = [61] := (List.cons.inj h1).2
    have hh : lx_hd (cs ++ rest) = 61 := by rw [he]; rfl
    rw [hh]
    have h86 : fX10_readSign_J86 c w1 61 = some (upw (upw w1 0 2 (512 + c)) 0 6 (upw w1 0 2 (512 + c) 0 6 + 1)) := by
      unfold fX10_readSign_J86
      rw [if_pos rfl]
      by_cases e1 : c = 60
      · rw [if_pos e1]; rfl
      · rw [if_neg e1]
        by_cases e2 : c = 62
        · rw [if_pos e2]; rfl
        · rw [if_neg e2]
          by_cases e3 : c = 61
          · rw [if_pos e3]; rfl
          · rw [if_neg e3, if_pos (((h2.resolve_left e1).resolve_left e2).resolve_left e3)]; rfl
    have h34 : fX10_readSign_J34 c w1 61 = fX10_readSign_J86 c w1 61 := by
      unfold fX10_readSign_J34
      by_cases e : (61 : Int32) = c
      · rw [if_pos e, ← e]
        rfl
      · rw [if_neg e]
    rw [h34, h86]
    exact two _ 61 he
/-- on to the next token -/
theorem tk_adv {tw : ST} {tl : SL} {t : Tok} {ts : List Tok} (h : tk_s tw tl (t :: ts)) : ∃ tw' tl', fX10_advance tw tl = some (tw', tl') ∧ tk_s tw' tl' ts ∧ tk_k tw tw' ∧ ∀ r, r ≠ 0 → tl' r = tl r := by
  obtain ⟨_, bs, k, hb, hs, h7, hk⟩ := h
  -- the blanks
  have hbl : ∃ bl rest, bs = bl ++ rest ∧ (∀ c, c ∈ bl → c = 32 ∨ c = 10) ∧ (lx_hd rest ≠ 32 ∧ lx_hd rest ≠ 10) ∧ ((ts = [] ∧ rest = []) ∨ ∃ u us core r2, ts = u :: us ∧ rest = core ++ r2 ∧ lx_t core r2 u ∧ lx_s r2 us) := by
    cases ts with
    | nil => exact ⟨bs, [], (List.append_nil _).symm, hs, ⟨by decide, by decide⟩, Or.inl ⟨rfl, rfl⟩⟩
    | cons u us =>
      obtain ⟨bl, core, r2, e, h1, h2, h3⟩ := hs
      obtain ⟨c, cs, hc, n1, n2⟩ := lx_t_hd h2
      exact ⟨bl, core ++ r2, e, h1, by rw [hc]; exact ⟨n1, n2⟩, Or.inr ⟨u, us, core, r2, rfl, rfl, h2, h3⟩⟩
  obtain ⟨bl, rest, rfl, hbl1, hbl2, hcs⟩ := hbl
  have hlen : bl.length < NF := by
    obtain ⟨p, _, _, c, _⟩ := hb
    rw [List.length_append] at c
    have := pv_NF
    omega
  obtain ⟨o0, e1, e2, e3, e4⟩ := tk_L0 bl rest NF tw hlen hbl1 hbl2 hb
  obtain ⟨w7, hw7⟩ : ∃ w7, w7 = upw o0 0 3 (o0 0 6) := ⟨_, rfl⟩
  have hb7 : tk_b w7 rest := by rw [hw7]; exact tk_b_up e2 (by decide) (by decide)
  have hk7 : tk_k tw w7 := ⟨fun r hr => by rw [hw7, pv_upw_n hr]; exact e3.1 r hr, by rw [hw7, pv_upw, if_neg (by decide)]; exact e3.2⟩
  have h77 : w7 0 7 = pu_I k := by rw [hw7, pv_upw, if_neg (by decide), e4 7 (by decide)]; exact h7
  have h736 : w7 0 3 = w7 0 6 := by rw [hw7, pv_upw, if_pos ⟨rfl, rfl⟩, pv_upw, if_neg (by decide)]
  have hgo : fX10_advance tw tl = (if (w7 0 6) < (w7 0 1) then (lt9 (upw w7 0 7 ((w7 0 7) + 1)) fun (w9 : ST) => (if ixb (w9 0 6) 1200 = true then (if (w9 0 7) ≤ 600 then ((fX10_isLetter (w9 1 (nn (w9 0 6)))).bind fun (o_12 : Int32) => (if o_12 = 0 then ((fX10_isDigit (w9 1 (nn (w9 0 6)))).bind fun (o_15 : Int32) => (if o_15 = 0 then ((fX10_readSign w9 (w9 1 (nn (w9 0 6)))).bind fun (o_18 : ST) => (fX10_advance_J200 o_18 tl)) else ((fX10_readFigure w9).bind fun (o_19 : ST) => (if ((o_19 0 6) - (o_19 0 3)) ≤ 9 then (fX10_advance_J189 tl o_19 2) else (fX10_advance_J189 tl o_19 1))))) else ((fX10_readWord w9 tl).bind fun (o_22 : ST × SL) => (if (((o_22.1) 0 6) - ((o_22.1) 0 3)) ≤ 8 then ((fX10_kindOfWord ((o_22.2) 0 5)).bind fun (o_25 : Int32) => (fX10_advance_J152 o_22 o_25)) else (fX10_advance_J152 o_22 1))))) else (lt9 (upw w9 0 2 1) fun (w27 : ST) => (fX10_advance_J200 w27 tl))) else none)) else (lt9 (upw w7 0 2 0) fun (w28 : ST) => some (w28, tl))) := by
    unfold fX10_advance
    rw [e1, Option.bind_some]
    unfold lt9
    dsimp only
    rw [← hw7]
  rw [hgo]
  rcases hcs with ⟨rfl, rfl⟩ | ⟨u, us, core, r2, rfl, rfl, ht, hus⟩
  · have h6 : ¬ w7 0 6 < w7 0 1 := Int32.not_lt.mpr (tk_b_0 hb7)
    rw [if_neg h6]
    refine ⟨_, tl, rfl, ?_, ⟨fun r hr => by rw [pv_upw_n hr]; exact hk7.1 r hr, by rw [pv_upw, if_neg (by decide)]; exact hk7.2⟩, fun _ _ => rfl⟩
    show upw w7 0 2 0 0 2 = 0
    rw [pv_upw, if_pos ⟨rfl, rfl⟩]
  · rw [List.length_cons] at hk
    obtain ⟨c, cs, hc, n32, n10⟩ := lx_t_hd ht
    obtain ⟨w9, hw9⟩ : ∃ w9, w9 = upw w7 0 7 (w7 0 7 + 1) := ⟨_, rfl⟩
    have hb9 : tk_b w9 (core ++ r2) := by rw [hw9]; exact tk_b_up hb7 (by decide) (by decide)
    have hk9 : tk_k tw w9 := ⟨fun r hr => by rw [hw9, pv_upw_n hr]; exact hk7.1 r hr, by rw [hw9, pv_upw, if_neg (by decide)]; exact hk7.2⟩
    have h97 : w9 0 7 = pu_I (k + 1) := by rw [hw9, pv_upw, if_pos ⟨rfl, rfl⟩, h77, pu_su]
    have h936 : w9 0 3 = w9 0 6 := by rw [hw9, pv_upw, if_neg (by decide), pv_upw, if_neg (by decide)]; exact h736
    have hbc : tk_b w7 (c :: (cs ++ r2)) := by rw [hc] at hb7; exact hb7
    have hbc9 : tk_b w9 (c :: (cs ++ r2)) := by rw [hc] at hb9; exact hb9
    obtain ⟨_, _, _, hlt⟩ := tk_b_h hbc
    obtain ⟨i1, i2, _, _⟩ := tk_b_h hbc9
    have h600 : w9 0 7 ≤ 600 := by rw [h97]; exact (pu_le (b := 600) (by omega) (by decide)).mpr (by omega)
    rw [if_pos hlt]
    unfold lt9
    dsimp only
    rw [← hw9, if_pos i1, if_pos h600, i2]
    -- what the end is
    have fin : ∀ (w' : ST) (l' : SL), tk_b w' r2 → tk_k w9 w' → w' 0 7 = w9 0 7 → (w' 0 2 = u.1 ∧ (u.1 = 2 → w' 0 4 = u.2.1) ∧ (u.1 = 3 → l' 0 5 = u.2.2)) → tk_s w' l' (u :: us) ∧ tk_k tw w' := fun w' l' b1 b2 b3 b4 =>
      ⟨⟨b4, r2, k + 1, b1, hus, by rw [b3]; exact h97, by omega⟩, ⟨fun r hr => by rw [b2.1 r hr]; exact hk9.1 r hr, by rw [b2.2]; exact hk9.2⟩⟩
    have hnl : ¬ (97 ≤ c ∧ c ≤ 122) → fX10_isLetter c = some 0 := fun h => by
      unfold fX10_isLetter
      by_cases q1 : c < 97
      · rw [if_pos q1]; rfl
      · rw [if_neg q1, if_pos (lx_lt.mp fun q => h ⟨lx_le.mp q1, q⟩)]; rfl
    have hnd : ¬ (48 ≤ c ∧ c ≤ 57) → fX10_isDigit c = some 0 := fun h => by
      unfold fX10_isDigit
      by_cases q1 : c < 48
      · rw [if_pos q1]; rfl
      · rw [if_neg q1, if_pos (lx_lt.mp fun q => h ⟨lx_le.mp q1, q⟩)]; rfl
    have hsg : ∀ (hnal : ¬ lx_al c) (hx : (core = [c] ∧ 0 ≤ c ∧ c < 128 ∧ ¬ (lx_hd r2 = c ∧ (c = 60 ∨ c = 62 ∨ c = 38 ∨ c = 124)) ∧ ¬ (lx_hd r2 = 61 ∧ (c = 60 ∨ c = 62 ∨ c = 61 ∨ c = 33)) ∧ ¬ sx_ix c < 0 ∧ u = (c, 0, 0)) ∨
        (core = [c, c] ∧ (c = 60 ∨ c = 62 ∨ c = 38 ∨ c = 124) ∧ u = (256 + c, 0, 0)) ∨ (core = [c, 61] ∧ (c = 60 ∨ c = 62 ∨ c = 61 ∨ c = 33) ∧ u = (512 + c, 0, 0))) (hu2 : u.1 ≠ 2 ∧ u.1 ≠ 3),
        ∃ tw' tl', (fX10_isLetter c).bind (fun (o_12 : Int32) => (if o_12 = 0 then ((fX10_isDigit c).bind fun (o_15 : Int32) => (if o_15 = 0 then ((fX10_readSign w9 c).bind fun (o_18 : ST) => (fX10_advance_J200 o_18 tl)) else ((fX10_readFigure w9).bind fun (o_19 : ST) => (if ((o_19 0 6) - (o_19 0 3)) ≤ 9 then (fX10_advance_J189 tl o_19 2) else (fX10_advance_J189 tl o_19 1))))) else ((fX10_readWord w9 tl).bind fun (o_22 : ST × SL) => (if (((o_22.1) 0 6) - ((o_22.1) 0 3)) ≤ 8 then ((fX10_kindOfWord ((o_22.2) 0 5)).bind fun (o_25 : Int32) => (fX10_advance_J152 o_22 o_25)) else (fX10_advance_J152 o_22 1))))) = some (tw', tl') ∧ tk_s tw' tl' (u :: us) ∧ tk_k tw tw' ∧ ∀ r, r ≠ 0 → tl' r = tl r := by
      intro hnal hx hu2
      obtain ⟨w', g1, g2, g3, g4, g5⟩ := tk_sign hc hx hb9
      obtain ⟨f1, f2⟩ := fin w' tl g2 g3 (g5 7 (by decide) (by decide)) ⟨g4, fun q => absurd q hu2.1, fun q => absurd q hu2.2⟩
      refine ⟨w', tl, ?_, f1, f2, fun _ _ => rfl⟩
      rw [hnl (fun q => hnal (Or.inl q)), Option.bind_some, if_pos rfl, hnd (fun q => hnal (Or.inr q)), Option.bind_some, if_pos rfl, g1, Option.bind_some]
      rfl
    rcases ht with ⟨d, ds, h, ⟨q1, q2⟩, q3, q4, q5, hk1, hk2⟩ | ⟨d, ds, h, q1, q2, q3, rfl⟩ | ⟨d, h, q1, _, _, q2, q3, q4, q5, q6, rfl⟩ | ⟨d, h, q1, rfl⟩ | ⟨d, h, q1, rfl⟩
    · obtain rfl : c = d := by rw [hc] at h; exact (List.cons.inj h).1
      have hl : fX10_isLetter c = some 1 := by
        unfold fX10_isLetter
        rw [if_neg (lx_le.mpr q1), if_neg (lx_le.mpr q2)]; rfl
      have hl0 : upl tl 0 5 0 0 5 = 0 := by rw [pv_upl, if_pos ⟨rfl, rfl⟩]
      obtain ⟨w', l', g1, g2, g3, g4, g5, g6⟩ := tk_L15 core r2 NF w9 (upl tl 0 5 0) (by have := pv_NF; omega) q3 q4 hb9
      rw [hl0] at g5
      obtain ⟨m1, p, m2, m3⟩ := tk_b_m hb9 g2 g3.2
      have hw : fX10_readWord w9 tl = some (w', l') := by
        unfold fX10_readWord lt9
        dsimp only
        rw [if_pos i1, i2, show c = lx_hd (core ++ r2) by rw [hc]; rfl, g1]
        rfl
      have hle : w' 0 6 - w' 0 3 ≤ 8 := by
        rw [m1, g4 3 (by decide), h936, m2, pv_add, pu_sub (by omega)]
        exact (pu_le (b := 8) (by omega) (by decide)).mpr (by omega)
      obtain ⟨f1, f2⟩ := fin (upw w' 0 2 (lx_kw (lx_nm 0 core))) l' (tk_b_up g2 (by decide) (by decide)) ⟨fun r hr => by rw [pv_upw_n hr]; exact g3.1 r hr, by rw [pv_upw, if_neg (by decide)]; exact g3.2⟩ (by rw [pv_upw, if_neg (by decide)]; exact g4 7 (by decide)) ⟨by rw [pv_upw, if_pos ⟨rfl, rfl⟩, hk1], fun q => absurd (hk1.symm.trans q) (by
        show lx_kw _ ≠ 2
        unfold lx_kw
        repeat' split
        all_goals decide), fun q => by rw [hk2 q]; exact g5⟩
      refine ⟨_, l', ?_, f1, f2, fun r hr => by rw [g6 r hr]; funext z; rw [pv_upl, if_neg (by omega)]⟩
      rw [hl, Option.bind_some, if_neg (by decide), hw, Option.bind_some]
      dsimp only
      rw [if_pos hle, g5, lx_kw_e, Option.bind_some]
      rfl
    · obtain rfl : c = d := by rw [hc] at h; exact (List.cons.inj h).1
      have hcd := q1 c (by rw [hc]; exact List.mem_cons_self)
      have hnl2 : fX10_isLetter c = some 0 := hnl fun q => by
        have := Int32.le_trans q.1 hcd.2
        exact absurd this (by decide)
      have hd : fX10_isDigit c = some 1 := by
        unfold fX10_isDigit
        rw [if_neg (lx_le.mpr hcd.1), if_neg (lx_le.mpr hcd.2)]; rfl
      have hb90 : tk_b (upw w9 0 4 0) (core ++ r2) := tk_b_up hb9 (by decide) (by decide)
      obtain ⟨w', g1, g2, g3, g4, g5⟩ := tk_L5 core r2 NF (upw w9 0 4 0) (by have := pv_NF; omega) q1 q2 hb90
      rw [pv_upw, if_pos ⟨rfl, rfl⟩] at g5
      have g31 : w' 0 1 = w9 0 1 := by rw [g3.2, pv_upw, if_neg (by decide)]
      obtain ⟨m1, p, m2, m3⟩ := tk_b_m hb9 g2 g31
      have hw : fX10_readFigure w9 = some w' := by
        unfold fX10_readFigure lt9
        dsimp only
        rw [g1]
        rfl
      have hle : w' 0 6 - w' 0 3 ≤ 9 := by
        rw [m1, g4 3 (by decide) (by decide), pv_upw, if_neg (by decide), h936, m2, pv_add, pu_sub (by omega)]
        exact (pu_le (b := 9) (by omega) (by decide)).mpr (by omega)
      obtain ⟨f1, f2⟩ := fin (upw w' 0 2 2) tl (tk_b_up g2 (by decide) (by decide)) ⟨fun r hr => by rw [pv_upw_n hr, g3.1 r hr, pv_upw_n hr], by rw [pv_upw, if_neg (by decide)]; exact g31⟩ (by rw [pv_upw, if_neg (by decide), g4 7 (by decide) (by decide), pv_upw, if_neg (by decide)]) ⟨by rw [pv_upw, if_pos ⟨rfl, rfl⟩], fun _ => by rw [pv_upw, if_neg (by decide)]; exact g5, fun q => absurd q (show ¬ (2 : Int32) = 3 by decide)⟩
      refine ⟨_, tl, ?_, f1, f2, fun _ _ => rfl⟩
      rw [hnl2, Option.bind_some, if_pos rfl, hd, Option.bind_some, if_neg (by decide), hw, Option.bind_some, if_pos hle]
      rfl
    · obtain rfl : c = d := by rw [hc] at h; exact (List.cons.inj h).1
      refine hsg q1 (Or.inl ⟨h, q2, q3, q4, q5, q6, rfl⟩) ⟨fun e => ?_, fun e => ?_⟩
      · have e : c = 2 := e
        rw [e] at q6
        exact q6 (by decide)
      · have e : c = 3 := e
        rw [e] at q6
        exact q6 (by decide)
    · obtain rfl : c = d := by rw [hc] at h; exact (List.cons.inj h).1
      refine hsg (by rcases q1 with e | e | e | e <;> rw [e] <;> unfold lx_al <;> decide) (Or.inr (Or.inl ⟨h, q1, rfl⟩)) ⟨?_, ?_⟩ <;> rcases q1 with e | e | e | e <;> rw [e] <;> decide
    · obtain rfl : c = d := by rw [hc] at h; exact (List.cons.inj h).1
      refine hsg (by rcases q1 with e | e | e | e <;> rw [e] <;> unfold lx_al <;> decide) (Or.inr (Or.inr ⟨h, q1, rfl⟩)) ⟨?_, ?_⟩ <;> rcases q1 with e | e | e | e <;> rw [e] <;> decide
end ADV
