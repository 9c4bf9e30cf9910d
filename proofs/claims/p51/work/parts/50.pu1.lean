/-! pure side 1: numbers, what blocks do -/
abbrev pu_I (k : Nat) : Int32 := Int32.ofNat k
theorem pu_nn {k : Nat} (h : k < 2147483648) : nn (pu_I k) = k := Int32.toNatClampNeg_ofNat_of_lt h
theorem pu_ti {k : Nat} (h : k < 2147483648) : (pu_I k).toInt = k := Int32.toInt_ofNat_of_lt h
theorem pu_su (k : Nat) : pu_I k + 1 = pu_I (k + 1) := (Int32.ofNat_add k 1).symm
theorem pu_inj {a b : Nat} (ha : a < 2147483648) (hb : b < 2147483648) (h : pu_I a = pu_I b) : a = b := by
  have h2 := congrArg nn h
  rw [pu_nn ha, pu_nn hb] at h2
  exact h2
theorem pu_le {a b : Nat} (ha : a < 2147483648) (hb : b < 2147483648) : pu_I a ≤ pu_I b ↔ a ≤ b := Int32.ofNat_le_iff_le ha hb
theorem pu_lt {a b : Nat} (ha : a < 2147483648) (hb : b < 2147483648) : pu_I a < pu_I b ↔ a < b := Int32.ofNat_lt_iff_lt ha hb
theorem pu_ix {k n : Nat} (hk : k < 2147483648) : ixb (pu_I k) n = true ↔ k < n := by
  unfold ixb
  rw [decide_eq_true_iff, pu_ti hk]
  omega
theorem pu_ge {k : Nat} (h : k < 2147483648) : ¬ pu_I k < 0 := by
  rw [Int32.lt_iff_toInt_lt, pu_ti h, Int32.toInt_zero]
  omega
theorem pu_of {x : Int32} (h : ¬ x < 0) : x = pu_I (nn x) := (Int32.ofNat_toNatClampNeg x (Int32.not_lt.mp h)).symm
theorem pu_m1 : (-1 : Int32) < 0 := by decide

abbrev pu_E := Int32 → Int32
abbrev pu_M := Nat → Int32
abbrev pu_Stp := Int32 × Int32 × Int32 × Int32
abbrev pu_Phi := Int32 × (Nat → Int32)
abbrev pu_End := Int32 × Int32 × Int32 × Int32
abbrev pu_Blk := List pu_Phi × List pu_Stp × pu_End
abbrev pu_Flow := Nat → pu_Blk
abbrev pu_Res := Int32 × Int32 × pu_M
abbrev pu_S := pu_E × pu_M × List Int32
abbrev pu_Call := Int32 → List Int32 → pu_M → Option pu_Res
def pu_set (e : pu_E) (v x : Int32) : pu_E := fun u => if u = v then x else e u
theorem pu_set_s (e : pu_E) (v x : Int32) : pu_set e v x v = x := if_pos rfl
theorem pu_set_n {e : pu_E} {v x u : Int32} (h : u ≠ v) : pu_set e v x u = e u := if_neg h
def pu_cmp (k x y : Int32) : Int32 :=
  if k = 1 then x + y else if k = 2 then x - y else if k = 3 then x * y else if k = 4 then (if y = 0 then 0 else x / y)
  else if k = 5 then (if y = 0 then 0 else x - x / y * y) else if k = 6 then x &&& y else if k = 7 then x ||| y else if k = 8 then x ^^^ y
  else if k = 9 then x <<< ((y &&& 31) &&& 31) else if k = 10 then x >>> ((y &&& 31) &&& 31) else if k = 11 then (if y ≤ x then 0 else 1)
  else if k = 12 then (if y < x then 0 else 1) else if k = 13 then (if x ≤ y then 0 else 1) else if k = 14 then (if x < y then 0 else 1)
  else if k = 15 then (if x = y then 1 else 0) else (if x = y then 0 else 1)
def pu_fail (k y : Int32) : Bool := decide ((k = 4 ∨ k = 5) ∧ y = 0)
def pu_isop (k : Int32) : Bool := decide (1 ≤ k ∧ k ≤ 16)
def pu_ul (k : Int32) : Bool := decide ((1 ≤ k ∧ k ≤ 19) ∨ k = 25 ∨ k = 27)
def pu_ur (k : Int32) : Bool := decide ((1 ≤ k ∧ k ≤ 16) ∨ k = 18)
def pu_gk (k : Int32) : Bool := decide ((0 ≤ k ∧ k ≤ 17) ∨ k = 20 ∨ k = 21)
def pu_stp (call : pu_Call) (ar : List Int32) (k g l r : Int32) (e : pu_E) (m : pu_M) (q : List Int32) : Option (Sum pu_Res pu_S) :=
  if k = 0 then some (.inr (pu_set e g l, m, q))
  else if k = 21 then some (.inr (pu_set e g (ar.getD (nn l) 0), m, q))
  else if k = 20 then (call l q m).bind fun o => if o.1 = 0 then some (.inr (pu_set e g o.2.1, o.2.2, [])) else some (.inl o)
  else if k = 17 then some (.inr (pu_set e g (m (nn (e l &&& 15))), m, q))
  else if k = 18 then some (.inr (e, (fun i => if i = nn (e l &&& 15) then e r else m i), q))
  else if k = 19 then some (.inr (e, m, q ++ [e l]))
  else if pu_fail k (e r) = true then some (.inl (1, 0, m))
  else some (.inr (pu_set e g (pu_cmp k (e l) (e r)), m, q))
def pu_steps (call : pu_Call) (ar : List Int32) : List pu_Stp → pu_S → Option (Sum pu_Res pu_S)
  | [], σ => some (.inr σ)
  | s :: l, σ => (pu_stp call ar s.1 s.2.1 s.2.2.1 s.2.2.2 σ.1 σ.2.1 σ.2.2).bind fun o => Sum.elim (fun r => some (.inl r)) (fun τ => pu_steps call ar l τ) o
def pu_phs (ps : List pu_Phi) (b : Nat) (e : pu_E) : pu_E := ps.foldl (fun e9 p => pu_set e9 p.1 (e (p.2 b))) e
/-- no argument may be left over -/
def pu_rq (q : List Int32) : Int32 := if q = [] then 0 else 9
/-- what a block's end leads to -/
def pu_end (x : pu_End) (τ : pu_S) : Sum pu_Res (Nat × pu_S) :=
  if x.1 = 24 then .inl (pu_rq τ.2.2, τ.1 x.2.1, τ.2.1)
  else if x.1 = 23 ∧ τ.1 x.2.1 = 0 then .inr (nn x.2.2.2, τ)
  else .inr (nn x.2.2.1, τ)
def pu_blk (F : pu_Flow) (call : pu_Call) (ar : List Int32) (b p : Nat) (σ : pu_S) : Option (Sum pu_Res (Nat × pu_S)) :=
  (pu_steps call ar (F b).2.1 (pu_phs (F b).1 p σ.1, σ.2)).bind fun o => Sum.elim (fun r => some (.inl r)) (fun τ => some (pu_end (F b).2.2 τ)) o
def pu_run (F : pu_Flow) (call : pu_Call) (ar : List Int32) : Nat → Nat → Nat → pu_S → Option pu_Res
  | 0, _, _, _ => none
  | n + 1, b, p, σ => (pu_blk F call ar b p σ).bind fun o => Sum.elim some (fun x => if x.2.2.2 = [] then pu_run F call ar n x.1 b x.2 else none) o
/-- successors -/
def pu_sc (F : pu_Flow) (b c : Nat) : Prop := (F b).2.2.1 ≠ 24 ∧ (c = nn (F b).2.2.2.2.1 ∨ ((F b).2.2.1 = 23 ∧ c = nn (F b).2.2.2.2.2))
theorem pu_end_sc {F : pu_Flow} {b : Nat} {τ τ' : pu_S} {c : Nat} (h : pu_end (F b).2.2 τ = .inr (c, τ')) : pu_sc F b c ∧ τ' = τ := by
  unfold pu_end at h
  by_cases h1 : (F b).2.2.1 = 24
  · rw [if_pos h1] at h; cases h
  · rw [if_neg h1] at h
    by_cases h2 : (F b).2.2.1 = 23 ∧ τ.1 (F b).2.2.2.1 = 0
    · rw [if_pos h2] at h
      cases h
      exact ⟨⟨h1, Or.inr ⟨h2.1, rfl⟩⟩, rfl⟩
    · rw [if_neg h2] at h
      cases h
      exact ⟨⟨h1, Or.inl rfl⟩, rfl⟩
/-- one flow as the other, block by block -/
theorem pu_sim {F F' : pu_Flow} {call : pu_Call} {ar : List Int32} (Rel : Nat → Nat → pu_S → Nat → Nat → pu_S → Prop) (hz : ∀ b p σ b' p' σ', Rel b p σ b' p' σ' → σ'.2.2 = σ.2.2)
    (h : ∀ b p σ b' p' σ' o, Rel b p σ b' p' σ' → pu_blk F call ar b p σ = some o →
      (∃ r, o = .inl r ∧ pu_blk F' call ar b' p' σ' = some (.inl r)) ∨ (∃ c τ c' τ', o = .inr (c, τ) ∧ pu_blk F' call ar b' p' σ' = some (.inr (c', τ')) ∧ Rel c b τ c' b' τ')) :
    ∀ n b p σ b' p' σ' r, Rel b p σ b' p' σ' → pu_run F call ar n b p σ = some r → pu_run F' call ar n b' p' σ' = some r := by
  intro n
  induction n with
  | zero => intro b p σ b' p' σ' r _ hr; cases hr
  | succ n ih =>
    intro b p σ b' p' σ' r hR hr
    unfold pu_run at hr ⊢
    obtain ⟨o, ho, hk⟩ := bnd9 hr
    rcases h b p σ b' p' σ' o hR ho with ⟨r1, rfl, h2⟩ | ⟨c, τ, c', τ', rfl, h2, h3⟩
    · rw [h2]; exact hk
    · rw [h2]
      have hk : (if τ.2.2 = [] then pu_run F call ar n c b τ else none) = some r := hk
      show (if τ'.2.2 = [] then pu_run F' call ar n c' b' τ' else none) = some r
      by_cases h9 : τ.2.2 = []
      · rw [if_pos h9] at hk
        rw [if_pos ((hz _ _ _ _ _ _ h3).trans h9)]
        exact ih _ _ _ _ _ _ _ h3 hk
      · rw [if_neg h9] at hk; cases hk
theorem pu_phs_n {ps : List pu_Phi} {b : Nat} {e : pu_E} {u : Int32} (h : ∀ p ∈ ps, p.1 ≠ u) : pu_phs ps b e u = e u := by
  unfold pu_phs
  suffices H : ∀ (ps : List pu_Phi) (e9 : pu_E), (∀ p ∈ ps, p.1 ≠ u) → (ps.foldl (fun e9 p => pu_set e9 p.1 (e (p.2 b))) e9) u = e9 u from H ps e h
  intro ps
  induction ps with
  | nil => intro e9 _; rfl
  | cons p ps ih =>
    intro e9 h
    rw [List.foldl_cons, ih _ (fun q hq => h q (List.mem_cons_of_mem _ hq))]
    exact pu_set_n (fun c => h p (List.mem_cons_self) c.symm)
theorem pu_phs_s {ps : List pu_Phi} {b : Nat} {e : pu_E} (hnd : (ps.map Prod.fst).Nodup) {p : pu_Phi} (hp : p ∈ ps) : pu_phs ps b e p.1 = e (p.2 b) := by
  unfold pu_phs
  suffices H : ∀ (ps : List pu_Phi) (e9 : pu_E), (ps.map Prod.fst).Nodup → p ∈ ps → (ps.foldl (fun e9 p => pu_set e9 p.1 (e (p.2 b))) e9) p.1 = e (p.2 b) from H ps e hnd hp
  intro ps
  induction ps with
  | nil => intro e9 _ h; cases h
  | cons q ps ih =>
    intro e9 hn h
    rw [List.map_cons, List.nodup_cons] at hn
    rw [List.foldl_cons]
    rcases List.mem_cons.mp h with rfl | h
    · have hq : ∀ z ∈ ps, z.1 ≠ p.1 := fun z hz c => hn.1 (c ▸ List.mem_map_of_mem hz)
      have h9 : ∀ (e8 : pu_E), (ps.foldl (fun e9 p => pu_set e9 p.1 (e (p.2 b))) e8) p.1 = e8 p.1 := by
        intro e8
        clear ih hn h
        induction ps generalizing e8 with
        | nil => rfl
        | cons z ps ih2 =>
          rw [List.foldl_cons, ih2 (fun y hy => hq y (List.mem_cons_of_mem _ hy))]
          exact pu_set_n (fun c => hq z List.mem_cons_self c.symm)
      rw [h9]
      exact pu_set_s _ _ _
    · exact ih _ hn.2 h
theorem pu_steps_app (call : pu_Call) (ar : List Int32) (a l : List pu_Stp) (σ : pu_S) : pu_steps call ar (a ++ l) σ = (pu_steps call ar a σ).bind fun o => Sum.elim (fun r => some (.inl r)) (fun τ => pu_steps call ar l τ) o := by
  induction a generalizing σ with
  | nil => rfl
  | cons s a ih =>
    show (pu_stp call ar s.1 s.2.1 s.2.2.1 s.2.2.2 σ.1 σ.2.1 σ.2.2).bind _ = ((pu_stp call ar s.1 s.2.1 s.2.2.1 s.2.2.2 σ.1 σ.2.1 σ.2.2).bind _).bind _
    cases hs : pu_stp call ar s.1 s.2.1 s.2.2.1 s.2.2.2 σ.1 σ.2.1 σ.2.2 with
    | none => rfl
    | some o =>
      cases o with
      | inl r => rfl
      | inr τ => exact ih τ
