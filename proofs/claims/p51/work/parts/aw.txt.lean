/-! pure side, the maker 31: the text as a machine of its own; what each op does to what waits -/
theorem px_pop0 {P : ST} {i : Nat} (h : P 9 i = 0) : pt_pop P i = 0 := by
  unfold pt_pop
  rw [h, if_neg (show ¬ pu_ur (0 : Int32) = true by decide), if_neg (show ¬ (0 : Int32) = 19 by decide), if_neg (show ¬ (0 : Int32) = 32 by decide), if_neg (show ¬ pt_one (0 : Int32) = true by decide), if_neg (show ¬ (0 : Int32) = 20 by decide)]
theorem px_nx0 {P : ST} {i : Nat} (h : P 9 i = 0) (s : List Nat) : pt_nx P i s = i :: s.drop 0 := by
  unfold pt_nx
  rw [px_pop0 h, h, if_pos (show pt_gv (0 : Int32) = true by decide)]
theorem px_pop17 {P : ST} {i : Nat} (h : P 9 i = 17) : pt_pop P i = 1 := by
  unfold pt_pop
  rw [h, if_neg (show ¬ pu_ur (17 : Int32) = true by decide), if_neg (show ¬ (17 : Int32) = 19 by decide), if_neg (show ¬ (17 : Int32) = 32 by decide), if_pos (show pt_one (17 : Int32) = true by decide)]
theorem px_nx17 {P : ST} {i : Nat} (h : P 9 i = 17) (s : List Nat) : pt_nx P i s = i :: s.drop 1 := by
  unfold pt_nx
  rw [px_pop17 h, h, if_pos (show pt_gv (17 : Int32) = true by decide)]
theorem px_pop18 {P : ST} {i : Nat} (h : P 9 i = 18) : pt_pop P i = 2 := by
  unfold pt_pop
  rw [h, if_pos (show pu_ur (18 : Int32) = true by decide)]
theorem px_nx18 {P : ST} {i : Nat} (h : P 9 i = 18) (s : List Nat) : pt_nx P i s = s.drop 2 := by
  unfold pt_nx
  rw [px_pop18 h, h, if_neg (show ¬ pt_gv (18 : Int32) = true by decide)]
theorem px_pop19 {P : ST} {i : Nat} (h : P 9 i = 19) : pt_pop P i = 0 := by
  unfold pt_pop
  rw [h, if_neg (show ¬ pu_ur (19 : Int32) = true by decide), if_pos rfl]
theorem px_nx19 {P : ST} {i : Nat} (h : P 9 i = 19) (s : List Nat) : pt_nx P i s = s.drop 0 := by
  unfold pt_nx
  rw [px_pop19 h, h, if_neg (show ¬ pt_gv (19 : Int32) = true by decide)]
theorem px_pop21 {P : ST} {i : Nat} (h : P 9 i = 21) : pt_pop P i = 0 := by
  unfold pt_pop
  rw [h, if_neg (show ¬ pu_ur (21 : Int32) = true by decide), if_neg (show ¬ (21 : Int32) = 19 by decide), if_neg (show ¬ (21 : Int32) = 32 by decide), if_neg (show ¬ pt_one (21 : Int32) = true by decide), if_neg (show ¬ (21 : Int32) = 20 by decide)]
theorem px_nx21 {P : ST} {i : Nat} (h : P 9 i = 21) (s : List Nat) : pt_nx P i s = s.drop 0 := by
  unfold pt_nx
  rw [px_pop21 h, h, if_neg (show ¬ pt_gv (21 : Int32) = true by decide)]
theorem px_pop22 {P : ST} {i : Nat} (h : P 9 i = 22) : pt_pop P i = 0 := by
  unfold pt_pop
  rw [h, if_neg (show ¬ pu_ur (22 : Int32) = true by decide), if_neg (show ¬ (22 : Int32) = 19 by decide), if_neg (show ¬ (22 : Int32) = 32 by decide), if_neg (show ¬ pt_one (22 : Int32) = true by decide), if_neg (show ¬ (22 : Int32) = 20 by decide)]
theorem px_nx22 {P : ST} {i : Nat} (h : P 9 i = 22) (s : List Nat) : pt_nx P i s = s.drop 0 := by
  unfold pt_nx
  rw [px_pop22 h, h, if_neg (show ¬ pt_gv (22 : Int32) = true by decide)]
theorem px_pop24 {P : ST} {i : Nat} (h : P 9 i = 24) : pt_pop P i = 1 := by
  unfold pt_pop
  rw [h, if_neg (show ¬ pu_ur (24 : Int32) = true by decide), if_neg (show ¬ (24 : Int32) = 19 by decide), if_neg (show ¬ (24 : Int32) = 32 by decide), if_pos (show pt_one (24 : Int32) = true by decide)]
theorem px_nx24 {P : ST} {i : Nat} (h : P 9 i = 24) (s : List Nat) : pt_nx P i s = s.drop 1 := by
  unfold pt_nx
  rw [px_pop24 h, h, if_neg (show ¬ pt_gv (24 : Int32) = true by decide)]
theorem px_pop30 {P : ST} {i : Nat} (h : P 9 i = 30) : pt_pop P i = 0 := by
  unfold pt_pop
  rw [h, if_neg (show ¬ pu_ur (30 : Int32) = true by decide), if_neg (show ¬ (30 : Int32) = 19 by decide), if_neg (show ¬ (30 : Int32) = 32 by decide), if_neg (show ¬ pt_one (30 : Int32) = true by decide), if_neg (show ¬ (30 : Int32) = 20 by decide)]
theorem px_nx30 {P : ST} {i : Nat} (h : P 9 i = 30) (s : List Nat) : pt_nx P i s = i :: s.drop 0 := by
  unfold pt_nx
  rw [px_pop30 h, h, if_pos (show pt_gv (30 : Int32) = true by decide)]
theorem px_pop31 {P : ST} {i : Nat} (h : P 9 i = 31) : pt_pop P i = 1 := by
  unfold pt_pop
  rw [h, if_neg (show ¬ pu_ur (31 : Int32) = true by decide), if_neg (show ¬ (31 : Int32) = 19 by decide), if_neg (show ¬ (31 : Int32) = 32 by decide), if_pos (show pt_one (31 : Int32) = true by decide)]
theorem px_nx31 {P : ST} {i : Nat} (h : P 9 i = 31) (s : List Nat) : pt_nx P i s = s.drop 1 := by
  unfold pt_nx
  rw [px_pop31 h, h, if_neg (show ¬ pt_gv (31 : Int32) = true by decide)]
theorem px_pop32 {P : ST} {i : Nat} (h : P 9 i = 32) : pt_pop P i = 0 := by
  unfold pt_pop
  rw [h, if_neg (show ¬ pu_ur (32 : Int32) = true by decide), if_neg (show ¬ (32 : Int32) = 19 by decide), if_pos rfl]
theorem px_nx32 {P : ST} {i : Nat} (h : P 9 i = 32) (s : List Nat) : pt_nx P i s = s.drop 0 := by
  unfold pt_nx
  rw [px_pop32 h, h, if_neg (show ¬ pt_gv (32 : Int32) = true by decide)]
theorem px_pop33 {P : ST} {i : Nat} (h : P 9 i = 33) : pt_pop P i = 1 := by
  unfold pt_pop
  rw [h, if_neg (show ¬ pu_ur (33 : Int32) = true by decide), if_neg (show ¬ (33 : Int32) = 19 by decide), if_neg (show ¬ (33 : Int32) = 32 by decide), if_pos (show pt_one (33 : Int32) = true by decide)]
theorem px_nx33 {P : ST} {i : Nat} (h : P 9 i = 33) (s : List Nat) : pt_nx P i s = s.drop 1 := by
  unfold pt_nx
  rw [px_pop33 h, h, if_neg (show ¬ pt_gv (33 : Int32) = true by decide)]
theorem px_pop34 {P : ST} {i : Nat} (h : P 9 i = 34) : pt_pop P i = 1 := by
  unfold pt_pop
  rw [h, if_neg (show ¬ pu_ur (34 : Int32) = true by decide), if_neg (show ¬ (34 : Int32) = 19 by decide), if_neg (show ¬ (34 : Int32) = 32 by decide), if_pos (show pt_one (34 : Int32) = true by decide)]
theorem px_nx34 {P : ST} {i : Nat} (h : P 9 i = 34) (s : List Nat) : pt_nx P i s = s.drop 1 := by
  unfold pt_nx
  rw [px_pop34 h, h, if_neg (show ¬ pt_gv (34 : Int32) = true by decide)]
theorem px_pop35 {P : ST} {i : Nat} (h : P 9 i = 35) : pt_pop P i = 0 := by
  unfold pt_pop
  rw [h, if_neg (show ¬ pu_ur (35 : Int32) = true by decide), if_neg (show ¬ (35 : Int32) = 19 by decide), if_neg (show ¬ (35 : Int32) = 32 by decide), if_neg (show ¬ pt_one (35 : Int32) = true by decide), if_neg (show ¬ (35 : Int32) = 20 by decide)]
theorem px_nx35 {P : ST} {i : Nat} (h : P 9 i = 35) (s : List Nat) : pt_nx P i s = s.drop 0 := by
  unfold pt_nx
  rw [px_pop35 h, h, if_neg (show ¬ pt_gv (35 : Int32) = true by decide)]
theorem px_pop36 {P : ST} {i : Nat} (h : P 9 i = 36) : pt_pop P i = 1 := by
  unfold pt_pop
  rw [h, if_neg (show ¬ pu_ur (36 : Int32) = true by decide), if_neg (show ¬ (36 : Int32) = 19 by decide), if_neg (show ¬ (36 : Int32) = 32 by decide), if_pos (show pt_one (36 : Int32) = true by decide)]
theorem px_nx36 {P : ST} {i : Nat} (h : P 9 i = 36) (s : List Nat) : pt_nx P i s = s.drop 1 := by
  unfold pt_nx
  rw [px_pop36 h, h, if_neg (show ¬ pt_gv (36 : Int32) = true by decide)]
theorem px_pop37 {P : ST} {i : Nat} (h : P 9 i = 37) : pt_pop P i = 0 := by
  unfold pt_pop
  rw [h, if_neg (show ¬ pu_ur (37 : Int32) = true by decide), if_neg (show ¬ (37 : Int32) = 19 by decide), if_neg (show ¬ (37 : Int32) = 32 by decide), if_neg (show ¬ pt_one (37 : Int32) = true by decide), if_neg (show ¬ (37 : Int32) = 20 by decide)]
theorem px_nx37 {P : ST} {i : Nat} (h : P 9 i = 37) (s : List Nat) : pt_nx P i s = s.drop 0 := by
  unfold pt_nx
  rw [px_pop37 h, h, if_neg (show ¬ pt_gv (37 : Int32) = true by decide)]
theorem px_popo {P : ST} {i : Nat} (h : pu_isop (P 9 i) = true) : pt_pop P i = 2 := by
  unfold pt_pop
  rw [if_pos (pu_op_u h).2]
theorem px_nxo {P : ST} {i : Nat} (h : pu_isop (P 9 i) = true) (s : List Nat) : pt_nx P i s = i :: s.drop 2 := by
  unfold pt_nx
  rw [px_popo h, if_pos]
  unfold pt_gv
  rw [h]
  rfl
/-- arguments as they are handed over -/
def pt_Q (P : ST) (a : Nat) : Nat → List Nat
  | 0 => []
  | i + 1 => if i < a then [] else if P 9 i = 19 then pt_Q P a i ++ [(pt_T P a i).getD (nn (P 10 i) - 1) 0] else if P 9 i = 20 then [] else pt_Q P a i
theorem pt_Q_a (P : ST) (a : Nat) : ∀ i, i ≤ a → pt_Q P a i = [] := by
  intro i
  cases i with
  | zero => intro _; rfl
  | succ i => intro h; exact if_pos (by omega)
theorem pt_Q_s {P : ST} {a i : Nat} (h : a ≤ i) : pt_Q P a (i + 1) = if P 9 i = 19 then pt_Q P a i ++ [(pt_T P a i).getD (nn (P 10 i) - 1) 0] else if P 9 i = 20 then [] else pt_Q P a i := if_neg (by omega)
/-- how many arguments a call takes -/
abbrev px_n (P : ST) (i : Nat) : Nat := nn (P 4 (nn (P 10 i)))
def pt_Qc (P : ST) (a0 a1 : Nat) : Prop := (∀ i, a0 ≤ i → i < a1 → pt_Q P a0 i ≠ [] → P 9 i = 19 ∨ P 9 i = 20) ∧ (∀ i, a0 ≤ i → i < a1 → P 9 i = 20 → pt_Q P a0 i = ((pt_T P a0 i).take (px_n P i)).reverse)
def px_set (cl : Nat → Int32) (u : Nat) (x : Int32) : Nat → Int32 := fun v => if v = u then x else cl v
abbrev px_L (P : ST) (i : Nat) : Nat := nn (P 13 (nn (P 10 i)))
abbrev px_O := Sum pu_Res (Nat × List Int32 × (Nat → Int32) × pu_M)
/-- one op of a text -/
def px_step (P : ST) (call : pu_Call) (ar : List Int32) (i : Nat) (st : List Int32) (cl : Nat → Int32) (m : pu_M) : Option px_O :=
  if pu_isop (P 9 i) = true then (match st with
    | y :: x :: s => if pu_fail (P 9 i) y = true then some (.inl (1, 0, m)) else some (.inr (i + 1, pu_cmp (P 9 i) x y :: s, cl, m))
    | _ => none)
  else if P 9 i = 0 then some (.inr (i + 1, P 10 i :: st, cl, m))
  else if P 9 i = 17 then (match st with
    | x :: s => some (.inr (i + 1, m (nn (x &&& 15)) :: s, cl, m))
    | _ => none)
  else if P 9 i = 18 then (match st with
    | y :: x :: s => some (.inr (i + 1, s, cl, fun z => if z = nn (x &&& 15) then y else m z))
    | _ => none)
  else if P 9 i = 20 then (call (P 10 i) (st.take (px_n P i)).reverse m).bind fun o => if o.1 = 0 then some (.inr (i + 1, o.2.1 :: st.drop (px_n P i), cl, o.2.2)) else some (.inl o)
  else if P 9 i = 21 then some (.inr (i + 1, st, px_set cl (nn (P 10 i)) (ar.getD (nn (P 10 i)) 0), m))
  else if P 9 i = 22 then some (.inr (px_L P i, st, cl, m))
  else if P 9 i = 24 then (match st with
    | x :: _ => some (.inl (0, x, m))
    | _ => none)
  else if P 9 i = 30 then some (.inr (i + 1, cl (nn (P 10 i)) :: st, cl, m))
  else if P 9 i = 31 then (match st with
    | x :: s => some (.inr (i + 1, s, px_set cl (nn (P 10 i)) x, m))
    | _ => none)
  else if P 9 i = 32 then (match st with
    | x :: s => some (.inr (i + 1, x :: s, px_set cl (nn (P 10 i)) x, m))
    | _ => none)
  else if P 9 i = 33 then (match st with
    | x :: s => some (.inr ((if x = 0 then px_L P i else i + 1), s, cl, m))
    | _ => none)
  else if P 9 i = 34 then (match st with
    | x :: s => some (.inr ((if x = 0 then i + 1 else px_L P i), s, cl, m))
    | _ => none)
  else if P 9 i = 36 then (match st with
    | _ :: s => some (.inr (i + 1, s, cl, m))
    | _ => none)
  else some (.inr (i + 1, st, cl, m))
def px_run (P : ST) (call : pu_Call) (ar : List Int32) : Nat → Nat → List Int32 → (Nat → Int32) → pu_M → Option pu_Res
  | 0, _, _, _, _ => none
  | n + 1, i, st, cl, m => (px_step P call ar i st cl m).bind fun o => Sum.elim some (fun x => px_run P call ar n x.1 x.2.1 x.2.2.1 x.2.2.2) o
/-- calls of texts, d of them in each other, n ops each -/
def px_callT (P : ST) (fs n : Nat) : Nat → pu_Call
  | 0 => fun _ _ m => some (3, 0, m)
  | d + 1 => fun f q m => if ixb f fs = true ∧ q.length = nn (P 4 (nn f)) then px_run P (px_callT P fs n d) q n (nn (P 6 (nn f))) [] (fun _ => 0) m else none
/-- calls of blocks, with as many arguments as there are parameters -/
def pu_callG (fs : Nat) (np : Nat → Nat) (Fs : Nat → pu_Flow) (n : Nat) : Nat → pu_Call
  | 0 => fun _ _ m => some (3, 0, m)
  | d + 1 => fun f q m => if ixb f fs = true ∧ q.length = np (nn f) then pu_run (Fs (nn f)) (pu_callG fs np Fs n d) q n 0 0 (fun _ => 0, m, []) else none
theorem pu_callG_le {fs n : Nat} {np : Nat → Nat} {Fs Gs : Nat → pu_Flow} (h : ∀ f, f < fs → ∀ call ar n e m q r, pu_run (Fs f) call ar n 0 0 (e, m, q) = some r → pu_run (Gs f) call ar n 0 0 (e, m, q) = some r) : ∀ d, pu_cle (pu_callG fs np Fs n d) (pu_callG fs np Gs n d) := by
  intro d
  induction d with
  | zero => intro f q m r hr; exact hr
  | succ d ih =>
    intro f q m r hr
    have hr : (if ixb f fs = true ∧ q.length = np (nn f) then pu_run (Fs (nn f)) (pu_callG fs np Fs n d) q n 0 0 (fun _ => 0, m, []) else none) = some r := hr
    show (if ixb f fs = true ∧ q.length = np (nn f) then pu_run (Gs (nn f)) (pu_callG fs np Gs n d) q n 0 0 (fun _ => 0, m, []) else none) = some r
    by_cases hf : ixb f fs = true ∧ q.length = np (nn f)
    · rw [if_pos hf] at hr ⊢
      exact pu_run_call ih _ _ _ _ _ (h (nn f) (pv_ixn hf.1).2 _ _ _ _ _ _ _ hr)
    · rw [if_neg hf] at hr; cases hr
