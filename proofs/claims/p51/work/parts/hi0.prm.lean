/-! rows of blocks in another order, by their places -/
def nth9 {α : Type} : List α → Nat → Option α
  | [], _ => none
  | a :: _, 0 => some a
  | _ :: l, n + 1 => nth9 l n
def pick9 {α : Type} (L : List α) : List Nat → List α
  | [] => []
  | i :: ix => (match nth9 L i with
    | none => []
    | some a => [a]) ++ pick9 L ix
theorem pick9_app {α : Type} (L : List α) : ∀ (a b : List Nat), pick9 L (a ++ b) = pick9 L a ++ pick9 L b := by
  intro a
  induction a with
  | nil => intro b; rfl
  | cons i a ih => intro b; show _ ++ pick9 L (a ++ b) = (_ ++ pick9 L a) ++ pick9 L b; rw [ih, List.append_assoc]
theorem pick9_perm {α : Type} (L : List α) {a b : List Nat} (h : a.Perm b) : (pick9 L a).Perm (pick9 L b) := by
  induction h with
  | nil => exact List.Perm.refl _
  | cons x _ ih => exact List.Perm.append_left _ ih
  | swap x y l =>
    show (_ ++ (_ ++ pick9 L l)).Perm (_ ++ (_ ++ pick9 L l))
    rw [← List.append_assoc, ← List.append_assoc]
    exact List.Perm.append_right _ List.perm_append_comm
  | trans _ _ i1 i2 => exact i1.trans i2
theorem pick9_sh {α : Type} (x : α) (L : List α) : ∀ ix : List Nat, pick9 (x :: L) (ix.map (· + 1)) = pick9 L ix := by
  intro ix
  induction ix with
  | nil => rfl
  | cons i ix ih => show (match nth9 L i with | none => [] | some a => [a]) ++ pick9 (x :: L) (ix.map (· + 1)) = _; rw [ih]; rfl
theorem pick9_all {α : Type} : ∀ L : List α, pick9 L (List.range L.length) = L := by
  intro L
  induction L with
  | nil => rfl
  | cons x L ih =>
    rw [List.length_cons, List.range_succ_eq_map]
    show [x] ++ pick9 (x :: L) ((List.range L.length).map Nat.succ) = x :: L
    have := pick9_sh x L (List.range L.length)
    rw [show (List.range L.length).map Nat.succ = (List.range L.length).map (· + 1) from rfl, this, ih]
    rfl
theorem perm_pick {α : Type} {L M : List α} (n : Nat) (ix : List Nat) (hn : L.length = n) (h1 : pick9 L ix = M) (h2 : (List.range n).isPerm ix = true) : L.Perm M := by
  have h := pick9_perm L (List.isPerm_iff.mp h2)
  rw [← hn, pick9_all, h1] at h
  exact h
