/-! a row of references by its first places; rows of blocks put together -/
def f6 {α : Type} (x0 x1 x2 x3 x4 x5 : α) : Nat → α := fun i => if i = 0 then x0 else if i = 1 then x1 else if i = 2 then x2 else if i = 3 then x3 else if i = 4 then x4 else x5
theorem arrV_ex {k : ClassId} {n : Nat} {f g : Nat → Value} (h : ∀ j, j < n → f j = g j) : arrV k n f = arrV k n g := by
  have hs : (arrV k n f).slots = (arrV k n g).slots := by
    apply Array.ext
    · rw [arrV_size, arrV_size]
    · intro i h1 h2
      have hi : i < n := by rw [arrV_size] at h1; exact h1
      have e1 := arrV_read k f hi
      have e2 := arrV_read k g hi
      rw [Array.getElem?_eq_getElem h1] at e1
      rw [Array.getElem?_eq_getElem h2] at e2
      rw [Option.some.inj e1, Option.some.inj e2, h i hi]
  unfold arrV at hs ⊢
  have hs9 : Array.ofFn (n := n) (fun j => f j.val) = Array.ofFn (n := n) (fun j => g j.val) := hs
  rw [hs9]
theorem vr6 {D : va_G} {cl : List vw_C} {H : Heap} {a : Nat} {c : ClassId} {f g : Nat → Option Nat} (h : va_at D cl (a, .inl (c, 6, .inr (.inr (.inr (.inr f))))) H) (he : ∀ j, j < 6 → f j = g j) : va_at D cl (a, .inl (c, 6, .inr (.inr (.inr (.inr g))))) H := by
  have h1 : H[a]? = some (vp_cell c (6, .inr (.inr (.inr (.inr f))))) := h
  show H[a]? = some (vp_cell c (6, .inr (.inr (.inr (.inr g)))))
  rw [h1, vp_cell_q, vp_cell_q]
  exact congrArg some (arrV_ex fun j hj => congrArg va_rf (he j hj))
theorem vP_r6 {D : va_G} {cl : List vw_C} {H : Heap} {L : List va_W} {a b : Nat} {c d : ClassId} {f g f' g' : Nat → Option Nat} (h : va_P D cl (List.flatten ([(a, .inl (c, 6, .inr (.inr (.inr (.inr f)))))] :: [(b, .inl (d, 6, .inr (.inr (.inr (.inr f')))))] :: L)) H) (he : ∀ j, j < 6 → f j = g j) (he' : ∀ j, j < 6 → f' j = g' j) : va_P D cl (List.flatten ([(a, .inl (c, 6, .inr (.inr (.inr (.inr g)))))] :: [(b, .inl (d, 6, .inr (.inr (.inr (.inr g')))))] :: L)) H := by
  intro k q hk
  match k, hk with
  | 0, hk =>
    obtain rfl := Option.some.inj (show some _ = some q from hk)
    exact vr6 (h 0 _ rfl) he
  | 1, hk =>
    obtain rfl := Option.some.inj (show some _ = some q from hk)
    exact vr6 (h 1 _ rfl) he'
  | k + 2, hk => exact h (k + 2) q hk
theorem vD_ad {A : Nat → Prop} {ws ws' : va_W} (h : va_D A ws) (e : ws.map Prod.fst = ws'.map Prod.fst) : va_D A ws' := by
  have hk : ∀ (k : Nat) (q : Nat × va_E), ws'[k]? = some q → ∃ q', ws[k]? = some q' ∧ q'.1 = q.1 := by
    intro k q hq
    have h1 : (ws'.map Prod.fst)[k]? = some q.1 := by rw [List.getElem?_map, hq]; rfl
    rw [← e, List.getElem?_map] at h1
    obtain ⟨q', h2, h3⟩ := Option.map_eq_some_iff.mp h1
    exact ⟨q', h2, h3⟩
  refine ⟨fun i j p q hi hj hpq => ?_, fun k q hq => ?_⟩
  · obtain ⟨p', hp1, hp2⟩ := hk i p hi
    obtain ⟨q', hq1, hq2⟩ := hk j q hj
    exact h.1 i j p' q' hp1 hq1 (by rw [hp2, hq2]; exact hpq)
  · obtain ⟨q', hq1, hq2⟩ := hk k q hq
    rw [← hq2]
    exact h.2 k q' hq1
theorem vP_nil {D : va_G} {cl : List vw_C} {H : Heap} : va_P D cl (List.flatten ([] : List va_W)) H := fun k q h => (by cases h)
theorem vD_nil {A : Nat → Prop} : va_D A (List.flatten ([] : List va_W)) := ⟨fun i j p q h => (by cases h), fun k q h => (by cases h)⟩
theorem vK_nil0 {D : va_G} {cl : List vw_C} {t : List (ClassId × FieldType)} {U : State} (h : va_K D cl t U) : va_K D cl (List.flatten ([] : List (List (ClassId × FieldType)))) U := ⟨h.1, fun k q hq => (by cases hq)⟩
