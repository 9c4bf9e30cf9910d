/-! pure side, the allocator 31: how a function begins -/
theorem pg_gd_0 {V : Nat} {E : Int32 → Prop} : ∀ l : List pu_Stp, pg_gd V V E l [] := by
  intro l
  induction l with
  | nil => intro u u1 u2; omega
  | cons s l ih => exact Or.inr ⟨fun u u1 u2 => by omega, Or.inr ⟨fun g u1 u2 => by omega, ih⟩⟩
/-- no guests at first -/
theorem pg_gs_0 {B V : Nat} {fw x9 : ST} {qs : Nat → List Nat} : pg_gs B V V fw x9 qs :=
  ⟨fun b c a a' u _ _ _ _ u1 u2 => by omega, fun b _ => pg_gd_0 _⟩
/-- each block is reached -/
theorem pu_rch_dom {F F' : pu_Flow} {B : Nat} {D : Nat → Nat → Prop} (hd : pu_dom F B D) (he : ∀ b, b < B → (F' b).2.2 = (F b).2.2) : ∀ m b, b < m → b < B → pu_rch F' b := by
  intro m
  induction m with
  | zero => intro b hb; omega
  | succ m ih =>
    intro b hb hB
    by_cases h0 : b = 0
    · rw [h0]
      exact fun S s0 _ => s0
    · obtain ⟨p, p1, p2⟩ := hd.1 b hB h0
      refine fun S s0 s1 => s1 p b (ih p (by omega) (by omega) S s0 s1) ?_
      unfold pu_sc at p2 ⊢
      rw [he p (by omega)]
      exact p2
/-- the copies of a way, each as steps are to be -/
theorem pa_pmr_q {fs na : Nat} : ∀ (cs : List pu_Stp) (l : List (Int32 × Int32)) (k k' : Nat), pu_pmr cs l k k' → (∀ y, y ∈ l → (∃ u, u < k ∧ y.1 = pu_I u) ∧ ∃ u, u < k ∧ y.2 = pu_I u) → k' < 2147483648 → ∀ s, s ∈ cs → pa_sq fs na k' 0 s := by
  intro cs
  induction cs with
  | nil => intro l k k' _ _ _ s hs; cases hs
  | cons s cs ih =>
    intro l k k' h hl hk t ht
    have hmk : ∀ g v : Int32, (∃ u, u < k' ∧ g = pu_I u) → (∃ u, u < k' ∧ v = pu_I u) → g ≠ v → pa_sq fs na k' 0 (25, g, v, -1) := fun g v h1 h2 h3 =>
      ⟨(by unfold pu_kw; decide : pu_kw 25), ⟨fun _ => h2, fun q => absurd q (show ¬ pu_ur 25 = true by decide), fun _ => h1, fun q => absurd q (show ¬ pu_gw 25 = false by decide)⟩, fun q => absurd q (show ¬ (25 : Int32) = 26 by decide), fun q => absurd q (show ¬ (25 : Int32) = 27 by decide), fun _ => h3, fun q => absurd q (show ¬ (25 : Int32) = 20 by decide), fun q => absurd q (show ¬ (25 : Int32) = 21 by decide)⟩
    rcases h with ⟨a, x, c, rfl, hx, rfl, h⟩ | ⟨x, c, rfl, hx, rfl, h⟩
    · have hkk := pu_pmr_k cs _ _ _ h
      have hxm : x ∈ a ++ x :: c := List.mem_append_right _ List.mem_cons_self
      rcases List.mem_cons.mp ht with rfl | ht
      · obtain ⟨⟨u, u1, u2⟩, ⟨v, v1, v2⟩⟩ := hl x hxm
        exact hmk _ _ ⟨u, by omega, u2⟩ ⟨v, by omega, v2⟩ (hx x hxm).symm
      · refine ih _ _ _ h (fun y hy => hl y ?_) hk t ht
        rcases List.mem_append.mp hy with q | q
        · exact List.mem_append_left _ q
        · exact List.mem_append_right _ (List.mem_cons_of_mem _ q)
    · have hkk := pu_pmr_k cs _ _ _ h
      rcases List.mem_cons.mp ht with rfl | ht
      · obtain ⟨⟨u, u1, u2⟩, _⟩ := hl x List.mem_cons_self
        refine hmk _ _ ⟨k, by omega, rfl⟩ ⟨u, by omega, u2⟩ fun e => ?_
        rw [u2] at e
        have := pu_inj (by omega) (by omega) e
        omega
      · refine ih _ _ _ h (fun y hy => ?_) hk t ht
        obtain ⟨y0, hy0, rfl⟩ := List.mem_map.mp hy
        obtain ⟨⟨u, u1, u2⟩, ⟨v, v1, v2⟩⟩ := hl y0 hy0
        by_cases e : y0.2 = x.1
        · rw [if_pos e]
          exact ⟨⟨u, by omega, u2⟩, ⟨k, by omega, rfl⟩⟩
        · rw [if_neg e]
          exact ⟨⟨u, by omega, u2⟩, ⟨v, by omega, v2⟩⟩
