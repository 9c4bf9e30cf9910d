/-! pure side, the graph 23: each guest is given once, also when values are put away -/
/-- how often steps give a value -/
def pg_c1 (u : Nat) (l : List pu_Stp) : Nat := l.countP (fun s => pu_gw s.1 && decide (s.2.1 = pu_I u))
theorem pg_c1_app (u : Nat) (a b : List pu_Stp) : pg_c1 u (a ++ b) = pg_c1 u a + pg_c1 u b := List.countP_append
theorem pg_c1_1 (u : Nat) (s : pu_Stp) : pg_c1 u [s] = pa_b1 (pu_gw s.1 && decide (s.2.1 = pu_I u)) := by
  unfold pg_c1 pa_b1
  rw [List.countP_singleton]
theorem pg_c1_0 (u : Nat) : pg_c1 u [] = 0 := rfl
section UNQ
variable {V : Nat} {S ns : Int32 → Bool} {sl nm : Int32 → Int32}
theorem pg_c1_fe {v : Int32} {u k : Nat} (hu : u < 2147483648) (hk : k < 2147483648) : pg_c1 u [pu_fe ns sl nm v k] = if u = k then 1 else 0 := by
  obtain ⟨h1, h2, h3, h4⟩ := pg_fe_k (ns := ns) (sl := sl) (nm := nm) v k
  rw [pg_c1_1, h3, h4]
  by_cases e : u = k
  · rw [if_pos e, e, decide_eq_true rfl]; rfl
  · rw [if_neg e, decide_eq_false (fun q => e (pu_inj hk hu q).symm)]; rfl
theorem pg_c1_pre {u k : Nat} {s : pu_Stp} (hu : u < 2147483648) (hk : k + 2 < 2147483648) : pg_c1 u (pu_pre S ns sl nm k s) = (if pu_fl S s = true ∧ u = k then 1 else 0) + (if pu_fr S s = true ∧ u = pu_k1 S k s then 1 else 0) := by
  have hk1 : pu_k1 S k s ≤ k + 1 := by
    unfold pu_k1
    by_cases c : pu_fl S s = true
    · rw [if_pos c]; exact Nat.le_refl _
    · rw [if_neg c]; omega
  unfold pu_pre
  rw [pg_c1_app]
  congr 1
  · by_cases c : pu_fl S s = true
    · rw [if_pos c, pg_c1_fe hu (by omega)]
      exact pg_ifc ⟨fun h => ⟨c, h⟩, fun h => h.2⟩
    · rw [if_neg c, if_neg (fun h => c h.1)]; rfl
  · by_cases c : pu_fr S s = true
    · rw [if_pos c, pg_c1_fe hu (by omega)]
      exact pg_ifc ⟨fun h => ⟨c, h⟩, fun h => h.2⟩
    · rw [if_neg c, if_neg (fun h => c h.1)]; rfl
theorem pg_c1_pa (hV : V < 2147483648) : ∀ (l : List pu_Stp) (k : Nat), V ≤ k → (pu_pa S ns sl nm l k).2 + 3 < 2147483648 → (∀ s, s ∈ l → pu_gw s.1 = true → ∃ u, u < V ∧ s.2.1 = pu_I u) →
    (∀ u, u < V → pg_c1 u (pu_pa S ns sl nm l k).1 ≤ pg_c1 u l) ∧ (∀ u, V ≤ u → u < 2147483648 → pg_c1 u (pu_pa S ns sl nm l k).1 ≤ if k ≤ u ∧ u < (pu_pa S ns sl nm l k).2 then 1 else 0) ∧ (∀ u, u < V → S (pu_I u) = true → pg_c1 u (pu_pa S ns sl nm l k).1 = 0) := by
  intro l
  induction l with
  | nil =>
    intro k _ _ _
    exact ⟨fun u _ => Nat.le_refl _, fun u _ _ => Nat.zero_le _, fun u _ _ => rfl⟩
  | cons s l ih =>
    intro k hk hk2 hg
    have hk2 : (pu_pa S ns sl nm l (pu_k3 S ns k s)).2 + 3 < 2147483648 := hk2
    have hk3 := pu_pa_k (S := S) (ns := ns) (sl := sl) (nm := nm) l (pu_k3 S ns k s)
    obtain ⟨j1, j2, j3, _⟩ := pu_k12 (S := S) (ns := ns) k s
    obtain ⟨ih1, ih2, ih3⟩ := ih (pu_k3 S ns k s) (by omega) hk2 fun t ht => hg t (List.mem_cons_of_mem _ ht)
    have hgs := hg s List.mem_cons_self
    have hown : ∀ u, u < 2147483648 → pg_c1 u (pu_own S ns sl k s) = (if pu_gw s.1 = true ∧ S s.2.1 = true then (if ns s.2.1 = true then 0 else if u = pu_k2 S k s then 1 else 0) else pa_b1 (pu_gw s.1 && decide (s.2.1 = pu_I u))) := fun u hu => by
      unfold pu_own
      by_cases c : pu_gw s.1 = true ∧ S s.2.1 = true
      · rw [if_pos c, if_pos c]
        by_cases c2 : ns s.2.1 = true
        · rw [if_pos c2, if_pos c2]; rfl
        · rw [if_neg c2, if_neg c2]
          show pg_c1 u ([(s.1, pu_I (pu_k2 S k s), pu_lf S k s, pu_rt S k s)] ++ [(27, -1, pu_I (pu_k2 S k s), sl s.2.1)]) = _
          rw [pg_c1_app, pg_c1_1, pg_c1_1]
          show pa_b1 (pu_gw s.1 && decide (pu_I (pu_k2 S k s) = pu_I u)) + pa_b1 (pu_gw 27 && _) = _
          rw [c.1, show pu_gw 27 = false from by decide]
          by_cases e : u = pu_k2 S k s
          · rw [if_pos e, e, decide_eq_true rfl]; rfl
          · rw [if_neg e, decide_eq_false (fun q => e (pu_inj (by omega) hu q).symm)]; rfl
      · rw [if_neg c, if_neg c, pg_c1_1]
    have hcons : ∀ u, pg_c1 u (pu_pa S ns sl nm (s :: l) k).1 = pg_c1 u (pu_pre S ns sl nm k s) + (pg_c1 u (pu_own S ns sl k s) + pg_c1 u (pu_pa S ns sl nm l (pu_k3 S ns k s)).1) := fun u => by
      show pg_c1 u (pu_pre S ns sl nm k s ++ (pu_own S ns sl k s ++ (pu_pa S ns sl nm l (pu_k3 S ns k s)).1)) = _
      rw [pg_c1_app, pg_c1_app]
    have hsl : ∀ u, pg_c1 u (s :: l) = pa_b1 (pu_gw s.1 && decide (s.2.1 = pu_I u)) + pg_c1 u l := fun u => by
      rw [← pg_c1_1]
      exact pg_c1_app u [s] l
    refine ⟨?_, ?_, ?_⟩
    · intro u hu
      rw [hcons, hsl, pg_c1_pre (by omega) (by omega), if_neg (fun h => by have := h.2; omega), if_neg (fun h => by have := h.2; omega), hown u (by omega)]
      have h1 := ih1 u hu
      by_cases c : pu_gw s.1 = true ∧ S s.2.1 = true
      · rw [if_pos c]
        by_cases c2 : ns s.2.1 = true
        · rw [if_pos c2]; omega
        · rw [if_neg c2, if_neg (by omega)]; omega
      · rw [if_neg c]; omega
    · intro u hu hu2
      have h2 := ih2 u hu hu2
      rw [hcons, pg_c1_pre hu2 (by omega), hown u hu2]
      show _ ≤ if k ≤ u ∧ u < (pu_pa S ns sl nm l (pu_k3 S ns k s)).2 then 1 else 0
      have hz : pa_b1 (pu_gw s.1 && decide (s.2.1 = pu_I u)) = 0 := by
        cases e : pu_gw s.1 with
        | false => rfl
        | true =>
          obtain ⟨x, x1, x2⟩ := hgs e
          rw [x2, decide_eq_false (fun q => by have := pu_inj (by omega) hu2 q; omega)]
          rfl
      rw [hz]
      have hk1 : pu_k1 S k s = if pu_fl S s = true then k + 1 else k := rfl
      have hk2' : pu_k2 S k s = if pu_fr S s = true then pu_k1 S k s + 1 else pu_k1 S k s := rfl
      have hk3' : pu_k3 S ns k s = if pu_gw s.1 = true ∧ S s.2.1 = true ∧ ns s.2.1 = false then pu_k2 S k s + 1 else pu_k2 S k s := rfl
      -- the three new numbers
      have key : ∀ (p1 p2 p3 : Prop) [Decidable p1] [Decidable p2] [Decidable p3] (k1 k2 k3 K r : Nat), k1 = (if p1 then k + 1 else k) → k2 = (if p2 then k1 + 1 else k1) → k3 = (if p3 then k2 + 1 else k2) → k3 ≤ K → (r ≤ if k3 ≤ u ∧ u < K then 1 else 0) → (if p1 ∧ u = k then 1 else 0) + (if p2 ∧ u = k1 then 1 else 0) + ((if p3 ∧ u = k2 then 1 else 0) + r) ≤ if k ≤ u ∧ u < K then 1 else 0 := by
        intro p1 p2 p3 _ _ _ k1 k2 k3 K r a1 a2 a3 a4 a5
        by_cases q1 : p1 <;> by_cases q2 : p2 <;> by_cases q3 : p3 <;> simp only [q1, q2, q3, if_true, if_false, true_and, false_and] at a1 a2 a3 ⊢ <;> subst a1 <;> subst a2 <;> subst a3 <;> (repeat' split at a5) <;> (repeat' split) <;> omega
      have h9 := key (pu_fl S s = true) (pu_fr S s = true) (pu_gw s.1 = true ∧ S s.2.1 = true ∧ ns s.2.1 = false) _ _ _ _ _ hk1 hk2' hk3' hk3 h2
      refine Nat.le_trans ?_ h9
      refine Nat.add_le_add_left (Nat.add_le_add_right ?_ _) _
      by_cases c : pu_gw s.1 = true ∧ S s.2.1 = true
      · rw [if_pos c]
        by_cases c2 : ns s.2.1 = true
        · rw [if_pos c2]; exact Nat.zero_le _
        · rw [if_neg c2]
          by_cases e : u = pu_k2 S k s
          · rw [if_pos e, if_pos ⟨⟨c.1, c.2, by simpa using c2⟩, e⟩]; exact Nat.le_refl _
          · rw [if_neg e]; exact Nat.zero_le _
      · rw [if_neg c]; exact Nat.zero_le _
    · intro u hu hS
      rw [hcons, pg_c1_pre (by omega) (by omega), if_neg (fun h => by have := h.2; omega), if_neg (fun h => by have := h.2; omega), hown u (by omega), ih3 u hu hS]
      by_cases c : pu_gw s.1 = true ∧ S s.2.1 = true
      · rw [if_pos c]
        by_cases c2 : ns s.2.1 = true
        · rw [if_pos c2]
        · rw [if_neg c2, if_neg (by omega)]
      · rw [if_neg c]
        cases e : pu_gw s.1 with
        | false => rfl
        | true => rw [decide_eq_false (fun q => c ⟨e, by rw [q]; exact hS⟩)]; rfl
end UNQ
/-- a list without the same twice, where all that are such are one -/
theorem pg_cp1 {p : Nat → Bool} : ∀ l : List Nat, l.Nodup → (∀ a a', a ∈ l → a' ∈ l → p a = true → p a' = true → a = a') → l.countP p ≤ 1 := by
  intro l
  induction l with
  | nil => intro _ _; exact Nat.zero_le _
  | cons x l ih =>
    intro hnd h
    have hnd2 := List.nodup_cons.mp hnd
    have h1 := ih hnd2.2 fun a a' ha ha' => h a a' (List.mem_cons_of_mem _ ha) (List.mem_cons_of_mem _ ha')
    by_cases e : p x = true
    · have h0 : l.countP p = 0 := List.countP_eq_zero.mpr fun y hy hpy => hnd2.1 (by rw [h x y List.mem_cons_self (List.mem_cons_of_mem _ hy) e hpy]; exact hy)
      rw [List.countP_cons_of_pos e, h0]
      exact Nat.le_refl _
    · rw [List.countP_cons_of_neg e]
      exact h1
theorem pg_cp2 {p : Nat → Bool} : ∀ (l : List Nat) (a a' : Nat), l.countP p ≤ 1 → a ∈ l → a' ∈ l → p a = true → p a' = true → a = a' := by
  intro l
  induction l with
  | nil => intro a a' _ h; cases h
  | cons x l ih =>
    intro a a' hc ha ha' hp hp'
    have pos : ∀ y, y ∈ l → p y = true → 0 < l.countP p := fun y hy hpy => List.countP_pos_iff.mpr ⟨y, hy, hpy⟩
    by_cases e : p x = true
    · rw [List.countP_cons_of_pos e] at hc
      have hz : ∀ y, y ∈ x :: l → p y = true → y = x := fun y hy hpy => by
        rcases List.mem_cons.mp hy with q | q
        · exact q
        · have := pos y q hpy; omega
      rw [hz a ha hp, hz a' ha' hp']
    · rw [List.countP_cons_of_neg e] at hc
      have hne : ∀ y, y ∈ x :: l → p y = true → y ∈ l := fun y hy hpy => by
        rcases List.mem_cons.mp hy with q | q
        · rw [q] at hpy; exact absurd hpy e
        · exact q
      exact ih a a' hc (hne a ha hp) (hne a' ha' hp') hp hp'
theorem pg_c1_map (u : Nat) (x9 : ST) (l : List Nat) : pg_c1 u (l.map (pv_S x9)) = l.countP (fun a => pu_gw (x9 2 a) && decide (x9 3 a = pu_I u)) := by
  unfold pg_c1
  rw [List.countP_map]
  rfl
/-- each guest given once: said by counts -/
theorem pg_un_c {B H V N : Nat} {x9 : ST} {qs : Nat → List Nat} (hd : pv_dis B N qs) : pg_un B H V x9 qs ↔ ∀ u, H ≤ u → u < V → (∀ b, b < B → pg_c1 u ((qs b).map (pv_S x9)) ≤ 1) ∧ ∀ b c, b < B → c < B → pg_c1 u ((qs b).map (pv_S x9)) ≠ 0 → pg_c1 u ((qs c).map (pv_S x9)) ≠ 0 → b = c := by
  have ex : ∀ u b, pg_c1 u ((qs b).map (pv_S x9)) ≠ 0 → ∃ a, a ∈ qs b ∧ pu_gw (x9 2 a) = true ∧ x9 3 a = pu_I u := fun u b h => by
    rw [pg_c1_map] at h
    obtain ⟨a, a1, a2⟩ := List.countP_pos_iff.mp (Nat.pos_of_ne_zero h)
    obtain ⟨a3, a4⟩ := (Bool.and_eq_true _ _).mp a2
    exact ⟨a, a1, a3, of_decide_eq_true a4⟩
  have ne : ∀ u b a, a ∈ qs b → pu_gw (x9 2 a) = true → x9 3 a = pu_I u → pg_c1 u ((qs b).map (pv_S x9)) ≠ 0 := fun u b a h1 h2 h3 => by
    rw [pg_c1_map]
    have := List.countP_pos_iff (p := fun a => pu_gw (x9 2 a) && decide (x9 3 a = pu_I u)).mpr ⟨a, h1, by rw [h2, decide_eq_true h3]; rfl⟩
    omega
  constructor
  · intro h u u1 u2
    refine ⟨fun b hb => ?_, fun b c hb hc h1 h2 => ?_⟩
    · rw [pg_c1_map]
      refine pg_cp1 _ (hd.2.1 b hb) fun a a' ha ha' hp hp' => ?_
      obtain ⟨a3, a4⟩ := (Bool.and_eq_true _ _).mp hp
      obtain ⟨a5, a6⟩ := (Bool.and_eq_true _ _).mp hp'
      exact h b b a a' u hb hb ha ha' u1 u2 a3 a5 (of_decide_eq_true a4) (of_decide_eq_true a6)
    · obtain ⟨a, a1, a2, a3⟩ := ex u b h1
      obtain ⟨a', a1', a2', a3'⟩ := ex u c h2
      have := h b c a a' u hb hc a1 a1' u1 u2 a2 a2' a3 a3'
      rw [← this] at a1'
      exact hd.2.2 b c a hb hc a1 a1'
  · intro h b c a a' u hb hc ha ha' u1 u2 g1 g2 g3 g4
    obtain ⟨h1, h2⟩ := h u u1 u2
    have e := h2 b c hb hc (ne u b a ha g1 g3) (ne u c a' ha' g2 g4)
    subst e
    have h3 := h1 b hb
    rw [pg_c1_map] at h3
    exact pg_cp2 (qs b) a a' h3 ha ha' (by show (pu_gw (x9 2 a) && decide (x9 3 a = pu_I u)) = true; rw [g1, decide_eq_true g3]; rfl) (by show (pu_gw (x9 2 a') && decide (x9 3 a' = pu_I u)) = true; rw [g2, decide_eq_true g4]; rfl)
