/-! pure side, the graph 22: guests' discipline, values put away -/
section GPA
variable {H V V2 : Nat} {E E' : Int32 → Prop} {S ns : Int32 → Bool} {sl nm : Int32 → Int32} {fin : List pu_Stp}
theorem pg_fe_k (v : Int32) (k : Nat) : pu_ul (pu_fe ns sl nm v k).1 = false ∧ pu_ur (pu_fe ns sl nm v k).1 = false ∧ pu_gw (pu_fe ns sl nm v k).1 = true ∧ (pu_fe ns sl nm v k).2.1 = pu_I k := by
  unfold pu_fe
  by_cases h : ns v = true
  · rw [if_pos h]; exact ⟨(by decide : pu_ul 0 = false), (by decide : pu_ur 0 = false), (by decide : pu_gw 0 = true), rfl⟩
  · rw [if_neg h]; exact ⟨(by decide : pu_ul 26 = false), (by decide : pu_ur 26 = false), (by decide : pu_gw 26 = true), rfl⟩
theorem pg_gd_fe {v : Int32} {k : Nat} {l : List pu_Stp} {P : List Nat} (hk : H ≤ k) (hk2 : k < V2) (hP : k ∉ P) (hl : P.length ≤ 1) (h : pg_gd H V2 E' l (P ++ [k])) : pg_gd H V2 E' (pu_fe ns sl nm v k :: l) P := by
  obtain ⟨h1, h2, h3, h4⟩ := pg_fe_k (ns := ns) (sl := sl) (nm := nm) v k
  exact Or.inl ⟨k, ⟨h1, h2, h3⟩, h4, ⟨hk, hk2⟩, hP, hl, h⟩
theorem pg_len1 {P : List Nat} (hnd : P.Nodup) {r : Nat} (h : ∀ u, u ∈ P → u = r) : P.length ≤ 1 := by
  cases P with
  | nil => exact Nat.zero_le _
  | cons a P =>
    cases P with
    | nil => exact Nat.le_refl _
    | cons b P =>
      have h1 := h a List.mem_cons_self
      have h2 := h b (List.mem_cons_of_mem _ List.mem_cons_self)
      exact absurd (show a ∈ b :: P by rw [h1, ← h2]; exact List.mem_cons_self) (List.nodup_cons.mp hnd).1
theorem pg_nil {P : List Nat} (h : ∀ u, u ∈ P → False) : P = [] := by
  cases P with
  | nil => rfl
  | cons a P => exact absurd List.mem_cons_self (h a)
theorem pg_gd_pa (hHV : H ≤ V) (hV2 : V2 < 1000000) (hS : ∀ x, S x = true → ∃ h, h < H ∧ x = pu_I h)
    (hfin : ∀ P, P.Nodup → (∀ u, u ∈ P → H ≤ u ∧ u < V) → (∀ u, H ≤ u → u < V → (E (pu_I u) ↔ u ∈ P)) → pg_gd H V2 E' fin P) :
    ∀ (l : List pu_Stp) (k : Nat) (P : List Nat), V ≤ k → (pu_pa S ns sl nm l k).2 ≤ V2 →
      (∀ s, s ∈ l → (pu_ul s.1 = true → ∃ u, u < V ∧ s.2.2.1 = pu_I u) ∧ (pu_ur s.1 = true → ∃ u, u < V ∧ s.2.2.2 = pu_I u) ∧ (pu_gw s.1 = true → ∃ u, u < V ∧ s.2.1 = pu_I u) ∧ (pu_gw s.1 = true → S s.2.1 = true → ns s.2.1 = true → s.1 = 0)) →
      P.Nodup → (∀ u, u ∈ P → H ≤ u ∧ u < V) → pg_gd H V E l P → pg_gd H V2 E' ((pu_pa S ns sl nm l k).1 ++ fin) P := by
  intro l
  induction l with
  | nil => intro k P _ _ _ hnd hP h; exact hfin P hnd hP h
  | cons s l ih =>
    intro k P hk hk2 hq hnd hP h
    have hk2 : (pu_pa S ns sl nm l (pu_k3 S ns k s)).2 ≤ V2 := hk2
    have hk3 := pu_pa_k (S := S) (ns := ns) (sl := sl) (nm := nm) l (pu_k3 S ns k s)
    obtain ⟨j1, j2, j3, _⟩ := pu_k12 (S := S) (ns := ns) k s
    have ih' := fun P => ih (pu_k3 S ns k s) P (by omega) hk2 (fun t ht => hq t (List.mem_cons_of_mem _ ht))
    obtain ⟨q1, q2, q3, q4⟩ := hq s List.mem_cons_self
    have hSg : ∀ g, H ≤ g → g < V2 → S (pu_I g) = true → False := fun g h1 h2 h3 => by
      obtain ⟨h', h4, h5⟩ := hS _ h3
      have := pu_inj (by omega) (by omega) h5
      omega
    show pg_gd H V2 E' ((pu_pre S ns sl nm k s ++ (pu_own S ns sl k s ++ (pu_pa S ns sl nm l (pu_k3 S ns k s)).1)) ++ fin) P
    rw [List.append_assoc, List.append_assoc]
    generalize hrest : (pu_pa S ns sl nm l (pu_k3 S ns k s)).1 ++ fin = rest at ih' ⊢
    rcases h with ⟨g, ⟨h1, h2, h3⟩, h4, h5, h6, h7, h8⟩ | ⟨h1, h2⟩
    · have hfl : pu_fl S s = false := by unfold pu_fl; rw [h1]; rfl
      have hfr : pu_fr S s = false := by unfold pu_fr; rw [h2]; rfl
      have hpre : pu_pre S ns sl nm k s = [] := by
        unfold pu_pre
        rw [if_neg (by rw [hfl]; decide), if_neg (by rw [hfr]; decide)]
        rfl
      have hS0 : S s.2.1 = false := by
        cases e : S s.2.1 with
        | false => rfl
        | true => rw [h4] at e; exact (hSg g h5.1 (by omega) e).elim
      have hown : pu_own S ns sl k s = [(s.1, s.2.1, pu_lf S k s, pu_rt S k s)] := by
        unfold pu_own
        rw [if_neg (fun c => by rw [hS0] at c; cases c.2)]
      rw [hpre, hown]
      refine Or.inl ⟨g, ⟨h1, h2, h3⟩, h4, ⟨h5.1, by omega⟩, h6, h7, ih' (P ++ [g]) (List.nodup_append.mpr ⟨hnd, pg_nd1 g, fun x hx y hy e => h6 (by rw [← List.mem_singleton.mp hy, ← e]; exact hx)⟩) (fun u hu => ?_) h8⟩
      rcases List.mem_append.mp hu with hu | hu
      · exact hP u hu
      · rw [List.mem_singleton.mp hu]; exact h5
    · have hSu : ∀ x, S x = true → ∀ u, H ≤ u → u < V2 → pu_I u ≠ x := fun x hx u u1 u2 e => hSg u u1 u2 (by rw [e]; exact hx)
      have hPu : ∀ u, u ∈ P → (pu_ul s.1 = true ∧ pu_I u = s.2.2.1) ∨ (pu_ur s.1 = true ∧ pu_I u = s.2.2.2) := fun u hu => (h1 u (hP u hu).1 (hP u hu).2).mpr hu
      have h1' : ∀ u, H ≤ u → u < V2 → (((pu_ul s.1 = true ∧ pu_I u = s.2.2.1) ∨ (pu_ur s.1 = true ∧ pu_I u = s.2.2.2)) ↔ u ∈ P) := fun u u1 u2 => by
        by_cases e : u < V
        · exact h1 u u1 e
        · refine ⟨fun q => ?_, fun q => absurd (hP u q).2 e⟩
          rcases q with ⟨a1, a2⟩ | ⟨a1, a2⟩
          · obtain ⟨x, b1, b2⟩ := q1 a1
            rw [b2] at a2
            have := pu_inj (by omega) (by omega) a2
            omega
          · obtain ⟨x, b1, b2⟩ := q2 a1
            rw [b2] at a2
            have := pu_inj (by omega) (by omega) a2
            omega
      -- behind the fetches
      obtain ⟨P2, hP2⟩ : ∃ P2, P2 = P ++ ((if pu_fl S s = true then [k] else []) ++ (if pu_fr S s = true then [pu_k1 S k s] else [])) := ⟨_, rfl⟩
      have hown : (∀ u, H ≤ u → u < V2 → (((pu_ul s.1 = true ∧ pu_I u = pu_lf S k s) ∨ (pu_ur s.1 = true ∧ pu_I u = pu_rt S k s)) ↔ u ∈ P2)) → (pu_gw s.1 = true → S s.2.1 = true → ns s.2.1 = true → P2 = []) → pg_gd H V2 E' (pu_own S ns sl k s ++ rest) P2 := fun hu hn => by
        unfold pu_own
        by_cases c : pu_gw s.1 = true ∧ S s.2.1 = true
        · rw [if_pos c]
          have h2' : pg_gd H V E l [] := by
            rcases h2 with ⟨g, g1, g2, g3, g4⟩ | ⟨_, g2⟩
            · rw [g2] at c
              exact (hSg g g3.1 (by omega) c.2).elim
            · exact g2
          have hr := ih' [] List.nodup_nil (fun u hu => by cases hu) h2'
          by_cases c2 : ns s.2.1 = true
          · rw [if_pos c2, hn c.1 c.2 c2]
            exact hr
          · rw [if_neg c2]
            have hk4 : pu_k3 S ns k s = pu_k2 S k s + 1 := by
              unfold pu_k3
              rw [if_pos ⟨c.1, c.2, by simpa using c2⟩]
            refine Or.inr ⟨hu, Or.inl ⟨pu_k2 S k s, c.1, rfl, ⟨by omega, by omega⟩, ?_⟩⟩
            refine Or.inr ⟨fun u u1 u2 => ?_, Or.inr ⟨fun g _ _ q => absurd q (show ¬ pu_gw 27 = true by decide), hr⟩⟩
            rw [List.mem_singleton]
            constructor
            · rintro (⟨_, a2⟩ | ⟨a1, _⟩)
              · exact pu_inj (by omega) (by omega) a2
              · exact absurd a1 (show ¬ pu_ur 27 = true by decide)
            · intro e
              exact Or.inl ⟨(by decide : pu_ul 27 = true), by rw [e]⟩
        · rw [if_neg c]
          refine Or.inr ⟨hu, ?_⟩
          rcases h2 with ⟨g, g1, g2, g3, g4⟩ | ⟨g1, g2⟩
          · exact Or.inl ⟨g, g1, g2, ⟨g3.1, by omega⟩, ih' [g] (pg_nd1 g) (fun u hu => by rw [List.mem_singleton.mp hu]; exact g3) g4⟩
          · refine Or.inr ⟨fun g u1 u2 q e => ?_, ih' [] List.nodup_nil (fun u hu => by cases hu) g2⟩
            by_cases e2 : g < V
            · exact g1 g u1 e2 q e
            · obtain ⟨x, b1, b2⟩ := q3 q
              have e : s.2.1 = pu_I g := e
              rw [b2] at e
              have := pu_inj (by omega) (by omega) e
              omega
      have hn : pu_gw s.1 = true → S s.2.1 = true → ns s.2.1 = true → P2 = [] := fun a1 a2 a3 => by
        have e0 := q4 a1 a2 a3
        have eul : pu_ul s.1 = false := by rw [e0]; decide
        have eur : pu_ur s.1 = false := by rw [e0]; decide
        have hfl : pu_fl S s = false := by unfold pu_fl; rw [eul]; rfl
        have hfr : pu_fr S s = false := by unfold pu_fr; rw [eur]; rfl
        rw [hP2, if_neg (by rw [hfl]; decide), if_neg (by rw [hfr]; decide)]
        rw [pg_nil (P := P) fun u hu => by
          rcases hPu u hu with ⟨q, _⟩ | ⟨q, _⟩
          · rw [eul] at q; cases q
          · rw [eur] at q; cases q]
        rfl
      unfold pu_pre
      cases hfl : pu_fl S s with
      | true =>
        have hf2 := hfl
        unfold pu_fl at hf2
        obtain ⟨eul, eSl⟩ := (Bool.and_eq_true _ _).mp hf2
        have ek1 : pu_k1 S k s = k + 1 := by unfold pu_k1; rw [if_pos hfl]
        have elf : pu_lf S k s = pu_I k := by unfold pu_lf; rw [if_pos hfl]
        have hnl : ∀ u, H ≤ u → u < V2 → pu_I u ≠ s.2.2.1 := hSu _ eSl
        have hkP : k ∉ P := fun h => by have := (hP k h).2; omega
        cases hfr : pu_fr S s with
        | true =>
          have hf3 := hfr
          unfold pu_fr at hf3
          obtain ⟨eur, hf4⟩ := (Bool.and_eq_true _ _).mp hf3
          obtain ⟨eSr, esm⟩ := (Bool.and_eq_true _ _).mp hf4
          have esm : ¬ pu_sm S s = true := by intro c; rw [c] at esm; cases esm
          have ert : pu_rt S k s = pu_I (pu_k1 S k s) := by unfold pu_rt; rw [if_neg esm, if_pos hfr]
          have ek2 : pu_k2 S k s = pu_k1 S k s + 1 := by unfold pu_k2; rw [if_pos hfr]
          have hP0 : P = [] := pg_nil fun u hu => by
            rcases hPu u hu with ⟨_, q⟩ | ⟨_, q⟩
            · exact hnl u (hP u hu).1 (by have := (hP u hu).2; omega) q
            · exact hSu _ eSr u (hP u hu).1 (by have := (hP u hu).2; omega) q
          subst hP0
          rw [if_pos hfl, if_pos hfr, ek1] at hP2
          have hP2 : P2 = [k, k + 1] := hP2
          rw [if_pos rfl, if_pos rfl]
          refine pg_gd_fe (by omega) (by omega) (by intro h; cases h) (Nat.zero_le _) (pg_gd_fe (by omega) (by omega) (by rw [ek1]; intro h; have := List.mem_singleton.mp h; omega) (Nat.le_refl _) ?_)
          rw [ek1]
          have hown := hown (fun u u1 u2 => ?_) hn
          · rw [hP2] at hown
            exact hown
          · rw [elf, ert, ek1, hP2]
            constructor
            · rintro (⟨_, q⟩ | ⟨_, q⟩)
              · rw [pu_inj (by omega) (by omega) q]; exact List.mem_cons_self
              · rw [pu_inj (by omega) (by omega) q]; exact List.mem_cons_of_mem _ List.mem_cons_self
            · intro q
              rcases List.mem_cons.mp q with q | q
              · exact Or.inl ⟨eul, by rw [q]⟩
              · exact Or.inr ⟨eur, by rw [List.mem_singleton.mp q]⟩
        | false =>
          rw [if_pos hfl, if_neg (by rw [hfr]; decide)] at hP2
          rw [if_pos rfl, if_neg (by decide)]
          have hP1 : P.length ≤ 1 := by
            by_cases eur : pu_ur s.1 = true
            · obtain ⟨r, r1, r2⟩ := q2 eur
              refine pg_len1 hnd (r := r) fun u hu => ?_
              rcases hPu u hu with ⟨_, q⟩ | ⟨_, q⟩
              · exact absurd q (hnl u (hP u hu).1 (by have := (hP u hu).2; omega))
              · rw [r2] at q
                exact pu_inj (by have := (hP u hu).2; omega) (by omega) q
            · rw [pg_nil (P := P) fun u hu => by
                rcases hPu u hu with ⟨_, q⟩ | ⟨q, _⟩
                · exact hnl u (hP u hu).1 (by have := (hP u hu).2; omega) q
                · exact eur q]
              exact Nat.zero_le _
          refine pg_gd_fe (by omega) (by omega) hkP hP1 ?_
          have hown := hown (fun u u1 u2 => ?_) hn
          · rw [hP2] at hown
            exact hown
          · rw [elf, hP2, List.append_nil, List.mem_append, List.mem_singleton, ← h1' u u1 u2]
            cases hsm : pu_sm S s with
            | true =>
              have hsm2 := hsm
              unfold pu_sm at hsm2
              obtain ⟨eur, hsm3⟩ := (Bool.and_eq_true _ _).mp hsm2
              have eq := of_decide_eq_true ((Bool.and_eq_true _ _).mp hsm3).2
              have ert : pu_rt S k s = pu_I k := by unfold pu_rt; rw [if_pos hsm]
              rw [ert, eq]
              constructor
              · rintro (⟨_, q⟩ | ⟨_, q⟩)
                · exact Or.inr (pu_inj (by omega) (by omega) q)
                · exact Or.inr (pu_inj (by omega) (by omega) q)
              · rintro ((⟨_, q⟩ | ⟨_, q⟩) | q)
                · exact absurd q (hnl u u1 u2)
                · exact absurd q (hnl u u1 u2)
                · exact Or.inl ⟨eul, by rw [q]⟩
            | false =>
              have ert : pu_rt S k s = s.2.2.2 := by unfold pu_rt; rw [if_neg (by rw [hsm]; decide), if_neg (by rw [hfr]; decide)]
              rw [ert]
              constructor
              · rintro (⟨_, q⟩ | q)
                · exact Or.inr (pu_inj (by omega) (by omega) q)
                · exact Or.inl (Or.inr q)
              · rintro ((⟨_, q⟩ | q) | q)
                · exact absurd q (hnl u u1 u2)
                · exact Or.inr q
                · exact Or.inl ⟨eul, by rw [q]⟩
      | false =>
        have ek1 : pu_k1 S k s = k := by unfold pu_k1; rw [if_neg (by rw [hfl]; decide)]
        have elf : pu_lf S k s = s.2.2.1 := by unfold pu_lf; rw [if_neg (by rw [hfl]; decide)]
        have hsm : pu_sm S s = false := by unfold pu_sm; rw [hfl]; simp
        have hkP : k ∉ P := fun h => by have := (hP k h).2; omega
        cases hfr : pu_fr S s with
        | true =>
          have hf3 := hfr
          unfold pu_fr at hf3
          obtain ⟨eur, hf4⟩ := (Bool.and_eq_true _ _).mp hf3
          obtain ⟨eSr, _⟩ := (Bool.and_eq_true _ _).mp hf4
          have ert : pu_rt S k s = pu_I k := by unfold pu_rt; rw [if_neg (by rw [hsm]; decide), if_pos hfr, ek1]
          have ek2 : pu_k2 S k s = pu_k1 S k s + 1 := by unfold pu_k2; rw [if_pos hfr]
          rw [if_neg (by rw [hfl]; decide), if_pos hfr, ek1] at hP2
          have hP2 : P2 = P ++ [k] := hP2
          rw [if_neg (by decide), if_pos rfl, ek1]
          have hnr : ∀ u, H ≤ u → u < V2 → pu_I u ≠ s.2.2.2 := hSu _ eSr
          have hP1 : P.length ≤ 1 := by
            by_cases eul : pu_ul s.1 = true
            · obtain ⟨r, r1, r2⟩ := q1 eul
              refine pg_len1 hnd (r := r) fun u hu => ?_
              rcases hPu u hu with ⟨_, q⟩ | ⟨_, q⟩
              · rw [r2] at q
                exact pu_inj (by have := (hP u hu).2; omega) (by omega) q
              · exact absurd q (hnr u (hP u hu).1 (by have := (hP u hu).2; omega))
            · rw [pg_nil (P := P) fun u hu => by
                rcases hPu u hu with ⟨q, _⟩ | ⟨_, q⟩
                · exact eul q
                · exact hnr u (hP u hu).1 (by have := (hP u hu).2; omega) q]
              exact Nat.zero_le _
          refine pg_gd_fe (by omega) (by omega) hkP hP1 ?_
          have hown := hown (fun u u1 u2 => ?_) hn
          · rw [hP2] at hown
            exact hown
          · rw [elf, ert, hP2, List.mem_append, List.mem_singleton, ← h1' u u1 u2]
            constructor
            · rintro (q | ⟨_, q⟩)
              · exact Or.inl (Or.inl q)
              · exact Or.inr (pu_inj (by omega) (by omega) q)
            · rintro ((q | ⟨_, q⟩) | q)
              · exact Or.inl q
              · exact absurd q (hnr u u1 u2)
              · exact Or.inr ⟨eur, by rw [q]⟩
        | false =>
          have ert : pu_rt S k s = s.2.2.2 := by unfold pu_rt; rw [if_neg (by rw [hsm]; decide), if_neg (by rw [hfr]; decide)]
          rw [if_neg (by rw [hfl]; decide), if_neg (by rw [hfr]; decide)] at hP2
          have hP2 : P2 = P := by rw [hP2]; simp
          rw [if_neg (by decide), if_neg (by decide)]
          have hown := hown (fun u u1 u2 => by rw [elf, ert, hP2]; exact h1' u u1 u2) hn
          rw [hP2] at hown
          exact hown
end GPA
