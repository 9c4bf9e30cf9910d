/-! pure side, stores 57: drop and lift keep the shape -/
section DL
variable {B N M Lm fs na : Nat} {D : Nat → Nat → Prop} {l : SL} {w w2 : ST} {n n2 : Nat → Nat} {ch ph : Nat → List Nat} {wb dm : Nat → Nat}
/-- fewer steps and phis, or steps elsewhere: the shape stays -/
theorem pv_fl_sub (hfl : pv_fl n w l n2 w2 B N M Lm fs na D ch ph wb dm) {w' w2' : ST} {ch' ph' : Nat → List Nat} (hr : ∀ r, r ≠ 4 → r ≠ 5 → r ≠ 6 → r ≠ 7 → r ≠ 20 → w' r = w r) (hr2 : ∀ r, r ≠ 6 → w2' r = w2 r)
    (hc : ∀ b, b < B → ∀ a ∈ ch' b, ∃ c, c < B ∧ a ∈ ch c) (hp : ∀ b, b < B → ∀ a ∈ ph' b, a ∈ ph b) (hok' : pv_ok n w' n2 w2' B N M ch' ph') (hS' : pu_ssa (pv_F w' w2' ch' ph') (fun b => b < B) D) : pv_fl n w' l n2 w2' B N M Lm fs na D ch' ph' wb dm := by
  obtain ⟨⟨hok, hrg, hgk, hw, htk⟩, hend, hsu, hS, hd, hdb, hlp, hdmw, hdm, ⟨hLw, hL, hLp, hLs⟩, hcp, hcn, hno, hnf⟩ := hfl
  have v (r : Nat) (h : r ≠ 4 ∧ r ≠ 5 ∧ r ≠ 6 ∧ r ≠ 7 ∧ r ≠ 20) : w' r = w r := hr r h.1 h.2.1 h.2.2.1 h.2.2.2.1 h.2.2.2.2
  have v0 := v 0 (by decide)
  have v8 := v 8 (by decide)
  have v9 := v 9 (by decide)
  have v10 := v 10 (by decide)
  have v11 := v 11 (by decide)
  have v12 := v 12 (by decide)
  have v14 := v 14 (by decide)
  have v15 := v 15 (by decide)
  have v19 := v 19 (by decide)
  have v21 := v 21 (by decide)
  have u0 := hr2 0 (by decide)
  have u2 := hr2 2 (by decide)
  have u3 := hr2 3 (by decide)
  have u4 := hr2 4 (by decide)
  have u5 := hr2 5 (by decide)
  have hsc : ∀ b c, pu_sc (pv_F w' w2' ch' ph') b c ↔ pu_sc (pv_F w w2 ch ph) b c := by
    intro b c
    show (w' 8 b ≠ 24 ∧ (c = nn (w' 10 b) ∨ (w' 8 b = 23 ∧ c = nn (w' 11 b)))) ↔ (w 8 b ≠ 24 ∧ (c = nn (w 10 b) ∨ (w 8 b = 23 ∧ c = nn (w 11 b))))
    rw [v8, v10, v11]
  refine ⟨⟨hok', fun b hb a ha => ?_, fun b hb a ha => ?_, ?_, fun b hb a ha => ?_⟩, ?_, fun b c hb h => ?_, hS', ⟨fun c h1 h2 => ?_, fun X h1 h2 => hd.2 X h1 fun p c d a1 a2 a3 a4 => h2 p c d a1 a2 a3 ((hsc p c).mpr a4)⟩, hdb, fun h h1 h2 => ?_, ?_, hdm, ⟨?_, hL, fun b hb a ha => ?_, fun b hb a ha => ?_⟩, fun b hb a ha => ?_, ?_, fun p h1 h2 => hno p h1 ((hsc p 0).mp h2), ⟨fun b c hb hcB h23 he => ?_, fun b hb => Nat.le_trans (pv_sub_len _ _ (hok'.2.2.2.2.2.2.1.2.1 b hb) (hp b hb)) (hnf.2.1 b hb), fun b hb h22 => by rw [v8] at h22; rw [v9]; exact hnf.2.2 b hb h22⟩⟩
  · obtain ⟨c, c1, c2⟩ := hc b hb a ha
    rw [u2, u4, u5]; exact hrg c c1 a c2
  · obtain ⟨c, c1, c2⟩ := hc b hb a ha
    rw [u2, u3]; exact hgk c c1 a c2
  · unfold pv_wys
    rw [v10, v11, v14, v15]
    exact hw
  · rw [v15, v21]
    exact htk b hb a (hp b hb a ha)
  · intro b hb
    rw [v8, v9, v10, v11]
    exact hend b hb
  · rw [v10, v11]
    exact hsu b c hb ((hsc b c).mp h)
  · obtain ⟨p, p1, p2⟩ := hd.1 c h1 h2
    exact ⟨p, p1, (hsc p c).mpr p2⟩
  · have h9 := hlp h h1 h2
    exact ⟨h9.1, h9.2.1, fun c p a1 a2 a3 a4 => h9.2.2.1 c p a1 a2 a3 ((hsc p c).mp a4), fun p a1 a2 a3 => h9.2.2.2 p a1 ((hsc p h).mp a2) a3⟩
  · rw [v12]; exact hdmw
  · rw [v0]; exact hLw
  · rw [v19]; exact hLp b hb a (hp b hb a ha)
  · obtain ⟨c, c1, c2⟩ := hc b hb a ha
    rw [u3]; exact hLs c c1 a c2
  · obtain ⟨c, c1, c2⟩ := hc b hb a ha
    rw [u2, u3, u4]; exact hcp c c1 a c2
  · exact ⟨by rw [u0]; exact hcn.1, hcn.2⟩
  · rw [v8] at h23
    rw [v10, v11] at he
    have h9 := hnf.1 b c hb hcB h23 he
    cases h8 : ph' c with
    | nil => rfl
    | cons a r =>
      have h7 := hp c hcB a (by rw [h8]; exact List.mem_cons_self)
      rw [h9] at h7
      cases h7
/-- drop: the flow keeps its shape and its runs -/
theorem pv_drop_fl {g : ST} (hfl : pv_fl n w l n2 w2 B N M Lm fs na D ch ph wb dm) :
    ∃ c g' w' w2' ch' ph', fX5_dropUnwanted g n w n2 w2 = some (pu_I c, g', w', w2') ∧ c ≤ pv_cvn w2 ch ph B ∧ pv_fl n w' l n2 w2' B N M Lm fs na D ch' ph' wb dm ∧ (∀ b, List.Sublist (ph' b) (ph b)) ∧
      (∀ call ar k e m q r, pu_run (pv_F w w2 ch ph) call ar k 0 0 (e, m, q) = some r → pu_run (pv_F w' w2' ch' ph') call ar k 0 0 (e, m, q) = some r) := by
  obtain ⟨⟨hok, hrg, hgk, hw, htk⟩, hend, hsu, hS, _⟩ := id hfl
  obtain ⟨c, g', w', w2', ch', ph', a1, a2, a3, a4, a5, a6, a7, ⟨F1, b1, b2⟩, b3⟩ := pv_drop (g := g) hok hrg hw htk (fun b hb => (hend b hb).1) (fun b hb => (hend b hb).2.1) hsu hgk hS
  exact ⟨c, g', w', w2', ch', ph', a1, a2, pv_fl_sub hfl a4 a5 (fun b hb a ha => ⟨b, hb, (a6 b).subset ha⟩) (fun b hb a ha => (a7 b).subset ha) a3 (pu_eqL_ssa b2 b1), a7, b3⟩
/-- lift: the flow keeps its shape and its runs -/
theorem pv_lift_fl {g : ST} (hfl : pv_fl n w l n2 w2 B N M Lm fs na D ch ph wb dm) :
    ∃ c g' w' w2' ch', fX5_liftFromLoops g n w l n2 w2 = some (pu_I c, g', w', w2') ∧ c ≤ 60 * N ∧ pv_fl n w' l n2 w2' B N M Lm fs na D ch' ph wb dm ∧
      (∀ call ar k e m q r, pu_run (pv_F w w2 ch ph) call ar k 0 0 (e, m, q) = some r → pu_run (pv_F w' w2' ch' ph) call ar k 0 0 (e, m, q) = some r) := by
  obtain ⟨⟨hok, hrg, hgk, hw, htk⟩, hend, hsu, hS, hd, hdb, hlp, _⟩ := id hfl
  obtain ⟨c, g', w', w2', ch', a1, a2, a3, a4, a5, a6, a7, a8, a9, b1⟩ := pv_lift (g := g) hok hrg hw hgk hS hd hsu (fun p hp h22 => ((hend p hp).2.2.2.1 h22).2) hlp
  exact ⟨c, g', w', w2', ch', a1, a2, pv_fl_sub hfl (fun r r4 r5 _ _ _ => a7 r r4 r5) a8 (fun b hb a ha => (a9 a).mp ⟨b, hb, ha⟩) (fun b hb a ha => ha) a3 a6, b1⟩
end DL
