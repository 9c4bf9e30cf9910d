/-! pure side 13: the flow with values put away; calls -/
theorem pu_pr_mono {S ns : Int32 → Bool} {sl nm : Int32 → Int32} {c0 : Nat} {X Y : Int32 → Prop} {e e' : pu_E} {z z' : Nat → Int32} (h : ∀ v, Y v → X v) (hR : pu_pr S ns sl nm c0 X e z e' z') : pu_pr S ns sl nm c0 Y e z e' z' :=
  ⟨fun v hv => hR.1 v (h v hv), fun v hv => hR.2.1 v (h v hv), fun v hv => hR.2.2.1 v (h v hv), hR.2.2.2⟩
def pu_paF (S ns : Int32 → Bool) (sl nm : Int32 → Int32) (F : pu_Flow) (kb : Nat → Nat) : pu_Flow := fun b =>
  ([], (pu_pa S ns sl nm (F b).2.1 (kb b)).1 ++ (if S (F b).2.2.2.1 = true then [pu_fe ns sl nm (F b).2.2.2.1 (pu_pa S ns sl nm (F b).2.1 (kb b)).2] else []),
    ((F b).2.2.1, (if S (F b).2.2.2.1 = true then pu_I (pu_pa S ns sl nm (F b).2.1 (kb b)).2 else (F b).2.2.2.1), (F b).2.2.2.2.1, (F b).2.2.2.2.2))
section PC
variable {S ns : Int32 → Bool} {sl nm : Int32 → Int32} {call : pu_Call} {ar : List Int32} {F : pu_Flow} {L : Nat → Prop} {V : Nat → Int32 → Prop} {kb : Nat → Nat} {c0 k0 : Nat}
theorem pu_pa_run (hsc : ∀ b c, L b → pu_sc F b c → L c) (h0 : L 0) (hV : pu_lok F L V) (hV0 : ∀ v, ¬ V 0 v) (hq : ∀ b, L b → ∀ s ∈ (F b).2.1, pu_pq S ns nm c0 k0 s)
    (hsl : ∀ v, S v = true → ns v = false → c0 ≤ nn (sl v)) (hinj : ∀ v w, S v = true → ns v = false → S w = true → ns w = false → nn (sl v) = nn (sl w) → v = w)
    (hVk : ∀ b v, L b → V b v → nn v < k0) (hE : ∀ b, L b → ((F b).2.2.1 = 23 ∨ (F b).2.2.1 = 24) → nn (F b).2.2.2.1 < k0) (hE2 : ∀ b, L b → S (F b).2.2.2.1 = true → (F b).2.2.1 = 23 ∨ (F b).2.2.1 = 24)
    (hk : ∀ b, L b → k0 ≤ kb b ∧ (pu_pa S ns sl nm (F b).2.1 (kb b)).2 + 3 < 2147483648) {n : Nat} {e e' : pu_E} {m : pu_M} {q : List Int32} {z : Nat → Int32} {r : pu_Res}
    (h : pu_runW F call ar n 0 (e, m, q, z) = some r) : pu_runW (pu_paF S ns sl nm F kb) call ar n 0 (e', m, q, z) = some r := by
  refine pu_simW (F := F) (F' := pu_paF S ns sl nm F kb) (fun b σ b' σ' => b' = b ∧ L b ∧ pu_pr S ns sl nm c0 (V b) σ.1 σ.2.2.2 σ'.1 σ'.2.2.2 ∧ σ.2.1 = σ'.2.1 ∧ σ.2.2.1 = σ'.2.2.1) ?_ n 0 (e, m, q, z) 0 (e', m, q, z) r ⟨rfl, h0, ⟨fun v hv => absurd hv (hV0 v), fun v hv => absurd hv (hV0 v), fun v hv => absurd hv (hV0 v), fun _ _ => rfl⟩, rfl, rfl⟩ h
  rintro b ⟨e1, m1, q1, z1⟩ b' ⟨e2, m2, q2, z2⟩ o ⟨rfl, hb, hR, hm, hq2⟩ ho
  have hm : m1 = m2 := hm
  have hq2 : q1 = q2 := hq2
  subst hm
  subst hq2
  have hR : pu_pr S ns sl nm c0 (V b') e1 z1 e2 z2 := hR
  unfold pu_blkW at ho
  replace ho := bnd9 ho
  obtain ⟨o1, ho1, ho⟩ := ho
  have hX : ∀ v, pu_xo F V b' v → nn v < k0 := by
    intro v hv
    rcases hv with ⟨hk, rfl⟩ | ⟨c, hc, hv⟩
    · exact hE b' hb hk
    · exact hVk c v (hsc b' c hb hc) hv
  have hst := pu_pa_steps (call := call) (ar := ar) hsl hinj hX (F b').2.1 (kb b') e1 e2 z1 z2 m1 q1 o1 (if S (F b').2.2.2.1 = true then [pu_fe ns sl nm (F b').2.2.2.1 (pu_pa S ns sl nm (F b').2.1 (kb b')).2] else []) (hq b' hb) (hk b' hb).1 (hk b' hb).2 (pu_pr_mono (fun v hv => hV b' v hb hv) hR) ho1
  have hblk : pu_blkW (pu_paF S ns sl nm F kb) call ar b' (e2, m1, q1, z2) = (pu_stepsW call ar ((pu_pa S ns sl nm (F b').2.1 (kb b')).1 ++ (if S (F b').2.2.2.1 = true then [pu_fe ns sl nm (F b').2.2.2.1 (pu_pa S ns sl nm (F b').2.1 (kb b')).2] else [])) (e2, m1, q1, z2)).bind fun o => Sum.elim (fun r => some (.inl r)) (fun τ => some (pu_endW (pu_paF S ns sl nm F kb b').2.2 τ)) o := rfl
  rw [hblk]
  rcases hst with ⟨y, rfl, h2⟩ | ⟨e3, m3, q3, z3, e4, z4, rfl, h2, h3⟩
  · cases ho
    exact Or.inl ⟨y, rfl, by rw [h2]; rfl⟩
  · have ho : pu_endW (F b').2.2 (e3, m3, q3, z3) = o := Option.some.inj ho
    rw [h2]
    -- the fetch ahead of the end
    obtain ⟨e5, h4, h5, h6⟩ : ∃ e5, pu_stepsW call ar (if S (F b').2.2.2.1 = true then [pu_fe ns sl nm (F b').2.2.2.1 (pu_pa S ns sl nm (F b').2.1 (kb b')).2] else []) (e4, m3, q3, z4) = some (.inr (e5, m3, q3, z4)) ∧
        (((F b').2.2.1 = 23 ∨ (F b').2.2.1 = 24) → e3 (F b').2.2.2.1 = e5 (if S (F b').2.2.2.1 = true then pu_I (pu_pa S ns sl nm (F b').2.1 (kb b')).2 else (F b').2.2.2.1)) ∧ (∀ v, nn v < k0 → e5 v = e4 v) := by
      by_cases hs : S (F b').2.2.2.1 = true
      · have hx : pu_xo F V b' (F b').2.2.2.1 := Or.inl ⟨hE2 b' hb hs, rfl⟩
        have hkk := pu_pa_k (S := S) (ns := ns) (sl := sl) (nm := nm) (F b').2.1 (kb b')
        have hkb := hk b' hb
        refine ⟨pu_set e4 (pu_I (pu_pa S ns sl nm (F b').2.1 (kb b')).2) (e3 (F b').2.2.2.1), ?_, fun _ => ?_, fun v hv => pu_setI (by omega) (by omega)⟩
        · rw [if_pos hs]
          refine pu_fe_run (l := []) ?_
          by_cases hn : ns (F b').2.2.2.1 = true
          · rw [if_pos hn]; exact h3.2.2.1 _ hx hs hn
          · rw [if_neg hn]; exact h3.2.1 _ hx hs (by simpa using hn)
        · rw [if_pos hs, pu_set_s]
      · refine ⟨e4, by rw [if_neg hs]; rfl, fun hk9 => ?_, fun _ _ => rfl⟩
        rw [if_neg hs]
        exact h3.1 _ (Or.inl ⟨hk9, rfl⟩) (by simpa using hs)
    rw [h4]
    show (∃ r, o = .inl r ∧ some (pu_endW (pu_paF S ns sl nm F kb b').2.2 (e5, m3, q3, z4)) = some (.inl r)) ∨ (∃ c τ c' τ', o = .inr (c, τ) ∧ some (pu_endW (pu_paF S ns sl nm F kb b').2.2 (e5, m3, q3, z4)) = some (.inr (c', τ')) ∧ _)
    have hnext : ∀ c, pu_sc F b' c → pu_pr S ns sl nm c0 (V c) e3 z3 e5 z4 := by
      intro c hc
      refine ⟨fun v hv hs => ?_, fun v hv => h3.2.1 v (Or.inr ⟨c, hc, hv⟩), fun v hv => h3.2.2.1 v (Or.inr ⟨c, hc, hv⟩), h3.2.2.2⟩
      rw [h6 v (hX v (Or.inr ⟨c, hc, hv⟩))]
      exact h3.1 v (Or.inr ⟨c, hc, hv⟩) hs
    unfold pu_endW at ho
    by_cases c1 : (F b').2.2.1 = 24
    · rw [if_pos c1] at ho
      subst ho
      refine Or.inl ⟨_, rfl, ?_⟩
      unfold pu_endW
      rw [if_pos (show (pu_paF S ns sl nm F kb b').2.2.1 = 24 from c1)]
      exact congrArg (fun y : Int32 => (some (Sum.inl ((pu_rq q3, y, m3) : pu_Res)) : Option (Sum pu_Res (Nat × pu_SW)))) (h5 (Or.inr c1)).symm
    · rw [if_neg c1] at ho
      by_cases c2 : (F b').2.2.1 = 23 ∧ e3 (F b').2.2.2.1 = 0
      · rw [if_pos c2] at ho
        have hsc9 : pu_sc F b' (nn (F b').2.2.2.2.2) := ⟨c1, Or.inr ⟨c2.1, rfl⟩⟩
        refine Or.inr ⟨_, _, nn (F b').2.2.2.2.2, (e5, m3, q3, z4), ho.symm, ?_, rfl, hsc b' _ hb hsc9, hnext _ hsc9, rfl, rfl⟩
        unfold pu_endW
        rw [if_neg (show ¬ (pu_paF S ns sl nm F kb b').2.2.1 = 24 from c1)]
        exact congrArg some (if_pos ⟨c2.1, (h5 (Or.inl c2.1)).symm.trans c2.2⟩)
      · rw [if_neg c2] at ho
        have hsc9 : pu_sc F b' (nn (F b').2.2.2.2.1) := ⟨c1, Or.inl rfl⟩
        refine Or.inr ⟨_, _, nn (F b').2.2.2.2.1, (e5, m3, q3, z4), ho.symm, ?_, rfl, hsc b' _ hb hsc9, hnext _ hsc9, rfl, rfl⟩
        unfold pu_endW
        rw [if_neg (show ¬ (pu_paF S ns sl nm F kb b').2.2.1 = 24 from c1)]
        exact congrArg some (if_neg fun c => c2 ⟨c.1, (h5 (Or.inl c.1)).trans c.2⟩)
/-- what is live behind the change was live ahead of it -/
theorem pu_pa_lv {X Y : Int32 → Prop} (hY : ∀ v, Y v → X v ∧ S v = false) : ∀ (l : List pu_Stp) (k : Nat) (v : Int32), pu_lv (pu_pa S ns sl nm l k).1 Y v → pu_lv l X v ∧ S v = false := by
  intro l
  induction l with
  | nil => intro k v h; exact hY v h
  | cons s l ih =>
    intro k v h
    have h : pu_lv (pu_pre S ns sl nm k s ++ (pu_own S ns sl k s ++ (pu_pa S ns sl nm l (pu_k3 S ns k s)).1)) Y v := h
    rw [pu_lv_app] at h
    have hfe : ∀ (u : Int32) (j : Nat) (P : Int32 → Prop) (w : Int32), pu_lv [pu_fe ns sl nm u j] P w → P w ∧ w ≠ pu_I j := by
      intro u j P w hw
      unfold pu_fe at hw
      by_cases hn : ns u = true
      · rw [if_pos hn] at hw
        rcases hw with ⟨c, _⟩ | ⟨c, _⟩ | ⟨h1, h2⟩
        · exact absurd c (show ¬ pu_ul 0 = true by decide)
        · exact absurd c (show ¬ pu_ur 0 = true by decide)
        · exact ⟨h1, fun c => h2 ⟨show pu_gw 0 = true by decide, c⟩⟩
      · rw [if_neg hn] at hw
        rcases hw with ⟨c, _⟩ | ⟨c, _⟩ | ⟨h1, h2⟩
        · exact absurd c (show ¬ pu_ul 26 = true by decide)
        · exact absurd c (show ¬ pu_ur 26 = true by decide)
        · exact ⟨h1, fun c => h2 ⟨show pu_gw 26 = true by decide, c⟩⟩
    have hpre : ∀ (P : Int32 → Prop) (w : Int32), pu_lv (pu_pre S ns sl nm k s) P w → P w ∧ (pu_fl S s = true → w ≠ pu_I k) ∧ (pu_fr S s = true → w ≠ pu_I (pu_k1 S k s)) := by
      intro P w hw
      unfold pu_pre at hw
      rw [pu_lv_app] at hw
      have h1 : pu_lv (if pu_fr S s = true then [pu_fe ns sl nm s.2.2.2 (pu_k1 S k s)] else []) P w ∧ (pu_fl S s = true → w ≠ pu_I k) := by
        by_cases hf : pu_fl S s = true
        · rw [if_pos hf] at hw
          have := hfe _ _ _ _ hw
          exact ⟨this.1, fun _ => this.2⟩
        · rw [if_neg hf] at hw
          exact ⟨hw, fun c => absurd c hf⟩
      by_cases hf : pu_fr S s = true
      · have h2 := h1.1
        rw [if_pos hf] at h2
        have := hfe _ _ _ _ h2
        exact ⟨this.1, h1.2, fun _ => this.2⟩
      · have h2 := h1.1
        rw [if_neg hf] at h2
        exact ⟨h2, h1.2, fun c => absurd c hf⟩
    obtain ⟨h1, h2, h3⟩ := hpre _ v h
    rw [pu_lv_app] at h1
    have hlf : pu_ul s.1 = true → v = pu_lf S k s → pu_lv (s :: l) X v ∧ S v = false := by
      intro hu hv
      unfold pu_lf at hv
      by_cases hf : pu_fl S s = true
      · rw [if_pos hf] at hv
        exact absurd hv (h2 hf)
      · rw [if_neg hf] at hv
        refine ⟨Or.inl ⟨hu, hv⟩, ?_⟩
        unfold pu_fl at hf
        rw [hu] at hf
        rw [hv]
        simpa using hf
    have hrt : pu_ur s.1 = true → v = pu_rt S k s → pu_lv (s :: l) X v ∧ S v = false := by
      intro hu hv
      unfold pu_rt at hv
      by_cases hs : pu_sm S s = true
      · rw [if_pos hs] at hv
        have : pu_fl S s = true := by
          unfold pu_sm at hs
          simp at hs
          exact hs.2.1
        exact absurd hv (h2 this)
      · rw [if_neg hs] at hv
        by_cases hf : pu_fr S s = true
        · rw [if_pos hf] at hv
          exact absurd hv (h3 hf)
        · rw [if_neg hf] at hv
          refine ⟨Or.inr (Or.inl ⟨hu, hv⟩), ?_⟩
          unfold pu_fr at hf
          have hs : pu_sm S s = false := by simpa using hs
          rw [hu, hs] at hf
          rw [hv]
          simpa using hf
    have hrest : pu_lv (pu_pa S ns sl nm l (pu_k3 S ns k s)).1 Y v → (pu_gw s.1 = true → S s.2.1 = false → v ≠ s.2.1) → pu_lv (s :: l) X v ∧ S v = false := by
      intro hr hg
      have h4 := ih _ v hr
      refine ⟨Or.inr (Or.inr ⟨h4.1, fun c => ?_⟩), h4.2⟩
      by_cases hs : S s.2.1 = true
      · rw [c.2, hs] at h4
        exact absurd h4.2 (by decide)
      · exact hg c.1 (by simpa using hs) c.2
    unfold pu_own at h1
    by_cases hsp : pu_gw s.1 = true ∧ S s.2.1 = true
    · rw [if_pos hsp] at h1
      have hng : pu_gw s.1 = true → S s.2.1 = false → v ≠ s.2.1 := fun _ c => by rw [hsp.2] at c; cases c
      by_cases hn : ns s.2.1 = true
      · rw [if_pos hn] at h1
        exact hrest h1 hng
      · rw [if_neg hn] at h1
        rcases h1 with ⟨hu, hv⟩ | ⟨hu, hv⟩ | ⟨h5, h6⟩
        · exact hlf hu hv
        · exact hrt hu hv
        · rcases h5 with ⟨_, hv⟩ | ⟨c, _⟩ | ⟨h7, _⟩
          · exact absurd ⟨hsp.1, hv⟩ h6
          · exact absurd c (show ¬ pu_ur 27 = true by decide)
          · exact hrest h7 hng
    · rw [if_neg hsp] at h1
      rcases h1 with ⟨hu, hv⟩ | ⟨hu, hv⟩ | ⟨h5, h6⟩
      · exact hlf hu hv
      · exact hrt hu hv
      · exact hrest h5 fun hg _ c => h6 ⟨hg, c⟩
theorem pu_pa_lok (hV : pu_lok F L V) (hE2 : ∀ b, L b → S (F b).2.2.2.1 = true → (F b).2.2.1 = 23 ∨ (F b).2.2.1 = 24) : pu_lok (pu_paF S ns sl nm F kb) L (fun b v => V b v ∧ S v = false) := by
  intro b v hb hv
  have hv : pu_lv ((pu_pa S ns sl nm (F b).2.1 (kb b)).1 ++ (if S (F b).2.2.2.1 = true then [pu_fe ns sl nm (F b).2.2.2.1 (pu_pa S ns sl nm (F b).2.1 (kb b)).2] else [])) (pu_xo (pu_paF S ns sl nm F kb) (fun b v => V b v ∧ S v = false) b) v := hv
  rw [pu_lv_app] at hv
  have h := pu_pa_lv (X := pu_xo F V b) (fun u hu => ?_) (F b).2.1 (kb b) v hv
  · exact ⟨hV b v hb h.1, h.2⟩
  · have hx : ∀ w, pu_xo (pu_paF S ns sl nm F kb) (fun b v => V b v ∧ S v = false) b w → (w = (if S (F b).2.2.2.1 = true then pu_I (pu_pa S ns sl nm (F b).2.1 (kb b)).2 else (F b).2.2.2.1) ∧ ((F b).2.2.1 = 23 ∨ (F b).2.2.1 = 24)) ∨ (pu_xo F V b w ∧ S w = false) := by
      intro w hw
      rcases hw with ⟨hk, hw⟩ | ⟨c, hc, hw⟩
      · exact Or.inl ⟨hw, hk⟩
      · exact Or.inr ⟨Or.inr ⟨c, hc, hw.1⟩, hw.2⟩
    by_cases hs : S (F b).2.2.2.1 = true
    · rw [if_pos hs] at hu
      have hfe : pu_xo (pu_paF S ns sl nm F kb) (fun b v => V b v ∧ S v = false) b u ∧ u ≠ pu_I (pu_pa S ns sl nm (F b).2.1 (kb b)).2 := by
        unfold pu_fe at hu
        by_cases hn : ns (F b).2.2.2.1 = true
        · rw [if_pos hn] at hu
          rcases hu with ⟨c, _⟩ | ⟨c, _⟩ | ⟨h1, h2⟩
          · exact absurd c (show ¬ pu_ul 0 = true by decide)
          · exact absurd c (show ¬ pu_ur 0 = true by decide)
          · exact ⟨h1, fun c => h2 ⟨show pu_gw 0 = true by decide, c⟩⟩
        · rw [if_neg hn] at hu
          rcases hu with ⟨c, _⟩ | ⟨c, _⟩ | ⟨h1, h2⟩
          · exact absurd c (show ¬ pu_ul 26 = true by decide)
          · exact absurd c (show ¬ pu_ur 26 = true by decide)
          · exact ⟨h1, fun c => h2 ⟨show pu_gw 26 = true by decide, c⟩⟩
      rcases hx u hfe.1 with ⟨h1, _⟩ | h1
      · rw [if_pos hs] at h1
        exact absurd h1 hfe.2
      · exact h1
    · rw [if_neg hs] at hu
      rcases hx u hu with ⟨h1, h2⟩ | h1
      · rw [if_neg hs] at h1
        exact ⟨Or.inl ⟨h2, h1⟩, by rw [h1]; simpa using hs⟩
      · exact h1
end PC
/-! calls: at most so many in each other -/
def pu_cle (c c' : pu_Call) : Prop := ∀ f q m r, c f q m = some r → c' f q m = some r
theorem pu_stp_le {c c' : pu_Call} {ar : List Int32} {k g l r : Int32} {e : pu_E} {m : pu_M} {q : List Int32} {o : Sum pu_Res pu_S} (hc : pu_cle c c') (h : pu_stp c ar k g l r e m q = some o) : pu_stp c' ar k g l r e m q = some o := by
  unfold pu_stp at h ⊢
  by_cases h0 : k = 0
  · rw [if_pos h0] at h ⊢; exact h
  rw [if_neg h0] at h ⊢
  by_cases h1 : k = 21
  · rw [if_pos h1] at h ⊢; exact h
  rw [if_neg h1] at h ⊢
  by_cases h2 : k = 20
  · rw [if_pos h2] at h ⊢
    obtain ⟨z, hz, h⟩ := bnd9 h
    rw [hc _ _ _ _ hz]
    exact h
  rw [if_neg h2] at h ⊢
  exact h
theorem pu_steps_le {c c' : pu_Call} {ar : List Int32} (hc : pu_cle c c') : ∀ (l : List pu_Stp) (σ : pu_S) (o : Sum pu_Res pu_S), pu_steps c ar l σ = some o → pu_steps c' ar l σ = some o := by
  intro l
  induction l with
  | nil => intro σ o h; exact h
  | cons s l ih =>
    intro σ o h
    unfold pu_steps at h ⊢
    obtain ⟨o1, h1, h⟩ := bnd9 h
    rw [pu_stp_le hc h1]
    cases o1 with
    | inl r => exact h
    | inr τ => exact ih τ o h
theorem pu_run_call {F : pu_Flow} {c c' : pu_Call} {ar : List Int32} (hc : pu_cle c c') : ∀ (n b p : Nat) (σ : pu_S) (r : pu_Res), pu_run F c ar n b p σ = some r → pu_run F c' ar n b p σ = some r := by
  intro n
  induction n with
  | zero => intro b p σ r h; cases h
  | succ n ih =>
    intro b p σ r h
    unfold pu_run at h ⊢
    obtain ⟨o, ho, h⟩ := bnd9 h
    unfold pu_blk at ho ⊢
    obtain ⟨o1, h1, ho⟩ := bnd9 ho
    rw [pu_steps_le hc _ _ _ h1]
    have h9 : ((some o1).bind fun o => Sum.elim (fun r => some (.inl r)) (fun τ => some (pu_end (F b).2.2 τ)) o) = some o := ho
    rw [h9]
    cases o with
    | inl z => exact h
    | inr x =>
      have h : (if x.2.2.2 = [] then pu_run F c ar n x.1 b x.2 else none) = some r := h
      show (if x.2.2.2 = [] then pu_run F c' ar n x.1 b x.2 else none) = some r
      by_cases h9 : x.2.2.2 = []
      · rw [if_pos h9] at h ⊢
        exact ih _ _ _ _ h
      · rw [if_neg h9] at h; cases h
/-- calls of blocks, d of them in each other, n blocks each -/
def pu_callB (Fs : Int32 → pu_Flow) (n : Nat) : Nat → pu_Call
  | 0 => fun _ _ m => some (3, 0, m)
  | d + 1 => fun f q m => pu_run (Fs f) (pu_callB Fs n d) q n 0 0 (fun _ => 0, m, [])
theorem pu_callB_le {Fs Gs : Int32 → pu_Flow} {n : Nat} (h : ∀ f call ar n e m q r, pu_run (Fs f) call ar n 0 0 (e, m, q) = some r → pu_run (Gs f) call ar n 0 0 (e, m, q) = some r) : ∀ d, pu_cle (pu_callB Fs n d) (pu_callB Gs n d) := by
  intro d
  induction d with
  | zero => intro f q m r hr; exact hr
  | succ d ih =>
    intro f q m r hr
    exact pu_run_call ih _ _ _ _ _ (h f _ _ _ _ _ _ _ hr)
