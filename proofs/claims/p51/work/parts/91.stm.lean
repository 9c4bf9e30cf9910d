/-! pure side, stores 22: flows that agree on their ways; the flow with the standing-in values -/
theorem pu_phs_cg {α : Type} {f f' : α → pu_Phi} {p : Nat} {e : pu_E} : ∀ (l : List α), (∀ z ∈ l, (f' z).1 = (f z).1 ∧ (f' z).2 p = (f z).2 p) → pu_phs (l.map f') p e = pu_phs (l.map f) p e := by
  have h : ∀ (l : List α) (acc : pu_E), (∀ z ∈ l, (f' z).1 = (f z).1 ∧ (f' z).2 p = (f z).2 p) → (l.map f').foldl (fun e9 p9 => pu_set e9 p9.1 (e (p9.2 p))) acc = (l.map f).foldl (fun e9 p9 => pu_set e9 p9.1 (e (p9.2 p))) acc := by
    intro l
    induction l with
    | nil => intro acc _; rfl
    | cons z l ih =>
      intro acc hz
      have h1 := hz z List.mem_cons_self
      rw [List.map_cons, List.map_cons, List.foldl_cons, List.foldl_cons, h1.1, h1.2]
      exact ih _ fun y hy => hz y (List.mem_cons_of_mem _ hy)
  intro l hl
  exact h l e hl
theorem pu_pg_run {F F' : pu_Flow} {L : Nat → Prop} {call : pu_Call} {ar : List Int32} (h0 : L 0) (hc : ∀ b c, L b → pu_sc F b c → L c) (hz : ∀ e, pu_phs (F' 0).1 0 e = pu_phs (F 0).1 0 e) (hs : ∀ b, L b → (F' b).2 = (F b).2) (hp : ∀ b p e, L b → L p → pu_sc F p b → pu_phs (F' b).1 p e = pu_phs (F b).1 p e) {n : Nat} {σ : pu_S} {r : pu_Res} (h : pu_run F call ar n 0 0 σ = some r) : pu_run F' call ar n 0 0 σ = some r := by
  refine pu_sim (F := F) (F' := F') (fun b p σ b' p' σ' => b' = b ∧ p' = p ∧ σ' = σ ∧ L b ∧ ∀ e, pu_phs (F' b).1 p e = pu_phs (F b).1 p e) (fun _ _ _ _ _ _ h => congrArg (fun s => s.2.2) h.2.2.1) ?_ n 0 0 σ 0 0 σ r ⟨rfl, rfl, rfl, h0, hz⟩ h
  rintro b p ⟨e1, m1, q1⟩ b' p' σ' o ⟨rfl, rfl, rfl, hb, hq⟩ ho
  have hbk : pu_blk F' call ar b' p' (e1, m1, q1) = some o := by
    rw [← ho]
    unfold pu_blk
    rw [hs b' hb, hq]
  cases o with
  | inl r => exact Or.inl ⟨r, rfl, hbk⟩
  | inr x =>
    obtain ⟨c, τ⟩ := x
    refine Or.inr ⟨c, τ, c, τ, rfl, hbk, rfl, rfl, rfl, ?_, ?_⟩
    · unfold pu_blk at ho
      replace ho := bnd9 ho
      obtain ⟨o1, ho1, ho⟩ := ho
      cases o1 with
      | inl z => cases ho
      | inr τ1 =>
        have ho : pu_end (F b').2.2 τ1 = .inr (c, τ) := Option.some.inj ho
        exact hc b' c hb (pu_end_sc ho).1
    · intro e
      unfold pu_blk at ho
      replace ho := bnd9 ho
      obtain ⟨o1, ho1, ho⟩ := ho
      cases o1 with
      | inl z => cases ho
      | inr τ1 =>
        have ho : pu_end (F b').2.2 τ1 = .inr (c, τ) := Option.some.inj ho
        have hsc := (pu_end_sc ho).1
        exact hp c b' e (hc b' c hb hsc) hb hsc
def pu_sbS (sg : Int32 → Int32) (s : pu_Stp) : pu_Stp := (s.1, s.2.1, (if pu_ul s.1 = true then sg s.2.2.1 else s.2.2.1), (if pu_ur s.1 = true then sg s.2.2.2 else s.2.2.2))
def pu_sbF (F : pu_Flow) (sg : Int32 → Int32) : pu_Flow := fun b => ((F b).1.map (fun z => (z.1, fun c => sg (z.2 c))), (F b).2.1.map (pu_sbS sg), ((F b).2.2.1, sg (F b).2.2.2.1, (F b).2.2.2.2.1, (F b).2.2.2.2.2))
/-- who stands in, for what is a value at all -/
def pv_sgn (g : ST) (v : Int32) : Int32 := if v < 0 then v else pv_sg g v
section UR
variable {n n2 : Nat → Nat} {B N M : Nat} {g w w2 w' w2' : ST} {ch ph : Nat → List Nat} {wb : Nat → Nat}
theorem pv_sgn_v {v : Int32} (h : ixb v 250 = true) : pv_sgn g v = pv_sg g v := if_neg (pv_ixn h).1
theorem pv_us_run (hB : 0 < B) (hw : pv_wys B w wb) (hrg : pv_rg w2 B ch) (htk : pv_tk B w wb ph) (hp0 : ph 0 = []) (hcl : ∀ b c, b < B → pu_sc (pv_F w w2 ch ph) b c → c < B) (hsu : ∀ b c, b < B → pu_sc (pv_F w w2 ch ph) b c → w 10 b = pu_I c ∨ w 11 b = pu_I c) (hB60 : B ≤ 60)
    (h1 : ∀ r, r ≠ 9 → r ≠ 21 → w' r = w r) (h2 : pv_ui g w w' (fun x => ∃ b, b < B ∧ ∃ a, a ∈ ph b ∧ ∃ j, wb b ≤ j ∧ j < wb (b + 1) ∧ x = a * 60 + nn (w 15 j))) (h3 : ∀ b, b < B → w' 9 b = pv_fe g w b) (h4 : pv_us g w2 w2' (fun a => ∃ b, b < B ∧ a ∈ ch b))
    {call : pu_Call} {ar : List Int32} {k : Nat} {σ : pu_S} {r : pu_Res} (h : pu_run (pu_sbF (pv_F w w2 ch ph) (pv_sgn g)) call ar k 0 0 σ = some r) : pu_run (pv_F w' w2' ch ph) call ar k 0 0 σ = some r := by
  have hsce : ∀ b c, pu_sc (pu_sbF (pv_F w w2 ch ph) (pv_sgn g)) b c ↔ pu_sc (pv_F w w2 ch ph) b c := fun b c => Iff.rfl
  refine pu_pg_run (F := pu_sbF (pv_F w w2 ch ph) (pv_sgn g)) (L := fun b => b < B) hB (fun b c hb hs => hcl b c hb ((hsce b c).mp hs)) (fun e => ?_) (fun b hb => ?_) (fun b p e hb hp hs => ?_) h
  · show pu_phs ((ph 0).map (pv_P w')) 0 e = pu_phs (((ph 0).map (pv_P w)).map _) 0 e
    rw [hp0]
    rfl
  · show ((ch b).map (pv_S w2'), (w' 8 b, w' 9 b, w' 10 b, w' 11 b)) = (((ch b).map (pv_S w2)).map (pu_sbS (pv_sgn g)), (w 8 b, pv_sgn g (w 9 b), w 10 b, w 11 b))
    have e1 : (ch b).map (pv_S w2') = ((ch b).map (pv_S w2)).map (pu_sbS (pv_sgn g)) := by
      rw [List.map_map]
      refine List.map_congr_left fun a ha => ?_
      have h5 := (h4.2 a).1 ⟨b, hb, ha⟩
      have h6 := hrg b hb a ha
      show (w2' 2 a, w2' 3 a, w2' 4 a, w2' 5 a) = (w2 2 a, w2 3 a, (if pu_ul (w2 2 a) = true then pv_sgn g (w2 4 a) else w2 4 a), (if pu_ur (w2 2 a) = true then pv_sgn g (w2 5 a) else w2 5 a))
      rw [h4.1 2 (by decide) (by decide), h4.1 3 (by decide) (by decide), h5.1, h5.2]
      unfold pv_f4 pv_f5
      by_cases c1 : pu_ul (w2 2 a) = true
      · by_cases c2 : pu_ur (w2 2 a) = true
        · rw [if_pos c1, if_pos c1, if_pos c2, if_pos c2, pv_sgn_v (h6.1 c1), pv_sgn_v (h6.2 c2)]
        · rw [if_pos c1, if_pos c1, if_neg c2, if_neg c2, pv_sgn_v (h6.1 c1)]
      · by_cases c2 : pu_ur (w2 2 a) = true
        · rw [if_neg c1, if_neg c1, if_pos c2, if_pos c2, pv_sgn_v (h6.2 c2)]
        · rw [if_neg c1, if_neg c1, if_neg c2, if_neg c2]
    rw [e1, h3 b hb, h1 8 (by decide) (by decide), h1 10 (by decide) (by decide), h1 11 (by decide) (by decide)]
    rfl
  · show pu_phs ((ph b).map (pv_P w')) p e = pu_phs (((ph b).map (pv_P w)).map (fun z => (z.1, fun c => pv_sgn g (z.2 c)))) p e
    rw [List.map_map]
    refine pu_phs_cg (ph b) fun a ha => ?_
    obtain ⟨j, j1, j2, j3⟩ := hw.2.2.2.2.1 b p hb hp (hsu p b hp ((hsce p b).mp hs))
    have hpn : nn (w 15 j) = p := by rw [j3, pu_nn (by omega)]
    have hx := htk b hb a ha j j1 j2
    have h5 := (h2 (a * 60 + nn (w 15 j))).1 ⟨b, hb, a, ha, j, j1, j2, rfl⟩
    rw [hpn] at h5 hx
    refine ⟨?_, ?_⟩
    · show w' 19 a = w 19 a
      rw [h1 19 (by decide) (by decide)]
    · show w' 21 (a * 60 + p) = pv_sgn g (w 21 (a * 60 + p))
      rw [h5, pv_sgn_v hx]
end UR
