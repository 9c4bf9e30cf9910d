/-! pure side, the maker 32: an op of a text, and the step of the flow -/
def pt_MM (P w : ST) (a0 a1 Vn B : Nat) (A W : Nat → Nat → Prop) (po vo : Nat → Int32) (fo ot pj dm nb : Nat → Nat) (D : Nat → Nat → Prop) (vl : Nat → List Nat) (S E : Nat → Nat → Int32) (F : pu_Flow) : Prop :=
  (B ≤ 60 ∧ 0 < B ∧ a1 ≤ 3200 ∧ Vn ≤ 320) ∧ pt_bk P a0 a1 w po B fo ot pj ∧ pt_tx P a0 a1 Vn A ∧ pt_dd F w B D dm ∧ pt_pp P w B Vn fo ot D W vl ∧ pt_vv P a0 B Vn fo ot dm vl vo S E nb ∧ pt_ff P w a0 B fo ot vl vo S E F ∧ (∀ b, b < B → fo b ≤ ot b) ∧ pu_ssa F (fun b => b < B) D
abbrev px_sl (P : ST) (a0 : Nat) (vo : Nat → Int32) (f t : Nat) : List pu_Stp := pt_sl P (pt_lor P a0) (pt_ror P a0) vo f t
abbrev px_st (P : ST) (a0 : Nat) (vo : Nat → Int32) (i : Nat) : pu_Stp := pt_stp P (pt_lor P a0) (pt_ror P a0) vo i
section OP
variable {P w : ST} {a0 a1 Vn B : Nat} {A W : Nat → Nat → Prop} {po vo : Nat → Int32} {fo ot pj dm nb : Nat → Nat} {D : Nat → Nat → Prop} {vl : Nat → List Nat} {S E : Nat → Nat → Int32} {F : pu_Flow}
theorem px_T_av (hM : pt_MM P w a0 a1 Vn B A W po vo fo ot pj dm nb D vl S E F) {b i k : Nat} (hb : b < B) (h1 : fo b ≤ i) (h2 : i < ot b) (hk : k ∈ pt_T P a0 i) : pu_av F D b (px_sl P a0 vo (fo b) i) (vo k) := by
  obtain ⟨⟨hB, hB0, h3, hVn⟩, hbk, htx, hd, hp, hv, hf, hfo, _⟩ := hM
  have hval := pt_valid hB hB0 h3 hVn hbk htx hd hp hv hfo
  have havl := pt_avl hB hB0 h3 hVn hbk htx hd hv hf hfo
  obtain ⟨k1, k2 | ⟨d, d1, d2, d3, d4⟩⟩ := pt_T_blk hB hB0 hbk htx hd hb h1 h2 hk
  · exact ((havl b hb i h1 (by omega)).2 k k2.1 k2.2 k1).resolve_left ((hval b hb).2 k k2.1 (by omega) k1)
  · have h9 := (havl d (by omega) (ot d) (hfo _ (by omega)) (Nat.le_refl _)).2 k d2 d3 k1
    have h8 : (F d).2.1 = pt_sl P (pt_lor P a0) (pt_ror P a0) vo (fo d) (ot d) ++ [] := by rw [List.append_nil]; exact (hf d (by omega)).2.2.1.1
    exact (pt_Av_down hd.2.1 hb (by omega) d4 h8 h9).resolve_left ((hval d (by omega)).2 k d2 d3 k1)
theorem px_nw_av (hM : pt_MM P w a0 a1 Vn B A W po vo fo ot pj dm nb D vl S E F) {b i v : Nat} (hb : b < B) (h1 : fo b ≤ i) (h2 : i ≤ ot b) (hvn : v < Vn) (hw : pt_wn P w B ot W b i v) : pu_av F D b (px_sl P a0 vo (fo b) i) (pt_nw P (pt_lor P a0) vo (fo b) (S b) i v) := by
  obtain ⟨⟨hB, hB0, h3, hVn⟩, hbk, htx, hd, hp, hv, hf, hfo, _⟩ := hM
  exact ((pt_avl hB hB0 h3 hVn hbk htx hd hv hf hfo b hb i h1 h2).1 v hvn).resolve_left ((pt_valid hB hB0 h3 hVn hbk htx hd hp hv hfo b hb).1 i v h1 h2 hvn hw)
/-- a value that is there is not the one that a step gives -/
theorem px_keep (hM : pt_MM P w a0 a1 Vn B A W po vo fo ot pj dm nb D vl S E F) {b i : Nat} (hb : b < B) (h1 : fo b ≤ i) (h2 : i < ot b) (hg : pu_gk (P 9 i) = true) {u : Int32} (hu : pu_av F D b (px_sl P a0 vo (fo b) i) u) : u ≠ vo i := by
  obtain ⟨⟨hB, hB0, h3, hVn⟩, hbk, htx, hd, hp, hv, hf, hfo, hS⟩ := hM
  obtain ⟨r, hr⟩ := pt_sl_app (P := P) (vo := vo) (lo := pt_lor P a0) (ro := pt_ror P a0) (f := fo b) (i := i + 1) (ot b) h2
  rw [pt_sl_s h1, if_pos (pu_gk21 _ hg), List.append_assoc] at hr
  have hs : (F b).2.1 = px_sl P a0 vo (fo b) i ++ px_st P a0 vo i :: r := by rw [(hf b hb).2.2.1.1, hr]; rfl
  have hgv : (px_st P a0 vo i).2.1 = vo i := if_pos hg
  rw [← hgv]
  rcases hu with h | h | ⟨d, d1, d2, d3⟩
  · exact pu_fresh hS.2.2.2.2.1 hb hs hg (Or.inl h)
  · exact pu_fresh hS.2.2.2.2.1 hb hs hg (Or.inr h)
  · intro e
    rw [e] at d3
    exact d1 (hS.2.2.2.2.1.2 d b _ (hd.2.1.2.1 b d hb d2).2 hb d3 (pu_bl_s hs hg))
/-- the machine of the text and the flow, at a place of a block -/
def px_R (P w : ST) (a0 Vn B : Nat) (W : Nat → Nat → Prop) (vo : Nat → Int32) (fo ot : Nat → Nat) (S : Nat → Nat → Int32) (b i : Nat) (e : pu_E) (q : List Int32) (st : List Int32) (cl : Nat → Int32) : Prop :=
  st = (pt_T P a0 i).map (fun k => e (vo k)) ∧ q = (pt_Q P a0 i).map (fun k => e (vo k)) ∧ ∀ v, v < Vn → pt_wn P w B ot W b i v → e (pt_nw P (pt_lor P a0) vo (fo b) (S b) i v) = cl v
/-- a step that gives a value: what was there stays -/
theorem px_R_set (hM : pt_MM P w a0 a1 Vn B A W po vo fo ot pj dm nb D vl S E F) {b i : Nat} (hb : b < B) (h1 : fo b ≤ i) (h2 : i < ot b) (hg : pu_gk (P 9 i) = true) (hn21 : P 9 i ≠ 21) (hQ : pt_Q P a0 (i + 1) = []) {e : pu_E} {q st : List Int32} {cl : Nat → Int32} (hR : px_R P w a0 Vn B W vo fo ot S b i e q st cl) {x : Int32} {s : List Nat} (hT : pt_T P a0 (i + 1) = i :: s) (hs : ∀ k, k ∈ s → k ∈ pt_T P a0 i) :
    px_R P w a0 Vn B W vo fo ot S b (i + 1) (pu_set e (vo i) x) [] (x :: s.map (fun k => e (vo k))) cl := by
  refine ⟨?_, by rw [hQ]; rfl, fun v hv hw => ?_⟩
  · rw [hT, List.map_cons, pu_set_s]
    congr 1
    exact List.map_congr_left fun k hk => (pu_set_n (px_keep hM hb h1 h2 hg (px_T_av hM hb h1 h2 (hs k hk)))).symm
  · have hna : ¬ pt_as P v i := by
      rintro ⟨h | h | h, _⟩
      · rw [h] at hg; exact absurd hg (by decide)
      · rw [h] at hg; exact absurd hg (by decide)
      · exact hn21 h
    have hw' := pt_wn_s h2 hw hna
    rw [pt_nw_s h1, if_neg fun h => hna ⟨h.1.elim Or.inl fun h => Or.inr (Or.inl h), h.2⟩, if_neg fun h => hn21 h.1, pu_set_n (px_keep hM hb h1 h2 hg (px_nw_av hM hb h1 (by omega) hv hw'))]
    exact hR.2.2 v hv hw'
/-- an op that lays no step and sets no variable -/
theorem px_R_pass {b i : Nat} (h1 : fo b ≤ i) (h2 : i < ot b) (hna : ∀ v, ¬ pt_as P v i) (hQ : pt_Q P a0 (i + 1) = pt_Q P a0 i) {e : pu_E} {q st st' : List Int32} {cl : Nat → Int32} (hR : px_R P w a0 Vn B W vo fo ot S b i e q st cl) (hT : st' = (pt_T P a0 (i + 1)).map (fun k => e (vo k))) : px_R P w a0 Vn B W vo fo ot S b (i + 1) e q st' cl := by
  refine ⟨hT, by rw [hQ]; exact hR.2.1, fun v hv hw => ?_⟩
  rw [pt_nw_s h1, if_neg fun h => hna v ⟨h.1.elim Or.inl fun h => Or.inr (Or.inl h), h.2⟩, if_neg fun h => hna v ⟨Or.inr (Or.inr h.1), h.2⟩]
  exact hR.2.2 v hv (pt_wn_s h2 hw (hna v))
/-- an op that sets a variable -/
theorem px_R_var {b i u : Nat} (h1 : fo b ≤ i) (h2 : i < ot b) (hu : P 10 i = pu_I u) (hu2 : u < 320) (hVn : Vn ≤ 320) (hk : P 9 i = 31 ∨ P 9 i = 32) (hQ : pt_Q P a0 (i + 1) = pt_Q P a0 i) {e : pu_E} {q st st' : List Int32} {cl : Nat → Int32} (hR : px_R P w a0 Vn B W vo fo ot S b i e q st cl) (hT : st' = (pt_T P a0 (i + 1)).map (fun k => e (vo k))) {x : Int32} (hx : x = e (pt_va vo (pt_lor P a0 i))) : px_R P w a0 Vn B W vo fo ot S b (i + 1) e q st' (px_set cl u x) := by
  refine ⟨hT, by rw [hQ]; exact hR.2.1, fun v hv hw => ?_⟩
  rw [pt_nw_s h1]
  unfold px_set
  by_cases ev : v = u
  · rw [if_pos ⟨hk, by rw [hu, ev]⟩, if_pos ev, hx]
  · have hne : ¬ P 10 i = pu_I v := fun h => ev (pu_inj (by omega) (by omega) (h.symm.trans hu))
    have hna : ¬ pt_as P v i := fun h => hne h.2
    rw [if_neg fun h => hne h.2, if_neg fun h => hne h.2, if_neg ev]
    exact hR.2.2 v hv (pt_wn_s h2 hw hna)
theorem px_gk_cases {k : Int32} (h : pu_gk k = true) : pu_isop k = true ∨ k = 0 ∨ k = 17 ∨ k = 20 ∨ k = 21 := by
  by_cases h0 : k = 0
  · exact Or.inr (Or.inl h0)
  by_cases h1 : k = 17
  · exact Or.inr (Or.inr (Or.inl h1))
  unfold pu_gk at h
  rcases of_decide_eq_true h with h | h | h
  · left
    unfold pu_isop
    rw [decide_eq_true_iff]
    have e0 : (0 : Int32).toInt = 0 := rfl
    have e1 : (1 : Int32).toInt = 1 := rfl
    have e16 : (16 : Int32).toInt = 16 := rfl
    have e17 : (17 : Int32).toInt = 17 := rfl
    have a0' : k.toInt ≠ 0 := fun e => h0 (Int32.toInt_inj.mp (by rw [e, e0]))
    have a1' : k.toInt ≠ 17 := fun e => h1 (Int32.toInt_inj.mp (by rw [e, e17]))
    have b0 := Int32.le_iff_toInt_le.mp h.1
    have b1 := Int32.le_iff_toInt_le.mp h.2
    rw [e0] at b0
    rw [e17] at b1
    exact ⟨Int32.le_iff_toInt_le.mpr (by rw [e1]; omega), Int32.le_iff_toInt_le.mpr (by rw [e16]; omega)⟩
  · exact Or.inr (Or.inr (Or.inr (Or.inl h)))
  · exact Or.inr (Or.inr (Or.inr (Or.inr h)))
end OP
