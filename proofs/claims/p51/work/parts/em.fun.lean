/-! pure side, the reader 22: parameters, functions -/
section RDF
variable {f lo n n' L L' V T : Nat} {pw pw' pw2 : ST}
/-- the ops that stand -/
def rd_p (pw : ST) (n L T : Nat) : Prop :=
  (pw 0 7 = pu_I n ∧ pw 0 11 = pu_I L) ∧ (∀ x, x < n → ∃ t, pw 11 x = pu_I t ∧ t ≤ T) ∧ (∀ x, x < n → pw 9 x = 35 → ∃ m, m < L ∧ pw 10 x = pu_I m ∧ pw 13 m = pu_I x)
/-- a program goes on, what is written of other functions stays -/
def rd_z (f : Nat) (pw : ST) (n : Nat) (pw' : ST) (n' : Nat) : Prop :=
  n ≤ n' ∧ (∀ x, x < n → pw' 9 x = pw 9 x ∧ pw' 10 x = pw 10 x ∧ ∃ t t', pw 11 x = pu_I t ∧ pw' 11 x = pu_I t' ∧ t ≤ t' ∧ t' ≤ 1000) ∧ (∀ r, 4 ≤ r → r ≤ 7 → ∀ g, g ≠ f → pw' r g = pw r g)
theorem rd_q_p (h : rd_q f pw n L V T) : rd_p pw n L T := ⟨⟨h.1.1, h.1.2.1⟩, h.2⟩
theorem rd_p_q (h : rd_p pw n L T) (h5 : pw 5 f = pu_I V) : rd_q f pw n L V T := ⟨⟨h.1.1, h.1.2, h5⟩, h.2⟩
theorem rd_y_z (h : rd_y f lo pw n pw' n' L') : rd_z f pw n pw' n' := by
  obtain ⟨h1, h2, h3, h4, h5, h6⟩ := h
  refine ⟨h1, h2, fun r h4' h7 g hg => ?_⟩
  rcases (by omega : r = 4 ∨ r = 5 ∨ r = 6 ∨ r = 7) with e | e | e | e <;> subst e
  · rw [h4 4 (by decide) (by decide) (by decide) (by decide) (by decide) (by decide)]
  · exact h5 g hg
  · rw [h4 6 (by decide) (by decide) (by decide) (by decide) (by decide) (by decide)]
  · rw [h4 7 (by decide) (by decide) (by decide) (by decide) (by decide) (by decide)]
theorem rd_z_tr {n2 : Nat} (h1 : rd_z f pw n pw' n') (h2 : rd_z f pw' n' pw2 n2) : rd_z f pw n pw2 n2 := by
  obtain ⟨a1, a2, a3⟩ := h1
  obtain ⟨b1, b2, b3⟩ := h2
  refine ⟨by omega, fun x hx => ?_, fun r h4 h7 g hg => by rw [b3 r h4 h7 g hg, a3 r h4 h7 g hg]⟩
  obtain ⟨c1, c2, t, t', c3, c4, c5, c6⟩ := a2 x hx
  obtain ⟨d1, d2, s, s', d3, d4, d5, d6⟩ := b2 x (by omega)
  have e : t' = s := by
    rw [c4] at d3
    exact pu_inj (by omega) (by omega) d3
  exact ⟨by rw [d1, c1], by rw [d2, c2], t, s', c3, d4, by omega, d6⟩
/-- a word that is no op's -/
theorem rd_z_w (h : rd_p pw n L T) (hT : T ≤ 1000) {r i : Nat} {v : Int32} (hr : r ≠ 9 ∧ r ≠ 10 ∧ r ≠ 11 ∧ r ≠ 13) (h0 : r = 0 → i ≠ 7 ∧ i ≠ 11) (hi : 4 ≤ r → r ≤ 7 → i = f) : rd_p (upw pw r i v) n L T ∧ rd_z f pw n (upw pw r i v) n := by
  obtain ⟨r9, r10, r11, r13⟩ := hr
  have e9 : upw pw r i v 9 = pw 9 := pv_upw_n (Ne.symm r9)
  have e10 : upw pw r i v 10 = pw 10 := pv_upw_n (Ne.symm r10)
  have e11 : upw pw r i v 11 = pw 11 := pv_upw_n (Ne.symm r11)
  have e13 : upw pw r i v 13 = pw 13 := pv_upw_n (Ne.symm r13)
  obtain ⟨⟨h7, hL⟩, hk, hl⟩ := h
  refine ⟨⟨⟨?_, ?_⟩, by rw [e11]; exact hk, by rw [e9, e10, e13]; exact hl⟩, Nat.le_refl n, fun x hx => ⟨by rw [e9], by rw [e10], ?_⟩, fun r' h4 h7' g hg => ?_⟩
  · rw [pv_upw, if_neg (fun q => (h0 q.1.symm).1 q.2.symm)]; exact h7
  · rw [pv_upw, if_neg (fun q => (h0 q.1.symm).2 q.2.symm)]; exact hL
  · obtain ⟨t, t1, t2⟩ := hk x hx
    exact ⟨t, t, t1, by rw [e11]; exact t1, Nat.le_refl t, by omega⟩
  · rw [pv_upw, if_neg]
    rintro ⟨q1, q2⟩
    exact hg (q2.trans (hi (by omega) (by omega)))
theorem rd_c_z {n0 : Nat} {l : List (Int32 × Int32 × Bool)} (h : rd_c pw n0 l) (hy : rd_z f pw n pw' n') (hn : n0 + l.length ≤ n) : rd_c pw' n0 l := by
  intro k c hc
  have hk := (List.getElem?_eq_some_iff.mp hc).1
  obtain ⟨h1, h2, h3⟩ := h k c hc
  obtain ⟨y1, y2, t, t', y3, y4, y5, y6⟩ := hy.2.1 (n0 + k) (by omega)
  refine ⟨by rw [y1]; exact h1, fun q => by rw [y2]; exact h2 q, fun q => ?_⟩
  obtain ⟨s, s1, s2, s3⟩ := h3 q
  have e : s = t := by
    rw [s3] at y3
    exact pu_inj (by omega) (by omega) y3
  exact ⟨t', by omega, y6, y4⟩
/-- a function's name is looked for -/
theorem rd_find {pl : SL} {x : Int64} {fs : Nat} (hfs : fs ≤ 6) (g : Option Nat) (hg : ∀ k, g = some k → k < fs ∧ pl 2 k = x) (hm : ∀ k, k < fs → (∀ j, g = some j → k < j) → pl 2 k ≠ x) : fX6_find pl x (pu_I fs) = some (g.elim (-1) fun k => pu_I k) := by
  have hL : ∀ m k n, k + m = fs → m < n → (∀ j, g = some j → k ≤ j) → fX6_find_L3 pl x (pu_I fs) n (pu_I k) = some (g.elim (Sum.inr ()) fun j => Sum.inl (pu_I j)) := by
    intro m
    induction m with
    | zero =>
      intro k n hk hn hj
      obtain ⟨n, rfl⟩ : ∃ q, n = q + 1 := ⟨n - 1, by omega⟩
      have : g = none := by
        cases h : g with
        | none => rfl
        | some j => have := (hg j h).1; have := hj j h; omega
      rw [this]
      show (if pu_I fs ≤ pu_I k then some (Sum.inr ()) else _) = some (Sum.inr ())
      rw [if_pos (by rw [pu_le (by omega) (by omega)]; omega)]
    | succ m ih =>
      intro k n hk hn hj
      obtain ⟨n, rfl⟩ : ∃ q, n = q + 1 := ⟨n - 1, by omega⟩
      show (if pu_I fs ≤ pu_I k then some (Sum.inr ()) else (if ixb (pu_I k) 6 = true then (if (lg_cmp (pl 2 (nn (pu_I k))) x) = 0 then some (Sum.inl (pu_I k)) else ((fX6_find_L3 pl x (pu_I fs) n) (pu_I k + 1))) else none)) = _
      rw [if_neg (by rw [pu_le (by omega) (by omega)]; omega), if_pos ((pu_ix (by omega)).mpr (by omega)), pu_nn (by omega), pu_su]
      by_cases e : g = some k
      · rw [if_pos ((pv_cmp0 _ _).mpr (hg k e).2), e]
        rfl
      · have hlt : ∀ j, g = some j → k < j := fun j hj' => by
          have := hj j hj'
          by_cases q : k = j
          · rw [q] at e; exact absurd hj' e
          · omega
        rw [if_neg (fun q => hm k (by omega) hlt ((pv_cmp0 _ _).mp q))]
        exact ih (k + 1) n (by omega) (by omega) (fun j hj' => hlt j hj')
  unfold fX6_find
  rw [show (0 : Int32) = pu_I 0 from rfl, hL fs 0 NF (by omega) (by unfold NF; omega) (fun j _ => Nat.zero_le j)]
  cases g <;> rfl
/-- parameters: tokens, variables, ops -/
def rp_tk : Nat → List Int64 → List Tok
  | _, [] => []
  | 0, p :: ps => (3, 0, p) :: rp_tk 1 ps
  | k + 1, p :: ps => (44, 0, 0) :: (3, 0, p) :: rp_tk (k + 2) ps
def rp_sv : Nat → List Int64 → rd_sv
  | _, [] => []
  | k, p :: ps => (p, k) :: rp_sv (k + 1) ps
def rp_cd : Nat → List Int64 → List (Int32 × Int32 × Bool)
  | _, [] => []
  | k, _ :: ps => (21, pu_I k, false) :: rp_cd (k + 1) ps
def rp_ok (sv : rd_sv) : Nat → List Int64 → Prop
  | _, [] => True
  | k, p :: ps => rd_lk sv p = none ∧ rp_ok (sv ++ [(p, k)]) (k + 1) ps
theorem rp_cd_len : ∀ (ps : List Int64) (k : Nat), (rp_cd k ps).length = ps.length
  | [], _ => rfl
  | _ :: ps, k => by show (rp_cd (k + 1) ps).length + 1 = ps.length + 1; rw [rp_cd_len ps]
theorem rp_sv_len : ∀ (ps : List Int64) (k : Nat), (rp_sv k ps).length = ps.length
  | [], _ => rfl
  | _ :: ps, k => by show (rp_sv (k + 1) ps).length + 1 = ps.length + 1; rw [rp_sv_len ps]
theorem rd_pars {op lp : Nat} {cs : List (Int64 × Nat × Nat)} {rest : List Tok} (hT : T ≤ 1000) : ∀ (ps : List Int64) (k n : Nat) (rw : ST) (rl : SL) (pw tw : ST) (tl : SL) (sv : rd_sv) (fu : Nat), k + ps.length ≤ 4 → rd_w rw rl f op sv cs lp → rd_q f pw n L k T → pw 4 f = pu_I k → sv.length ≤ k → tk_s tw tl (rp_tk k ps ++ ((41, 0, 0) :: rest)) → rp_ok sv k ps → n + ps.length ≤ 3190 → ps.length < fu →
    ∃ rw' rl' pw' tw' tl', fX7_readParameters_L2 fu (pu_I k) rw rl tw tl pw = some (rw', rl', tw', tl', pw') ∧ rd_w rw' rl' f op (sv ++ rp_sv k ps) cs lp ∧ rd_q f pw' (n + ps.length) L (k + ps.length) T ∧ pw' 4 f = pu_I (k + ps.length) ∧ rd_z f pw n pw' (n + ps.length) ∧ rd_c pw' n (rp_cd k ps) ∧ tk_s tw' tl' ((41, 0, 0) :: rest) ∧ (∀ r, r = 6 ∨ r = 7 → pw' r = pw r) ∧ pw' 0 0 = pw 0 0 := by
  intro ps
  induction ps with
  | nil =>
    intro k n rw rl pw tw tl sv fu hk h1 h2 h4 hsv h3 hok hn hfu
    obtain ⟨fu, rfl⟩ : ∃ q, fu = q + 1 := ⟨fu - 1, by omega⟩
    simp only [List.length_nil] at hk
    replace h3 : tk_s tw tl ((41, 0, 0) :: rest) := by cases k <;> exact h3
    refine ⟨rw, rl, pw, tw, tl, ?_, by show rd_w rw rl f op (sv ++ []) cs lp; rw [List.append_nil]; exact h1, h2, h4, rd_y_z (rd_y_rf (lo := 0) (L' := L) h2 hT), rd_c_nil, h3, fun _ _ => rfl, rfl⟩
    show (if (4 : Int32) < pu_I k then some (rw, rl, tw, tl, pw) else (if (tw 0 2) = 41 then some (rw, rl, tw, tl, pw) else _)) = _
    rw [if_neg (by rw [show (4 : Int32) = pu_I 4 from rfl, pu_lt (by decide) (by omega)]; omega), h3.1.1, if_pos rfl]
  | cons p ps ih =>
    intro k n rw rl pw tw tl sv fu hk h1 h2 h4 hsv h3 hok hn hfu
    obtain ⟨fu, rfl⟩ : ∃ q, fu = q + 1 := ⟨fu - 1, by omega⟩
    simp only [List.length_cons] at hk hn hfu
    -- the comma
    obtain ⟨tw1, tl1, hc, h3'⟩ : ∃ tw1 tl1, (∀ (J : ST → ST → SL → Option (ST × SL × ST × SL × ST)), (if pu_I k ≤ 0 then J rw tw tl else ((fX7_expect rw 44 tw tl).bind fun (o_15 : ST × ST × SL) => J o_15.1 o_15.2.1 o_15.2.2)) = J rw tw1 tl1) ∧ tk_s tw1 tl1 ((3, 0, p) :: (rp_tk (k + 1) ps ++ ((41, 0, 0) :: rest))) := by
      cases k with
      | zero => exact ⟨tw, tl, fun J => by rw [if_pos (by decide)], h3⟩
      | succ k =>
        obtain ⟨tw1, tl1, e1, e2⟩ := rd_exp h1 (show tk_s tw tl ((44, 0, 0) :: (3, 0, p) :: (rp_tk (k + 2) ps ++ ((41, 0, 0) :: rest))) from h3) (K := 44) rfl (by decide)
        refine ⟨tw1, tl1, fun J => ?_, e2⟩
        rw [if_neg (by rw [show (0 : Int32) = pu_I 0 from rfl, pu_le (by omega) (by decide)]; omega), e1]
        rfl
    have hh : tk_h (rp_tk k (p :: ps) ++ ((41, 0, 0) :: rest)) ≠ 41 := by
      cases k
      · show (3 : Int32) ≠ 41; decide
      · show (44 : Int32) ≠ 41; decide
    obtain ⟨tw2, tl2, f1, f2⟩ := rd_exp h1 h3' (K := 3) rfl (by decide)
    obtain ⟨rw3, rl3, pw3, g1, g2, g3, g4, g5, g6⟩ := rd_decl (x := p) (lo := 0) h1 h2 (by omega) hT (by omega)
    obtain ⟨pw4, i1, i2⟩ := rd_a_emit (rd_a_00 0 g3 hT) (by omega) hT (k := 21) (a := pu_I k) (t := 0) (by decide) (Nat.zero_le _) false (fun q => by cases q)
    have i0 := i2.2.1.2.2.2
    obtain ⟨j1, j2⟩ := rd_z_w (f := f) (r := 4) (i := f) (v := pu_I (k + 1)) (rd_q_p i2.1) hT (by decide) (fun q => by cases q) (fun _ _ => rfl)
    have hf := h1.2.1.1
    have j3 : rd_q f (upw pw4 4 f (pu_I (k + 1))) (n + 1) L (k + 1) T := rd_p_q j1 (by rw [pv_upw_n (by decide)]; exact i2.1.1.2.2)
    obtain ⟨rw5, rl5, pw5, tw5, tl5, k1, k2, k3, k4, k5, k6, k7, k8, k9⟩ := ih (k + 1) (n + 1) rw3 rl3 (upw pw4 4 f (pu_I (k + 1))) tw2 tl2 (sv ++ [(p, k)]) fu (by omega) g2 j3 (by rw [pv_upw, if_pos ⟨rfl, rfl⟩]) (by rw [List.length_append]; exact Nat.succ_le_succ hsv) f2 hok.2 (by omega) (by omega)
    refine ⟨rw5, rl5, pw5, tw5, tl5, ?_, ?_, ?_, ?_, ?_, ?_, k7, fun r hr => ?_, ?_⟩
    · show (if (4 : Int32) < pu_I k then some (rw, rl, tw, tl, pw) else (if (tw 0 2) = 41 then some (rw, rl, tw, tl, pw) else (if pu_I k ≤ 0 then (fX7_readParameters_J29 (fX7_readParameters_L2 fu) (pu_I k) rl pw rw tw tl) else ((fX7_expect rw 44 tw tl).bind fun (o_15 : ST × ST × SL) => (fX7_readParameters_J29 (fX7_readParameters_L2 fu) (pu_I k) rl pw (o_15.1) (o_15.2.1) (o_15.2.2)))))) = _
      rw [if_neg (by rw [show (4 : Int32) = pu_I 4 from rfl, pu_lt (by decide) (by omega)]; omega), tk_h_s h3, if_neg hh, hc fun a b c => fX7_readParameters_J29 (fX7_readParameters_L2 fu) (pu_I k) rl pw a b c]
      unfold fX7_readParameters_J29 fX7_readParameters_J38
      rw [if_neg (show ¬ pu_I k = (4 : Int32) from fun q => absurd (pu_inj (a := k) (b := 4) (by omega) (by decide) q) (by omega)), f1]
      show ((fX7_variableOf rw rl (tl1 0 5)).bind _) = _
      rw [h3'.1.2.2 rfl, rd_lk_0 h1, hok.1]
      show (if (-1 : Int32) < 0 then fX7_readParameters_J75 (fX7_readParameters_L2 fu) (pu_I k) rl pw tl1 (rw, tw2, tl2) rw else ((fX7_blame rw 3 (tw1 0 3)).bind fun o => fX7_readParameters_J75 (fX7_readParameters_L2 fu) (pu_I k) rl pw tl1 (rw, tw2, tl2) o)) = _
      rw [if_pos (by decide)]
      unfold fX7_readParameters_J75 lt9
      rw [h3'.1.2.2 rfl, g1]
      show ((fX6_emit pw3 21 (pu_I k) 0).bind _) = _
      rw [show fX6_emit pw3 21 (pu_I k) 0 = some pw4 from i1]
      show (if ixb (rw3 0 3) 6 = true then fX7_readParameters_L2 fu (pu_I k + 1) rw3 rl3 tw2 tl2 (upw pw4 4 (nn (rw3 0 3)) (pu_I k + 1)) else none) = _
      rw [g6, h1.1.1, if_pos ((pu_ix (by omega)).mpr hf), pu_nn (by omega), pu_su]
      exact k1
    · show rd_w rw5 rl5 f op (sv ++ ((p, k) :: rp_sv (k + 1) ps)) cs lp
      rw [List.append_assoc] at k2
      exact k2
    · rw [List.length_cons, show n + (ps.length + 1) = n + 1 + ps.length by omega, show k + (ps.length + 1) = k + 1 + ps.length by omega]
      exact k3
    · rw [List.length_cons, show k + (ps.length + 1) = k + 1 + ps.length by omega]
      exact k4
    · rw [List.length_cons, show n + (ps.length + 1) = n + 1 + ps.length by omega]
      exact rd_z_tr (rd_y_z g4) (rd_z_tr (rd_y_z i2.2.1) (rd_z_tr j2 k5))
    · show rd_c pw5 n ((21, pu_I k, false) :: rp_cd (k + 1) ps)
      obtain ⟨c1, _⟩ := rd_c_cons.mp (show rd_c pw4 n [(21, pu_I k, false)] from i2.2.2.1)
      have c3 := rd_c_z (rd_c_cons.mpr ⟨c1, rd_c_nil⟩) (rd_z_tr j2 k5) (Nat.le_refl (n + 1))
      exact rd_c_cons.mpr ⟨(rd_c_cons.mp c3).1, k6⟩
    · rw [k8 r hr, pv_upw_n (by rcases hr with e | e <;> rw [e] <;> decide), i0.1 r (by rcases hr with e | e <;> rw [e] <;> decide) (by rcases hr with e | e <;> rw [e] <;> decide) (by rcases hr with e | e <;> rw [e] <;> decide) (by rcases hr with e | e <;> rw [e] <;> decide) (by rcases hr with e | e <;> rw [e] <;> decide) (by rcases hr with e | e <;> rw [e] <;> decide), g5 r (by rcases hr with e | e <;> rw [e] <;> decide)]
    · rw [k9, pv_upw_n (by decide), i0.2.2, g5 0 (by decide)]
end RDF
