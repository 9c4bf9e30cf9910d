/-! pure side, the graph 6: what is live at the beginning of blocks -/
theorem pg_pred (j : Nat) : pu_I (j + 1) + (-1) = pu_I j := by
  rw [← pu_su, Int32.add_assoc]
  show pu_I j + 0 = _
  exact Int32.add_zero _
section LIF
variable {n n2 : Nat → Nat} {w fw x9 : ST} {B N V H wd : Nat} {qs : Nat → List Nat} {L : Nat → Prop} {W : Nat → Int32 → Prop}
def pg_cl (B wd : Nat) (x : Int32) (b : Nat) (l : SL) : Prop := ∀ c, c < B → x = pu_I c → ∀ h, h < wd * 64 → pg_g l 6 wd c h = true → pg_g l 5 wd b h = false → pg_g l 6 wd b h = true
/-- bits that are there are live -/
def pg_sd (B wd H : Nat) (W : Nat → Int32 → Prop) (l : SL) : Prop := ∀ b h, b < B → h < wd * 64 → pg_g l 6 wd b h = true → h < H ∧ W b (pu_I h)
def pg_e6 (B wd : Nat) (l l' : SL) : Prop := ∀ b h, b < B → h < wd * 64 → pg_g l' 6 wd b h = pg_g l 6 wd b h
def pg_m6 (B wd : Nat) (l l' : SL) : Prop := ∀ b h, b < B → h < wd * 64 → pg_g l 6 wd b h = true → pg_g l' 6 wd b h = true
def pg_n6 (B wd : Nat) (l l' : SL) : Prop := ∃ b h, b < B ∧ h < wd * 64 ∧ pg_g l 6 wd b h = false ∧ pg_g l' 6 wd b h = true
theorem pg_g_r {l l' : SL} {r wd b h : Nat} (e : l' r = l r) : pg_g l' r wd b h = pg_g l r wd b h := by
  unfold pg_g
  rw [e]
theorem pg_cl_e {x : Int32} {b : Nat} {l l' : SL} (hb : b < B) (h5 : l' 5 = l 5) (he : pg_e6 B wd l l') (h : pg_cl B wd x b l') : pg_cl B wd x b l := fun c hc hx i hi h1 h2 => by
  have h9 := h c hc hx i hi (by rw [he c i hc hi]; exact h1) (by rw [pg_g_r h5]; exact h2)
  rw [he b i hb hi] at h9
  exact h9
/-- one way -/
theorem pg_spreadX (hw2 : w 0 2 = pu_I wd) (h5 : B * wd ≤ n 5) (h6 : B * wd ≤ n 6) (hn5 : n 5 < 1000000) (hn6 : n 6 < 1000000) (hB : B ≤ 60) (hwd : wd < 1000000) {b : Nat} (hb : b < B) {x : Int32} (hx : x < 0 ∨ ∃ c, c < B ∧ x = pu_I c)
    (hW : ∀ c, c < B → x = pu_I c → ∀ h, h < H → W c (pu_I h) → ¬ pg_gv ((qs b).map (pv_S x9)) (pu_I h) → W b (pu_I h)) (l : SL) (hg5 : ∀ h, h < wd * 64 → (pg_g l 5 wd b h = true ↔ h < H ∧ pg_gv ((qs b).map (pv_S x9)) (pu_I h))) (hsd : pg_sd B wd H W l) :
    ∃ v l', fX2_spreadInto n w l x (pu_I b) = some (v, l') ∧ (∀ r, r ≠ 6 → l' r = l r) ∧ pg_m6 B wd l l' ∧ pg_sd B wd H W l' ∧ ((v = 0 ∧ pg_e6 B wd l l' ∧ pg_cl B wd x b l) ∨ (v = 1 ∧ pg_n6 B wd l l')) := by
  rcases hx with hx | ⟨c, hc, rfl⟩
  · refine ⟨0, l, ?_, fun _ _ => rfl, fun _ _ _ _ h => h, hsd, Or.inl ⟨rfl, fun _ _ _ _ => rfl, fun c hc e => ?_⟩⟩
    · unfold fX2_spreadInto
      rw [if_neg (Int32.not_le.mpr hx)]
    · rw [e] at hx
      exact absurd hx (pu_ge (by omega))
  · obtain ⟨v, l', e1, ⟨e2, e3⟩, e4⟩ := pg_spreadInto hw2 h5 h6 hn5 hn6 hB hb hc hwd l
    refine ⟨v, l', e1, e2, fun b' h hb' hh h1 => by rw [e3 b' h hh, h1]; rfl, fun b' h hb' hh h1 => ?_, ?_⟩
    · rw [e3 b' h hh, Bool.or_eq_true, Bool.and_eq_true, Bool.and_eq_true, decide_eq_true_iff] at h1
      rcases h1 with h1 | ⟨⟨rfl, h2⟩, h3⟩
      · exact hsd b' h hb' hh h1
      · obtain ⟨a1, a2⟩ := hsd c h hc hh h2
        refine ⟨a1, hW c hc rfl h a1 a2 fun h9 => ?_⟩
        rw [(hg5 h hh).mpr ⟨a1, h9⟩] at h3
        cases h3
    · rcases e4 with ⟨z1, z2⟩ | ⟨z1, h, z2, z3, z4⟩
      · refine Or.inl ⟨z1, fun b' h hb' hh => ?_, fun c' hc' e => ?_⟩
        · rw [e3 b' h hh]
          by_cases hbb : b' = b
          · subst hbb
            cases q1 : pg_g l 6 wd c h with
            | false => cases pg_g l 6 wd b' h <;> simp
            | true =>
              cases q2 : pg_g l 5 wd b' h with
              | false => rw [z2 h hh q1 q2]; rfl
              | true => cases pg_g l 6 wd b' h <;> simp
          · rw [decide_eq_false hbb]
            cases pg_g l 6 wd b' h <;> rfl
        · rw [← pu_inj (by omega) (by omega) e]
          exact z2
      · exact Or.inr ⟨z1, b, h, hb, z2, z3, z4⟩
/-- what is asked of ways: life goes against them -/
def pg_wy (B H : Nat) (fw x9 : ST) (qs : Nat → List Nat) (W : Nat → Int32 → Prop) : Prop := ∀ b, b < B → ∀ x, (x = fw 10 b ∨ x = fw 11 b) → (x < 0 ∨ ∃ c, c < B ∧ x = pu_I c) ∧ ∀ c, c < B → x = pu_I c → ∀ h, h < H → W c (pu_I h) → ¬ pg_gv ((qs b).map (pv_S x9)) (pu_I h) → W b (pu_I h)
theorem pg_sl46 (hw2 : w 0 2 = pu_I wd) (h5 : B * wd ≤ n 5) (h6 : B * wd ≤ n 6) (hn5 : n 5 < 1000000) (hn6 : n 6 < 1000000) (hB : B ≤ 60) (hwd : wd < 1000000) (hwy : pg_wy B H fw x9 qs W) (l0 : SL) (hg5 : ∀ b h, b < B → h < wd * 64 → (pg_g l0 5 wd b h = true ↔ h < H ∧ pg_gv ((qs b).map (pv_S x9)) (pu_I h))) :
    ∀ (i k : Nat) (v2 : Int32) (s : SL), i ≤ B → i < k → (∀ r, r ≠ 6 → s r = l0 r) → pg_m6 B wd l0 s → pg_sd B wd H W s → ((v2 = 0 ∧ pg_e6 B wd l0 s ∧ ∀ b, i ≤ b → b < B → pg_cl B wd (fw 10 b) b l0 ∧ pg_cl B wd (fw 11 b) b l0) ∨ (v2 = 1 ∧ pg_n6 B wd l0 s)) →
      ∃ v s', fX2_spreadLife_L46 n w fw k v2 (pu_I i + (-1)) s = some (v, s') ∧ (∀ r, r ≠ 6 → s' r = l0 r) ∧ pg_m6 B wd l0 s' ∧ pg_sd B wd H W s' ∧ ((v = 0 ∧ pg_e6 B wd l0 s' ∧ ∀ b, b < B → pg_cl B wd (fw 10 b) b l0 ∧ pg_cl B wd (fw 11 b) b l0) ∨ (v = 1 ∧ pg_n6 B wd l0 s')) := by
  intro i
  induction i with
  | zero =>
    intro k v2 s _ hk hr hm hs hv
    obtain ⟨k', rfl⟩ : ∃ k', k = k' + 1 := ⟨k - 1, by omega⟩
    refine ⟨v2, s, ?_, hr, hm, hs, hv.imp (fun h => ⟨h.1, h.2.1, fun b hb => h.2.2 b (Nat.zero_le _) hb⟩) id⟩
    rfl
  | succ i ih =>
    intro k v2 s hi hk hr hm hs hv
    obtain ⟨k', rfl⟩ : ∃ k', k = k' + 1 := ⟨k - 1, by omega⟩
    have hiB : i < B := by omega
    obtain ⟨wa1, wa2⟩ := hwy i hiB (fw 10 i) (Or.inl rfl)
    obtain ⟨wb1, wb2⟩ := hwy i hiB (fw 11 i) (Or.inr rfl)
    have hg5s : ∀ (q : SL), (∀ r, r ≠ 6 → q r = l0 r) → ∀ h, h < wd * 64 → (pg_g q 5 wd i h = true ↔ h < H ∧ pg_gv ((qs i).map (pv_S x9)) (pu_I h)) := fun q hq h hh => by
      rw [pg_g_r (hq 5 (by decide))]
      exact hg5 i h hiB hh
    obtain ⟨va, s1, a1, a2, a3, a4, a5⟩ := pg_spreadX hw2 h5 h6 hn5 hn6 hB hwd hiB wa1 wa2 s (hg5s s hr) hs
    have hr1 : ∀ r, r ≠ 6 → s1 r = l0 r := fun r h => by rw [a2 r h, hr r h]
    obtain ⟨vb, s2, b1, b2, b3, b4, b5⟩ := pg_spreadX hw2 h5 h6 hn5 hn6 hB hwd hiB wb1 wb2 s1 (hg5s s1 hr1) a4
    have hr2 : ∀ r, r ≠ 6 → s2 r = l0 r := fun r h => by rw [b2 r h, hr1 r h]
    have hm2 : pg_m6 B wd l0 s2 := fun b h hb hh h1 => b3 b h hb hh (a3 b h hb hh (hm b h hb hh h1))
    obtain ⟨v3, hv3⟩ : ∃ v3 : Int32, v3 = if vb = 0 then (if va = 0 then (if v2 = 0 then 0 else 1) else 1) else 1 := ⟨_, rfl⟩
    have hform : fX2_spreadLife_L46 n w fw (k' + 1) v2 (pu_I (i + 1) + (-1)) s = fX2_spreadLife_L46 n w fw k' v3 (pu_I i + (-1)) s2 := by
      rw [pg_pred]
      have hix : ixb (pu_I i) 60 = true := (pu_ix (by omega)).mpr (by omega)
      show (if pu_I i < 0 then some (v2, s) else (if ixb (pu_I i) 60 = true then ((fX2_spreadInto n w s (fw 10 (nn (pu_I i))) (pu_I i)).bind fun (o_7 : Int32 × SL) => (if ixb (pu_I i) 60 = true then ((fX2_spreadInto n w (o_7.2) (fw 11 (nn (pu_I i))) (pu_I i)).bind fun (o_10 : Int32 × SL) => (if (o_10.1) = 0 then (if (o_7.1) = 0 then (if v2 = 0 then (fX2_spreadLife_J96 (fX2_spreadLife_L46 n w fw k') (pu_I i) o_10 0) else (fX2_spreadLife_J91 (fX2_spreadLife_L46 n w fw k') (pu_I i) o_10)) else (fX2_spreadLife_J91 (fX2_spreadLife_L46 n w fw k') (pu_I i) o_10)) else (fX2_spreadLife_J91 (fX2_spreadLife_L46 n w fw k') (pu_I i) o_10))) else none)) else none)) = _
      rw [if_neg (pu_ge (by omega)), if_pos hix, pu_nn (show i < 2147483648 by omega), a1, Option.bind_some, if_pos hix]
      show (fX2_spreadInto n w s1 (fw 11 i) (pu_I i)).bind _ = _
      rw [b1, Option.bind_some, hv3]
      show (if vb = 0 then (if va = 0 then (if v2 = 0 then _ else _) else _) else _) = _
      by_cases q1 : vb = 0
      · rw [if_pos q1, if_pos q1]
        by_cases q2 : va = 0
        · rw [if_pos q2, if_pos q2]
          by_cases q3 : v2 = 0
          · rw [if_pos q3, if_pos q3]
            rfl
          · rw [if_neg q3, if_neg q3]
            rfl
        · rw [if_neg q2, if_neg q2]
          rfl
      · rw [if_neg q1, if_neg q1]
        rfl
    have hv4 : (v3 = 0 ∧ pg_e6 B wd l0 s2 ∧ ∀ b, i ≤ b → b < B → pg_cl B wd (fw 10 b) b l0 ∧ pg_cl B wd (fw 11 b) b l0) ∨ (v3 = 1 ∧ pg_n6 B wd l0 s2) := by
      have up1 : pg_n6 B wd l0 s → pg_n6 B wd l0 s2 := fun ⟨b, h, hb, hh, z1, z2⟩ => ⟨b, h, hb, hh, z1, b3 b h hb hh (a3 b h hb hh z2)⟩
      have hlow : ∀ (q q' : SL), pg_m6 B wd l0 q → pg_n6 B wd q q' → pg_n6 B wd l0 q' := fun q q' hq ⟨b, h, hb, hh, z1, z2⟩ => ⟨b, h, hb, hh, (by
        cases e : pg_g l0 6 wd b h with
        | false => rfl
        | true => rw [hq b h hb hh e] at z1; cases z1), z2⟩
      rcases b5 with ⟨y1, y2, y3⟩ | ⟨y1, y2⟩
      · rcases a5 with ⟨x1, x2, x3⟩ | ⟨x1, x2⟩
        · rcases hv with ⟨u1, u2, u3⟩ | ⟨u1, u2⟩
          · left
            have e1 : pg_e6 B wd l0 s1 := fun b h hb hh => by rw [x2 b h hb hh, u2 b h hb hh]
            refine ⟨by rw [hv3, if_pos y1, if_pos x1, if_pos u1], fun b h hb hh => by rw [y2 b h hb hh, e1 b h hb hh], fun b hb1 hb2 => ?_⟩
            by_cases e : b = i
            · subst e
              exact ⟨pg_cl_e hb2 (hr 5 (by decide)) u2 x3, pg_cl_e hb2 (hr1 5 (by decide)) e1 y3⟩
            · exact u3 b (by omega) hb2
          · exact Or.inr ⟨by rw [hv3, if_pos y1, if_pos x1, if_neg (by rw [u1]; decide)], up1 u2⟩
        · refine Or.inr ⟨by rw [hv3, if_pos y1, if_neg (by rw [x1]; decide)], ?_⟩
          obtain ⟨b, h, hb, hh, z1, z2⟩ := hlow s s1 hm x2
          exact ⟨b, h, hb, hh, z1, b3 b h hb hh z2⟩
      · exact Or.inr ⟨by rw [hv3, if_neg (by rw [y1]; decide)], hlow s1 s2 (fun b h hb hh h1 => a3 b h hb hh (hm b h hb hh h1)) y2⟩
    obtain ⟨v, s', r1, r2⟩ := ih k' v3 s2 (by omega) (by omega) hr2 hm2 b4 hv4
    exact ⟨v, s', by rw [hform]; exact r1, r2⟩
theorem pg_sl26 (hw2 : w 0 2 = pu_I wd) (hfw0 : fw 0 0 = pu_I B) (h5 : B * wd ≤ n 5) (h6 : B * wd ≤ n 6) (hn5 : n 5 < 1000000) (hn6 : n 6 < 1000000) (hB : B ≤ 60) (hwd : wd < 1000000) (hbig : wd * 64 * B < 900000) (hwy : pg_wy B H fw x9 qs W) (l00 : SL) (hg5 : ∀ b h, b < B → h < wd * 64 → (pg_g l00 5 wd b h = true ↔ h < H ∧ pg_gv ((qs b).map (pv_S x9)) (pu_I h))) :
    ∀ (m i k : Nat) (v2 : Int32) (l : SL), i ≤ pg_mu B wd l → pg_mu B wd l + m = wd * 64 * B → m + 2 < k → (∀ r, r ≠ 6 → l r = l00 r) → pg_m6 B wd l00 l → pg_sd B wd H W l → ((v2 = 0 ∧ ∀ b, b < B → pg_cl B wd (fw 10 b) b l ∧ pg_cl B wd (fw 11 b) b l) ∨ v2 = 1) →
      ∃ l', fX2_spreadLife_L26 n w fw k v2 (pu_I i) l = some l' ∧ (∀ r, r ≠ 6 → l' r = l00 r) ∧ pg_m6 B wd l00 l' ∧ pg_sd B wd H W l' ∧ ∀ b, b < B → pg_cl B wd (fw 10 b) b l' ∧ pg_cl B wd (fw 11 b) b l' := by
  intro m
  induction m using Nat.strongRecOn with
  | _ m ih =>
    intro i k v2 l hi hm hk hr hmm hs hv
    obtain ⟨k', rfl⟩ : ∃ k', k = k' + 1 := ⟨k - 1, by omega⟩
    rcases hv with ⟨v0, hcl⟩ | v1
    · refine ⟨l, ?_, hr, hmm, hs, hcl⟩
      show (if v2 = 0 then some l else _) = _
      rw [if_pos v0]
    · have hmax := pg_mu_max (B := B) (wd := wd) l
      obtain ⟨v, s, e1, e2, e3, e4, e5⟩ := pg_sl46 hw2 h5 h6 hn5 hn6 hB hwd hwy l (fun b h hb hh => by rw [pg_g_r (hr 5 (by decide))]; exact hg5 b h hb hh) B NF 0 l (Nat.le_refl B) (by have := pv_NF; omega) (fun _ _ => rfl) (fun _ _ _ _ h => h) hs (Or.inl ⟨rfl, fun _ _ _ _ => rfl, fun b h1 h2 => by omega⟩)
      have hform : fX2_spreadLife_L26 n w fw (k' + 1) v2 (pu_I i) l = fX2_spreadLife_L26 n w fw k' v (pu_I (i + 1)) s := by
        show (if v2 = 0 then some l else (if 1000000 ≤ pu_I i then some l else ((fX2_spreadLife_L46 n w fw NF 0 ((fw 0 0) - 1) l).bind fun (o46 : Int32 × SL) => ((fX2_spreadLife_L26 n w fw k') (o46.1) (pu_I i + 1) (o46.2))))) = _
        rw [if_neg (by rw [v1]; decide), if_neg (show ¬ (1000000 : Int32) ≤ pu_I i from fun h => by have := (pu_le (a := 1000000) (by decide) (by omega)).mp h; omega), hfw0, Int32.sub_eq_add_neg, e1, Option.bind_some, pu_su]
      have hr2 : ∀ r, r ≠ 6 → s r = l00 r := fun r h => by rw [e2 r h, hr r h]
      have hmm2 : pg_m6 B wd l00 s := fun b h hb hh h1 => e3 b h hb hh (hmm b h hb hh h1)
      rcases e5 with ⟨y1, y2, y3⟩ | ⟨y1, y2⟩
      · refine ⟨s, ?_, hr2, hmm2, e4, fun b hb => ?_⟩
        · rw [hform]
          obtain ⟨k'', rfl⟩ : ∃ k'', k' = k'' + 1 := ⟨k' - 1, by omega⟩
          show (if v = 0 then some s else _) = _
          rw [if_pos y1]
        · obtain ⟨q1, q2⟩ := y3 b hb
          have hback : pg_e6 B wd s l := fun b h hb hh => (y2 b h hb hh).symm
          exact ⟨pg_cl_e hb (e2 5 (by decide)).symm hback q1, pg_cl_e hb (e2 5 (by decide)).symm hback q2⟩
      · have hlt := pg_mu_lt (B := B) (wd := wd) e3 y2
        have hmax2 := pg_mu_max (B := B) (wd := wd) s
        rw [hform]
        exact ih (wd * 64 * B - pg_mu B wd s) (by omega) (i + 1) k' v s (by omega) (by omega) (by omega) hr2 hmm2 e4 (Or.inr y1)
/-- life, whole -/
theorem pg_spreadLife (hw2 : w 0 2 = pu_I wd) (hfl : pg_fl B N V fw x9 n2 qs) (h4 : B * wd ≤ n 4) (h5 : B * wd ≤ n 5) (h6 : B * wd ≤ n 6) (hn4 : n 4 < 1000000) (hn5 : n 5 < 1000000) (hn6 : n 6 < 1000000) (hwd : wd < 200) (l : SL)
    (hl : ∀ b h, b < B → h < wd * 64 → (pg_g l 4 wd b h = true ↔ h < H ∧ pu_lv ((qs b).map (pv_S x9)) (pg_E fw b) (pu_I h)) ∧ (pg_g l 5 wd b h = true ↔ h < H ∧ pg_gv ((qs b).map (pv_S x9)) (pu_I h))) (hlok : pu_lok (pg_F fw x9 qs) (fun b => b < B) W) :
    ∃ l', fX2_spreadLife n w l fw = some l' ∧ (∀ r, r ≠ 6 → l' r = l r) ∧ (∀ b h, b < B → h < wd * 64 → pg_g l 4 wd b h = true → pg_g l' 6 wd b h = true) ∧ pg_sd B wd H W l' ∧ ∀ b, b < B → pg_cl B wd (fw 10 b) b l' ∧ pg_cl B wd (fw 11 b) b l' := by
  obtain ⟨⟨hB0, hBp, hB⟩, _, _, _, _, hend⟩ := id hfl
  have hbig : wd * 64 * B < 900000 := by
    have := Nat.mul_le_mul (show wd * 64 ≤ 199 * 64 by omega) hB
    omega
  have hbw : B * wd < 100000 := by
    have := Nat.mul_le_mul hB (show wd ≤ 199 by omega)
    omega
  have hlvW : ∀ b v, b < B → pu_lv ((qs b).map (pv_S x9)) (pg_E fw b) v → W b v := fun b v hb h => by
    refine hlok b v hb (pu_lv_mono (fun u hu => ?_) _ v h)
    exact Or.inl hu
  have hwy : pg_wy B H fw x9 qs W := by
    intro b hb x hx
    obtain ⟨q1, q2, q3, q4, q5, q6⟩ := hend b hb
    have hW : ∀ c, c < B → pu_sc (pg_F fw x9 qs) b c → ∀ h, h < H → W c (pu_I h) → ¬ pg_gv ((qs b).map (pv_S x9)) (pu_I h) → W b (pu_I h) := fun c hc hsc h hh h1 h2 => hlok b (pu_I h) hb ((pg_lv_x _ _).mpr (Or.inr ⟨Or.inr ⟨c, hsc, h1⟩, h2⟩))
    have hneg : ∀ c, c < B → ∀ y : Int32, y < 0 → y ≠ pu_I c := fun c hc y hy e => by rw [e] at hy; exact absurd hy (pu_ge (by omega))
    rcases q1 with h22 | h23 | h24
    · obtain ⟨⟨c, c1, c2⟩, d⟩ := q4 h22
      rcases hx with rfl | rfl
      · refine ⟨Or.inr ⟨c, c1, c2⟩, fun c' hc' e => hW c' hc' ⟨by show fw 8 b ≠ 24; rw [h22]; decide, Or.inl ?_⟩⟩
        show c' = nn (fw 10 b)
        rw [e, pu_nn (by omega)]
      · exact ⟨Or.inl d, fun c' hc' e => absurd e (hneg c' hc' _ d)⟩
    · obtain ⟨⟨c, c1, c2⟩, ⟨d, d1, d2⟩⟩ := q5 h23
      rcases hx with rfl | rfl
      · refine ⟨Or.inr ⟨c, c1, c2⟩, fun c' hc' e => hW c' hc' ⟨by show fw 8 b ≠ 24; rw [h23]; decide, Or.inl ?_⟩⟩
        show c' = nn (fw 10 b)
        rw [e, pu_nn (by omega)]
      · refine ⟨Or.inr ⟨d, d1, d2⟩, fun c' hc' e => hW c' hc' ⟨by show fw 8 b ≠ 24; rw [h23]; decide, Or.inr ⟨h23, ?_⟩⟩⟩
        show c' = nn (fw 11 b)
        rw [e, pu_nn (by omega)]
    · obtain ⟨d1, d2⟩ := q6 h24
      rcases hx with rfl | rfl
      · exact ⟨Or.inl d1, fun c' hc' e => absurd e (hneg c' hc' _ d1)⟩
      · exact ⟨Or.inl d2, fun c' hc' e => absurd e (hneg c' hc' _ d2)⟩
  obtain ⟨l2, hl2⟩ : ∃ l2, l2 = srl l 6 (va_cpy (l 4) (l 6) 0 0 (B * wd)) := ⟨_, rfl⟩
  have hr2 : ∀ r, r ≠ 6 → l2 r = l r := fun r h => by rw [hl2, pv_srl_n h]
  have h62 : ∀ b h, b < B → h < wd * 64 → pg_g l2 6 wd b h = pg_g l 4 wd b h := fun b h hb hh => by
    have hlt : b * wd + h / 64 < B * wd := pg_ixlt hb (by omega)
    unfold pg_g
    rw [hl2, pv_srl_s, pk_cpy_in (Nat.zero_le _) (by omega)]
    rw [show 0 + (b * wd + h / 64 - 0) = b * wd + h / 64 by omega]
  have hs2 : pg_sd B wd H W l2 := fun b h hb hh h1 => by
    rw [h62 b h hb hh, (hl b h hb hh).1] at h1
    exact ⟨h1.1, hlvW b _ hb h1.2⟩
  have hmax := pg_mu_max (B := B) (wd := wd) l2
  obtain ⟨l', e1, e2, e3, e4, e5⟩ := pg_sl26 hw2 hB0 h5 h6 hn5 hn6 hB (by omega) hbig hwy l2 (fun b h hb hh => by rw [pg_g_r (hr2 5 (by decide))]; exact (hl b h hb hh).2) (wd * 64 * B - pg_mu B wd l2) 0 NF 1 l2 (Nat.zero_le _) (by omega) (by have := pv_NF; omega) (fun _ _ => rfl) (fun _ _ _ _ h => h) hs2 (Or.inr rfl)
  refine ⟨l', ?_, fun r hr => by rw [e2 r hr, hr2 r hr], fun b h hb hh h1 => e3 b h hb hh (by rw [h62 b h hb hh]; exact h1), e4, e5⟩
  unfold fX2_spreadLife
  rw [hB0, hw2, pv_mul]
  show (if cpk (pu_I 0) (pu_I 0) (pu_I (B * wd)) (n 4) (n 6) = true then _ else none) = _
  rw [if_pos (pa_cpk (by omega) (by omega) (by decide) (by decide) (by omega)), pu_nn (show B * wd < 2147483648 by omega)]
  simp only [lt9]
  rw [show nn 0 = 0 from rfl, ← hl2]
  have e1 : fX2_spreadLife_L26 n w fw NF 1 0 l2 = some l' := e1
  rw [e1]
  rfl
end LIF
