/-! pure side, stores 43: a flow by new numbers -/
theorem pv_nsub : ∀ (l1 l2 : List Nat), l1.Nodup → (∀ x ∈ l1, x ∈ l2) → l1.length ≤ l2.length := by
  intro l1
  induction l1 with
  | nil => intro l2 _ _; exact Nat.zero_le _
  | cons a l1 ih =>
    intro l2 hn hs
    have hn := List.nodup_cons.mp hn
    obtain ⟨x, y, rfl⟩ := List.append_of_mem (hs a List.mem_cons_self)
    have h1 := ih (x ++ y) hn.2 (fun z hz => by
      have h2 := hs z (List.mem_cons_of_mem _ hz)
      rcases List.mem_append.mp h2 with h3 | h3
      · exact List.mem_append_left _ h3
      · rcases List.mem_cons.mp h3 with rfl | h3
        · exact absurd hz hn.1
        · exact List.mem_append_right _ h3)
    rw [List.length_append] at h1 ⊢
    show l1.length + 1 ≤ x.length + (y.length + 1)
    omega
theorem pv_cat_in {ch : Nat → List Nat} {a c : Nat} : ∀ b, c < b → a ∈ ch c → a ∈ pv_cat ch b := by
  intro b
  induction b with
  | zero => intro h; omega
  | succ b ih =>
    intro h ha
    show a ∈ pv_cat ch b ++ ch b
    by_cases e : c = b
    · rw [← e]; exact List.mem_append_right _ ha
    · exact List.mem_append_left _ (ih (by omega) ha)
theorem pv_cat_nd {B N : Nat} {ch : Nat → List Nat} (hd : pv_dis B N ch) : ∀ b, b ≤ B → (pv_cat ch b).Nodup := by
  intro b
  induction b with
  | zero => intro _; exact List.nodup_nil
  | succ b ih =>
    intro h
    refine List.nodup_append.mpr ⟨ih (by omega), hd.2.1 b (by omega), fun x hx y hy e => ?_⟩
    obtain ⟨c, c1, c2⟩ := pv_cat_mem b hx
    have := hd.2.2 c b x (by omega) (by omega) c2 (e ▸ hy)
    omega
theorem pv_sl_sub {B B' N' : Nat} {ch ch' : Nat → List Nat} (hd' : pv_dis B' N' ch') (h : ∀ c, c < B' → ∀ a ∈ ch' c, ∃ b, b < B ∧ a ∈ ch b) : pv_sl ch' B' ≤ pv_sl ch B := by
  rw [← pv_cat_len, ← pv_cat_len]
  refine pv_nsub _ _ (pv_cat_nd hd' B' (Nat.le_refl _)) fun a ha => ?_
  obtain ⟨c, c1, c2⟩ := pv_cat_mem B' ha
  obtain ⟨b, b1, b2⟩ := h c c1 a c2
  exact pv_cat_in B b1 b2
def pv_ends (B : Nat) (w : ST) : Prop :=
  ∀ b, b < B → (¬ w 9 b < 0 → ixb (w 9 b) 250 = true) ∧ ((w 8 b = 23 ∨ w 8 b = 24) → ¬ w 9 b < 0) ∧ (w 8 b = 22 ∨ w 8 b = 23 ∨ w 8 b = 24) ∧ ((w 8 b = 22 → ¬ w 10 b < 0 ∧ w 11 b < 0) ∧ (w 8 b = 23 → ¬ w 10 b < 0 ∧ ¬ w 11 b < 0) ∧ (w 8 b = 24 → w 10 b < 0 ∧ w 11 b < 0))
def pv_ek (B : Nat) (w : ST) : Prop := ∀ b, b < B → (w 8 b = 22 ∨ w 8 b = 23 ∨ w 8 b = 24) ∧ ((w 8 b = 22 → ¬ w 10 b < 0 ∧ w 11 b < 0) ∧ (w 8 b = 23 → ¬ w 10 b < 0 ∧ ¬ w 11 b < 0) ∧ (w 8 b = 24 → w 10 b < 0 ∧ w 11 b < 0))
theorem pv_eg_sc {B : Nat} {w w2 : ST} {ch ph : Nat → List Nat} (he : pv_ek B w) {b c : Nat} (hb : b < B) (hc : c < 1000) : pu_sc (pv_F w w2 ch ph) b c ↔ pv_eg w b c := by
  have h := he b hb
  show (w 8 b ≠ 24 ∧ (c = nn (w 10 b) ∨ (w 8 b = 23 ∧ c = nn (w 11 b)))) ↔ (w 10 b = pu_I c ∨ w 11 b = pu_I c)
  constructor
  · rintro ⟨h24, h9⟩
    rcases h.1 with e | e | e
    · rcases h9 with h9 | h9
      · exact Or.inl (by rw [h9]; exact pu_of (h.2.1 e).1)
      · rw [e] at h9; exact absurd h9.1 (by decide)
    · rcases h9 with h9 | h9
      · exact Or.inl (by rw [h9]; exact pu_of (h.2.2.1 e).1)
      · exact Or.inr (by rw [h9.2]; exact pu_of (h.2.2.1 e).2)
    · exact absurd e h24
  · rintro (h9 | h9)
    · have hp : ¬ w 10 b < 0 := by rw [h9]; exact pu_ge (by omega)
      refine ⟨fun e => hp (h.2.2.2 e).1, Or.inl ?_⟩
      rw [h9, pu_nn (by omega)]
    · have hp : ¬ w 11 b < 0 := by rw [h9]; exact pu_ge (by omega)
      refine ⟨fun e => hp (h.2.2.2 e).2, Or.inr ⟨?_, by rw [h9, pu_nn (by omega)]⟩⟩
      rcases h.1 with e | e | e
      · exact absurd (h.2.1 e).2 hp
      · exact e
      · exact absurd (h.2.2.2 e).2 hp
theorem pv_sc_lt {B : Nat} {w w2 : ST} {ch ph : Nat → List Nat} (he : pv_ek B w) (hsv : pv_sv B w) (hB : B ≤ 60) {b c : Nat} (hb : b < B) (h : pu_sc (pv_F w w2 ch ph) b c) : c < B := by
  have h1 := he b hb
  have h2 := hsv b hb
  have h : (w 8 b ≠ 24 ∧ (c = nn (w 10 b) ∨ (w 8 b = 23 ∧ c = nn (w 11 b)))) := h
  have hg : ∀ x : Int32, ¬ x < 0 → (x < 0 ∨ ∃ c, c < B ∧ x = pu_I c) → nn x < B := by
    rintro x hx (h | ⟨d, d1, rfl⟩)
    · exact absurd h hx
    · rw [pu_nn (by omega)]; exact d1
  rcases h1.1 with e | e | e
  · rcases h.2 with h9 | h9
    · rw [h9]; exact hg _ (h1.2.1 e).1 h2.1
    · rw [e] at h9; exact absurd h9.1 (by decide)
  · rcases h.2 with h9 | h9
    · rw [h9]; exact hg _ (h1.2.2.1 e).1 h2.1
    · rw [h9.2]; exact hg _ (h1.2.2.1 e).2 h2.2
  · exact absurd e h.1
section RF
variable {B N M Lm fs na : Nat} {D0 : Nat → Nat → Prop} {l : SL} {s w w2 : ST} {n n2 : Nat → Nat} {ch ph : Nat → List Nat}
theorem pv_rn_fl (hok : pv_ok n w n2 w2 B N M ch ph) (hrg : pv_rg w2 B ch) (hgk : pv_gks w2 B ch) (htk : ∀ b p, b < B → p < B → pv_eg w p b → ∀ a ∈ ph b, ixb (w 21 (a * 60 + p)) 250 = true) (hend : pv_ends B w) (hsv : pv_sv B w)
    (hS : pu_ssa (pv_F w w2 ch ph) (pu_rch (pv_F w w2 ch ph)) D0) (hlim : w 0 1 = pu_I Lm ∧ Lm ≤ 250 ∧ (∀ b, b < B → ∀ a ∈ ph b, nn (w 19 a) < Lm) ∧ (∀ b, b < B → ∀ a ∈ ch b, ¬ w2 3 a < 0 → nn (w2 3 a) < Lm))
    (hcp : ∀ b, b < B → ∀ a ∈ ch b, (w2 2 a = 20 → ixb (w2 4 a) fs = true) ∧ (w2 2 a = 21 → ixb (w2 4 a) na = true) ∧ (w2 3 a < 0 → w2 3 a = -1)) (hN0 : pv_cn n2 w2 N) (hno : ∀ p, p < B → ¬ pu_sc (pv_F w w2 ch ph) p 0) (hnf : pv_nf B w ph) :
    ∃ s' w' l' B' D' ch' ph' wb dm, fX8_renumber s n w l = some (s', w', l') ∧ pv_fl n w' l' n2 w2 B' N M Lm fs na D' ch' ph' wb dm ∧ B' ≤ B ∧ pv_sl ph' B' ≤ pv_sl ph B ∧ (∀ r, r ≠ 16 → r ≠ 17 → l' r = l r) ∧
      (∀ call ar k e m q r, pu_run (pv_F w w2 ch ph) call ar k 0 0 (e, m, q) = some r → pu_run (pv_F w' w2 ch' ph') call ar k 0 0 (e, m, q) = some r) := by
  obtain ⟨⟨hw0, hB0, hB⟩, hNs, ⟨hM19, hM20, hM21, hM⟩, hstc, hdis, hphc, hdp, hix, hix2⟩ := id hok
  obtain ⟨Fi, rn, od, s', w', l', e1, hR, h0, hrn0, hcl, hrc, hs', hsr, a1, a2, a3, a4, a5, a6, al, ⟨wb, hw⟩, hdi, hst, hnr, hlp, heg, hpr⟩ := pv_renumber (s := s) hB0 hB hw0 hsv hM20 hM21 hM hphc hdp l
  have hlen := hR.2.2
  have hpos : 0 < Fi.length := List.length_pos_of_mem h0
  have hek : pv_ek B w := fun b hb => ⟨(hend b hb).2.2.1, (hend b hb).2.2.2⟩
  have hrow : ∀ j, j < Fi.length → ∀ r, 4 ≤ r → r ≤ 9 → w' r j = w r (od j) := by
    intro j hj r r4 r9
    obtain ⟨j1, j2⟩ := hR.2.1 j hj
    have := a3 r r4 r9 (od j) j1
    rw [j2] at this
    exact this
  have hrow2 : ∀ j, j < Fi.length → w' 10 j = pv_rs rn (w 10 (od j)) ∧ w' 11 j = pv_rs rn (w 11 (od j)) := by
    intro j hj
    obtain ⟨j1, j2⟩ := hR.2.1 j hj
    have := a4 (od j) j1
    rw [j2] at this
    exact this
  have hodB : ∀ j, j < Fi.length → od j < B := fun j hj => (hR.1 _ (hR.2.1 j hj).1).1
  have hod0 : od 0 = 0 := by
    have := (hR.1 0 h0).2.2
    rw [hrn0] at this
    exact this
  have hrsn : ∀ x : Int32, (x < 0 ↔ pv_rs rn x < 0) ∨ True := fun _ => Or.inr trivial
  have hrs : ∀ b, b ∈ Fi → ∀ x, (x = w 10 b ∨ x = w 11 b) → (x < 0 ∧ pv_rs rn x = -1) ∨ (¬ x < 0 ∧ nn x ∈ Fi ∧ pv_rs rn x = pu_I (rn (nn x))) := by
    intro b hb x hx
    by_cases h : x < 0
    · exact Or.inl ⟨h, if_pos h⟩
    · refine Or.inr ⟨h, ?_, if_neg h⟩
      have hbB := (hR.1 b hb).1
      have h9 : ∃ c, c < B ∧ x = pu_I c := by
        rcases hx with rfl | rfl
        · exact (hsv b hbB).1.resolve_left h
        · exact (hsv b hbB).2.resolve_left h
      obtain ⟨c, c1, c2⟩ := h9
      rw [c2, pu_nn (by omega)]
      refine hcl b hb c c1 ?_
      rcases hx with rfl | rfl
      · exact Or.inl c2
      · exact Or.inr c2
  have hsgn : ∀ b, b ∈ Fi → ∀ x, (x = w 10 b ∨ x = w 11 b) → (pv_rs rn x < 0 ↔ x < 0) := by
    intro b hb x hx
    rcases hrs b hb x hx with ⟨h1, h2⟩ | ⟨h1, h2, h3⟩
    · rw [h2]; exact ⟨fun _ => h1, fun _ => by decide⟩
    · rw [h3]
      have := (hR.1 _ h2).2.1
      exact ⟨fun h => absurd h (pu_ge (by omega)), fun h => absurd h h1⟩
  have hend' : pv_ends Fi.length w' := by
    intro j hj
    obtain ⟨j1, j2⟩ := hR.2.1 j hj
    have h := hend (od j) (hodB j hj)
    obtain ⟨q1, q2⟩ := hrow2 j hj
    rw [hrow j hj 8 (by decide) (by decide), hrow j hj 9 (by decide) (by decide), q1, q2, hsgn (od j) j1 _ (Or.inl rfl), hsgn (od j) j1 _ (Or.inr rfl)]
    exact h
  have hek' : pv_ek Fi.length w' := fun b hb => ⟨(hend' b hb).2.2.1, (hend' b hb).2.2.2⟩
  have hsv' : pv_sv Fi.length w' := by
    intro j hj
    obtain ⟨j1, j2⟩ := hR.2.1 j hj
    obtain ⟨q1, q2⟩ := hrow2 j hj
    rw [q1, q2]
    have key : ∀ x, (x = w 10 (od j) ∨ x = w 11 (od j)) → (pv_rs rn x < 0 ∨ ∃ c, c < Fi.length ∧ pv_rs rn x = pu_I c) := by
      intro x hx
      rcases hrs (od j) j1 x hx with ⟨h1, h2⟩ | ⟨h1, h2, h3⟩
      · exact Or.inl (by rw [h2]; decide)
      · exact Or.inr ⟨_, (hR.1 _ h2).2.1, h3⟩
    exact ⟨key _ (Or.inl rfl), key _ (Or.inr rfl)⟩
  -- reachable: in the list
  have hL1 : ∀ b, pu_rch (pv_F w w2 ch ph) b → b ∈ Fi := by
    intro b hb
    refine hb (fun b => b ∈ Fi) h0 fun b c hbF h => ?_
    have hbB := (hR.1 b hbF).1
    have hcB := pv_sc_lt hek hsv hB hbB h
    exact hcl b hbF c hcB ((pv_eg_sc hek hbB (by omega)).mp h)
  have hL2 : ∀ b, b ∈ Fi → pu_rch (pv_F w w2 ch ph) b := by
    intro b hb S s0 ss
    exact hrc b hb S s0 fun p c hp hc hSp he => ss p c hSp ((pv_eg_sc hek hp (by omega)).mpr he)
  have hrid : ∀ i, i < Fi.length → pu_rch (pv_F w w2 ch ph) (od i) ∧ rn (od i) = i := fun i hi => ⟨hL2 _ (hR.2.1 i hi).1, (hR.2.1 i hi).2⟩
  have hlt' : ∀ p c, p < Fi.length → pu_sc (pv_F w' w2 (fun i => ch (od i)) (fun i => ph (od i))) p c → c < Fi.length := fun p c hp h => pv_sc_lt hek' hsv' (by omega) hp h
  have hsc' : ∀ p c, p < Fi.length → c < Fi.length → (pu_sc (pv_F w' w2 (fun i => ch (od i)) (fun i => ph (od i))) p c ↔ pv_eg w' p c) := fun p c hp hc => pv_eg_sc hek' hp (by omega)
  obtain ⟨hG, hdm, hdb, hlop, hd12, hdmx⟩ := pv_shape hpos (by omega) hsc' hlt' hpr hdi hst hnr hlp
  -- the flow by new numbers, clean
  let F2 : pu_Flow := fun j => (((pv_F w w2 ch ph (od j)).1.map (fun z => (z.1, fun i => z.2 (od i)))), (pv_F w w2 ch ph (od j)).2.1, (w' 8 j, w' 9 j, w' 10 j, w' 11 j))
  have hG2 : pu_grf F2 (fun b => b < Fi.length) (pv_D Fi.length l') := hG
  have hdm2 : pu_dom F2 Fi.length (pv_D Fi.length l') := hdm
  have hN : pu_rnd (pv_F w w2 ch ph) F2 (pu_rch (pv_F w w2 ch ph)) Fi.length rn od := by
    refine ⟨hrid, fun b hb => ⟨(hR.1 b (hL1 b hb)).2.1, (hR.1 b (hL1 b hb)).2.2⟩, hrn0, fun b hb => ?_⟩
    have hbF := hL1 b hb
    obtain ⟨b1, b2, b3⟩ := hR.1 b hbF
    refine ⟨⟨fun z i => z.2 (od i), ?_, fun z _ p hp => ?_⟩, ?_, ?_, ?_, fun h24 => ?_, fun h23 => ?_⟩
    · show (pv_F w w2 ch ph (od (rn b))).1.map _ = _
      rw [b3]
    · show z.2 (od (rn p)) = z.2 p
      rw [(hR.1 p (hL1 p hp)).2.2]
    · show (pv_F w w2 ch ph (od (rn b))).2.1 = _
      rw [b3]
    · exact a3 8 (by decide) (by decide) b hbF
    · exact a3 9 (by decide) (by decide) b hbF
    · have h24 : w 8 b ≠ 24 := h24
      have h := hek b b1
      have hp : ¬ w 10 b < 0 := by
        rcases h.1 with e | e | e
        · exact (h.2.1 e).1
        · exact (h.2.2.1 e).1
        · exact absurd e h24
      show nn (w' 10 (rn b)) = rn (nn (w 10 b))
      rcases hrs b hbF _ (Or.inl rfl) with ⟨h1, _⟩ | ⟨_, h2, h3⟩
      · exact absurd h1 hp
      · have := (hR.1 _ h2).2.1
        rw [(a4 b hbF).1, h3, pu_nn (by omega)]
    · have h23 : w 8 b = 23 := h23
      have hp := ((hek b b1).2.2.1 h23).2
      show nn (w' 11 (rn b)) = rn (nn (w 11 b))
      rcases hrs b hbF _ (Or.inr rfl) with ⟨h1, _⟩ | ⟨_, h2, h3⟩
      · exact absurd h1 hp
      · have := (hR.1 _ h2).2.1
        rw [(a4 b hbF).2, h3, pu_nn (by omega)]
  have hDD : ∀ b d, pu_rch (pv_F w w2 ch ph) b → D0 b d → pv_D Fi.length l' (rn b) (rn d) := by
    intro b d hb h
    have hdL := (hS.2.1.2.1 b d hb h).2
    have hbF := hR.1 b (hL1 b hb)
    have hdF := hR.1 d (hL1 d hdL)
    refine hdm2.2 (fun j i => j < Fi.length ∧ i < Fi.length ∧ D0 (od j) (od i)) (fun i hi => ?_) (fun p c i hp hc hc0 he hX => ?_) (rn b) (rn d) hbF.2.1 hdF.2.1 ⟨hbF.2.1, hdF.2.1, by rw [hbF.2.2, hdF.2.2]; exact h⟩
    · obtain ⟨_, i2, i3⟩ := hi
      rw [hod0] at i3
      have h9 := (hS.2.1.2.1 0 (od i) hS.1 i3).1
      have h8 : od i = 0 := by omega
      have := (hrid i i2).2
      rw [h8, hrn0] at this
      exact this.symm
    · obtain ⟨_, i2, i3⟩ := hX
      by_cases e : i = c
      · exact Or.inl e
      · refine Or.inr ⟨hp, i2, ?_⟩
        have h9 := (heg p c hp ((hsc' p c hp hc).mp he) (by omega)).2
        have hpB := hodB p hp
        have hcB := hodB c hc
        refine hS.2.1.2.2.2.2 (od p) (od c) (od i) (hrid p hp).1 ((pv_eg_sc hek hpB (by omega)).mpr h9) i3 fun e9 => e ?_
        rw [← (hrid i i2).2, ← (hrid c hc).2, e9]
  have hS2 := pu_rn_ssa hS hN hG2 hDD
  have htk2 : ∀ j p, j < Fi.length → p < Fi.length → pv_eg w' p j → ∀ a ∈ ph (od j), w' 21 (a * 60 + p) = w 21 (a * 60 + od p) ∧ ixb (w 21 (a * 60 + od p)) 250 = true := by
    intro j p hj hp he a ha
    obtain ⟨j1, j2⟩ := hR.2.1 j hj
    obtain ⟨p1, p2⟩ := hR.2.1 p hp
    have h9 := a5 (od j) j1 a ha (od p) p1
    rw [p2] at h9
    exact ⟨h9, htk (od j) (od p) (hodB j hj) (hodB p hp) (heg p j hp he (by omega)).2 a ha⟩
  have hF2 : ∀ b, b < Fi.length → (pv_F w' w2 (fun i => ch (od i)) (fun i => ph (od i)) b).2 = (F2 b).2 := fun b _ => rfl
  have r19 : w' 19 = w 19 := a6 19 (by decide) (by decide) (by decide)
  have r20 : w' 20 = w 20 := a6 20 (by decide) (by decide) (by decide)
  have hp1 : ∀ b, b < Fi.length → (pv_F w' w2 (fun i => ch (od i)) (fun i => ph (od i)) b).1.map Prod.fst = (F2 b).1.map Prod.fst := by
    intro b _
    show ((ph (od b)).map (pv_P w')).map Prod.fst = (((ph (od b)).map (pv_P w)).map _).map Prod.fst
    rw [List.map_map, List.map_map, List.map_map]
    refine List.map_congr_left fun a _ => ?_
    show w' 19 a = w 19 a
    rw [r19]
  have hS3 : pu_ssa (pv_F w' w2 (fun i => ch (od i)) (fun i => ph (od i))) (fun b => b < Fi.length) (pv_D Fi.length l') := by
    refine pu_pg_ssa hF2 hp1 (fun b p hb hp hs z' hz' => ?_) hS2
    have hs : pu_sc (pv_F w' w2 (fun i => ch (od i)) (fun i => ph (od i))) p b := hs
    obtain ⟨a, ha, rfl⟩ := List.mem_map.mp hz'
    have h9 := htk2 b p hb hp ((hsc' p b hp hb).mp hs) a ha
    refine ⟨(w 19 a, fun i => w 21 (a * 60 + od i)), ?_, h9.1.symm⟩
    exact List.mem_map_of_mem (f := fun z : pu_Phi => (z.1, fun i => z.2 (od i))) (List.mem_map_of_mem (f := pv_P w) ha)
  have hdp' : pv_dis Fi.length M (fun i => ph (od i)) := by
    refine ⟨fun b hb => hdp.1 _ (hodB b hb), fun b hb => hdp.2.1 _ (hodB b hb), fun b c a hb hc h1 h2 => ?_⟩
    have := hdp.2.2 _ _ a (hodB b hb) (hodB c hc) h1 h2
    rw [← (hrid b hb).2, this, (hrid c hc).2]
  have hdis' : pv_dis Fi.length N (fun i => ch (od i)) := by
    refine ⟨fun b hb => hdis.1 _ (hodB b hb), fun b hb => hdis.2.1 _ (hodB b hb), fun b c a hb hc h1 h2 => ?_⟩
    have := hdis.2.2 _ _ a (hodB b hb) (hodB c hc) h1 h2
    rw [← (hrid b hb).2, this, (hrid c hc).2]
  refine ⟨s', w', l', Fi.length, pv_D Fi.length l', fun i => ch (od i), fun i => ph (od i), wb, fun c => nn (w' 12 c), e1, ⟨⟨?_, ?_, ?_, hw, ?_⟩, hend', fun b c hb h => ?_, hS3, hdm, hdb, hlop, hd12, hdmx, ⟨?_, hlim.2.1, fun b hb a ha => ?_, fun b hb => hlim.2.2.2 _ (hodB b hb)⟩, fun b hb => hcp _ (hodB b hb), hN0, fun p hp h => ?_, ⟨fun b c hb hc h23 he => ?_, fun b hb => hnf.2.1 _ (hodB b hb), fun b hb h22 => by rw [hrow b hb 8 (by decide) (by decide)] at h22; rw [hrow b hb 9 (by decide) (by decide)]; exact hnf.2.2 _ (hodB b hb) h22⟩⟩, hlen, ?_, al, ?_⟩
  · refine ⟨⟨a1, hpos, by omega⟩, hNs, ⟨hM19, hM20, hM21, hM⟩, ⟨fun b hb => ?_, fun b x a hb h => ?_⟩, hdis', ⟨fun b hb => ?_, fun b x a hb h => ?_⟩, hdp', fun b hb a ha => ?_, fun b hb => hix2 _ (hodB b hb)⟩
    · rw [hrow b hb 4 (by decide) (by decide)]
      exact hstc.1 _ (hodB b hb)
    · rw [hrow b hb 5 (by decide) (by decide)]
      exact hstc.2 _ x a (hodB b hb) h
    · rw [hrow b hb 6 (by decide) (by decide), r20]
      exact hphc.1 _ (hodB b hb)
    · rw [hrow b hb 7 (by decide) (by decide)]
      exact hphc.2 _ x a (hodB b hb) h
    · rw [r19]
      exact hix _ (hodB b hb) a ha
  · exact fun b hb => hrg _ (hodB b hb)
  · exact fun b hb => hgk _ (hodB b hb)
  · intro b hb a ha j j1 j2
    obtain ⟨p, p1, p2, p3⟩ := hw.2.2.2.1 b j hb j1 j2
    rw [p2, pu_nn (by omega)]
    have h9 := htk2 b p hb p1 p3 a ha
    rw [h9.1]
    exact h9.2
  · exact (hsc' b c hb (hlt' b c hb h)).mp h
  · rw [a2 1 (by decide)]
    exact hlim.1
  · rw [r19]
    exact hlim.2.2.1 _ (hodB b hb) a ha
  · have h9 := (heg p 0 hp ((hsc' p 0 hp hpos).mp h) (by decide)).2
    rw [hod0] at h9
    exact hno (od p) (hodB p hp) ((pv_eg_sc hek (hodB p hp) (by decide)).mpr h9)
  · have h9 := (heg b c hb he (by omega)).2
    rw [hrow b hb 8 (by decide) (by decide)] at h23
    exact hnf.1 (od b) (od c) (hodB b hb) (hodB c hc) h23 h9
  · exact pv_sl_sub hdp' fun c hc a ha => ⟨od c, hodB c hc, ha⟩
  · intro call ar k e m q r h
    have h9 := pu_rn_run hS hN h
    refine pu_pg_run (F := F2) (L := fun b => b < Fi.length) hpos (fun b c hb h => hlt' b c hb h) (fun e => ?_) hF2 (fun b p e hb hp hs => ?_) h9
    · show pu_phs ((ph (od 0)).map (pv_P w')) 0 e = pu_phs (((ph (od 0)).map (pv_P w)).map _) 0 e
      rw [hod0]
      have h8 : ph 0 = [] := by
        have h : (ph 0).map (pv_P w) = [] := hS.2.2.1
        cases h9 : ph 0 with
        | nil => rfl
        | cons a l => rw [h9] at h; cases h
      rw [h8]
      rfl
    · have hs : pu_sc (pv_F w' w2 (fun i => ch (od i)) (fun i => ph (od i))) p b := hs
      show pu_phs ((ph (od b)).map (pv_P w')) p e = pu_phs (((ph (od b)).map (pv_P w)).map (fun z => (z.1, fun i => z.2 (od i)))) p e
      rw [List.map_map]
      refine pu_phs_cg _ fun a ha => ?_
      have h9 := htk2 b p hb hp ((hsc' p b hp hb).mp hs) a ha
      exact ⟨by show w' 19 a = w 19 a; rw [r19], h9.1⟩
end RF
