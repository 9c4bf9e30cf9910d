/-! pure side, stores 51: the same of flows whose uses are read by way of a table -/
def pv_rsc (w : ST) (b c : Nat) : Prop := w 8 b ≠ 24 ∧ (c = nn (w 10 b) ∨ (w 8 b = 23 ∧ c = nn (w 11 b)))
theorem pv_eg_rs {B : Nat} {w : ST} (he : pv_ek B w) {b c : Nat} (hb : b < B) (hc : c < 1000) : pv_rsc w b c ↔ pv_eg w b c := pv_eg_sc (w2 := w) (ch := fun _ => []) (ph := fun _ => []) he hb hc
theorem pv_rs_lt {B : Nat} {w : ST} (he : pv_ek B w) (hsv : pv_sv B w) (hB : B ≤ 60) {b c : Nat} (hb : b < B) (h : pv_rsc w b c) : c < B := pv_sc_lt (w2 := w) (ch := fun _ => []) (ph := fun _ => []) he hsv hB hb h
def pv_Ps (σ : Int32 → Int32) (w : ST) (a : Nat) : pu_Phi := (w 19 a, fun p => σ (w 21 (a * 60 + p)))
def pv_Fs (σ : Int32 → Int32) (w w2 : ST) (ch ph : Nat → List Nat) : pu_Flow := fun b => ((ph b).map (pv_Ps σ w), (ch b).map (fun a => pu_sbS σ (pv_S w2 a)), (w 8 b, σ (w 9 b), w 10 b, w 11 b))
/-- the shape of a flow whose uses are read by way of a table -/
def pv_fls (σ : Int32 → Int32) (n : Nat → Nat) (w : ST) (l : SL) (n2 : Nat → Nat) (w2 : ST) (B N M Lm fs na : Nat) (D : Nat → Nat → Prop) (ch ph : Nat → List Nat) (wb dm : Nat → Nat) : Prop :=
  (pv_ok n w n2 w2 B N M ch ph ∧ pv_rg w2 B ch ∧ pv_gks w2 B ch ∧ pv_wys B w wb ∧ pv_tk B w wb ph) ∧ pv_ends B w ∧
  (∀ b c, b < B → pv_rsc w b c → w 10 b = pu_I c ∨ w 11 b = pu_I c) ∧
  pu_ssa (pv_Fs σ w w2 ch ph) (fun b => b < B) D ∧ pu_dom (pv_F w w2 ch ph) B D ∧
  (∀ b c, b < B → c < B → (pv_bt (l 16 b) c = true ↔ D b c)) ∧
  (∀ h, h < B → l 17 h ≠ 0 → pu_lop (pv_F w w2 ch ph) B D h (fun c => pv_bt (l 17 h) c = true)) ∧
  (∀ c, c < B → c ≠ 0 → w 12 c = pu_I (dm c)) ∧ pv_dmx B D dm ∧
  (w 0 1 = pu_I Lm ∧ Lm ≤ 250 ∧ (∀ b, b < B → ∀ a ∈ ph b, nn (w 19 a) < Lm) ∧ (∀ b, b < B → ∀ a ∈ ch b, ¬ w2 3 a < 0 → nn (w2 3 a) < Lm)) ∧
  (∀ b, b < B → ∀ a ∈ ch b, (w2 2 a = 20 → ixb (w2 4 a) fs = true) ∧ (w2 2 a = 21 → ixb (w2 4 a) na = true) ∧ (w2 3 a < 0 → w2 3 a = -1)) ∧ pv_cn n2 w2 N ∧ (∀ p, p < B → ¬ pu_sc (pv_F w w2 ch ph) p 0) ∧ pv_nf B w ph
section RG
variable {σ : Int32 → Int32} {B N M Lm fs na : Nat} {D0 : Nat → Nat → Prop} {l : SL} {s w w2 : ST} {n n2 : Nat → Nat} {ch ph : Nat → List Nat}
theorem pv_rn_gen (hok : pv_ok n w n2 w2 B N M ch ph) (hrg : pv_rg w2 B ch) (hgk : pv_gks w2 B ch) (htk : ∀ b p, b < B → p < B → pv_eg w p b → ∀ a ∈ ph b, ixb (w 21 (a * 60 + p)) 250 = true) (hend : pv_ends B w) (hsv : pv_sv B w)
    (hS : pu_ssa (pv_Fs σ w w2 ch ph) (pu_rch (pv_Fs σ w w2 ch ph)) D0) (hlim : w 0 1 = pu_I Lm ∧ Lm ≤ 250 ∧ (∀ b, b < B → ∀ a ∈ ph b, nn (w 19 a) < Lm) ∧ (∀ b, b < B → ∀ a ∈ ch b, ¬ w2 3 a < 0 → nn (w2 3 a) < Lm))
    (hcp : ∀ b, b < B → ∀ a ∈ ch b, (w2 2 a = 20 → ixb (w2 4 a) fs = true) ∧ (w2 2 a = 21 → ixb (w2 4 a) na = true) ∧ (w2 3 a < 0 → w2 3 a = -1)) (hN0 : pv_cn n2 w2 N) (hno : ∀ p, p < B → ¬ pu_sc (pv_F w w2 ch ph) p 0) (hnf : pv_nf B w ph) :
    ∃ s' w' l' B' D' ch' ph' wb dm, fX8_renumber s n w l = some (s', w', l') ∧ pv_fls σ n w' l' n2 w2 B' N M Lm fs na D' ch' ph' wb dm ∧ B' ≤ B ∧ pv_sl ph' B' ≤ pv_sl ph B ∧ (∀ r, r ≠ 16 → r ≠ 17 → l' r = l r) ∧
      (∀ call ar k e m q r, pu_run (pv_Fs σ w w2 ch ph) call ar k 0 0 (e, m, q) = some r → pu_run (pv_Fs σ w' w2 ch' ph') call ar k 0 0 (e, m, q) = some r) := by
  obtain ⟨⟨hw0, hB0, hB⟩, hNs, ⟨hM19, hM20, hM21, hM⟩, hstc, hdis, hphc, hdp, hix, hix2⟩ := id hok
  obtain ⟨Fi, rn, od, s', w', l', e1, hR, h0, hrn0, hcl, hrc, hs', hsr, a1, a2, a3, a4, a5, a6, al, ⟨wb, hw⟩, hdi, hst, hnr, hlp, heg, hpr⟩ := pv_renumber (s := s) hB0 hB hw0 hsv hM20 hM21 hM hphc hdp l
  have hlen := hR.2.2
  have hpos : 0 < Fi.length := List.length_pos_of_mem h0
  have hek : pv_ek B w := fun b hb => ⟨(hend b hb).2.2.1, (hend b hb).2.2.2⟩
  have hrow : ∀ j, j < Fi.length → ∀ r, 4 ≤ r → r ≤ 9 → w' r j = w r (od j) := by
    intro j hj r r4 r9
    obtain ⟨j1, j2⟩ := hR.2.1 j hj
    have := a3 r r4 r9 (od j) j1
    rw [j2] at this
    exact this
  have hrow2 : ∀ j, j < Fi.length → w' 10 j = pv_rs rn (w 10 (od j)) ∧ w' 11 j = pv_rs rn (w 11 (od j)) := by
    intro j hj
    obtain ⟨j1, j2⟩ := hR.2.1 j hj
    have := a4 (od j) j1
    rw [j2] at this
    exact this
  have hodB : ∀ j, j < Fi.length → od j < B := fun j hj => (hR.1 _ (hR.2.1 j hj).1).1
  have hod0 : od 0 = 0 := by
    have := (hR.1 0 h0).2.2
    rw [hrn0] at this
    exact this
  have hrsn : ∀ x : Int32, (x < 0 ↔ pv_rs rn x < 0) ∨ True := fun _ => Or.inr trivial
  have hrs : ∀ b, b ∈ Fi → ∀ x, (x = w 10 b ∨ x = w 11 b) → (x < 0 ∧ pv_rs rn x = -1) ∨ (¬ x < 0 ∧ nn x ∈ Fi ∧ pv_rs rn x = pu_I (rn (nn x))) := by
    intro b hb x hx
    by_cases h : x < 0
    · exact Or.inl ⟨h, if_pos h⟩
    · refine Or.inr ⟨h, ?_, if_neg h⟩
      have hbB := (hR.1 b hb).1
      have h9 : ∃ c, c < B ∧ x = pu_I c := by
        rcases hx with rfl | rfl
        · exact (hsv b hbB).1.resolve_left h
        · exact (hsv b hbB).2.resolve_left h
      obtain ⟨c, c1, c2⟩ := h9
      rw [c2, pu_nn (by omega)]
      refine hcl b hb c c1 ?_
      rcases hx with rfl | rfl
      · exact Or.inl c2
      · exact Or.inr c2
  have hsgn : ∀ b, b ∈ Fi → ∀ x, (x = w 10 b ∨ x = w 11 b) → (pv_rs rn x < 0 ↔ x < 0) := by
    intro b hb x hx
    rcases hrs b hb x hx with ⟨h1, h2⟩ | ⟨h1, h2, h3⟩
    · rw [h2]; exact ⟨fun _ => h1, fun _ => by decide⟩
    · rw [h3]
      have := (hR.1 _ h2).2.1
      exact ⟨fun h => absurd h (pu_ge (by omega)), fun h => absurd h h1⟩
  have hend' : pv_ends Fi.length w' := by
    intro j hj
    obtain ⟨j1, j2⟩ := hR.2.1 j hj
    have h := hend (od j) (hodB j hj)
    obtain ⟨q1, q2⟩ := hrow2 j hj
    rw [hrow j hj 8 (by decide) (by decide), hrow j hj 9 (by decide) (by decide), q1, q2, hsgn (od j) j1 _ (Or.inl rfl), hsgn (od j) j1 _ (Or.inr rfl)]
    exact h
  have hek' : pv_ek Fi.length w' := fun b hb => ⟨(hend' b hb).2.2.1, (hend' b hb).2.2.2⟩
  have hsv' : pv_sv Fi.length w' := by
    intro j hj
    obtain ⟨j1, j2⟩ := hR.2.1 j hj
    obtain ⟨q1, q2⟩ := hrow2 j hj
    rw [q1, q2]
    have key : ∀ x, (x = w 10 (od j) ∨ x = w 11 (od j)) → (pv_rs rn x < 0 ∨ ∃ c, c < Fi.length ∧ pv_rs rn x = pu_I c) := by
      intro x hx
      rcases hrs (od j) j1 x hx with ⟨h1, h2⟩ | ⟨h1, h2, h3⟩
      · exact Or.inl (by rw [h2]; decide)
      · exact Or.inr ⟨_, (hR.1 _ h2).2.1, h3⟩
    exact ⟨key _ (Or.inl rfl), key _ (Or.inr rfl)⟩
  -- reachable: in the list
  have hL1 : ∀ b, pu_rch (pv_Fs σ w w2 ch ph) b → b ∈ Fi := by
    intro b hb
    refine hb (fun b => b ∈ Fi) h0 fun b c hbF h => ?_
    have hbB := (hR.1 b hbF).1
    have hcB := pv_rs_lt hek hsv hB hbB h
    exact hcl b hbF c hcB ((pv_eg_rs hek hbB (by omega)).mp h)
  have hL2 : ∀ b, b ∈ Fi → pu_rch (pv_Fs σ w w2 ch ph) b := by
    intro b hb S s0 ss
    exact hrc b hb S s0 fun p c hp hc hSp he => ss p c hSp ((pv_eg_rs hek hp (by omega)).mpr he)
  have hrid : ∀ i, i < Fi.length → pu_rch (pv_Fs σ w w2 ch ph) (od i) ∧ rn (od i) = i := fun i hi => ⟨hL2 _ (hR.2.1 i hi).1, (hR.2.1 i hi).2⟩
  have hlt' : ∀ p c, p < Fi.length → pu_sc (pv_Fs σ w' w2 (fun i => ch (od i)) (fun i => ph (od i))) p c → c < Fi.length := fun p c hp h => pv_rs_lt hek' hsv' (by omega) hp h
  have hsc' : ∀ p c, p < Fi.length → c < Fi.length → (pu_sc (pv_Fs σ w' w2 (fun i => ch (od i)) (fun i => ph (od i))) p c ↔ pv_eg w' p c) := fun p c hp hc => pv_eg_rs hek' hp (by omega)
  obtain ⟨hG, hdm, hdb, hlop, hd12, hdmx⟩ := pv_shape hpos (by omega) hsc' hlt' hpr hdi hst hnr hlp
  -- the flow by new numbers, clean
  let F2 : pu_Flow := fun j => (((pv_Fs σ w w2 ch ph (od j)).1.map (fun z => (z.1, fun i => z.2 (od i)))), (pv_Fs σ w w2 ch ph (od j)).2.1, (w' 8 j, σ (w' 9 j), w' 10 j, w' 11 j))
  have hG2 : pu_grf F2 (fun b => b < Fi.length) (pv_D Fi.length l') := hG
  have hdm2 : pu_dom F2 Fi.length (pv_D Fi.length l') := hdm
  have hN : pu_rnd (pv_Fs σ w w2 ch ph) F2 (pu_rch (pv_Fs σ w w2 ch ph)) Fi.length rn od := by
    refine ⟨hrid, fun b hb => ⟨(hR.1 b (hL1 b hb)).2.1, (hR.1 b (hL1 b hb)).2.2⟩, hrn0, fun b hb => ?_⟩
    have hbF := hL1 b hb
    obtain ⟨b1, b2, b3⟩ := hR.1 b hbF
    refine ⟨⟨fun z i => z.2 (od i), ?_, fun z _ p hp => ?_⟩, ?_, ?_, ?_, fun h24 => ?_, fun h23 => ?_⟩
    · show (pv_Fs σ w w2 ch ph (od (rn b))).1.map _ = _
      rw [b3]
    · show z.2 (od (rn p)) = z.2 p
      rw [(hR.1 p (hL1 p hp)).2.2]
    · show (pv_Fs σ w w2 ch ph (od (rn b))).2.1 = _
      rw [b3]
    · exact a3 8 (by decide) (by decide) b hbF
    · exact congrArg σ (a3 9 (by decide) (by decide) b hbF)
    · have h24 : w 8 b ≠ 24 := h24
      have h := hek b b1
      have hp : ¬ w 10 b < 0 := by
        rcases h.1 with e | e | e
        · exact (h.2.1 e).1
        · exact (h.2.2.1 e).1
        · exact absurd e h24
      show nn (w' 10 (rn b)) = rn (nn (w 10 b))
      rcases hrs b hbF _ (Or.inl rfl) with ⟨h1, _⟩ | ⟨_, h2, h3⟩
      · exact absurd h1 hp
      · have := (hR.1 _ h2).2.1
        rw [(a4 b hbF).1, h3, pu_nn (by omega)]
    · have h23 : w 8 b = 23 := h23
      have hp := ((hek b b1).2.2.1 h23).2
      show nn (w' 11 (rn b)) = rn (nn (w 11 b))
      rcases hrs b hbF _ (Or.inr rfl) with ⟨h1, _⟩ | ⟨_, h2, h3⟩
      · exact absurd h1 hp
      · have := (hR.1 _ h2).2.1
        rw [(a4 b hbF).2, h3, pu_nn (by omega)]
  have hDD : ∀ b d, pu_rch (pv_Fs σ w w2 ch ph) b → D0 b d → pv_D Fi.length l' (rn b) (rn d) := by
    intro b d hb h
    have hdL := (hS.2.1.2.1 b d hb h).2
    have hbF := hR.1 b (hL1 b hb)
    have hdF := hR.1 d (hL1 d hdL)
    refine hdm2.2 (fun j i => j < Fi.length ∧ i < Fi.length ∧ D0 (od j) (od i)) (fun i hi => ?_) (fun p c i hp hc hc0 he hX => ?_) (rn b) (rn d) hbF.2.1 hdF.2.1 ⟨hbF.2.1, hdF.2.1, by rw [hbF.2.2, hdF.2.2]; exact h⟩
    · obtain ⟨_, i2, i3⟩ := hi
      rw [hod0] at i3
      have h9 := (hS.2.1.2.1 0 (od i) hS.1 i3).1
      have h8 : od i = 0 := by omega
      have := (hrid i i2).2
      rw [h8, hrn0] at this
      exact this.symm
    · obtain ⟨_, i2, i3⟩ := hX
      by_cases e : i = c
      · exact Or.inl e
      · refine Or.inr ⟨hp, i2, ?_⟩
        have h9 := (heg p c hp ((hsc' p c hp hc).mp he) (by omega)).2
        have hpB := hodB p hp
        have hcB := hodB c hc
        refine hS.2.1.2.2.2.2 (od p) (od c) (od i) (hrid p hp).1 ((pv_eg_rs hek hpB (by omega)).mpr h9) i3 fun e9 => e ?_
        rw [← (hrid i i2).2, ← (hrid c hc).2, e9]
  have hS2 := pu_rn_ssa hS hN hG2 hDD
  have htk2 : ∀ j p, j < Fi.length → p < Fi.length → pv_eg w' p j → ∀ a ∈ ph (od j), w' 21 (a * 60 + p) = w 21 (a * 60 + od p) ∧ ixb (w 21 (a * 60 + od p)) 250 = true := by
    intro j p hj hp he a ha
    obtain ⟨j1, j2⟩ := hR.2.1 j hj
    obtain ⟨p1, p2⟩ := hR.2.1 p hp
    have h9 := a5 (od j) j1 a ha (od p) p1
    rw [p2] at h9
    exact ⟨h9, htk (od j) (od p) (hodB j hj) (hodB p hp) (heg p j hp he (by omega)).2 a ha⟩
  have hF2 : ∀ b, b < Fi.length → (pv_Fs σ w' w2 (fun i => ch (od i)) (fun i => ph (od i)) b).2 = (F2 b).2 := fun b _ => rfl
  have r19 : w' 19 = w 19 := a6 19 (by decide) (by decide) (by decide)
  have r20 : w' 20 = w 20 := a6 20 (by decide) (by decide) (by decide)
  have hp1 : ∀ b, b < Fi.length → (pv_Fs σ w' w2 (fun i => ch (od i)) (fun i => ph (od i)) b).1.map Prod.fst = (F2 b).1.map Prod.fst := by
    intro b _
    show ((ph (od b)).map (pv_Ps σ w')).map Prod.fst = (((ph (od b)).map (pv_Ps σ w)).map _).map Prod.fst
    rw [List.map_map, List.map_map, List.map_map]
    refine List.map_congr_left fun a _ => ?_
    show w' 19 a = w 19 a
    rw [r19]
  have hS3 : pu_ssa (pv_Fs σ w' w2 (fun i => ch (od i)) (fun i => ph (od i))) (fun b => b < Fi.length) (pv_D Fi.length l') := by
    refine pu_pg_ssa hF2 hp1 (fun b p hb hp hs z' hz' => ?_) hS2
    have hs : pu_sc (pv_Fs σ w' w2 (fun i => ch (od i)) (fun i => ph (od i))) p b := hs
    obtain ⟨a, ha, rfl⟩ := List.mem_map.mp hz'
    have h9 := htk2 b p hb hp ((hsc' p b hp hb).mp hs) a ha
    refine ⟨(w 19 a, fun i => σ (w 21 (a * 60 + od i))), ?_, congrArg σ h9.1.symm⟩
    exact List.mem_map_of_mem (f := fun z : pu_Phi => (z.1, fun i => z.2 (od i))) (List.mem_map_of_mem (f := pv_Ps σ w) ha)
  have hdp' : pv_dis Fi.length M (fun i => ph (od i)) := by
    refine ⟨fun b hb => hdp.1 _ (hodB b hb), fun b hb => hdp.2.1 _ (hodB b hb), fun b c a hb hc h1 h2 => ?_⟩
    have := hdp.2.2 _ _ a (hodB b hb) (hodB c hc) h1 h2
    rw [← (hrid b hb).2, this, (hrid c hc).2]
  have hdis' : pv_dis Fi.length N (fun i => ch (od i)) := by
    refine ⟨fun b hb => hdis.1 _ (hodB b hb), fun b hb => hdis.2.1 _ (hodB b hb), fun b c a hb hc h1 h2 => ?_⟩
    have := hdis.2.2 _ _ a (hodB b hb) (hodB c hc) h1 h2
    rw [← (hrid b hb).2, this, (hrid c hc).2]
  refine ⟨s', w', l', Fi.length, pv_D Fi.length l', fun i => ch (od i), fun i => ph (od i), wb, fun c => nn (w' 12 c), e1, ⟨⟨?_, ?_, ?_, hw, ?_⟩, hend', fun b c hb h => ?_, hS3, hdm, hdb, hlop, hd12, hdmx, ⟨?_, hlim.2.1, fun b hb a ha => ?_, fun b hb => hlim.2.2.2 _ (hodB b hb)⟩, fun b hb => hcp _ (hodB b hb), hN0, fun p hp h => ?_, ⟨fun b c hb hc h23 he => ?_, fun b hb => hnf.2.1 _ (hodB b hb), fun b hb h22 => by rw [hrow b hb 8 (by decide) (by decide)] at h22; rw [hrow b hb 9 (by decide) (by decide)]; exact hnf.2.2 _ (hodB b hb) h22⟩⟩, hlen, ?_, al, ?_⟩
  · refine ⟨⟨a1, hpos, by omega⟩, hNs, ⟨hM19, hM20, hM21, hM⟩, ⟨fun b hb => ?_, fun b x a hb h => ?_⟩, hdis', ⟨fun b hb => ?_, fun b x a hb h => ?_⟩, hdp', fun b hb a ha => ?_, fun b hb => hix2 _ (hodB b hb)⟩
    · rw [hrow b hb 4 (by decide) (by decide)]
      exact hstc.1 _ (hodB b hb)
    · rw [hrow b hb 5 (by decide) (by decide)]
      exact hstc.2 _ x a (hodB b hb) h
    · rw [hrow b hb 6 (by decide) (by decide), r20]
      exact hphc.1 _ (hodB b hb)
    · rw [hrow b hb 7 (by decide) (by decide)]
      exact hphc.2 _ x a (hodB b hb) h
    · rw [r19]
      exact hix _ (hodB b hb) a ha
  · exact fun b hb => hrg _ (hodB b hb)
  · exact fun b hb => hgk _ (hodB b hb)
  · intro b hb a ha j j1 j2
    obtain ⟨p, p1, p2, p3⟩ := hw.2.2.2.1 b j hb j1 j2
    rw [p2, pu_nn (by omega)]
    have h9 := htk2 b p hb p1 p3 a ha
    rw [h9.1]
    exact h9.2
  · exact (hsc' b c hb (hlt' b c hb h)).mp h
  · rw [a2 1 (by decide)]
    exact hlim.1
  · rw [r19]
    exact hlim.2.2.1 _ (hodB b hb) a ha
  · have h9 := (heg p 0 hp ((hsc' p 0 hp hpos).mp h) (by decide)).2
    rw [hod0] at h9
    exact hno (od p) (hodB p hp) ((pv_eg_rs hek (hodB p hp) (by decide)).mpr h9)
  · have h9 := (heg b c hb he (by omega)).2
    rw [hrow b hb 8 (by decide) (by decide)] at h23
    exact hnf.1 (od b) (od c) (hodB b hb) (hodB c hc) h23 h9
  · exact pv_sl_sub hdp' fun c hc a ha => ⟨od c, hodB c hc, ha⟩
  · intro call ar k e m q r h
    have h9 := pu_rn_run hS hN h
    refine pu_pg_run (F := F2) (L := fun b => b < Fi.length) hpos (fun b c hb h => hlt' b c hb h) (fun e => ?_) hF2 (fun b p e hb hp hs => ?_) h9
    · show pu_phs ((ph (od 0)).map (pv_Ps σ w')) 0 e = pu_phs (((ph (od 0)).map (pv_Ps σ w)).map _) 0 e
      rw [hod0]
      have h8 : ph 0 = [] := by
        have h : (ph 0).map (pv_Ps σ w) = [] := hS.2.2.1
        cases h9 : ph 0 with
        | nil => rfl
        | cons a l => rw [h9] at h; cases h
      rw [h8]
      rfl
    · have hs : pu_sc (pv_Fs σ w' w2 (fun i => ch (od i)) (fun i => ph (od i))) p b := hs
      show pu_phs ((ph (od b)).map (pv_Ps σ w')) p e = pu_phs (((ph (od b)).map (pv_Ps σ w)).map (fun z => (z.1, fun i => z.2 (od i)))) p e
      rw [List.map_map]
      refine pu_phs_cg _ fun a ha => ?_
      have h9 := htk2 b p hb hp ((hsc' p b hp hb).mp hs) a ha
      exact ⟨by show w' 19 a = w 19 a; rw [r19], congrArg σ h9.1⟩
end RG
section UF
variable {B N M Lm fs na : Nat} {D : Nat → Nat → Prop} {l : SL} {g w w2 : ST} {n n2 : Nat → Nat} {ch ph : Nat → List Nat} {wb dm : Nat → Nat}
/-- what the table says is written into the rows -/
theorem pv_us_fl (hsk : pv_sk g) (hfl : pv_fls (pv_sgx g) n w l n2 w2 B N M Lm fs na D ch ph wb dm) :
    ∃ w' w2', fX5_useStandIns g n w n2 w2 = some (w', w2') ∧ pv_fl n w' l n2 w2' B N M Lm fs na D ch ph wb dm ∧
      (∀ call ar k e m q r, pu_run (pv_Fs (pv_sgx g) w w2 ch ph) call ar k 0 0 (e, m, q) = some r → pu_run (pv_F w' w2' ch ph) call ar k 0 0 (e, m, q) = some r) := by
  obtain ⟨⟨hok, hrg, hgk, hw, htk⟩, hend, hsu, hS, hd, hdb, hlp, hdmw, hdm, ⟨hLw, hL, hLp, hLs⟩, hcp, hcn, hno, hnf⟩ := hfl
  obtain ⟨⟨hw0, hB0, hB⟩, hNs, ⟨hM19, hM20, hM21, hM⟩, hstc, hdis, hphc, hdp, hix, hix2⟩ := id hok
  have hp0 : ph 0 = [] := by
    have h : (ph 0).map (pv_Ps (pv_sgx g) w) = [] := hS.2.2.1
    cases h9 : ph 0 with
    | nil => rfl
    | cons a l => rw [h9] at h; cases h
  obtain ⟨w4, w23, m1, m2, m3, m4, m5⟩ := pv_useStandIns hsk hok hrg hw htk (fun b hb => (hend b hb).1)
  have hsgv : ∀ v, ixb v 250 = true → pv_sg g v = pv_sgx g v := fun v hv => (pv_sgx_v hv).symm
  have u2 : w23 2 = w2 2 := m5.1 2 (by decide) (by decide)
  have u3 : w23 3 = w2 3 := m5.1 3 (by decide) (by decide)
  have v8 : w4 8 = w 8 := m2 8 (by decide) (by decide)
  have v10 : w4 10 = w 10 := m2 10 (by decide) (by decide)
  have v11 : w4 11 = w 11 := m2 11 (by decide) (by decide)
  have v12 : w4 12 = w 12 := m2 12 (by decide) (by decide)
  have v14 : w4 14 = w 14 := m2 14 (by decide) (by decide)
  have v15 : w4 15 = w 15 := m2 15 (by decide) (by decide)
  have v19 : w4 19 = w 19 := m2 19 (by decide) (by decide)
  have v00 : w4 0 = w 0 := m2 0 (by decide) (by decide)
  have hev : ∀ b, b < B → w4 9 b = pv_sgx g (w 9 b) := by
    intro b hb
    rw [m4 b hb]
    unfold pv_fe
    by_cases h0 : w 9 b < 0
    · rw [if_pos h0, pv_sgx_n fun c => (pv_ixn c).1 h0]
    · rw [if_neg h0]
      exact hsgv _ ((hend b hb).1 h0)
  have hrow : ∀ b, b < B → ∀ a ∈ ch b, w23 4 a = (if pu_ul (w2 2 a) = true then pv_sgx g (w2 4 a) else w2 4 a) ∧ w23 5 a = (if pu_ur (w2 2 a) = true then pv_sgx g (w2 5 a) else w2 5 a) := by
    intro b hb a ha
    have h5 := (m5.2 a).1 ⟨b, hb, ha⟩
    have h6 := hrg b hb a ha
    unfold pv_f4 pv_f5 at h5
    rw [h5.1, h5.2]
    constructor
    · by_cases c9 : pu_ul (w2 2 a) = true
      · rw [if_pos c9, if_pos c9, hsgv _ (h6.1 c9)]
      · rw [if_neg c9, if_neg c9]
    · by_cases c9 : pu_ur (w2 2 a) = true
      · rw [if_pos c9, if_pos c9, hsgv _ (h6.2 c9)]
      · rw [if_neg c9, if_neg c9]
  have hF2 : ∀ b, b < B → (pv_F w4 w23 ch ph b).2 = (pv_Fs (pv_sgx g) w w2 ch ph b).2 := by
    intro b hb
    show ((ch b).map (pv_S w23), (w4 8 b, w4 9 b, w4 10 b, w4 11 b)) = ((ch b).map (fun a => pu_sbS (pv_sgx g) (pv_S w2 a)), (w 8 b, pv_sgx g (w 9 b), w 10 b, w 11 b))
    rw [v8, v10, v11, hev b hb]
    have : (ch b).map (pv_S w23) = (ch b).map (fun a => pu_sbS (pv_sgx g) (pv_S w2 a)) := by
      refine List.map_congr_left fun a ha => ?_
      have h9 := hrow b hb a ha
      show (w23 2 a, w23 3 a, w23 4 a, w23 5 a) = (w2 2 a, w2 3 a, (if pu_ul (w2 2 a) = true then pv_sgx g (w2 4 a) else w2 4 a), (if pu_ur (w2 2 a) = true then pv_sgx g (w2 5 a) else w2 5 a))
      rw [u2, u3, h9.1, h9.2]
    rw [this]
  have htake : ∀ b p, b < B → p < B → pv_rsc w p b → ∀ a ∈ ph b, w4 21 (a * 60 + p) = pv_sgx g (w 21 (a * 60 + p)) := by
    intro b p hb hp hs a ha
    obtain ⟨j, j1, j2, j3⟩ := hw.2.2.2.2.1 b p hb hp (hsu p b hp hs)
    have hpn : nn (w 15 j) = p := by rw [j3, pu_nn (by omega)]
    have hx := htk b hb a ha j j1 j2
    have h5 := (m3 (a * 60 + nn (w 15 j))).1 ⟨b, hb, a, ha, j, j1, j2, rfl⟩
    rw [hpn] at h5 hx
    rw [h5]
    exact hsgv _ hx
  have hp1 : ∀ b, b < B → (pv_F w4 w23 ch ph b).1.map Prod.fst = (pv_Fs (pv_sgx g) w w2 ch ph b).1.map Prod.fst := by
    intro b hb
    show ((ph b).map (pv_P w4)).map Prod.fst = ((ph b).map (pv_Ps (pv_sgx g) w)).map Prod.fst
    rw [List.map_map, List.map_map]
    refine List.map_congr_left fun a _ => ?_
    show w4 19 a = w 19 a
    rw [v19]
  have hSF : pu_ssa (pv_F w4 w23 ch ph) (fun b => b < B) D := by
    refine pu_pg_ssa hF2 hp1 ?_ hS
    intro b p hb hp hs z' hz'
    obtain ⟨a, ha, rfl⟩ := List.mem_map.mp hz'
    exact ⟨pv_Ps (pv_sgx g) w a, List.mem_map_of_mem ha, (htake b p hb hp hs a ha).symm⟩
  refine ⟨w4, w23, m1, ⟨⟨?_, ?_, ?_, ?_, ?_⟩, ?_, ?_, hSF, ?_, hdb, ?_, ?_, hdm, ⟨?_, hL, ?_, ?_⟩, ?_, ?_, ?_, ?_⟩, ?_⟩
  · refine ⟨⟨by rw [v00]; exact hw0, hB0, hB⟩, hNs, ⟨hM19, hM20, hM21, hM⟩, ?_, hdis, ?_, hdp, fun b hb a ha => ?_, fun b hb a ha => ?_⟩
    · unfold pv_stc
      rw [m2 4 (by decide) (by decide), m2 5 (by decide) (by decide), m5.1 6 (by decide) (by decide)]
      exact hstc
    · unfold pv_phc
      rw [m2 6 (by decide) (by decide), m2 7 (by decide) (by decide), m2 20 (by decide) (by decide)]
      exact hphc
    · rw [v19]; exact hix b hb a ha
    · rw [u3]; exact hix2 b hb a ha
  · intro b hb a ha
    have h9 := hrow b hb a ha
    have h8 := hrg b hb a ha
    rw [u2, h9.1, h9.2]
    refine ⟨fun c9 => ?_, fun c9 => ?_⟩
    · rw [if_pos c9, pv_sgx_v (h8.1 c9)]
      exact (pv_sg_root hsk (h8.1 c9)).1
    · rw [if_pos c9, pv_sgx_v (h8.2 c9)]
      exact (pv_sg_root hsk (h8.2 c9)).1
  · intro b hb a ha
    rw [u2, u3]
    exact hgk b hb a ha
  · unfold pv_wys
    rw [v10, v11, v14, v15]
    exact hw
  · intro b hb a ha j j1 j2
    have hx := htk b hb a ha j j1 j2
    have h5 := (m3 (a * 60 + nn (w 15 j))).1 ⟨b, hb, a, ha, j, j1, j2, rfl⟩
    rw [v15, h5]
    exact (pv_sg_root hsk hx).1
  · intro b hb
    have h9 := hend b hb
    rw [hev b hb, v8, v10, v11]
    refine ⟨fun h0 => ?_, fun h8 => ?_, h9.2.2.1, h9.2.2.2⟩
    · by_cases hv : ixb (w 9 b) 250 = true
      · rw [pv_sgx_v hv]; exact (pv_sg_root hsk hv).1
      · rw [pv_sgx_n hv] at h0
        exact absurd (h9.1 h0) hv
    · have hv := h9.1 (h9.2.1 h8)
      rw [pv_sgx_v hv]
      exact (pv_ixn (pv_sg_root hsk hv).1).1
  · intro b c hb hs
    rw [v10, v11]
    refine hsu b c hb ?_
    have hs : pv_rsc w4 b c := hs
    unfold pv_rsc at hs ⊢
    rw [v8, v10, v11] at hs
    exact hs
  · exact pv_dom_eq (w := w) (w2 := w2) (c := ch) (p := ph) v8 v10 v11 hd
  · intro h hh h0
    exact pv_lop_eq (w := w) (w2 := w2) (c := ch) (p := ph) v8 v10 v11 (hlp h hh h0)
  · intro c hc hc0
    rw [v12]
    exact hdmw c hc hc0
  · rw [v00]; exact hLw
  · intro b hb a ha
    rw [v19]
    exact hLp b hb a ha
  · intro b hb a ha h0
    rw [u3] at h0 ⊢
    exact hLs b hb a ha h0
  · intro b hb a ha
    have h9 := (hrow b hb a ha).1
    have h8 := hcp b hb a ha
    rw [u2, h9]
    refine ⟨fun h => ?_, fun h => ?_, fun h => ?_⟩
    · rw [h, if_neg (by decide)]
      exact h8.1 h
    · rw [h, if_neg (by decide)]
      exact h8.2.1 h
    · rw [u3] at h ⊢
      exact h8.2.2 h
  · exact ⟨by rw [m5.1 0 (by decide) (by decide)]; exact hcn.1, hcn.2⟩
  · intro p hp h
    have h : pv_rsc w4 p 0 := h
    unfold pv_rsc at h
    rw [v8, v10, v11] at h
    exact hno p hp h
  · refine ⟨fun b c hb hc h23 he => ?_, hnf.2.1, fun b hb h22 => ?_⟩
    rotate_left
    · rw [v8] at h22
      have h9 := hnf.2.2 b hb h22
      rw [hev b hb, pv_sgx_n fun c => (pv_ixn c).1 h9]
      exact h9
    rw [v8] at h23
    rw [v10, v11] at he
    exact hnf.1 b c hb hc h23 he
  · intro call ar k e m q r h
    refine pu_pg_run (F := pv_Fs (pv_sgx g) w w2 ch ph) (L := fun b => b < B) hB0 hS.2.1.1 (fun e => ?_) hF2 (fun b p e hb hp hs => ?_) h
    · show pu_phs ((ph 0).map (pv_P w4)) 0 e = pu_phs ((ph 0).map (pv_Ps (pv_sgx g) w)) 0 e
      rw [hp0]
      rfl
    · show pu_phs ((ph b).map (pv_P w4)) p e = pu_phs ((ph b).map (pv_Ps (pv_sgx g) w)) p e
      refine pu_phs_cg _ fun a ha => ?_
      exact ⟨by show w4 19 a = w 19 a; rw [v19], htake b p hb hp hs a ha⟩
end UF
