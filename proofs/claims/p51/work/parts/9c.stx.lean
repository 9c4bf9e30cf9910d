/-! pure side, stores 33: the walk of all blocks; what is asked of a flow between passes; same, whole -/
section JW
variable {B N M : Nat} {D : Nat → Nat → Prop} {l : SL} {w : ST} {n n2 : Nat → Nat} {ch ph : Nat → List Nat} {wb dm : Nat → Nat} {F0 : pu_Flow}
theorem pv_ok_r {w2 w3 : ST} (h3 : w3 3 = w2 3) (h6 : w3 6 = w2 6) (hok : pv_ok n w n2 w2 B N M ch ph) : pv_ok n w n2 w3 B N M ch ph := by
  obtain ⟨h1, h2, h4, h5, h7, h8, h9, h10, h11⟩ := hok
  refine ⟨h1, h2, h4, ?_, h7, h8, h9, h10, ?_⟩
  · unfold pv_stc
    rw [h6]
    exact h5
  · rw [h3]
    exact h11
theorem pv_je37 (hst : pv_Jst B N D l w n n2 ch ph wb) (hd : pu_dom (pv_F w w ch ph) B D) (hsu : ∀ b c, b < B → pu_sc (pv_F w w ch ph) b c → w 10 b = pu_I c ∨ w 11 b = pu_I c) (hp0 : ph 0 = []) (hw0 : w 0 0 = pu_I B) (hG : pu_grf (pv_F w w ch ph) (fun b => b < B) D) (hdm : ∀ c, c < B → c ≠ 0 → w 12 c = pu_I (dm c)) (hm : pv_dmx B D dm) :
    ∀ (m : Nat) (V S : List Nat) (g w2 : ST) (k : Nat), V.length + m = B → m < k → pv_wk B D dm V S → pv_pth g S → pv_ok n w n2 w2 B N M ch ph → pv_Jv B D w ch ph F0 g w2 →
      (∀ c, c < B → c ∉ V → (∀ a ∈ ph c, g 6 (nn (w 19 a)) < 0) ∧ ∀ a ∈ ch c, ¬ w2 3 a < 0 → g 6 (nn (w2 3 a)) < 0) → pv_seen g N B (pv_sp ch g w2 V 0 []) →
      ∃ g' w2', fX5_joinEquals_L37 n w l n2 k (pu_I S.length) (pu_I V.length) g w2 = some (g', w2') ∧ pv_Jv B D w ch ph F0 g' w2' ∧ ((∀ r, r ≠ 2 → r ≠ 4 → r ≠ 5 → w2' r = w2 r) ∧ pv_c2 w2 w2') := by
  obtain ⟨⟨hB0, hB⟩, ⟨hN2, hN3, hN4, hN5, hN6, hN⟩, hdis, hix, hw, htk, hdb⟩ := id hst
  intro m
  induction m with
  | zero =>
    intro V S g w2 k hVm hk hwk hpt hok hJ hal hsn
    obtain ⟨k', rfl⟩ : ∃ k', k = k' + 1 := ⟨k - 1, by omega⟩
    cases S with
    | nil =>
      refine ⟨g, w2, ?_, hJ, ⟨fun r _ _ _ => rfl, pv_c2_rf w2⟩⟩
      rfl
    | cons b S =>
      exfalso
      have hb := hwk.2.2.1 b List.mem_cons_self
      have := pv_len B (b :: V) (List.nodup_cons.mpr ⟨hb.2.1, hwk.2.1⟩) (fun x hx => by
        rcases List.mem_cons.mp hx with rfl | hx
        · exact hb.1
        · exact (hwk.2.2.2.1 x hx).1)
      have : V.length + 1 ≤ B := this
      omega
  | succ m ih =>
    intro V S g w2 k hVm hk hwk hpt hok hJ hal hsn
    obtain ⟨k', rfl⟩ : ∃ k', k = k' + 1 := ⟨k - 1, by omega⟩
    cases S with
    | nil =>
      refine ⟨g, w2, ?_, hJ, ⟨fun r _ _ _ => rfl, pv_c2_rf w2⟩⟩
      rfl
    | cons b S =>
      have hb := hwk.2.2.1 b List.mem_cons_self
      have hbB := hb.1
      have hVlt : ∀ c, c ∈ V → c < B := fun c hc => (hwk.2.2.2.1 c hc).1
      have hSlen : (b :: S).length ≤ B := pv_len B (b :: S) hwk.1 (fun x hx => (hwk.2.2.1 x hx).1)
      have hSlen : S.length + 1 ≤ B := hSlen
      obtain ⟨_, _, ⟨hM19, hM20, hM21, hM⟩, hstc, _, hph, hdp, _, _⟩ := id hok
      have hun := hJ.2.2.2.2.1
      have hgb : g 12 S.length = pu_I b := hpt.1
      have hsn1 : pv_seen g N B (pv_sp ch g w2 V b []) := pv_seen_mo rfl rfl rfl (fun s c _ _ h => ⟨h.1, h.2.1, h.2.2.1, Or.inr (h.2.2.2.resolve_left fun c => by cases c.2)⟩) hsn
      obtain ⟨g1, w21, e1, j1, j2, j3, j4, j5, j6⟩ := pv_joinBlock hst hok hJ hd hsu hp0 hbB hVlt hb.2.1 (hal b hbB hb.2.1) hsn1
      have hm1 : pu_I (S.length + 1) + (-1) = pu_I S.length := by
        rw [← pu_su, Int32.add_assoc]
        show pu_I S.length + 0 = _
        exact Int32.add_zero _
      have hwk' := pv_wk_s hG hm hwk
      have hlen' : (pv_kid B dm b ++ S).length ≤ B := pv_len B _ hwk'.1 (fun x hx => (hwk'.2.2.1 x hx).1)
      have hBm : B - 1 + 1 = B := by omega
      have hkid : (List.range (B - 1 + 1)).filter (fun c => decide (c ≠ 0 ∧ dm c = b)) = pv_kid B dm b := by
        rw [hBm]
        rfl
      obtain ⟨g2, f1, f2, f3⟩ := pv_L73 (w := w) (g0 := g) (b := b) (B := B) (dm := dm) (v2 := pu_I (S.length + 1)) hB (fun c hc hc0 => ⟨hdm c hc hc0, by have := (hm c hc hc0).1; omega⟩) (by omega) (by rw [hm1, pu_nn (by omega)]; exact hgb) (B - 1) NF S g1 (by have := pv_NF; omega) (by omega) (pv_pth_e (j2 12 (by decide) (by decide) (by decide) (by decide) (by decide)) S hpt.2) (by rw [hkid]; rw [List.length_append] at hlen'; omega)
      rw [hkid] at f1 f2
      have r3 : w21 3 = w2 3 := j5.1 3 (by decide) (by decide) (by decide)
      have r6 : w21 6 = w2 6 := j5.1 6 (by decide) (by decide) (by decide)
      have e6 : ∀ v, g2 6 v = g1 6 v := fun v => by rw [f3 6 (by decide)]
      obtain ⟨hsk, hrg, hgk, hgiv, _, hix2, hS, hrun⟩ := id j1
      have hJ2 : pv_Jv B D w ch ph F0 g2 w21 := by
        refine ⟨pv_sk_e e6 hsk, hrg, hgk, pv_giv_2 (f3 2 (by decide)) hgiv, j1.2.2.2.2.1, hix2, ?_, ?_⟩
        · rw [pv_A_e e6]; exact hS
        · rw [pv_A_e e6]; exact hrun
      have hal2 : ∀ c, c < B → c ∉ V ++ [b] → (∀ a ∈ ph c, g2 6 (nn (w 19 a)) < 0) ∧ ∀ a ∈ ch c, ¬ w21 3 a < 0 → g2 6 (nn (w21 3 a)) < 0 := by
        intro c hc hcV
        have hcV1 : c ∉ V := fun h => hcV (List.mem_append_left _ h)
        have hcb : c ≠ b := fun h => hcV (List.mem_append_right _ (List.mem_singleton.mpr h))
        have h9 := hal c hc hcV1
        refine ⟨fun a ha => ?_, fun a ha h0 => ?_⟩
        · rw [e6, j4]
          · exact h9.1 a ha
          · intro a' ha' e
            have := hun.2.2 c b a a' hc hbB ha ha' (pv_nn_inj (pv_ixn (hix c hc a ha)).1 (pv_ixn (hix b hbB a' ha')).1 e)
            subst this
            exact hcb (hdp.2.2 c b a hc hbB ha ha')
          · intro a' ha'
            by_cases h0 : w2 3 a' < 0
            · exact Or.inl h0
            · exact Or.inr fun e => hun.2.1 c b a a' hc hbB ha ha' (pv_nn_inj (pv_ixn (hix c hc a ha)).1 h0 e)
        · rw [r3] at h0 ⊢
          rw [e6, j4]
          · exact h9.2 a ha h0
          · intro a' ha' e
            exact hun.2.1 b c a' a hbB hc ha' ha (pv_nn_inj h0 (pv_ixn (hix b hbB a' ha')).1 e).symm
          · intro a' ha'
            by_cases h0' : w2 3 a' < 0
            · exact Or.inl h0'
            · refine Or.inr fun e => ?_
              have := hun.1 c b a a' hc hbB ha ha' h0 (pv_nn_inj h0 h0' e)
              subst this
              exact hcb (hdis.2.2 c b a hc hbB ha ha')
      have hsn2 : pv_seen g2 N B (pv_sp ch g2 w21 (V ++ [b]) 0 []) := by
        refine pv_seen_mo (by rw [f3 0 (by decide)]) (f3 9 (by decide)) (f3 10 (by decide)) ?_ j6
        rintro s c _ _ ⟨s1, s2, s3, s4⟩
        refine ⟨s1, s2, by rw [e6]; exact s3, Or.inr ?_⟩
        rcases s4 with h | h
        · exact List.mem_append_right _ (List.mem_singleton.mpr h.1)
        · exact List.mem_append_left _ h
      obtain ⟨g', w2', i1, i2, i3⟩ := ih (V ++ [b]) (pv_kid B dm b ++ S) g2 w21 k' (by rw [List.length_append]; show V.length + 1 + m = B; omega) (by omega) hwk' f2 (pv_ok_r r3 r6 hok) hJ2 hal2 hsn2
      refine ⟨g', w2', ?_, i2, ⟨fun r h2 h4 h5 => by rw [i3.1 r h2 h4 h5, j5.1 r h2 h4 h5], pv_c2_tr j5.2 i3.2⟩⟩
      have hV1 : (V ++ [b]).length = V.length + 1 := by rw [List.length_append]; rfl
      show (if pu_I (S.length + 1) ≤ 0 then some (g, w2) else (if 60 ≤ pu_I V.length then some (g, w2) else (if ixb (pu_I (S.length + 1) + (-1)) 60 = true then ((fX5_joinBlock g n w l (g 12 (nn (pu_I (S.length + 1) + (-1)))) n2 w2).bind fun (o_9 : ST × ST) => ((fX5_joinEquals_L73 w (pu_I (S.length + 1)) g NF (pu_I (S.length + 1) + (-1)) ((w 0 0) - 1) (o_9.1)).bind fun (o73 : Int32 × ST) => ((fX5_joinEquals_L37 n w l n2 k') (o73.1) (pu_I V.length + 1) (o73.2) (o_9.2)))) else none))) = _
      rw [if_neg (by rw [show (0 : Int32) = pu_I 0 from rfl, pu_le (by omega) (by decide)]; omega), if_neg (by rw [show (60 : Int32) = pu_I 60 from rfl, pu_le (by decide) (by omega)]; omega), hm1, if_pos ((pu_ix (by omega)).mpr (by omega)), pu_nn (by omega), hgb, e1, Option.bind_some, hw0]
      have hB1 : pu_I B - 1 = pu_I (B - 1) := pv_sub (b := 1) (by omega)
      rw [hB1, f1, Option.bind_some, pu_su, ← hV1, i1]
end JW
def pv_sR (n2 : Nat → Nat) (R : Nat) : Prop := n2 2 = R ∧ n2 3 = R ∧ n2 4 = R ∧ n2 5 = R ∧ n2 6 = R
/-- how many steps there are, and the room for them -/
def pv_cn (n2 : Nat → Nat) (w2 : ST) (N : Nat) : Prop := w2 0 0 = pu_I N ∧ ∃ R, pv_sR n2 R ∧ N ≤ R ∧ (R ≤ 256 ∨ R ≤ N + N / 2 + 1)
theorem pv_sub_len : ∀ (l m : List Nat), l.Nodup → (∀ a ∈ l, a ∈ m) → l.length ≤ m.length := by
  intro l
  induction l with
  | nil => intro m _ _; exact Nat.zero_le _
  | cons a l ih =>
    intro m hn h
    obtain ⟨s, t, rfl⟩ := List.append_of_mem (h a List.mem_cons_self)
    obtain ⟨n1, n2⟩ := List.nodup_cons.mp hn
    have h9 := ih (s ++ t) n2 fun x hx => by
      have h8 := h x (List.mem_cons_of_mem _ hx)
      rcases List.mem_append.mp h8 with h7 | h7
      · exact List.mem_append_left _ h7
      · rcases List.mem_cons.mp h7 with rfl | h6
        · exact absurd hx n1
        · exact List.mem_append_right _ h6
    rw [List.length_append] at h9 ⊢
    rw [List.length_cons, List.length_cons]
    omega
/-- where a fork leads there are no phis; and no block has many -/
def pv_nf (B : Nat) (w : ST) (ph : Nat → List Nat) : Prop := (∀ b c, b < B → c < B → w 8 b = 23 → (w 10 b = pu_I c ∨ w 11 b = pu_I c) → ph c = []) ∧ (∀ b, b < B → (ph b).length ≤ 16) ∧ ∀ b, b < B → w 8 b = 22 → w 9 b < 0
/-- the shape of a flow between passes -/
def pv_fl (n : Nat → Nat) (w : ST) (l : SL) (n2 : Nat → Nat) (w2 : ST) (B N M Lm fs na : Nat) (D : Nat → Nat → Prop) (ch ph : Nat → List Nat) (wb dm : Nat → Nat) : Prop :=
  (pv_ok n w n2 w2 B N M ch ph ∧ pv_rg w2 B ch ∧ pv_gks w2 B ch ∧ pv_wys B w wb ∧ pv_tk B w wb ph) ∧
  (∀ b, b < B → (¬ w 9 b < 0 → ixb (w 9 b) 250 = true) ∧ ((w 8 b = 23 ∨ w 8 b = 24) → ¬ w 9 b < 0) ∧ (w 8 b = 22 ∨ w 8 b = 23 ∨ w 8 b = 24) ∧ ((w 8 b = 22 → ¬ w 10 b < 0 ∧ w 11 b < 0) ∧ (w 8 b = 23 → ¬ w 10 b < 0 ∧ ¬ w 11 b < 0) ∧ (w 8 b = 24 → w 10 b < 0 ∧ w 11 b < 0))) ∧
  (∀ b c, b < B → pu_sc (pv_F w w2 ch ph) b c → w 10 b = pu_I c ∨ w 11 b = pu_I c) ∧
  pu_ssa (pv_F w w2 ch ph) (fun b => b < B) D ∧ pu_dom (pv_F w w2 ch ph) B D ∧
  (∀ b c, b < B → c < B → (pv_bt (l 16 b) c = true ↔ D b c)) ∧
  (∀ h, h < B → l 17 h ≠ 0 → pu_lop (pv_F w w2 ch ph) B D h (fun c => pv_bt (l 17 h) c = true)) ∧
  (∀ c, c < B → c ≠ 0 → w 12 c = pu_I (dm c)) ∧ pv_dmx B D dm ∧
  (w 0 1 = pu_I Lm ∧ Lm ≤ 250 ∧ (∀ b, b < B → ∀ a ∈ ph b, nn (w 19 a) < Lm) ∧ (∀ b, b < B → ∀ a ∈ ch b, ¬ w2 3 a < 0 → nn (w2 3 a) < Lm)) ∧
  (∀ b, b < B → ∀ a ∈ ch b, (w2 2 a = 20 → ixb (w2 4 a) fs = true) ∧ (w2 2 a = 21 → ixb (w2 4 a) na = true) ∧ (w2 3 a < 0 → w2 3 a = -1)) ∧ pv_cn n2 w2 N ∧ (∀ p, p < B → ¬ pu_sc (pv_F w w2 ch ph) p 0) ∧ pv_nf B w ph
