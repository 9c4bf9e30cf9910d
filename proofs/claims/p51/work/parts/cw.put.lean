/-! pure side, the allocator 22: values put away in a block -/
section PUB
variable {B b V : Nat} {wb aw : ST} {n8 : Nat → Nat}
theorem pa_putAwayIn {a N0 k0 : Nat} {w0 fw0 x0 : ST} {n20 : Nat → Nat} {ch : Nat → List Nat} (hB : B ≤ 60) (hb : b < B) (haN : a < N0) (hac : ∀ c, c < B → a ∉ ch c) (h13 : V ≤ n8 13) (h14 : V ≤ n8 14) (hV : V < 100000) (hN : N0 + 3 < 8500) (hk0 : V ≤ k0) (hk0' : k0 < 100000) (hop : pa_op V (pv_S x0 a))
    (hc : x0 0 0 = pu_I N0) (hR : ∃ R, pv_sR n20 R ∧ N0 ≤ R ∧ R ≤ 12770) (hst : pv_stc B fw0 x0 ch) (hd : pv_dis B N0 ch) (hw8 : w0 0 8 = pu_I k0) :
    ∃ w3 fw3 x3 n23 new3 N3, fX0_putAwayIn n8 w0 (pu_I b) (pu_I a) (pu_I V) fw0 n20 x0 = some (w3, fw3, x3, n23) ∧
      pa_qd B b w0 fw0 x0 ch N0 k0 a (pu_pre (pa_Sb w0 V) (pa_ns w0) (pa_sl w0) (pa_nm w0) k0 (pv_S x0 a) ++ pu_own (pa_Sb w0 V) (pa_ns w0) (pa_sl w0) k0 (pv_S x0 a)) w3 fw3 x3 n23 new3 N3 (pu_k3 (pa_Sb w0 V) (pa_ns w0) k0 (pv_S x0 a)) := by
  have hid : pv_up ch b (ch b ++ []) = ch := pv_up_id (List.append_nil _)
  have h0 : pa_qs B b w0 fw0 x0 ch N0 k0 a [] (pv_S x0 a) w0 fw0 x0 n20 [] N0 k0 := ⟨⟨hc, hR⟩, ⟨by rw [hid]; exact hst, by rw [hid]; exact hd⟩, fun _ _ _ => rfl, fun _ _ _ => rfl, ⟨rfl, rfl⟩, (fun z hz => by cases hz), ⟨Nat.le_refl _, by omega⟩, fun _ _ _ => rfl, hw8, fun _ _ _ => rfl⟩
  obtain ⟨w1, fw1, x1, n21, new1, N1, e1, q1⟩ := pa_pi1 hB hb haN hac h13 h14 hV hN hop h0
  obtain ⟨j1, j2, j3, _⟩ := pu_k12 (S := pa_Sb w0 V) (ns := pa_ns w0) k0 (pv_S x0 a)
  have hk1 : pu_k1 (pa_Sb w0 V) k0 (pv_S x0 a) ≤ k0 + 1 := by
    unfold pu_k1
    by_cases c : pu_fl (pa_Sb w0 V) (pv_S x0 a) = true
    · rw [if_pos c]; exact Nat.le_refl _
    · rw [if_neg c]; exact Nat.le_succ _
  have hk2 : pu_k2 (pa_Sb w0 V) k0 (pv_S x0 a) ≤ k0 + 2 := by
    unfold pu_k2
    by_cases c : pu_fr (pa_Sb w0 V) (pv_S x0 a) = true
    · rw [if_pos c]; omega
    · rw [if_neg c]; omega
  have hN1 : N1 < 8500 := by have := q1.2.2.2.2.2.2.1.2; omega
  obtain ⟨w2, fw2, x2, n22, new2, N2, e2, q2⟩ := pa_pi2 hB hb haN hac h13 h14 hV hk0 hk0' hop hN1 q1
  have hN2 : N2 < 8500 := by have := q2.2.2.2.2.2.2.1.2; omega
  obtain ⟨w3, fw3, x3, n23, new3, N3, e3, q3⟩ := pa_pi3 hB hb haN hac h13 hV hop hN2 q2
  exact ⟨w3, fw3, x3, n23, new3, N3, by rw [e1, e2, e3], q3⟩
theorem pa_Sb_cg {w w' : ST} (h : w' 13 = w 13) (h4 : w' 14 = w 14) : pa_Sb w' V = pa_Sb w V ∧ pa_ns w' = pa_ns w ∧ pa_sl w' = pa_sl w ∧ pa_nm w' = pa_nm w := by
  refine ⟨funext fun x => ?_, funext fun x => ?_, funext fun x => ?_, funext fun x => ?_⟩
  · unfold pa_Sb; rw [h]
  · unfold pa_ns; rw [h]
  · unfold pa_sl; rw [h]
  · unfold pa_nm; rw [h4]
theorem pa_101 (hB : B ≤ 60) (hb : b < B) (h13 : V ≤ n8 13) (h14 : V ≤ n8 14) (hV : V < 100000) (hawV : aw 0 8 = pu_I V) :
    ∀ (rem : List Nat) (k N : Nat) (ch : Nat → List Nat) (w fw x9 : ST) (n2 : Nat → Nat) (fuel : Nat) (x : Int32), rem.length < fuel → pv_ch (x9 6) x rem → (∀ a, a ∈ rem → a < N ∧ ∀ c, c < B → a ∉ ch c) → rem.Nodup → (∀ a, a ∈ rem → pa_op V (pv_S x9 a)) → V ≤ k →
      (w 0 8 = pu_I k ∧ ∀ r z, ¬ (r = 0 ∧ z = 8) → w r z = wb r z) → x9 0 0 = pu_I N → (∃ R, pv_sR n2 R ∧ N ≤ R ∧ R ≤ 12770) → pv_stc B fw x9 ch → pv_dis B N ch →
      (pu_pa (pa_Sb wb V) (pa_ns wb) (pa_sl wb) (pa_nm wb) (rem.map (pv_S x9)) k).2 < 100000 → N + ((pu_pa (pa_Sb wb V) (pa_ns wb) (pa_sl wb) (pa_nm wb) (rem.map (pv_S x9)) k).2 - k) < 8496 →
      ∃ w' fw' x9' n2' new N', fX0_putAway_L101 aw n8 (pu_I b) fuel x w fw x9 n2 = some (w', fw', x9', n2') ∧ (x9' 0 0 = pu_I N' ∧ (∃ R, pv_sR n2' R ∧ N' ≤ R ∧ R ≤ 12770)) ∧ (pv_stc B fw' x9' (pv_up ch b (ch b ++ new)) ∧ pv_dis B N' (pv_up ch b (ch b ++ new))) ∧
        (∀ z, z < N → z ∉ rem → pv_S x9' z = pv_S x9 z) ∧ (∀ r, r ≠ 4 → r ≠ 5 → fw' r = fw r) ∧ new.map (pv_S x9') = (pu_pa (pa_Sb wb V) (pa_ns wb) (pa_sl wb) (pa_nm wb) (rem.map (pv_S x9)) k).1 ∧ N' = N + ((pu_pa (pa_Sb wb V) (pa_ns wb) (pa_sl wb) (pa_nm wb) (rem.map (pv_S x9)) k).2 - k) ∧
        (w' 0 8 = pu_I (pu_pa (pa_Sb wb V) (pa_ns wb) (pa_sl wb) (pa_nm wb) (rem.map (pv_S x9)) k).2 ∧ ∀ r z, ¬ (r = 0 ∧ z = 8) → w' r z = wb r z) ∧ (∀ z, z ∈ new → z ∈ rem ∨ (N ≤ z ∧ z < N')) := by
  intro rem
  induction rem with
  | nil =>
    intro k N ch w fw x9 n2 fuel x hf hch _ _ _ hk hw hc hR hst hd _ _
    obtain ⟨k', rfl⟩ : ∃ k', fuel = k' + 1 := ⟨fuel - 1, by have : 0 < fuel := hf; omega⟩
    have hid : pv_up ch b (ch b ++ []) = ch := pv_up_id (List.append_nil _)
    refine ⟨w, fw, x9, n2, [], N, ?_, ⟨hc, hR⟩, ⟨by rw [hid]; exact hst, by rw [hid]; exact hd⟩, fun _ _ _ => rfl, fun _ _ _ => rfl, rfl, ?_, hw, fun z hz => by cases hz⟩
    · show (if x < 0 then some (w, fw, x9, n2) else _) = _
      rw [if_pos (pv_n1 hch)]
    · show N = N + (k - k)
      omega
  | cons a rem ih =>
    intro k N ch w fw x9 n2 fuel x hf hch hrem hnd hop hk hw hc hR hst hd hK hNK
    obtain ⟨k', rfl⟩ : ∃ k', fuel = k' + 1 := ⟨fuel - 1, by have : 0 < fuel := Nat.lt_of_le_of_lt (Nat.zero_le _) hf; omega⟩
    obtain ⟨rfl, hch⟩ := hch
    have hnd2 := List.nodup_cons.mp hnd
    have ha := hrem a List.mem_cons_self
    have hcg := pa_Sb_cg (V := V) (w := wb) (w' := w) (funext fun z => hw.2 13 z (by omega)) (funext fun z => hw.2 14 z (by omega))
    obtain ⟨j1, j2, j3, j4⟩ := pu_k12 (S := pa_Sb wb V) (ns := pa_ns wb) k (pv_S x9 a)
    have hK' : (pu_pa (pa_Sb wb V) (pa_ns wb) (pa_sl wb) (pa_nm wb) (rem.map (pv_S x9)) (pu_k3 (pa_Sb wb V) (pa_ns wb) k (pv_S x9 a))).2 < 100000 := hK
    have hNK' : N + ((pu_pa (pa_Sb wb V) (pa_ns wb) (pa_sl wb) (pa_nm wb) (rem.map (pv_S x9)) (pu_k3 (pa_Sb wb V) (pa_ns wb) k (pv_S x9 a))).2 - k) < 8496 := hNK
    have hkk := pu_pa_k (S := pa_Sb wb V) (ns := pa_ns wb) (sl := pa_sl wb) (nm := pa_nm wb) (rem.map (pv_S x9)) (pu_k3 (pa_Sb wb V) (pa_ns wb) k (pv_S x9 a))
    obtain ⟨w1, fw1, x1, n21, new1, N1, e1, q1⟩ := pa_putAwayIn (w0 := w) hB hb ha.1 ha.2 h13 h14 hV (by omega) hk (by omega) (hop a List.mem_cons_self) hc hR hst hd hw.1
    rw [hcg.1, hcg.2.1, hcg.2.2.1, hcg.2.2.2] at q1
    obtain ⟨⟨g1, g2⟩, ⟨g3, g4⟩, g5, g6, g7, g8, ⟨g9, g10⟩, g11, g12, g13⟩ := q1
    have hzr : ∀ z, z ∈ rem → z ≠ a := fun z hz e => hnd2.1 (by rw [← e]; exact hz)
    have hrS : rem.map (pv_S x1) = rem.map (pv_S x9) := List.map_congr_left fun z hz => g5 z (hrem z (List.mem_cons_of_mem _ hz)).1 (hzr z hz)
    have hrem2 : ∀ z, z ∈ rem → z < N1 ∧ ∀ c, c < B → z ∉ pv_up ch b (ch b ++ new1) c := fun z hz => by
      have hz2 := hrem z (List.mem_cons_of_mem _ hz)
      refine ⟨by omega, fun c hc hin => ?_⟩
      by_cases e : c = b
      · rw [e, pv_up_s] at hin
        rcases List.mem_append.mp hin with q | q
        · exact hz2.2 b hb q
        · rcases g8 z q with q | q
          · exact hzr z hz q
          · omega
      · rw [pv_up_n e] at hin
        exact hz2.2 c hc hin
    have hix : ixb (pu_I a) (n2 6) = true := by
      obtain ⟨R, ⟨_, _, _, _, R6⟩, r2, r3⟩ := hR
      exact (pu_ix (by omega)).mpr (by omega)
    obtain ⟨w', fw', x9', n2', new2, N', f1, f2, ⟨f3, f4⟩, f5, f6, f7, f8, f9, f10⟩ := ih (pu_k3 (pa_Sb wb V) (pa_ns wb) k (pv_S x9 a)) N1 (pv_up ch b (ch b ++ new1)) w1 fw1 x1 n21 k' (x9 6 a) (by rw [List.length_cons] at hf; omega) (pv_ch_fr _ _ (fun z hz => g11 z (hrem z (List.mem_cons_of_mem _ hz)).1 (hzr z hz) (hrem z (List.mem_cons_of_mem _ hz)).2) hch) hrem2 hnd2.2 (fun z hz => by
      rw [g5 z (hrem z (List.mem_cons_of_mem _ hz)).1 (hzr z hz)]
      exact hop z (List.mem_cons_of_mem _ hz)) (by omega) ⟨g12, fun r z hrz => by rw [g13 r z hrz, hw.2 r z hrz]⟩ g1 g2 g3 g4 (by rw [hrS]; exact hK') (by rw [hrS]; omega)
    rw [hrS] at f7 f8 f9
    rw [pv_up_s, pv_up_up, List.append_assoc] at f3 f4
    refine ⟨w', fw', x9', n2', new1 ++ new2, N', ?_, f2, ⟨f3, f4⟩, fun z z1 z2 => ?_, fun r r4 r5 => by rw [f6 r r4 r5, g6 r r4 r5], ?_, ?_, f9, fun z hz => ?_⟩
    · show (if pu_I a < 0 then some (w, fw, x9, n2) else (if ixb (pu_I a) (n2 6) = true then ((fX0_putAwayIn n8 w (pu_I b) (pu_I a) (aw 0 8) fw n2 x9).bind fun (o_26 : ST × ST × ST × (Nat → Nat)) => (fX0_putAway_G128_37 (fX0_putAway_L101 aw n8 (pu_I b) k') (pu_I a) x9 o_26)) else none)) = _
      rw [if_neg (pu_ge (by omega)), if_pos hix, hawV, e1, Option.bind_some]
      unfold fX0_putAway_G128_37
      rw [pu_nn (show a < 2147483648 by omega)]
      exact f1
    · rw [f5 z (by omega) (fun h => z2 (List.mem_cons_of_mem _ h)), g5 z z1 (fun e => z2 (by rw [e]; exact List.mem_cons_self))]
    · show _ = pu_pre (pa_Sb wb V) (pa_ns wb) (pa_sl wb) (pa_nm wb) k (pv_S x9 a) ++ (pu_own (pa_Sb wb V) (pa_ns wb) (pa_sl wb) k (pv_S x9 a) ++ (pu_pa (pa_Sb wb V) (pa_ns wb) (pa_sl wb) (pa_nm wb) (rem.map (pv_S x9)) (pu_k3 (pa_Sb wb V) (pa_ns wb) k (pv_S x9 a))).1)
      rw [List.map_append, f7, ← List.append_assoc, ← g7]
      congr 1
      refine List.map_congr_left fun z hz => f5 z ?_ fun hr => ?_
      · rcases g8 z hz with q | q <;> omega
      · rcases g8 z hz with q | q
        · exact hzr z hr q
        · have := (hrem z (List.mem_cons_of_mem _ hr)).1; omega
    · show N' = N + ((pu_pa (pa_Sb wb V) (pa_ns wb) (pa_sl wb) (pa_nm wb) (rem.map (pv_S x9)) (pu_k3 (pa_Sb wb V) (pa_ns wb) k (pv_S x9 a))).2 - k)
      omega
    · rcases List.mem_append.mp hz with q | q
      · rcases g8 z q with q | q
        · exact Or.inl (by rw [q]; exact List.mem_cons_self)
        · exact Or.inr (by omega)
      · rcases f10 z q with q | q
        · exact Or.inl (List.mem_cons_of_mem _ q)
        · exact Or.inr (by omega)
end PUB
