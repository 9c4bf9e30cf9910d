/-! pure side, the maker 5: blocks, and ways that are split -/
theorem pv_addBlock {v : ST} {c : Nat} (h0 : v 0 0 = pu_I c) (hc : c < 60) (x1 x2 x3 x4 : Int32) :
    ∃ v', fX1_addBlock v x1 x2 x3 x4 = some (pu_I c, v') ∧ v' 0 0 = pu_I (c + 1) ∧ (∀ i, i ≠ 0 → v' 0 i = v 0 i) ∧ (∀ r i, r ≠ 0 → (i ≠ c ∨ (r ≠ 4 ∧ r ≠ 5 ∧ r ≠ 6 ∧ r ≠ 7 ∧ r ≠ 8 ∧ r ≠ 9 ∧ r ≠ 10 ∧ r ≠ 11)) → v' r i = v r i) ∧
      (v' 4 c = -1 ∧ v' 5 c = -1 ∧ v' 6 c = -1 ∧ v' 7 c = -1 ∧ v' 8 c = x1 ∧ v' 9 c = x2 ∧ v' 10 c = x3 ∧ v' 11 c = x4) := by
  have hcn : nn (pu_I c) = c := pu_nn (by omega)
  have hix : ixb (pu_I c) 60 = true := (pu_ix (by omega)).mpr hc
  have g (q : ST) (hq : q 0 0 = pu_I c) (r : Nat) (z : Int32) (hr : r ≠ 0) : upw q r c z 0 0 = pu_I c := by rw [pv_upw_n (fun e => hr e.symm), hq]
  have h4 := g v h0 4 (-1) (by decide)
  have h5 := g _ h4 5 (-1) (by decide)
  have h6 := g _ h5 6 (-1) (by decide)
  have h7 := g _ h6 7 (-1) (by decide)
  have h8 := g _ h7 8 x1 (by decide)
  have h9 := g _ h8 9 x2 (by decide)
  have h10 := g _ h9 10 x3 (by decide)
  have h11 := g _ h10 11 x4 (by decide)
  refine ⟨upw (upw (upw (upw (upw (upw (upw (upw (upw v 4 c (-1)) 5 c (-1)) 6 c (-1)) 7 c (-1)) 8 c x1) 9 c x2) 10 c x3) 11 c x4) 0 0 (pu_I (c + 1)), ?_, by rw [pv_upw, if_pos ⟨rfl, rfl⟩], fun i hi => ?_, fun r i hr h => ?_, ?_⟩
  · unfold fX1_addBlock
    rw [h0]
    simp only [lt9, if_pos hix, hcn]
    rw [h11, pu_su]
  · rw [pv_upw, if_neg fun e => hi e.2, pv_upw_n (by decide), pv_upw_n (by decide), pv_upw_n (by decide), pv_upw_n (by decide), pv_upw_n (by decide), pv_upw_n (by decide), pv_upw_n (by decide), pv_upw_n (by decide)]
  · rw [pv_upw_n hr]
    have key : ∀ (q : ST) (r' : Nat) (z : Int32), (i ≠ c ∨ r ≠ r') → upw q r' c z r i = q r i := fun q r' z hz => by
      rw [pv_upw, if_neg fun e => hz.elim (fun h => h e.2) (fun h => h e.1)]
    rw [key _ 11 _ (h.imp id fun z => z.2.2.2.2.2.2.2), key _ 10 _ (h.imp id fun z => z.2.2.2.2.2.2.1), key _ 9 _ (h.imp id fun z => z.2.2.2.2.2.1), key _ 8 _ (h.imp id fun z => z.2.2.2.2.1), key _ 7 _ (h.imp id fun z => z.2.2.2.1), key _ 6 _ (h.imp id fun z => z.2.2.1), key _ 5 _ (h.imp id fun z => z.2.1), key _ 4 _ (h.imp id fun z => z.1)]
  · have u (q : ST) (r' : Nat) (z : Int32) : upw q r' c z r' c = z := by rw [pv_upw, if_pos ⟨rfl, rfl⟩]
    refine ⟨?_, ?_, ?_, ?_, ?_, ?_, ?_, ?_⟩
    · rw [pv_upw_n (by decide), pv_upw_n (by decide), pv_upw_n (by decide), pv_upw_n (by decide), pv_upw_n (by decide), pv_upw_n (by decide), pv_upw_n (by decide), pv_upw_n (by decide), u]
    · rw [pv_upw_n (by decide), pv_upw_n (by decide), pv_upw_n (by decide), pv_upw_n (by decide), pv_upw_n (by decide), pv_upw_n (by decide), pv_upw_n (by decide), u]
    · rw [pv_upw_n (by decide), pv_upw_n (by decide), pv_upw_n (by decide), pv_upw_n (by decide), pv_upw_n (by decide), pv_upw_n (by decide), u]
    · rw [pv_upw_n (by decide), pv_upw_n (by decide), pv_upw_n (by decide), pv_upw_n (by decide), pv_upw_n (by decide), u]
    · rw [pv_upw_n (by decide), pv_upw_n (by decide), pv_upw_n (by decide), pv_upw_n (by decide), u]
    · rw [pv_upw_n (by decide), pv_upw_n (by decide), pv_upw_n (by decide), u]
    · rw [pv_upw_n (by decide), pv_upw_n (by decide), u]
    · rw [pv_upw_n (by decide), u]
/-- the kind of a piece's end -/
def pt_ke (F G : Nat → Int32) (p : Nat) : Int32 := if G p < 0 then (if F p < 0 then 24 else 22) else 23
/-- whether a way of a piece is split -/
def pt_s1 (F G : Nat → Int32) (wy : Nat → Nat) (p : Nat) : Nat := if ¬ G p < 0 ∧ ¬ F p < 0 ∧ 2 ≤ wy (nn (F p)) then 1 else 0
def pt_sS (F G : Nat → Int32) (wy : Nat → Nat) : List Nat → Nat
  | [] => 0
  | p :: l => (pt_s1 F G wy p + pt_s1 G G wy p) + pt_sS F G wy l
theorem pt_sS_app (F G : Nat → Int32) (wy : Nat → Nat) (l m : List Nat) : pt_sS F G wy (l ++ m) = pt_sS F G wy l + pt_sS F G wy m := by
  induction l with
  | nil => exact (Nat.zero_add _).symm
  | cons x l ih =>
    show _ + pt_sS F G wy (l ++ m) = (_ + pt_sS F G wy l) + _
    rw [ih]
    exact (Nat.add_assoc _ _ _).symm
section LB
variable {K : Nat} {w0 v0 : ST} {fl : List Nat} {wy : Nat → Nat}
/-- the pieces that are reached, as tables -/
def pt_lb (K : Nat) (w0 : ST) (fl : List Nat) (wy : Nat → Nat) : Prop :=
  (0 < K ∧ K ≤ 640 ∧ w0 0 5 = pu_I K) ∧ (fl.Nodup ∧ (∀ p ∈ fl, p < K) ∧ fl[0]? = some 0) ∧ pt_fg K (w0 9) ∧ pt_fg K (w0 10) ∧ (∀ n p, fl[n]? = some p → w0 14 n = pu_I p ∧ w0 12 p = pu_I n) ∧ (∀ p, p < K → w0 11 p = pu_I (wy p)) ∧ (∀ p, wy p ≤ 1280) ∧ (∀ p ∈ fl, ∀ q, q < K → (w0 9 p = pu_I q ∨ w0 10 p = pu_I q) → q ∈ fl)
/-- the maker's rows while blocks are laid -/
def pt_lw (w0 : ST) (fl : List Nat) (n c : Nat) (w : ST) : Prop := (∀ r, r ≠ 15 → w r = w0 r) ∧ (∀ b p, b < n → fl[b]? = some p → w 15 b = pu_I p) ∧ (∀ s, fl.length ≤ s → s < c → w 15 s = -1)
/-- a way of a block: straight, or by way of a block of its own -/
def pt_lr (w0 : ST) (fl : List Nat) (wy : Nat → Nat) (c : Nat) (v : ST) (pb : Prop) (r b p : Nat) : Prop :=
  (w0 (r - 1) p < 0 → v r b = -1) ∧ (∀ q, q < 640 → w0 (r - 1) p = pu_I q → ∃ t, fl[t]? = some q ∧
      (¬ (pb ∧ pt_s1 (w0 (r - 1)) (w0 10) wy p = 1) → v r b = pu_I t) ∧ ((pb ∧ pt_s1 (w0 (r - 1)) (w0 10) wy p = 1) → ∃ s, fl.length ≤ s ∧ s < c ∧ v r b = pu_I s ∧ v 10 s = pu_I t))
/-- a block's rows; which ways are split already: pr -/
def pt_lv (w0 : ST) (fl : List Nat) (wy : Nat → Nat) (v0 : ST) (pr : Nat → Nat → Prop) (n c : Nat) (v : ST) : Prop :=
  (v 0 0 = pu_I c ∧ ∀ i, i ≠ 0 → v 0 i = v0 0 i) ∧ (∀ b, b < c → v 4 b = -1 ∧ v 5 b = -1 ∧ v 6 b = -1 ∧ v 7 b = -1 ∧ v 9 b = -1) ∧
  (∀ b p, b < n → fl[b]? = some p → v 8 b = pt_ke (w0 9) (w0 10) p ∧ pt_lr w0 fl wy c v (pr b 10) 10 b p ∧ pt_lr w0 fl wy c v (pr b 11) 11 b p) ∧
  (∀ s, fl.length ≤ s → s < c → v 8 s = 22 ∧ v 11 s = -1 ∧ (∃ t, t < fl.length ∧ v 10 s = pu_I t) ∧ (∀ b b' r r', b < fl.length → b' < fl.length → (r = 10 ∨ r = 11) → (r' = 10 ∨ r' = 11) → v r b = pu_I s → v r' b' = pu_I s → b = b' ∧ r = r'))
theorem pv_blockOfPiece {w : ST} (hb : pt_lb K w0 fl wy) (h5 : w 0 = w0 0) (h12 : w 12 = w0 12) {x : Int32} (hx : x < 0 ∨ ∃ q t : Nat, q < K ∧ x = pu_I q ∧ fl[t]? = some q) :
    ∃ o, fX4_blockOfPiece w x = some o ∧ (x < 0 → o = -1) ∧ (∀ q t, q < K → x = pu_I q → fl[t]? = some q → o = pu_I t) := by
  obtain ⟨⟨_, hK, hc⟩, _, _, _, h14, _⟩ := hb
  by_cases h0 : x < 0
  · refine ⟨-1, ?_, fun _ => rfl, fun q t hq e _ => absurd h0 (by rw [e]; exact pu_ge (by omega))⟩
    unfold fX4_blockOfPiece fX4_blockOfPiece_J12 fX4_blockOfPiece_J22
    rw [if_pos h0]
  · obtain ⟨q, t, q1, rfl, q2⟩ := hx.resolve_left h0
    refine ⟨pu_I t, ?_, fun h => absurd h h0, fun q' t' hq' e ht' => ?_⟩
    · unfold fX4_blockOfPiece fX4_blockOfPiece_J22
      rw [if_neg h0, h5, hc, if_pos ((pu_lt (by omega) (by omega)).mpr q1), if_pos ((pu_ix (by omega)).mpr (by omega)), pu_nn (by omega), h12, (h14 t q q2).2]
    · have hqq := pu_inj (by omega) (by omega) e
      rw [← hqq] at ht'
      rw [← (h14 t q q2).2, ← (h14 t' q ht').2]
theorem pv_lay16 (hb : pt_lb K w0 fl wy) (hfl : fl.length ≤ 60) {z : ST} :
    ∀ (m n k : Nat) (w v : ST), n + m = fl.length → m < k → pt_lw w0 fl n n w → pt_lv w0 fl wy v0 (fun _ _ => False) n n v →
      ∃ w' v', fX4_layBlocks_L16 (pu_I fl.length, z) k (pu_I n) w v = some (w', v') ∧ pt_lw w0 fl fl.length fl.length w' ∧ pt_lv w0 fl wy v0 (fun _ _ => False) fl.length fl.length v' := by
  obtain ⟨⟨hK0, hK, hc5⟩, ⟨hnd, hlt, h00⟩, hF, hG, h14, h11, hwy, hcl⟩ := id hb
  intro m
  induction m with
  | zero =>
    intro n k w v hn hk hw hv
    obtain ⟨k', rfl⟩ : ∃ k', k = k' + 1 := ⟨k - 1, by omega⟩
    have hn : n = fl.length := by omega
    subst hn
    refine ⟨w, v, ?_, hw, hv⟩
    show (if pu_I fl.length ≤ pu_I fl.length then some (w, v) else _) = _
    rw [if_pos (Int32.le_refl _)]
  | succ m ih =>
    intro n k w v hn hk hw hv
    obtain ⟨k', rfl⟩ : ∃ k', k = k' + 1 := ⟨k - 1, by omega⟩
    obtain ⟨p, hp⟩ : ∃ p, fl[n]? = some p := ⟨fl[n], List.getElem?_eq_some_iff.mpr ⟨by omega, rfl⟩⟩
    have hpm : p ∈ fl := List.mem_iff_getElem?.mpr ⟨n, hp⟩
    have hpK := hlt p hpm
    have w14 : w 14 n = pu_I p := by rw [hw.1 14 (by decide)]; exact (h14 n p hp).1
    have w9 : w 9 = w0 9 := hw.1 9 (by decide)
    have w10 : w 10 = w0 10 := hw.1 10 (by decide)
    have hq : ∀ r, r = 9 ∨ r = 10 → w0 r p < 0 ∨ ∃ q t : Nat, q < K ∧ w0 r p = pu_I q ∧ fl[t]? = some q := by
      intro r hr
      have h1 : w0 r p < 0 ∨ ∃ q, q < K ∧ w0 r p = pu_I q := by
        rcases hr with rfl | rfl
        · exact hF p hpK
        · exact hG p hpK
      rcases h1 with h1 | ⟨q, q1, q2⟩
      · exact Or.inl h1
      · have hm : q ∈ fl := hcl p hpm q q1 (by
          rcases hr with rfl | rfl
          · exact Or.inl q2
          · exact Or.inr q2)
        obtain ⟨t, ht⟩ := List.mem_iff_getElem?.mp hm
        exact Or.inr ⟨q, t, q1, q2, ht⟩
    obtain ⟨w8, hw8⟩ : ∃ w8, w8 = upw w 15 n (pu_I p) := ⟨_, rfl⟩
    have e8 : ∀ r, r ≠ 15 → w8 r = w0 r := fun r hr => by rw [hw8, pv_upw_n hr, hw.1 r hr]
    obtain ⟨o1, a1, a2, a3⟩ := pv_blockOfPiece (w := w8) hb (e8 0 (by decide)) (e8 12 (by decide)) (x := w0 9 p) (hq 9 (Or.inl rfl))
    obtain ⟨o2, b1, b2, b3⟩ := pv_blockOfPiece (w := w8) hb (e8 0 (by decide)) (e8 12 (by decide)) (x := w0 10 p) (hq 10 (Or.inr rfl))
    obtain ⟨v', c1, c2, c3, c4, c5⟩ := pv_addBlock hv.1.1 (show n < 60 by omega) (pt_ke (w0 9) (w0 10) p) (-1) o1 o2
    have hw' : pt_lw w0 fl (n + 1) (n + 1) w8 := by
      refine ⟨e8, fun b z hb2 hz => ?_, fun s h1 h2 => absurd h1 (by omega)⟩
      rw [hw8, pv_upw]
      by_cases e : b = n
      · rw [e, hp] at hz
        injection hz with hz
        rw [if_pos ⟨rfl, e⟩, hz]
      · rw [if_neg fun h => e h.2]
        exact hw.2.1 b z (by omega) hz
    have hold : ∀ r b, r ≠ 0 → b ≠ n → v' r b = v r b := fun r b hr hb2 => c4 r b hr (Or.inl hb2)
    have hv' : pt_lv w0 fl wy v0 (fun _ _ => False) (n + 1) (n + 1) v' := by
      refine ⟨⟨c2, fun i hi => by rw [c3 i hi]; exact hv.1.2 i hi⟩, fun b hb2 => ?_, fun b z hb2 hz => ?_, fun s h1 h2 => absurd h1 (by omega)⟩
      · by_cases e : b = n
        · rw [e]
          exact ⟨c5.1, c5.2.1, c5.2.2.1, c5.2.2.2.1, c5.2.2.2.2.2.1⟩
        · rw [hold 4 b (by decide) e, hold 5 b (by decide) e, hold 6 b (by decide) e, hold 7 b (by decide) e, hold 9 b (by decide) e]
          exact hv.2.1 b (by omega)
      · by_cases e : b = n
        · rw [e, hp] at hz
          injection hz with hz
          rw [e, ← hz]
          refine ⟨c5.2.2.2.2.1, ⟨fun h => ?_, fun q hq9 he => ?_⟩, ⟨fun h => ?_, fun q hq9 he => ?_⟩⟩
          · rw [c5.2.2.2.2.2.2.1]; exact a2 h
          · rcases hq 9 (Or.inl rfl) with h | ⟨q2, t, q3, q4, q5⟩
            · have he : w0 9 p = pu_I q := he
              exact absurd h (by rw [he]; exact pu_ge (by omega))
            · have he : w0 9 p = pu_I q := he
              have hqq := pu_inj (by omega) (by omega) (he.symm.trans q4)
              refine ⟨t, by rw [hqq]; exact q5, fun _ => ?_, fun h => absurd h.1 id⟩
              rw [c5.2.2.2.2.2.2.1]
              exact a3 q2 t q3 q4 q5
          · rw [c5.2.2.2.2.2.2.2]; exact b2 h
          · rcases hq 10 (Or.inr rfl) with h | ⟨q2, t, q3, q4, q5⟩
            · have he : w0 10 p = pu_I q := he
              exact absurd h (by rw [he]; exact pu_ge (by omega))
            · have he : w0 10 p = pu_I q := he
              have hqq := pu_inj (by omega) (by omega) (he.symm.trans q4)
              refine ⟨t, by rw [hqq]; exact q5, fun _ => ?_, fun h => absurd h.1 id⟩
              rw [c5.2.2.2.2.2.2.2]
              exact b3 q2 t q3 q4 q5
        · obtain ⟨z1, z2, z3⟩ := hv.2.2.1 b z (by omega) hz
          have hlr : ∀ r, r ≠ 0 → pt_lr w0 fl wy n v False r b z → pt_lr w0 fl wy (n + 1) v' False r b z := by
            rintro r hr ⟨y1, y2⟩
            refine ⟨fun h => by rw [hold r b hr e]; exact y1 h, fun q hq9 he => ?_⟩
            obtain ⟨t, t1, t2, _⟩ := y2 q hq9 he
            exact ⟨t, t1, fun h => by rw [hold r b hr e]; exact t2 h, fun h => absurd h.1 id⟩
          exact ⟨by rw [hold 8 b (by decide) e]; exact z1, hlr 10 (by decide) z2, hlr 11 (by decide) z3⟩
    obtain ⟨w', v3, d1, d2, d3⟩ := ih (n + 1) k' w8 v' (by omega) (by omega) hw' hv'
    refine ⟨w', v3, ?_, d2, d3⟩
    rw [← d1]
    have h60 : ixb (pu_I n) 60 = true := (pu_ix (by omega)).mpr (by omega)
    have h640 : ixb (pu_I n) 640 = true := (pu_ix (by omega)).mpr (by omega)
    have hp640 : ixb (pu_I p) 640 = true := (pu_ix (by omega)).mpr (by omega)
    have hnn : nn (pu_I n) = n := pu_nn (by omega)
    have hpn : nn (pu_I p) = p := pu_nn (by omega)
    have h63 : fX4_layBlocks_J63 (fX4_layBlocks_L16 (pu_I fl.length, z) k') (pu_I n) w v (pt_ke (w0 9) (w0 10) p) = fX4_layBlocks_L16 (pu_I fl.length, z) k' (pu_I (n + 1)) w8 v' := by
      unfold fX4_layBlocks_J63
      rw [if_pos h60, hnn, w14]
      simp only [lt9]
      rw [← hw8, if_pos hp640, hpn, e8 9 (by decide), a1, Option.bind_some, if_pos hp640, e8 10 (by decide), b1, Option.bind_some, c1, Option.bind_some, pu_su]
    show (if pu_I fl.length ≤ pu_I n then some (w, v) else (if ixb (pu_I n) 640 = true then (if ixb (w 14 (nn (pu_I n))) 640 = true then (if (w 10 (nn (w 14 (nn (pu_I n))))) < 0 then (if ixb (w 14 (nn (pu_I n))) 640 = true then (if (w 9 (nn (w 14 (nn (pu_I n))))) < 0 then (fX4_layBlocks_J63 (fX4_layBlocks_L16 (pu_I fl.length, z) k') (pu_I n) w v 24) else (fX4_layBlocks_J63 (fX4_layBlocks_L16 (pu_I fl.length, z) k') (pu_I n) w v 22)) else none) else (fX4_layBlocks_J63 (fX4_layBlocks_L16 (pu_I fl.length, z) k') (pu_I n) w v 23)) else none) else none)) = _
    rw [← h63, if_neg (by rw [pu_le (by omega) (by omega)]; omega), if_pos h640, hnn, w14, if_pos hp640, hpn, if_pos hp640, w9, w10]
    unfold pt_ke
    by_cases g0 : w0 10 p < 0
    · rw [if_pos g0, if_pos g0]
      by_cases g1 : w0 9 p < 0
      · rw [if_pos g1, if_pos g1]
      · rw [if_neg g1, if_neg g1]
    · rw [if_neg g0, if_neg g0]
end LB
