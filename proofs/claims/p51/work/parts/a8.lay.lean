/-! pure side, the maker 7: layBlocks, whole -/
def pt_sum (g : Nat → Nat) : List Nat → Nat
  | [] => 0
  | x :: l => g x + pt_sum g l
theorem pt_sum_app (g : Nat → Nat) (l m : List Nat) : pt_sum g (l ++ m) = pt_sum g l + pt_sum g m := by
  induction l with
  | nil => exact (Nat.zero_add _).symm
  | cons x l ih =>
    show g x + pt_sum g (l ++ m) = (g x + pt_sum g l) + _
    rw [ih]
    exact (Nat.add_assoc _ _ _).symm
theorem pt_sum_le (g : Nat → Nat) : ∀ (l m : List Nat), l.Nodup → (∀ x ∈ l, x ∈ m) → pt_sum g l ≤ pt_sum g m := by
  intro l
  induction l with
  | nil => intro m _ _; exact Nat.zero_le _
  | cons x l ih =>
    intro m hn hs
    obtain ⟨h1, h2⟩ := List.nodup_cons.mp hn
    obtain ⟨s, t, rfl⟩ := List.append_of_mem (hs x List.mem_cons_self)
    have h9 := ih (s ++ t) h2 fun y hy => by
      have h8 := hs y (List.mem_cons_of_mem _ hy)
      rcases List.mem_append.mp h8 with h | h
      · exact List.mem_append_left _ h
      · rcases List.mem_cons.mp h with h | h
        · exact absurd (h ▸ hy) h1
        · exact List.mem_append_right _ h
    rw [pt_sum_app] at h9
    rw [pt_sum_app]
    show g x + pt_sum g l ≤ pt_sum g s + (g x + pt_sum g t)
    omega
theorem pt_sum_mono {g h : Nat → Nat} : ∀ (l : List Nat), (∀ x, g x ≤ h x) → pt_sum g l ≤ pt_sum h l := by
  intro l
  induction l with
  | nil => intro _; exact Nat.le_refl _
  | cons x l ih => intro hg; exact Nat.add_le_add (hg x) (ih hg)
theorem pt_wy_sum (F G : Nat → Int32) (p : Nat) : ∀ l : List Nat, pt_wy F G l p = pt_sum (fun x => (if F x = pu_I p then 1 else 0) + (if G x = pu_I p then 1 else 0)) l := by
  intro l
  induction l with
  | nil => rfl
  | cons x l ih => exact congrArg (((if F x = pu_I p then 1 else 0) + (if G x = pu_I p then 1 else 0)) + ·) ih
theorem pt_sS_sum (F G : Nat → Int32) (wy : Nat → Nat) : ∀ l : List Nat, pt_sS F G wy l = pt_sum (fun p => pt_s1 F G wy p + pt_s1 G G wy p) l := by
  intro l
  induction l with
  | nil => rfl
  | cons x l ih => exact congrArg ((pt_s1 F G wy x + pt_s1 G G wy x) + ·) ih
theorem pt_s1_mono {F G : Nat → Int32} {wy wz : Nat → Nat} (h : ∀ p, wy p ≤ wz p) (p : Nat) : pt_s1 F G wy p ≤ pt_s1 F G wz p := by
  unfold pt_s1
  by_cases h1 : ¬ G p < 0 ∧ ¬ F p < 0 ∧ 2 ≤ wy (nn (F p))
  · rw [if_pos h1, if_pos ⟨h1.1, h1.2.1, Nat.le_trans h1.2.2 (h _)⟩]
    exact Nat.le_refl _
  · rw [if_neg h1]
    exact Nat.zero_le _
theorem pt_s1_le (F G : Nat → Int32) (wy : Nat → Nat) (p : Nat) : pt_s1 F G wy p ≤ 1 := by
  unfold pt_s1
  by_cases h1 : ¬ G p < 0 ∧ ¬ F p < 0 ∧ 2 ≤ wy (nn (F p))
  · rw [if_pos h1]; exact Nat.le_refl _
  · rw [if_neg h1]; exact Nat.zero_le _
section LW
variable {K : Nat} {w0 v0 : ST} {fl : List Nat} {wy : Nat → Nat}
theorem pt_lv_pr {pr pr' : Nat → Nat → Prop} {n c : Nat} {v : ST} (hv : pt_lv w0 fl wy v0 pr n c v)
    (h : ∀ b p, b < n → fl[b]? = some p → ∀ r, r = 10 ∨ r = 11 → pt_s1 (w0 (r - 1)) (w0 10) wy p = 1 → (pr b r ↔ pr' b r)) : pt_lv w0 fl wy v0 pr' n c v := by
  refine ⟨hv.1, hv.2.1, fun b p hb hp => ?_, hv.2.2.2⟩
  obtain ⟨y1, y2, y3⟩ := hv.2.2.1 b p hb hp
  have key : ∀ r, r = 10 ∨ r = 11 → pt_lr w0 fl wy c v (pr b r) r b p → pt_lr w0 fl wy c v (pr' b r) r b p := by
    rintro r hr ⟨g1, g2⟩
    refine ⟨g1, fun q hq he => ?_⟩
    obtain ⟨t, t1, t2, t3⟩ := g2 q hq he
    exact ⟨t, t1, fun h9 => t2 fun h8 => h9 ⟨(h b p hb hp r hr h8.2).mp h8.1, h8.2⟩, fun h9 => t3 ⟨(h b p hb hp r hr h9.2).mpr h9.1, h9.2⟩⟩
  exact ⟨y1, key 10 (Or.inl rfl) y2, key 11 (Or.inr rfl) y3⟩
theorem pv_lay113 (hb : pt_lb K w0 fl wy) (h60 : fl.length + pt_sS (w0 9) (w0 10) wy fl ≤ 60) {z : ST} :
    ∀ (m b k : Nat) (w v : ST), b + m = fl.length → m < k → pt_lw w0 fl fl.length (fl.length + pt_sS (w0 9) (w0 10) wy (fl.take b)) w → pt_lv w0 fl wy v0 (fun b' _ => b' < b) fl.length (fl.length + pt_sS (w0 9) (w0 10) wy (fl.take b)) v →
      ∃ w' v', fX4_layBlocks_L113 (pu_I fl.length, z) k (pu_I b) w v = some (Sum.inr (w', v')) ∧ pt_lw w0 fl fl.length (fl.length + pt_sS (w0 9) (w0 10) wy fl) w' ∧ pt_lv w0 fl wy v0 (fun b' _ => b' < fl.length) fl.length (fl.length + pt_sS (w0 9) (w0 10) wy fl) v' := by
  intro m
  induction m with
  | zero =>
    intro b k w v hb2 hk hw hv
    obtain ⟨k', rfl⟩ : ∃ k', k = k' + 1 := ⟨k - 1, by omega⟩
    have hb3 : b = fl.length := by omega
    subst hb3
    rw [List.take_length] at hw hv
    refine ⟨w, v, ?_, hw, hv⟩
    show (if pu_I fl.length ≤ pu_I fl.length then some (Sum.inr (w, v)) else _) = _
    rw [if_pos (Int32.le_refl _)]
  | succ m ih =>
    intro b k w v hb2 hk hw hv
    obtain ⟨k', rfl⟩ : ∃ k', k = k' + 1 := ⟨k - 1, by omega⟩
    have hbC : b < fl.length := by omega
    obtain ⟨p, hp⟩ : ∃ p, fl[b]? = some p := ⟨fl[b], List.getElem?_eq_some_iff.mpr ⟨hbC, rfl⟩⟩
    have htk : fl.take (b + 1) = fl.take b ++ [p] := by rw [List.take_add_one, hp]; rfl
    have hsum : pt_sS (w0 9) (w0 10) wy (fl.take (b + 1)) = pt_sS (w0 9) (w0 10) wy (fl.take b) + (pt_s1 (w0 9) (w0 10) wy p + pt_s1 (w0 10) (w0 10) wy p) := by
      rw [htk, pt_sS_app]
      rfl
    have hall : pt_sS (w0 9) (w0 10) wy (fl.take (b + 1)) ≤ pt_sS (w0 9) (w0 10) wy fl := by
      have h9 : fl.take (b + 1) ++ fl.drop (b + 1) = fl := List.take_append_drop _ _
      have h8 := pt_sS_app (w0 9) (w0 10) wy (fl.take (b + 1)) (fl.drop (b + 1))
      rw [h9] at h8
      omega
    have hC60 : fl.length ≤ 60 := by omega
    obtain ⟨y1, _, _⟩ := hv.2.2.1 b p hbC hp
    have h60b : ixb (pu_I b) 60 = true := (pu_ix (by omega)).mpr (by omega)
    have hbn : nn (pu_I b) = b := pu_nn (by omega)
    have hstart : ∀ X Y : Option (Sum (Int32 × ST × ST) (ST × ST)), (if pu_I fl.length ≤ pu_I b then X else Y) = Y := fun X Y => by
      rw [if_neg (by rw [pu_le (by omega) (by omega)]; omega)]
    by_cases hfk : w0 10 p < 0
    · have hk9 : v 8 b ≠ 23 := by
        rw [y1]
        unfold pt_ke
        rw [if_pos hfk]
        by_cases h : w0 9 p < 0
        · rw [if_pos h]; decide
        · rw [if_neg h]; decide
      have hz1 : pt_s1 (w0 9) (w0 10) wy p = 0 := if_neg fun h => h.1 hfk
      have hz2 : pt_s1 (w0 10) (w0 10) wy p = 0 := if_neg fun h => h.1 hfk
      rw [hz1, hz2, Nat.add_zero, Nat.add_zero] at hsum
      obtain ⟨w', v', e1, e2, e3⟩ := ih (b + 1) k' w v (by omega) (by omega) (by rw [hsum]; exact hw) (by
        rw [hsum]
        refine pt_lv_pr hv fun b' p' hb' hp' r hr hs => ?_
        by_cases e : b' = b
        · rw [e, hp] at hp'
          injection hp' with hp'
          rw [← hp'] at hs
          rcases hr with rfl | rfl
          · rw [hz1] at hs; cases hs
          · rw [hz2] at hs; cases hs
        · exact ⟨fun h => Nat.lt_succ_of_lt h, fun h => by omega⟩)
      refine ⟨w', v', ?_, e2, e3⟩
      show (if pu_I fl.length ≤ pu_I b then some (Sum.inr (w, v)) else (if ixb (pu_I b) 60 = true then (if (v 8 (nn (pu_I b))) = 23 then _ else (fX4_layBlocks_J161 (fX4_layBlocks_L113 (pu_I fl.length, z) k') (pu_I b) w v)) else none)) = _
      rw [hstart, if_pos h60b, hbn, if_neg hk9]
      unfold fX4_layBlocks_J161
      rw [pu_su]
      exact e1
    · have hk9 : v 8 b = 23 := by
        rw [y1]
        unfold pt_ke
        rw [if_neg hfk]
      have hpos : ¬ (b < b) := Nat.lt_irrefl b
      obtain ⟨w1, v1, a1, a2, a3, a4⟩ := pv_splitWay10 hb (Nat.le_add_right _ _) hw hv hbC hp hfk hpos (by omega)
      obtain ⟨w2, v2, b1, b2, b3, b4⟩ := pv_splitWay11 hb (by omega) a2 a3 hbC hp hfk (fun h => by
        rcases h with h | h
        · exact hpos h
        · exact absurd h.2 (by decide)) (by omega)
      obtain ⟨w', v', e1, e2, e3⟩ := ih (b + 1) k' w2 v2 (by omega) (by omega) (by rw [hsum, ← Nat.add_assoc, ← Nat.add_assoc]; exact b2) (by
        rw [hsum, ← Nat.add_assoc, ← Nat.add_assoc]
        refine pt_lv_pr b3 fun b' p' hb' hp' r hr hs => ⟨fun h => ?_, fun h => ?_⟩
        · rcases h with (h | h) | h
          · exact Nat.lt_succ_of_lt h
          · rw [h.1]; exact Nat.lt_succ_self _
          · rw [h.1]; exact Nat.lt_succ_self _
        · by_cases e : b' = b
          · rcases hr with hr | hr
            · exact Or.inl (Or.inr ⟨e, hr⟩)
            · exact Or.inr ⟨e, hr⟩
          · exact Or.inl (Or.inl (by omega)))
      refine ⟨w', v', ?_, e2, e3⟩
      show (if pu_I fl.length ≤ pu_I b then some (Sum.inr (w, v)) else (if ixb (pu_I b) 60 = true then (if (v 8 (nn (pu_I b))) = 23 then ((fX4_splitWay_a3_p1_9 w v (pu_I b)).bind fun (o_23 : Int32 × ST × ST) => (if (o_23.1) = 0 then some (Sum.inl (0, (o_23.2.1), (o_23.2.2))) else ((fX4_splitWay_a3_p1_10 (o_23.2.1) (o_23.2.2) (pu_I b)).bind fun (o_26 : Int32 × ST × ST) => (if (o_26.1) = 0 then some (Sum.inl (0, (o_26.2.1), (o_26.2.2))) else (fX4_layBlocks_J161 (fX4_layBlocks_L113 (pu_I fl.length, z) k') (pu_I b) (o_26.2.1) (o_26.2.2)))))) else _) else none)) = _
      rw [hstart, if_pos h60b, hbn, if_pos hk9, a1, Option.bind_some, if_neg (show ¬ (1 : Int32) = 0 by decide)]
      show ((fX4_splitWay_a3_p1_10 w1 v1 (pu_I b)).bind _) = _
      rw [b1, Option.bind_some, if_neg (show ¬ (1 : Int32) = 0 by decide)]
      unfold fX4_layBlocks_J161
      rw [pu_su]
      exact e1
theorem pv_layBlocks {w v : ST} (hK0 : 0 < K) (hK : K ≤ 640) (h5 : w 0 5 = pu_I K) (hF : pt_fg K (w 9)) (hG : pt_fg K (w 10)) (hv0 : v 0 0 = 0) {X : Nat → Prop} (hX0 : X 0) (hXc : ∀ p q, p < K → q < K → X p → (w 9 p = pu_I q ∨ w 10 p = pu_I q) → X q) (h60 : ∀ fl : List Nat, fl.Nodup → (∀ p ∈ fl, p < K ∧ X p) → fl.length + pt_sS (w 9) (w 10) (pt_wy (w 9) (w 10) fl) fl ≤ 60) :
    ∃ fl wy w1 c w' v', fX4_layBlocks w v = some (1, w', v') ∧ pt_lb K w1 fl wy ∧ (∀ r, r ≠ 11 → r ≠ 12 → r ≠ 14 → w1 r = w r) ∧ wy = pt_wy (w 9) (w 10) fl ∧ pt_lw w1 fl fl.length c w' ∧ pt_lv w1 fl wy v (fun b _ => b < fl.length) fl.length c v' ∧ fl.length ≤ c ∧ c ≤ 60 := by
  obtain ⟨fl, w1, a1, ⟨i1, ⟨i2, i3, i4⟩, i5, i6, i7⟩, a3, a4⟩ := pv_reachPieces hK hK0 h5 hF hG hX0 hXc
  have h9 : w1 9 = w 9 := i1 9 (by decide) (by decide) (by decide)
  have h10 : w1 10 = w 10 := i1 10 (by decide) (by decide) (by decide)
  have hlen := pv_len K fl i2 i3
  have hb : pt_lb K w1 fl (pt_wy (w 9) (w 10) fl) := by
    refine ⟨⟨hK0, hK, by rw [i1 0 (by decide) (by decide) (by decide)]; exact h5⟩, ⟨i2, i3, i4⟩, by rw [h9]; exact hF, by rw [h10]; exact hG, i5, i7, fun p => ?_, fun p hp q hq he => ?_⟩
    · have := pt_wy_le (w 9) (w 10) fl p
      omega
    · rw [h9, h10] at he
      exact a3 p hp q hq he
  have hall : fl.length + pt_sS (w1 9) (w1 10) (pt_wy (w 9) (w 10) fl) fl ≤ 60 := by
    rw [h9, h10]
    exact h60 fl i2 fun p hp => ⟨i3 p hp, a4 p hp⟩
  obtain ⟨w2, v2, b1, b2, b3⟩ := pv_lay16 (v0 := v) (z := w1) hb (by omega) fl.length 0 NF w1 v (by omega) (by have := pv_NF; omega) ⟨fun r _ => rfl, fun b p h => absurd h (Nat.not_lt_zero _), fun s h1 h2 => absurd h2 (Nat.not_lt_zero _)⟩
    ⟨⟨hv0, fun i _ => rfl⟩, fun b h => absurd h (Nat.not_lt_zero _), fun b p h => absurd h (Nat.not_lt_zero _), fun s h1 h2 => absurd h2 (Nat.not_lt_zero _)⟩
  obtain ⟨w3, v3, c1, c2, c3⟩ := pv_lay113 (v0 := v) (z := w1) hb hall fl.length 0 NF w2 v2 (by omega) (by have := pv_NF; omega) (by rw [List.take_zero]; exact b2) (by
    rw [List.take_zero]
    exact pt_lv_pr b3 fun b p _ _ r _ _ => ⟨fun h => h.elim, fun h => absurd h (Nat.not_lt_zero _)⟩)
  refine ⟨fl, _, w1, _, w3, v3, ?_, hb, i1, rfl, c2, c3, Nat.le_add_right _ _, hall⟩
  unfold fX4_layBlocks
  rw [a1, Option.bind_some, if_pos (show pu_I fl.length ≤ (60 : Int32) from (pu_le (b := 60) (by omega) (by decide)).mpr (by omega))]
  have b1 : fX4_layBlocks_L16 (pu_I fl.length, w1) NF 0 w1 v = some (w2, v2) := b1
  have c1 : fX4_layBlocks_L113 (pu_I fl.length, w1) NF 0 w2 v2 = some (Sum.inr (w3, v3)) := c1
  show ((fX4_layBlocks_L16 (pu_I fl.length, w1) NF 0 w1 v).bind _) = _
  rw [b1, Option.bind_some]
  show ((fX4_layBlocks_L113 (pu_I fl.length, w1) NF 0 w2 v2).bind _) = _
  rw [c1, Option.bind_some]
  rfl
end LW
