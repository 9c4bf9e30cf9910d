/-! pure side, the reader 9: what the reader holds, and its smallest steps -/
section RDP
/-- the program that is written: n ops, L labels, V variables of function f; steps are at most T at a place -/
def rd_q (f : Nat) (pw : ST) (n L V T : Nat) : Prop :=
  (pw 0 7 = pu_I n ∧ pw 0 11 = pu_I L ∧ pw 5 f = pu_I V) ∧ (∀ x, x < n → ∃ t, pw 11 x = pu_I t ∧ t ≤ T) ∧ (∀ x, x < n → pw 9 x = 35 → ∃ m, m < L ∧ pw 10 x = pu_I m ∧ pw 13 m = pu_I x)
/-- a program goes on: what was written stays, steps may get more; new labels have numbers from lo on -/
def rd_y (f lo : Nat) (pw : ST) (n : Nat) (pw' : ST) (n' L' : Nat) : Prop :=
  n ≤ n' ∧ (∀ x, x < n → pw' 9 x = pw 9 x ∧ pw' 10 x = pw 10 x ∧ ∃ t t', pw 11 x = pu_I t ∧ pw' 11 x = pu_I t' ∧ t ≤ t' ∧ t' ≤ 1000) ∧ (∀ x, n ≤ x → x < n' → pw' 9 x = 35 → ∃ m, lo ≤ m ∧ m < L' ∧ pw' 10 x = pu_I m) ∧
  (∀ r, r ≠ 0 → r ≠ 5 → r ≠ 9 → r ≠ 10 → r ≠ 11 → r ≠ 13 → pw' r = pw r) ∧ (∀ g, g ≠ f → pw' 5 g = pw 5 g) ∧ pw' 0 0 = pw 0 0
variable {f lo n L V T : Nat} {pw : ST}
theorem rd_q_T {T' : Nat} (h : rd_q f pw n L V T) (hT : T ≤ T') : rd_q f pw n L V T' :=
  ⟨h.1, fun x hx => (h.2.1 x hx).elim fun t ht => ⟨t, ht.1, by omega⟩, h.2.2⟩
theorem rd_y_rf (h : rd_q f pw n L V T) (hT : T ≤ 1000) {L' : Nat} : rd_y f lo pw n pw n L' :=
  ⟨Nat.le_refl n, fun x hx => ⟨rfl, rfl, (h.2.1 x hx).elim fun t ht => ⟨t, t, ht.1, ht.1, Nat.le_refl t, by omega⟩⟩, fun x _ _ => by omega, fun _ _ _ _ _ _ _ => rfl, fun _ _ => rfl, rfl⟩
theorem rd_y_tr {pw1 pw2 : ST} {n1 n2 L1 L2 lo1 lo2 : Nat} (h1 : rd_y f lo1 pw n pw1 n1 L1) (h2 : rd_y f lo2 pw1 n1 pw2 n2 L2) (hl1 : lo ≤ lo1) (hl2 : lo ≤ lo2) (hL : L1 ≤ L2) : rd_y f lo pw n pw2 n2 L2 := by
  obtain ⟨a1, a2, a3, a4, a5, a6⟩ := h1
  obtain ⟨b1, b2, b3, b4, b5, b6⟩ := h2
  refine ⟨by omega, fun x hx => ?_, fun x x0 x1 h => ?_, fun r h0 h5 h9 h10 h11 h13 => by rw [b4 r h0 h5 h9 h10 h11 h13, a4 r h0 h5 h9 h10 h11 h13], fun g hg => by rw [b5 g hg, a5 g hg], by rw [b6, a6]⟩
  · obtain ⟨c1, c2, t, t', c3, c4, c5, c6⟩ := a2 x hx
    obtain ⟨d1, d2, s, s', d3, d4, d5, d6⟩ := b2 x (by omega)
    have e : t' = s := by
      rw [c4] at d3
      exact pu_inj (by omega) (by omega) d3
    exact ⟨by rw [d1, c1], by rw [d2, c2], t, s', c3, d4, by omega, d6⟩
  · by_cases e : x < n1
    · obtain ⟨d1, d2, _⟩ := b2 x e
      rw [d1] at h
      obtain ⟨m, m1, m2, m3⟩ := a3 x x0 e h
      exact ⟨m, by omega, by omega, by rw [d2]; exact m3⟩
    · obtain ⟨m, m1, m2, m3⟩ := b3 x (by omega) x1 h
      exact ⟨m, by omega, m2, m3⟩
/-- an op is written -/
theorem rd_put0 (h : rd_q f pw n L V T) (hn : n < 3200) (k a t : Int32) :
    ∃ pw', fX6_emit pw k a t = some pw' ∧ pw' 0 7 = pu_I (n + 1) ∧ (pw' 9 n = k ∧ pw' 10 n = a ∧ pw' 11 n = t) ∧ (∀ r z, r ≠ 0 → z ≠ n → pw' r z = pw r z) ∧ (∀ r, r ≠ 0 → r ≠ 9 → r ≠ 10 → r ≠ 11 → pw' r = pw r) ∧ (∀ j, j ≠ 7 → pw' 0 j = pw 0 j) := by
  obtain ⟨⟨h7, _, _⟩, _⟩ := h
  have hix : ixb (pu_I n) 3200 = true := (pu_ix (by omega)).mpr hn
  obtain ⟨w3, hw3⟩ : ∃ w3, w3 = upw pw 9 n k := ⟨_, rfl⟩
  obtain ⟨w5, hw5⟩ : ∃ w5, w5 = upw w3 10 n a := ⟨_, rfl⟩
  obtain ⟨w7, hw7⟩ : ∃ w7, w7 = upw w5 11 n t := ⟨_, rfl⟩
  have h37 : w3 0 7 = pu_I n := by rw [hw3, pv_upw_n (by decide)]; exact h7
  have h57 : w5 0 7 = pu_I n := by rw [hw5, pv_upw_n (by decide)]; exact h37
  have h77 : w7 0 7 = pu_I n := by rw [hw7, pv_upw_n (by decide)]; exact h57
  refine ⟨upw w7 0 7 (pu_I (n + 1)), ?_, by rw [pv_upw, if_pos ⟨rfl, rfl⟩], ⟨?_, ?_, ?_⟩, fun r z hr hz => ?_, fun r h0 h9 h10 h11 => ?_, fun j hj => ?_⟩
  · unfold fX6_emit fX6_emit_J50 lt9
    dsimp only
    rw [h7, if_neg (by rw [show (3200 : Int32) = pu_I 3200 from rfl, pu_le (by decide) (by omega)]; omega), if_pos hix, pu_nn (show n < 2147483648 by omega), ← hw3, h37, if_pos hix, pu_nn (show n < 2147483648 by omega), ← hw5, h57, if_pos hix, pu_nn (show n < 2147483648 by omega), ← hw7, h77, pu_su]
  · rw [pv_upw_n (by decide), hw7, pv_upw_n (by decide), hw5, pv_upw_n (by decide), hw3, pv_upw, if_pos ⟨rfl, rfl⟩]
  · rw [pv_upw_n (by decide), hw7, pv_upw_n (by decide), hw5, pv_upw, if_pos ⟨rfl, rfl⟩]
  · rw [pv_upw_n (by decide), hw7, pv_upw, if_pos ⟨rfl, rfl⟩]
  · rw [pv_upw_n hr, hw7, pv_upw, if_neg (fun q => hz q.2), hw5, pv_upw, if_neg (fun q => hz q.2), hw3, pv_upw, if_neg (fun q => hz q.2)]
  · rw [pv_upw_n h0, hw7, pv_upw_n h11, hw5, pv_upw_n h10, hw3, pv_upw_n h9]
  · rw [pv_upw, if_neg (by omega), hw7, pv_upw_n (by decide), hw5, pv_upw_n (by decide), hw3, pv_upw_n (by decide)]
theorem rd_emit (h : rd_q f pw n L V T) (hn : n < 3200) (hT : T ≤ 1000) {k a : Int32} {t0 : Nat} (hk : k ≠ 35) (ht : t0 ≤ T) {lo : Nat} :
    ∃ pw', fX6_emit pw k a (pu_I t0) = some pw' ∧ rd_q f pw' (n + 1) L V T ∧ rd_y f lo pw n pw' (n + 1) L ∧ (pw' 9 n = k ∧ pw' 10 n = a ∧ pw' 11 n = pu_I t0) := by
  obtain ⟨pw', e1, e2, ⟨e3, e4, e5⟩, e6, e7, e8⟩ := rd_put0 h hn k a (pu_I t0)
  obtain ⟨⟨h7, h11, h5⟩, hk1, hl⟩ := h
  refine ⟨pw', e1, ⟨⟨e2, by rw [e8 11 (by decide)]; exact h11, by rw [e7 5 (by decide) (by decide) (by decide) (by decide)]; exact h5⟩, fun x hx => ?_, fun x hx h35 => ?_⟩, ⟨by omega, fun x hx => ?_, fun x x0 x1 h35 => ?_, fun r h0 h5 h9 h10 h11 h13 => e7 r h0 h9 h10 h11, fun g hg => by rw [e7 5 (by decide) (by decide) (by decide) (by decide)], e8 0 (by decide)⟩, e3, e4, e5⟩
  · by_cases e : x = n
    · exact ⟨t0, by rw [e]; exact e5, ht⟩
    · rw [e6 11 x (by decide) e]; exact hk1 x (by omega)
  · by_cases e : x = n
    · rw [e, e3] at h35; exact absurd h35 hk
    · rw [e6 9 x (by decide) e] at h35
      rw [e6 10 x (by decide) e, e7 13 (by decide) (by decide) (by decide) (by decide)]
      exact hl x (by omega) h35
  · obtain ⟨t, t1, t2⟩ := hk1 x hx
    exact ⟨e6 9 x (by decide) (by omega), e6 10 x (by decide) (by omega), t, t, t1, by rw [e6 11 x (by decide) (by omega)]; exact t1, Nat.le_refl t, by omega⟩
  · rw [show x = n by omega, e3] at h35
    exact absurd h35 hk
/-- a step more begins at an op -/
theorem rd_tick (h : rd_q f pw n L V T) {x : Nat} (hx : x < n) (hn : n ≤ 3200) (hT : T + 1 ≤ 1000) {lo : Nat} :
    ∃ pw', fX6_tick pw (pu_I x) = some pw' ∧ rd_q f pw' n L V (T + 1) ∧ rd_y f lo pw n pw' n L ∧ (∃ t, 1 ≤ t ∧ t ≤ 1000 ∧ pw' 11 x = pu_I t) ∧ pw' 9 = pw 9 ∧ pw' 10 = pw 10 := by
  obtain ⟨⟨h7, h11, h5⟩, hk1, hl⟩ := h
  obtain ⟨t, t1, t2⟩ := hk1 x hx
  have hix : ixb (pu_I x) 3200 = true := (pu_ix (by omega)).mpr (by omega)
  have hup : ∀ z, upw pw 11 x (pu_I (t + 1)) 11 z = if z = x then pu_I (t + 1) else pw 11 z := fun z => by
    rw [pv_upw]
    by_cases e : z = x
    · rw [if_pos ⟨rfl, e⟩, if_pos e]
    · rw [if_neg (fun q => e q.2), if_neg e]
  refine ⟨upw pw 11 x (pu_I (t + 1)), ?_, ⟨⟨by rw [pv_upw_n (by decide)]; exact h7, by rw [pv_upw_n (by decide)]; exact h11, by rw [pv_upw_n (by decide)]; exact h5⟩, fun z hz => ?_, fun z hz h35 => ?_⟩, ⟨Nat.le_refl n, fun z hz => ⟨by rw [pv_upw_n (by decide)], by rw [pv_upw_n (by decide)], ?_⟩, fun z _ _ => by omega, fun r h0 h5 h9 h10 h11 h13 => pv_upw_n h11, fun g hg => by rw [pv_upw_n (by decide)], by rw [pv_upw_n (by decide)]⟩, ⟨t + 1, by omega, by omega, by rw [hup, if_pos rfl]⟩, pv_upw_n (by decide), pv_upw_n (by decide)⟩
  · unfold fX6_tick fX6_tick_J17 lt9
    dsimp only
    rw [if_neg (by rw [show (3200 : Int32) = pu_I 3200 from rfl, pu_le (by decide) (by omega)]; omega), if_pos hix, if_pos hix, pu_nn (show x < 2147483648 by omega), t1, pu_su]
  · rw [hup]
    by_cases e : z = x
    · rw [if_pos e]; exact ⟨t + 1, rfl, by omega⟩
    · rw [if_neg e]
      obtain ⟨s, s1, s2⟩ := hk1 z hz
      exact ⟨s, s1, by omega⟩
  · rw [pv_upw_n (by decide)] at h35
    rw [pv_upw_n (by decide), pv_upw_n (by decide)]
    exact hl z hz h35
  · rw [hup]
    obtain ⟨s, s1, s2⟩ := hk1 z hz
    by_cases e : z = x
    · rw [if_pos e]
      subst e
      exact ⟨t, t + 1, t1, rfl, by omega, by omega⟩
    · rw [if_neg e]
      exact ⟨s, s, s1, s1, Nat.le_refl s, by omega⟩
/-- a new label -/
theorem rd_lab (h : rd_q f pw n L V T) (hL : L < 640) (hT : T ≤ 1000) {lo : Nat} :
    ∃ pw', fX6_newLabel pw = some (pu_I L, pw') ∧ rd_q f pw' n (L + 1) V T ∧ rd_y f lo pw n pw' n (L + 1) ∧ ∀ r, r ≠ 0 → pw' r = pw r := by
  obtain ⟨⟨h7, h11, h5⟩, hk1, hl⟩ := id h
  have h1 : upw pw 0 11 (pu_I (L + 1)) 0 11 = pu_I (L + 1) := by rw [pv_upw, if_pos ⟨rfl, rfl⟩]
  refine ⟨upw pw 0 11 (pu_I (L + 1)), ?_, ⟨⟨by rw [pv_upw, if_neg (by decide)]; exact h7, h1, by rw [pv_upw_n (by decide)]; exact h5⟩, fun z hz => by rw [pv_upw_n (by decide)]; exact hk1 z hz, fun z hz h35 => ?_⟩, ⟨Nat.le_refl n, fun z hz => ⟨by rw [pv_upw_n (by decide)], by rw [pv_upw_n (by decide)], ?_⟩, fun z _ _ => by omega, fun r h0 _ _ _ _ _ => pv_upw_n h0, fun g hg => by rw [pv_upw_n (by decide)], by rw [pv_upw, if_neg (by decide)]⟩, fun r hr => pv_upw_n hr⟩
  · unfold fX6_newLabel fX6_newLabel_J20 lt9
    dsimp only
    rw [h11, if_neg (by rw [show (640 : Int32) = pu_I 640 from rfl, pu_le (by decide) (by omega)]; omega), pu_su, h1, show (1 : Int32) = pu_I 1 from rfl, pu_sub (by omega)]
    rfl
  · rw [pv_upw_n (by decide)] at h35
    rw [pv_upw_n (by decide), pv_upw_n (by decide)]
    obtain ⟨m, m1, m2⟩ := hl z hz h35
    exact ⟨m, by omega, m2⟩
  · rw [pv_upw_n (by decide)]
    obtain ⟨s, s1, s2⟩ := hk1 z hz
    exact ⟨s, s, s1, s1, Nat.le_refl s, by omega⟩
/-- a label is put -/
theorem rd_putl (h : rd_q f pw n L V T) (hn : n < 3200) (hT : T ≤ 1000) {m : Nat} (hm : m < L) (hL : L ≤ 640) (hlo : lo ≤ m) (hu : ∀ x, x < n → pw 9 x = 35 → pw 10 x ≠ pu_I m) :
    ∃ pw', fX6_putLabel pw (pu_I m) = some pw' ∧ rd_q f pw' (n + 1) L V T ∧ rd_y f lo pw n pw' (n + 1) L ∧ (pw' 9 n = 35 ∧ pw' 10 n = pu_I m ∧ pw' 11 n = 0) := by
  obtain ⟨⟨h7, h11, h5⟩, hk1, hl⟩ := id h
  obtain ⟨w2, hw2⟩ : ∃ w2, w2 = upw pw 13 m (pu_I n) := ⟨_, rfl⟩
  have h13 : ∀ r, r ≠ 13 → w2 r = pw r := fun r hr => by rw [hw2, pv_upw_n hr]
  have h213 : ∀ z, w2 13 z = if z = m then pu_I n else pw 13 z := fun z => by
    rw [hw2, pv_upw]
    by_cases e : z = m
    · rw [if_pos ⟨rfl, e⟩, if_pos e]
    · rw [if_neg (fun q => e q.2), if_neg e]
  have hq2 : rd_q f w2 n L V T := by
    refine ⟨⟨by rw [h13 0 (by decide)]; exact h7, by rw [h13 0 (by decide)]; exact h11, by rw [h13 5 (by decide)]; exact h5⟩, fun x hx => by rw [h13 11 (by decide)]; exact hk1 x hx, fun x hx h35 => ?_⟩
    rw [h13 9 (by decide)] at h35
    obtain ⟨k, k1, k2, k3⟩ := hl x hx h35
    refine ⟨k, k1, by rw [h13 10 (by decide)]; exact k2, ?_⟩
    rw [h213, if_neg (fun e => hu x hx h35 (by rw [k2, e]))]
    exact k3
  obtain ⟨pw', e1, e2, ⟨e3, e4, e5⟩, e6, e7, e8⟩ := rd_put0 hq2 hn 35 (pu_I m) 0
  obtain ⟨⟨g7, g11, g5⟩, gk1, gl⟩ := hq2
  refine ⟨pw', ?_, ⟨⟨e2, by rw [e8 11 (by decide)]; exact g11, by rw [e7 5 (by decide) (by decide) (by decide) (by decide)]; exact g5⟩, fun x hx => ?_, fun x hx h35 => ?_⟩, ⟨by omega, fun x hx => ?_, fun x x0 x1 h35 => ⟨m, hlo, hm, by rw [show x = n by omega]; exact e4⟩, fun r h0 h5 h9 h10 h11 h13' => by rw [e7 r h0 h9 h10 h11, h13 r h13'], fun g hg => by rw [e7 5 (by decide) (by decide) (by decide) (by decide), h13 5 (by decide)], by rw [e8 0 (by decide), h13 0 (by decide)]⟩, e3, e4, e5⟩
  · unfold fX6_putLabel lt9
    dsimp only
    rw [if_pos ((pu_ix (by omega)).mpr (by omega)), pu_nn (show m < 2147483648 by omega), h7, ← hw2, e1]
    rfl
  · by_cases e : x = n
    · exact ⟨0, by rw [e]; exact e5, Nat.zero_le T⟩
    · rw [e6 11 x (by decide) e]; exact gk1 x (by omega)
  · by_cases e : x = n
    · refine ⟨m, hm, by rw [e]; exact e4, ?_⟩
      rw [e7 13 (by decide) (by decide) (by decide) (by decide), h213, if_pos rfl, e]
    · rw [e6 9 x (by decide) e] at h35
      rw [e6 10 x (by decide) e, e7 13 (by decide) (by decide) (by decide) (by decide)]
      exact gl x (by omega) h35
  · obtain ⟨t, t1, t2⟩ := hk1 x hx
    refine ⟨?_, ?_, t, t, t1, ?_, Nat.le_refl t, by omega⟩
    · rw [e6 9 x (by decide) (by omega), h13 9 (by decide)]
    · rw [e6 10 x (by decide) (by omega), h13 10 (by decide)]
    · rw [e6 11 x (by decide) (by omega), h13 11 (by decide)]; exact t1
/-- a new variable -/
theorem rd_var (h : rd_q f pw n L V T) (hf : f < 6) (hV : V < 320) (hT : T ≤ 1000) {lo : Nat} :
    ∃ pw', fX6_newVariable pw (pu_I f) = some (pu_I V, pw') ∧ rd_q f pw' n L (V + 1) T ∧ rd_y f lo pw n pw' n L ∧ ∀ r, r ≠ 5 → pw' r = pw r := by
  obtain ⟨⟨h7, h11, h5⟩, hk1, hl⟩ := id h
  have hix : ixb (pu_I f) 6 = true := (pu_ix (by omega)).mpr hf
  have h1 : upw pw 5 f (pu_I (V + 1)) 5 f = pu_I (V + 1) := by rw [pv_upw, if_pos ⟨rfl, rfl⟩]
  refine ⟨upw pw 5 f (pu_I (V + 1)), ?_, ⟨⟨by rw [pv_upw_n (by decide)]; exact h7, by rw [pv_upw_n (by decide)]; exact h11, h1⟩, fun z hz => by rw [pv_upw_n (by decide)]; exact hk1 z hz, fun z hz h35 => ?_⟩, ⟨Nat.le_refl n, fun z hz => ⟨by rw [pv_upw_n (by decide)], by rw [pv_upw_n (by decide)], ?_⟩, fun z _ _ => by omega, fun r _ h5 _ _ _ _ => pv_upw_n h5, fun g hg => by rw [pv_upw, if_neg (fun q => hg q.2)], by rw [pv_upw_n (by decide)]⟩, fun r hr => pv_upw_n hr⟩
  · unfold fX6_newVariable fX6_newVariable_J22 lt9
    dsimp only
    rw [if_pos hix, pu_nn (show f < 2147483648 by omega), h5, if_neg (by rw [show (320 : Int32) = pu_I 320 from rfl, pu_le (by decide) (by omega)]; omega), if_pos hix, if_pos hix, if_pos hix, pu_su, h1, show (1 : Int32) = pu_I 1 from rfl, pu_sub (by omega)]
    rfl
  · rw [pv_upw_n (by decide)] at h35
    rw [pv_upw_n (by decide), pv_upw_n (by decide)]
    exact hl z hz h35
  · rw [pv_upw_n (by decide)]
    obtain ⟨s, s1, s2⟩ := hk1 z hz
    exact ⟨s, s, s1, s1, Nat.le_refl s, by omega⟩
end RDP
