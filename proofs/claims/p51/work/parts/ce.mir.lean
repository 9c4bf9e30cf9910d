/-! pure side, the graph 12: a row of a set, bit by bit; near ones are mirrored -/
/-- a loop over the words of a row, with a loop over the bits of each -/
theorem pg_row {σ τ : Type} {wd : Nat} {G1 : Nat → Int32 → σ → Option τ} {G2 : Nat → Nat → Int64 → σ → Option σ} {word : Nat → Int64} {Inv : Nat → σ → Prop} {Q : τ → Prop} (hwd : wd < 1000)
    (h1 : ∀ k j s, j < wd → Inv (j * 64) s → G1 (k + 1) (pu_I j) s = (G2 j NF (word j) s).bind fun s' => G1 k (pu_I (j + 1)) s')
    (he1 : ∀ k s, Inv (wd * 64) s → ∃ t, G1 (k + 1) (pu_I wd) s = some t ∧ Q t)
    (h2 : ∀ j k x i s, j < wd → x ≠ 0 → i < 64 → pv_bt (word j) i = true → fX11_lowest x = some (pu_I i) → Inv (j * 64 + i) s → ∃ s', G2 j (k + 1) x s = G2 j k (x &&& (x - (1 : Int64))) s' ∧ Inv (j * 64 + i + 1) s')
    (hn : ∀ j i s, j < wd → i < 64 → pv_bt (word j) i = false → Inv (j * 64 + i) s → Inv (j * 64 + i + 1) s)
    (he2 : ∀ j k s, G2 j (k + 1) 0 s = some s) :
    ∀ (m j k : Nat) (s : σ), j + m = wd → m < k → Inv (j * 64) s → ∃ t, G1 k (pu_I j) s = some t ∧ Q t := by
  intro m
  induction m with
  | zero =>
    intro j k s hj hk hI
    obtain ⟨k', rfl⟩ : ∃ k', k = k' + 1 := ⟨k - 1, by omega⟩
    obtain rfl : j = wd := by omega
    exact he1 k' s hI
  | succ m ih =>
    intro j k s hj hk hI
    obtain ⟨k', rfl⟩ : ∃ k', k = k' + 1 := ⟨k - 1, by omega⟩
    have hjw : j < wd := by omega
    obtain ⟨t, e1, e2⟩ := pg_bits (G := fun k x s => G2 j k x s) (x0 := word j) (Inv := fun i s => Inv (j * 64 + i) s) (Q := fun s => Inv ((j + 1) * 64) s)
      (fun k x i s hx hi hb hl hI => h2 j k x i s hjw hx hi hb hl hI)
      (fun i s hi hb hI => hn j i s hjw hi hb hI)
      (fun k s hI => ⟨s, he2 j k s, by rw [show (j + 1) * 64 = j * 64 + 64 by omega]; exact hI⟩)
      64 0 NF (word j) s (by omega) (by have := pv_NF; omega) (fun i => by rw [decide_eq_true (Nat.zero_le i), Bool.and_true]) hI
    rw [h1 k' j s hjw hI, e1, Option.bind_some]
    exact ih (j + 1) k' t (by omega) (by omega) e2
section MIR
variable {n : Nat → Nat} {w : ST} {l : SL} {V H wd : Nat}
/-- near ones of one home are mirrored -/
theorem pg_mirror1 (hw2 : w 0 2 = pu_I wd) (hwd : wd < 1000) (hH : H ≤ wd * 64) (hHV : H ≤ V) (hV : V < 1000000) (h11 : V * wd ≤ n 11) (hn11 : n 11 < 1000000) (hcol : ∀ v h, v < V → h < wd * 64 → pg_g l 11 wd v h = true → h < H) {i : Nat} (hi : i < H) :
    ∃ l', fX2_mirror_L12 n w (pu_I i) NF 0 l = some l' ∧ (∀ r, r ≠ 11 → l' r = l r) ∧ ∀ v h, v < V → h < wd * 64 → (pg_g l' 11 wd v h = true ↔ pg_g l 11 wd v h = true ∨ (h = i ∧ v < H ∧ pg_g l 11 wd i v = true)) := by
  have hi64 : i < wd * 64 := by omega
  obtain ⟨t, e1, e2⟩ := pg_row (wd := wd) (G1 := fun k x (s : SL) => fX2_mirror_L12 n w (pu_I i) k x s) (G2 := fun j k x (s : SL) => fX2_mirror_L34 n w (pu_I i) (pu_I j) k x s) (word := fun j => l 11 (i * wd + j))
    (Inv := fun c (s : SL) => (∀ r, r ≠ 11 → s r = l r) ∧ ∀ v h, v < V → h < wd * 64 → (pg_g s 11 wd v h = true ↔ pg_g l 11 wd v h = true ∨ (h = i ∧ v < c ∧ v < H ∧ pg_g l 11 wd i v = true)))
    (Q := fun s => (∀ r, r ≠ 11 → s r = l r) ∧ ∀ v h, v < V → h < wd * 64 → (pg_g s 11 wd v h = true ↔ pg_g l 11 wd v h = true ∨ (h = i ∧ v < H ∧ pg_g l 11 wd i v = true))) hwd
    (fun k j s hj hI => by
      have hlt : i * wd + j < V * wd := pg_ixlt (by omega) hj
      have hword : s 11 (i * wd + j) = l 11 (i * wd + j) := pv_bt_ext fun b hb => by
        have h9 := hI.2 i (j * 64 + b) (by omega) (by omega)
        have h8 : ∀ (q : SL), pg_g q 11 wd i (j * 64 + b) = pv_bt (q 11 (i * wd + j)) b := fun q => by
          unfold pg_g
          rw [show (j * 64 + b) / 64 = j by omega, show (j * 64 + b) % 64 = b by omega]
        rw [h8, h8] at h9
        rw [Bool.eq_iff_iff, h9]
        exact ⟨fun h => h.elim id fun ⟨q1, q2, _, _⟩ => absurd q2 (by omega), Or.inl⟩
      show (if (w 0 2) ≤ pu_I j then some s else (if ixb ((pu_I i * (w 0 2)) + pu_I j) (n 11) = true then ((fX2_mirror_L34 n w (pu_I i) (pu_I j) NF (s 11 (nn ((pu_I i * (w 0 2)) + pu_I j))) s).bind fun (o34 : SL) => ((fX2_mirror_L12 n w (pu_I i) k) (pu_I j + 1) o34)) else none)) = _
      rw [hw2, if_neg (by rw [pu_le (by omega) (by omega)]; omega), pv_mul, pv_add, if_pos ((pu_ix (by omega)).mpr (by omega)), pu_nn (show i * wd + j < 2147483648 by omega), hword, pu_su])
    (fun k s hI => ⟨s, by
      show (if (w 0 2) ≤ pu_I wd then some s else _) = _
      rw [hw2, if_pos (Int32.le_refl _)], hI.1, fun v h hv hh => by
        rw [hI.2 v h hv hh]
        exact ⟨fun q => q.imp id fun q => ⟨q.1, q.2.2⟩, fun q => q.imp id fun q => ⟨q.1, by omega, q.2⟩⟩⟩)
    (fun j k x c s hj hx hc hb hl hI => by
      have hg : pg_g l 11 wd i (j * 64 + c) = true := by
        unfold pg_g
        rw [show (j * 64 + c) / 64 = j by omega, show (j * 64 + c) % 64 = c by omega]
        exact hb
      have hcH := hcol i (j * 64 + c) (by omega) (by omega) hg
      have hlt : (j * 64 + c) * wd + i / 64 < V * wd := pg_ixlt (by omega) (by omega)
      refine ⟨pg_up s 11 wd (j * 64 + c) i, ?_, fun r hr => by rw [pg_up_n hr, hI.1 r hr], fun v h hv hh => ?_⟩
      · show (if (lg_cmp x (0 : Int64)) = 0 then some s else ((fX11_lowest x).bind fun (o_5 : Int32) => ((fX2_put_a1_p0_10 n w s ((pu_I j * 64) + o_5) (pu_I i)).bind fun (o_7 : SL) => ((fX2_mirror_L34 n w (pu_I i) (pu_I j) k) (x &&& (x - (1 : Int64))) o_7)))) = _
        rw [if_neg (fun h => hx ((pv_cmp0 _ _).mp h)), hl, Option.bind_some, show (64 : Int32) = pu_I 64 from rfl, pv_mul, pv_add, pg_put10 hw2 (by omega) (by omega) hn11, Option.bind_some]
      · rw [pg_up_g s 11 wd (j * 64 + c) i (by omega) (by omega), Bool.or_eq_true, decide_eq_true_iff, hI.2 v h hv hh]
        constructor
        · rintro ((q | ⟨q1, q2, q3⟩) | ⟨q1, q2⟩)
          · exact Or.inl q
          · exact Or.inr ⟨q1, by omega, q3⟩
          · exact Or.inr ⟨q2, by omega, by omega, by rw [q1]; exact hg⟩
        · rintro (q | ⟨q1, q2, q3, q4⟩)
          · exact Or.inl (Or.inl q)
          · by_cases e : v = j * 64 + c
            · exact Or.inr ⟨e, q1⟩
            · exact Or.inl (Or.inr ⟨q1, by omega, q3, q4⟩))
    (fun j c s hj hc hb hI => ⟨hI.1, fun v h hv hh => by
      rw [hI.2 v h hv hh]
      refine ⟨fun q => q.imp id fun q => ⟨q.1, by omega, q.2.2⟩, fun q => q.imp id fun ⟨q1, q2, q3, q4⟩ => ⟨q1, ?_, q3, q4⟩⟩
      by_cases e : v = j * 64 + c
      · rw [e] at q4
        unfold pg_g at q4
        rw [show (j * 64 + c) / 64 = j by omega, show (j * 64 + c) % 64 = c by omega] at q4
        have hb : pv_bt (l 11 (i * wd + j)) c = false := hb
        rw [hb] at q4
        cases q4
      · omega⟩)
    (fun j k s => rfl)
    wd 0 NF l (by omega) (by have := pv_NF; omega) ⟨fun _ _ => rfl, fun v h _ _ => ⟨Or.inl, fun q => q.elim id fun q => by omega⟩⟩
  exact ⟨t, e1, e2⟩
theorem pg_mirror (hw0 : w 0 0 = pu_I H) (hw2 : w 0 2 = pu_I wd) (hwd : wd < 1000) (hH : H ≤ wd * 64) (hHV : H ≤ V) (hV : V < 1000000) (h11 : V * wd ≤ n 11) (hn11 : n 11 < 1000000) (hcol : ∀ v h, v < V → h < wd * 64 → pg_g l 11 wd v h = true → h < H) :
    ∃ l', fX2_mirror n w l = some l' ∧ (∀ r, r ≠ 11 → l' r = l r) ∧ (∀ v h, v < V → h < wd * 64 → pg_g l 11 wd v h = true → pg_g l' 11 wd v h = true) ∧ (∀ v h, v < V → h < wd * 64 → pg_g l' 11 wd v h = true → h < H) ∧
      (∀ v h, v < H → h < H → pg_g l' 11 wd v h = true → pg_g l' 11 wd h v = true) := by
  obtain ⟨t, e1, e2, e3, e4, e5⟩ := pv_for (G := fun k i (s : SL) => fX2_mirror_L2 n w k i s) (hi := H)
    (Inv := fun i (s : SL) => (∀ r, r ≠ 11 → s r = l r) ∧ (∀ v h, v < V → h < wd * 64 → pg_g l 11 wd v h = true → pg_g s 11 wd v h = true) ∧ (∀ v h, v < V → h < wd * 64 → pg_g s 11 wd v h = true → h < H) ∧ (∀ v h, v < i → v < H → h < H → pg_g s 11 wd v h = true → pg_g s 11 wd h v = true))
    (Q := fun (s : SL) => (∀ r, r ≠ 11 → s r = l r) ∧ (∀ v h, v < V → h < wd * 64 → pg_g l 11 wd v h = true → pg_g s 11 wd v h = true) ∧ (∀ v h, v < V → h < wd * 64 → pg_g s 11 wd v h = true → h < H) ∧ (∀ v h, v < H → h < H → pg_g s 11 wd v h = true → pg_g s 11 wd h v = true))
    (fun k i s hi hI => by
      obtain ⟨i1, i2, i3, i4⟩ := hI
      obtain ⟨s', a1, a2, a3⟩ := pg_mirror1 (n := n) hw2 hwd hH hHV hV h11 hn11 i3 hi
      refine ⟨s', ?_, fun r hr => by rw [a2 r hr, i1 r hr], fun v h hv hh h1 => (a3 v h hv hh).mpr (Or.inl (i2 v h hv hh h1)), fun v h hv hh h1 => ?_, fun v h hv hvH hhH h1 => ?_⟩
      · show (if (w 0 0) ≤ pu_I i then some s else ((fX2_mirror_L12 n w (pu_I i) NF 0 s).bind fun (o12 : SL) => ((fX2_mirror_L2 n w k) (pu_I i + 1) o12))) = _
        rw [hw0, if_neg (by rw [pu_le (by omega) (by omega)]; omega), a1, Option.bind_some, pu_su]
      · rcases (a3 v h hv hh).mp h1 with q | q
        · exact i3 v h hv hh q
        · rw [q.1]; exact hi
      · rw [a3 h v (by omega) (by omega)]
        rcases (a3 v h (by omega) (by omega)).mp h1 with q | ⟨q1, q2, q3⟩
        · by_cases e : v = i
          · rw [e] at q
            exact Or.inr ⟨e, hhH, q⟩
          · exact Or.inl (i4 v h (by omega) hvH hhH q)
        · rw [q1]
          exact Or.inl q3)
    (fun k s hI => ⟨s, by
      show (if (w 0 0) ≤ pu_I H then some s else _) = _
      rw [hw0, if_pos (Int32.le_refl _)], hI.1, hI.2.1, hI.2.2.1, fun v h hv => hI.2.2.2 v h hv hv⟩)
    H 0 NF l (by omega) (by have := pv_NF; omega) ⟨fun _ _ => rfl, fun _ _ _ _ h => h, hcol, fun v h hv => by omega⟩
  refine ⟨t, ?_, e2, e3, e4, e5⟩
  have e1 : fX2_mirror_L2 n w NF 0 l = some t := e1
  unfold fX2_mirror
  rw [e1]
  rfl
/-- neighbours -/
def pg_ad (w : ST) (l : SL) (H wd v u : Nat) : Bool := if u < H then pg_g l 11 wd v u else if v < H then pg_g l 11 wd u v else decide (w 12 v = pu_I u)
def pg_dg (w : ST) (l : SL) (H V wd v : Nat) : Nat := pv_sm (fun u => if pg_ad w l H wd v u = true then 1 else 0) V
theorem pg_sm64 (f : Nat → Nat) : ∀ j, pv_sm f (j * 64) = pv_sm (fun i => pv_sm (fun b => f (i * 64 + b)) 64) j := by
  intro j
  induction j with
  | zero => rfl
  | succ j ih =>
    rw [show (j + 1) * 64 = j * 64 + 64 by omega, pv_sm_add, ih]
    rfl
theorem pg_sm_z {f : Nat → Nat} {a : Nat} : ∀ k, (∀ i, a ≤ i → i < a + k → f i = 0) → pv_sm f (a + k) = pv_sm f a := by
  intro k
  induction k with
  | zero => intro _; rfl
  | succ k ih =>
    intro h
    show pv_sm f (a + k) + f (a + k) = pv_sm f a
    rw [ih fun i h1 h2 => h i h1 (by omega), h (a + k) (by omega) (by omega)]
    rfl
/-- the count of a row's words is that of its homes -/
theorem pg_rowc (hH : H ≤ wd * 64) (hcol : ∀ h, h < wd * 64 → ∀ v, v < V → pg_g l 11 wd v h = true → h < H) {v : Nat} (hv : v < V) :
    pv_sm (fun j => pv_sm (fun b => if pv_bt (l 11 (v * wd + j)) b = true then 1 else 0) 64) wd = pv_sm (fun u => if pg_g l 11 wd v u = true then 1 else 0) H := by
  have h1 : pv_sm (fun j => pv_sm (fun b => if pv_bt (l 11 (v * wd + j)) b = true then 1 else 0) 64) wd = pv_sm (fun u => if pg_g l 11 wd v u = true then 1 else 0) (wd * 64) := by
    rw [pg_sm64]
    refine pv_sm_cg wd fun j _ => ?_
    refine pv_sm_cg 64 fun b hb => ?_
    show (if pv_bt (l 11 (v * wd + j)) b = true then 1 else 0) = (if pg_g l 11 wd v (j * 64 + b) = true then 1 else 0)
    unfold pg_g
    rw [show (j * 64 + b) / 64 = j by omega, show (j * 64 + b) % 64 = b by omega]
  rw [h1, show wd * 64 = H + (wd * 64 - H) by omega]
  refine pg_sm_z _ fun i h2 h3 => ?_
  rw [if_neg]
  intro h
  have := hcol i (by omega) v hv h
  omega
end MIR
