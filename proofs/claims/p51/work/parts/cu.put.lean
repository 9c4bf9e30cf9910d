/-! pure side, the allocator 20: values put away, one step -/
def pa_Sb (w : ST) (V : Nat) (x : Int32) : Bool := decide (¬ x < 0 ∧ nn x < V ∧ w 13 (nn x) ≠ -1)
def pa_ns (w : ST) (x : Int32) : Bool := decide (w 13 (nn x) = -2)
def pa_sl (w : ST) (x : Int32) : Int32 := w 13 (nn x)
def pa_nm (w : ST) (x : Int32) : Int32 := w 14 (nn x)
section PUT
variable {B b V a N0 k0 : Nat} {w0 fw0 x0 : ST} {n8 : Nat → Nat} {ch : Nat → List Nat}
/-- a step is gone through; sa: what it is meanwhile -/
def pa_qs (B b : Nat) (w0 fw0 x0 : ST) (ch : Nat → List Nat) (N0 k0 a : Nat) (cs : List pu_Stp) (sa : pu_Stp) (w fw x9 : ST) (n2 : Nat → Nat) (new : List Nat) (N k : Nat) : Prop :=
  (x9 0 0 = pu_I N ∧ (∃ R, pv_sR n2 R ∧ N ≤ R ∧ R ≤ 12770)) ∧ (pv_stc B fw x9 (pv_up ch b (ch b ++ new)) ∧ pv_dis B N (pv_up ch b (ch b ++ new))) ∧
  (∀ z, z < N0 → z ≠ a → pv_S x9 z = pv_S x0 z) ∧ (∀ r, r ≠ 4 → r ≠ 5 → fw r = fw0 r) ∧ (new.map (pv_S x9) = cs ∧ pv_S x9 a = sa) ∧ (∀ z, z ∈ new → N0 ≤ z ∧ z < N) ∧ (k0 ≤ k ∧ N = N0 + (k - k0)) ∧
  (∀ z, z < N0 → (∀ c, c < B → z ∉ ch c) → x9 6 z = x0 6 z) ∧ (w 0 8 = pu_I k ∧ ∀ r z, ¬ (r = 0 ∧ z = 8) → w r z = w0 r z)
theorem pa_qs_w (haN : a < N0) (hac : ∀ c, c < B → a ∉ ch c) {cs : List pu_Stp} {sa : pu_Stp} {w fw x9 : ST} {n2 : Nat → Nat} {new : List Nat} {N k : Nat} (h : pa_qs B b w0 fw0 x0 ch N0 k0 a cs sa w fw x9 n2 new N k) {r : Nat} (hr : r = 3 ∨ r = 4 ∨ r = 5) (v : Int32) :
    pa_qs B b w0 fw0 x0 ch N0 k0 a cs (pv_S (upw x9 r a v) a) w fw (upw x9 r a v) n2 new N k := by
  obtain ⟨⟨h1, h2⟩, ⟨h3, h4⟩, h5, h6, ⟨h7, h8⟩, h9, h10, h11, h12⟩ := h
  have hz : ∀ z, z ≠ a → pv_S (upw x9 r a v) z = pv_S x9 z := fun z hza => by
    unfold pv_S
    rw [pv_upw, if_neg fun q => hza q.2, pv_upw, if_neg fun q => hza q.2, pv_upw, if_neg fun q => hza q.2, pv_upw, if_neg fun q => hza q.2]
  refine ⟨⟨?_, h2⟩, ⟨?_, h4⟩, fun z z1 z2 => by rw [hz z z2, h5 z z1 z2], h6, ⟨?_, rfl⟩, h9, h10, fun z z1 z2 => ?_, h12⟩
  · rw [pv_upw_n (by omega)]; exact h1
  · unfold pv_stc
    rw [pv_upw_n (by omega)]
    exact h3
  · rw [← h7]
    exact List.map_congr_left fun z hzn => hz z fun e => by have := (h9 z hzn).1; omega
  · rw [pv_upw_n (by omega)]; exact h11 z z1 z2
theorem pa_add_q (hB : B ≤ 60) (hb : b < B) (haN : a < N0) {cs : List pu_Stp} {sa : pu_Stp} {w fw x9 : ST} {n2 : Nat → Nat} {new : List Nat} {N k : Nat} (h : pa_qs B b w0 fw0 x0 ch N0 k0 a cs sa w fw x9 n2 new N k) (hac : ∀ c, c < B → a ∉ ch c) (hN : N < 8500) (s : pu_Stp) :
    ∃ fw' x9' n2', fX1_addStep fw (pu_I b) s.1 s.2.1 s.2.2.1 s.2.2.2 n2 x9 = some (pu_I N, fw', x9', n2') ∧ ∀ w', w' 0 8 = pu_I (k + 1) → (∀ r z, ¬ (r = 0 ∧ z = 8) → w' r z = w0 r z) → pa_qs B b w0 fw0 x0 ch N0 k0 a (cs ++ [s]) sa w' fw' x9' n2' (new ++ [N]) (N + 1) (k + 1) := by
  obtain ⟨⟨h1, R, R1, R2, R3⟩, ⟨h3, h4⟩, h5, h6, ⟨h7, h8⟩, h9, ⟨h10, h10'⟩, h11, h12⟩ := h
  obtain ⟨fw', x9', n2', R', e1, e2, e3, e4, e5, e6, e7, e8, e9, e10, e11, e12, e13, e14, e15⟩ := pv_addStep (w := fw) (w2 := x9) hB h1 R1 R2 (by omega) h3 h4 hb s.1 s.2.1 s.2.2.1 s.2.2.2
  rw [pv_up_s, pv_up_up, List.append_assoc] at e12 e13
  have hz : ∀ z, z < N → pv_S x9' z = pv_S x9 z := fun z hz => by
    unfold pv_S
    rw [e5 2 z (by decide) (by decide) hz, e5 3 z (by decide) (by decide) hz, e5 4 z (by decide) (by decide) hz, e5 5 z (by decide) (by decide) hz]
  refine ⟨fw', x9', n2', e1, fun w' hw1 hw2 => ⟨⟨e2, R', e8, e9, by rcases e10 with h | h <;> omega⟩, ⟨e12, e13⟩, fun z z1 z2 => by rw [hz z (by omega), h5 z z1 z2], fun r r4 r5 => by rw [e14 r r4 r5, h6 r r4 r5], ⟨?_, by rw [hz a (by omega), h8]⟩, fun z hzn => ?_, ⟨by omega, by omega⟩, fun z z1 z2 => ?_, hw1, hw2⟩⟩
  · rw [List.map_append, ← h7]
    congr 1
    · exact List.map_congr_left fun z hzn => hz z (h9 z hzn).2
    · show [pv_S x9' N] = [s]
      rw [e4]
  · rcases List.mem_append.mp hzn with q | q
    · have := h9 z q; omega
    · rw [List.mem_singleton.mp q]; omega
  · rw [e7 z (by omega) (fun c hc hin => ?_), h11 z z1 z2]
    by_cases e : c = b
    · rw [e, pv_up_s] at hin
      rcases List.mem_append.mp hin with q | q
      · exact z2 b hb q
      · have := (h9 z q).1; omega
    · rw [pv_up_n e] at hin
      exact z2 c hc hin
/-- what was put away is brought back into a new value -/
theorem pa_fetch (hB : B ≤ 60) (hb : b < B) (haN : a < N0) (h13 : V ≤ n8 13) (h14 : V ≤ n8 14) (hV : V < 100000) {cs : List pu_Stp} {sa : pu_Stp} {w fw x9 : ST} {n2 : Nat → Nat} {new : List Nat} {N k : Nat} (h : pa_qs B b w0 fw0 x0 ch N0 k0 a cs sa w fw x9 n2 new N k) (hac : ∀ c, c < B → a ∉ ch c) (hN : N < 8500) {v : Nat} (hv : v < V) :
    ∃ w' fw' x9' n2', fX0_fetch n8 w (pu_I b) (pu_I v) fw n2 x9 = some (pu_I k, w', fw', x9', n2') ∧ pa_qs B b w0 fw0 x0 ch N0 k0 a (cs ++ [pu_fe (pa_ns w0) (pa_sl w0) (pa_nm w0) (pu_I v) k]) sa w' fw' x9' n2' (new ++ [N]) (N + 1) (k + 1) := by
  obtain ⟨hw8, hwr⟩ := h.2.2.2.2.2.2.2.2
  obtain ⟨fw', x9', n2', e1, e2⟩ := pa_add_q hB hb haN h hac hN (pu_fe (pa_ns w0) (pa_sl w0) (pa_nm w0) (pu_I v) k)
  have hi13 : ixb (pu_I v) (n8 13) = true := (pu_ix (by omega)).mpr (by omega)
  have hi14 : ixb (pu_I v) (n8 14) = true := (pu_ix (by omega)).mpr (by omega)
  have hu8 : upw w 0 8 (w 0 8 + 1) 0 8 = pu_I (k + 1) := by rw [pv_upw, if_pos ⟨rfl, rfl⟩, hw8, pu_su]
  have hur : ∀ r z, ¬ (r = 0 ∧ z = 8) → upw w 0 8 (w 0 8 + 1) r z = w0 r z := fun r z hrz => by rw [pv_upw, if_neg hrz, hwr r z hrz]
  refine ⟨upw w 0 8 (w 0 8 + 1), fw', x9', n2', ?_, e2 _ hu8 hur⟩
  have hJ : ∀ y1 y2 : ST, ∀ y3 : Nat → Nat, fX0_fetch_J57 w y1 y2 y3 = some (pu_I k, upw w 0 8 (w 0 8 + 1), y1, y2, y3) := fun y1 y2 y3 => by
    unfold fX0_fetch_J57
    show some ((upw w 0 8 (w 0 8 + 1)) 0 8 - 1, _) = _
    rw [hu8, ← pu_su]
    rw [show pu_I k + 1 - 1 = pu_I k from Int32.add_sub_cancel _ _]
  unfold fX0_fetch fX0_fetch_G31_17 fX0_fetch_G56_31
  rw [if_pos hi13, pu_nn (show v < 2147483648 by omega), hwr 13 v (by omega), hwr 14 v (by omega), hw8]
  unfold pu_fe pa_ns pa_sl pa_nm at e1
  rw [pu_nn (show v < 2147483648 by omega)] at e1
  by_cases q : w0 13 v = -2
  · rw [if_pos q, if_pos hi14]
    rw [if_pos (decide_eq_true q)] at e1
    rw [e1, Option.bind_some, hJ, hw8]
  · rw [if_neg q, if_pos hi13]
    rw [if_neg (fun h => q (of_decide_eq_true h))] at e1
    rw [e1, Option.bind_some, hJ, hw8]
end PUT
