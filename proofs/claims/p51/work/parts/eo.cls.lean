/-! pure side, the reader 24: where calls stand -/
section RDP2
/-- calls stand at ops of their kind, one behind the other -/
def rd_pc (n : Nat) (c : List (Int32 × Int32 × Bool)) (l : List (Int64 × Nat × Nat)) : Prop :=
  (∀ x p k, (x, p, k) ∈ l → n ≤ p ∧ ∃ d, c[p - n]? = some (20, d)) ∧ l.Pairwise (fun a b => a.2.1 < b.2.1)
theorem rd_pc_nil {n : Nat} {c : List (Int32 × Int32 × Bool)} : rd_pc n c [] := ⟨fun _ _ _ h => (by cases h), List.Pairwise.nil⟩
theorem rd_pc_app {n : Nat} {c1 c2 : List (Int32 × Int32 × Bool)} {l1 l2 : List (Int64 × Nat × Nat)} (h1 : rd_pc n c1 l1) (h2 : rd_pc (n + c1.length) c2 l2) : rd_pc n (c1 ++ c2) (l1 ++ l2) := by
  obtain ⟨a1, a2⟩ := h1
  obtain ⟨b1, b2⟩ := h2
  refine ⟨fun x p k hm => ?_, List.pairwise_append.mpr ⟨a2, b2, fun u hu v hv => ?_⟩⟩
  · rcases List.mem_append.mp hm with h | h
    · obtain ⟨q1, d, q2⟩ := a1 x p k h
      refine ⟨q1, d, ?_⟩
      rw [List.getElem?_append_left (List.getElem?_eq_some_iff.mp q2).1]
      exact q2
    · obtain ⟨q1, d, q2⟩ := b1 x p k h
      refine ⟨by omega, d, ?_⟩
      rw [List.getElem?_append_right (by omega), show p - n - c1.length = p - (n + c1.length) by omega]
      exact q2
  · obtain ⟨u1, u2, u3⟩ := u
    obtain ⟨v1, v2, v3⟩ := v
    obtain ⟨q1, d, q2⟩ := a1 u1 u2 u3 hu
    obtain ⟨q3, _⟩ := b1 v1 v2 v3 hv
    have := (List.getElem?_eq_some_iff.mp q2).1
    show u2 < v2
    omega
theorem rd_pc_l {n : Nat} {c1 c2 : List (Int32 × Int32 × Bool)} {l : List (Int64 × Nat × Nat)} (h : rd_pc n c1 l) : rd_pc n (c1 ++ c2) l := by
  have := rd_pc_app h (rd_pc_nil (n := n + c1.length) (c := c2))
  rw [List.append_nil] at this
  exact this
theorem rd_pc_r {n m : Nat} {c1 c2 : List (Int32 × Int32 × Bool)} {l : List (Int64 × Nat × Nat)} (h : rd_pc m c2 l) (hm : m = n + c1.length) : rd_pc n (c1 ++ c2) l := by
  subst hm
  exact rd_pc_app (rd_pc_nil (n := n) (c := c1)) h
theorem rd_pc_1 {n m : Nat} {c1 : List (Int32 × Int32 × Bool)} {d : Int32 × Bool} {x : Int64} {k : Nat} (hm : m = n + c1.length) : rd_pc n (c1 ++ [(20, d)]) [(x, m, k)] := by
  subst hm
  refine ⟨fun y p j hm => ?_, List.pairwise_singleton _ _⟩
  have := List.mem_singleton.mp hm
  obtain ⟨e1, e2, e3⟩ : y = x ∧ p = n + c1.length ∧ j = k := ⟨congrArg (·.1) this, congrArg (·.2.1) this, congrArg (·.2.2) this⟩
  subst e2
  refine ⟨Nat.le_add_right _ _, d, ?_⟩
  rw [Nat.add_sub_cancel_left, List.getElem?_append_right (Nat.le_refl _), Nat.sub_self]
  rfl
def re_P (e : RE) : Prop := ∀ n sv L V, rd_pc n (re_cd e sv L V) (re_cl e n)
theorem re_P_nm {v : Int32} : re_P (re_nm v) := fun _ _ _ _ => rd_pc_nil
theorem re_P_vr {x : Int64} : re_P (re_vr x) := fun _ _ _ _ => rd_pc_nil
theorem re_P_ld {e : RE} (h : re_P e) : re_P (re_ld e) := fun n sv L V => rd_pc_l (h n sv L V)
theorem re_P_pr {e : RE} (h : re_P e) : re_P (re_pr e) := h
theorem re_P_ng {e : RE} (h : re_P e) : re_P (re_ng e) := fun n sv L V => rd_pc_r (c1 := [(0, 0, true)]) (rd_pc_l (h (n + 1) sv L V)) rfl
theorem re_P_nt {e : RE} (h : re_P e) : re_P (re_nt e) := fun n sv L V => rd_pc_l (h n sv L V)
theorem re_P_bn {s K : Int32} {r : Nat} {a b : RE} (ha : re_P a) (hb : re_P b) (oa : re_ok a) : re_P (re_bn s K r a b) := fun n sv L V => by
  refine rd_pc_app (ha n sv L V) (rd_pc_l ?_)
  rw [oa.1]
  exact hb _ sv _ _
theorem re_P_sc {c : Bool} {a b : RE} (ha : re_P a) (hb : re_P b) (oa : re_ok a) : re_P (re_sc c a b) := fun n sv L V => by
  refine rd_pc_app (ha n sv L V) (rd_pc_r (m := n + re_ln a + 4) (rd_pc_l (hb _ sv _ _)) ?_)
  rw [oa.1]
  rfl
theorem re_P_c2 {x : Int64} {a b : RE} (ha : re_P a) (hb : re_P b) (oa : re_ok a) (ob : re_ok b) : re_P (re_c2 x a b) := fun n sv L V => by
  refine rd_pc_app (ha n sv L V) (rd_pc_app (c2 := [(19, 2, false), (19, 1, false), (20, 0, false)]) ?_ (rd_pc_1 (c1 := [(19, 2, false), (19, 1, false)]) ?_))
  · rw [oa.1]
    exact hb _ sv _ _
  · rw [oa.1, ob.1]
    rfl
theorem re_P_c3 {x : Int64} {a b c : RE} (ha : re_P a) (hb : re_P b) (hc : re_P c) (oa : re_ok a) (ob : re_ok b) (oc : re_ok c) : re_P (re_c3 x a b c) := fun n sv L V => by
  refine rd_pc_app (ha n sv L V) (rd_pc_app ?_ (rd_pc_app (c2 := [(19, 3, false), (19, 2, false), (19, 1, false), (20, 0, false)]) ?_ (rd_pc_1 (c1 := [(19, 3, false), (19, 2, false), (19, 1, false)]) ?_)))
  · rw [oa.1]
    exact hb _ sv _ _
  · rw [oa.1, ob.1]
    exact hc _ sv _ _
  · rw [oa.1, ob.1, oc.1]
    rfl
def rs_P (s : RS) : Prop := ∀ n sv L V, rd_pc n (rs_cd s sv L V) (rs_cl s n)
theorem rs_P_set {x : Int64} {e : RE} (h : re_P e) : rs_P (rs_set x e) := fun n sv L V => rd_pc_l (h n sv L V)
theorem rs_P_ret {e : RE} (h : re_P e) : rs_P (rs_ret e) := fun n sv L V => rd_pc_l (h n sv L V)
theorem rs_P_var {x : Int64} {e : RE} (h : re_P e) : rs_P (rs_var x e) := fun n sv L V => rd_pc_l (h n sv L V)
theorem rs_P_wr {a b : RE} (ha : re_P a) (hb : re_P b) (oa : re_ok a) : rs_P (rs_wr a b) := fun n sv L V => by
  refine rd_pc_app (ha n sv L V) (rd_pc_l ?_)
  rw [oa.1]
  exact hb _ sv _ _
theorem rs_P_if {e : RE} {b : RS} (h : re_P e) (hb : rs_P b) (oe : re_ok e) : rs_P (rs_if e b) := fun n sv L V => by
  refine rd_pc_app (h n sv L V) (rd_pc_r (m := n + re_ln e + 1) (rd_pc_l (hb _ sv _ _)) ?_)
  rw [oe.1]
  rfl
theorem rs_P_ife {e : RE} {b c : RS} (h : re_P e) (hb : rs_P b) (hc : rs_P c) (oe : re_ok e) (ob : rs_ok b) : rs_P (rs_ife e b c) := fun n sv L V => by
  refine rd_pc_app (h n sv L V) (rd_pc_r (m := n + re_ln e + 1) (rd_pc_app (hb _ sv _ _) (rd_pc_r (m := n + re_ln e + 1 + rs_ln b + 2) (rd_pc_l (hc _ sv _ _)) ?_)) ?_)
  · rw [ob.1]
    rfl
  · rw [oe.1]
    rfl
theorem rs_P_wh {e : RE} {b : RS} (h : re_P e) (hb : rs_P b) (oe : re_ok e) : rs_P (rs_wh e b) := fun n sv L V => by
  refine rd_pc_r (c1 := [(37, 0, true), (35, pu_I L, false)]) (m := n + 2) (rd_pc_app (h _ sv _ _) (rd_pc_r (m := n + 2 + re_ln e + 1) (rd_pc_l (hb _ sv _ _)) ?_)) rfl
  rw [oe.1]
  rfl
theorem rs_P_nil : rs_P rs_nil := fun _ _ _ _ => rd_pc_nil
theorem rs_P_cons {s b : RS} (hs : rs_P s) (hb : rs_P b) (os : rs_ok s) : rs_P (rs_cons s b) := fun n sv L V => by
  refine rd_pc_app (hs n sv L V) ?_
  rw [os.1]
  exact hb _ _ _ _
/-- tests, statements, rows of statements that are right in all respects -/
def re_N (e : RE) (k B g : Nat) : Prop := re_M e k B g ∧ re_P e
def rs_N (s : RS) (B fk g : Nat) : Prop := rs_M s B fk g ∧ rs_P s
def rb_N (b : RS) (B fk g : Nat) : Prop := rb_M b B fk g ∧ rs_P b
theorem re_N_nm {v : Int32} : re_N (re_nm v) 1 1 1 := ⟨re_M_nm, re_P_nm⟩
theorem re_N_vr {x : Int64} : re_N (re_vr x) 1 1 0 := ⟨re_M_vr, re_P_vr⟩
theorem re_N_ld {e : RE} {k B g : Nat} (h : re_N e k B g) : re_N (re_ld e) k (B + 1) (g + 1) := ⟨re_M_ld h.1, re_P_ld h.2⟩
theorem re_N_pr {e : RE} {k B g : Nat} (h : re_N e k B g) : re_N (re_pr e) k B g := ⟨re_M_pr h.1, re_P_pr h.2⟩
theorem re_N_ng {e : RE} {k B g : Nat} (h : re_N e k B g) (hlv : re_lv e = 6) : re_N (re_ng e) (k + 1) (B + 1) (g + 2) := ⟨re_M_ng h.1 hlv, re_P_ng h.2⟩
theorem re_N_nt {e : RE} {k B g : Nat} (h : re_N e k B g) (hlv : re_lv e = 6) : re_N (re_nt e) (k + 1) (B + 2) (g + 2) := ⟨re_M_nt h.1 hlv, re_P_nt h.2⟩
theorem re_N_bn {s K : Int32} {r : Nat} {a b : RE} {ka Ba ga kb Bb gb : Nat} (ha : re_N a ka Ba ga) (hb : re_N b kb Bb gb) (hs : re_sg s K r) (hl : r < re_lv a ∧ r < re_lv b) : re_N (re_bn s K r a b) (max ka (kb + 1)) (max Ba (Bb + 1)) (ga + gb + 1) := ⟨re_M_bn ha.1 hb.1 hs hl, re_P_bn ha.2 hb.2 ha.1.1⟩
theorem re_N_sc {c : Bool} {a b : RE} {ka Ba ga kb Bb gb : Nat} (ha : re_N a ka Ba ga) (hb : re_N b kb Bb gb) (hl : (if c = true then 1 else 0) < re_lv a ∧ (if c = true then 1 else 0) < re_lv b) : re_N (re_sc c a b) (max (ka + 1) (kb + 1)) (Ba + Bb + 8) (ga + gb + 4) := ⟨re_M_sc ha.1 hb.1 hl, re_P_sc ha.2 hb.2 ha.1.1⟩
theorem re_N_mono {e : RE} {k B g k' B' g' : Nat} (h : re_N e k B g) (hk : k ≤ k') (hB : B ≤ B') (hg : g ≤ g') : re_N e k' B' g' := ⟨re_M_mono h.1 hk hB hg, h.2⟩
theorem re_N_c2 {x : Int64} {a b : RE} {k B ga gb : Nat} (ha : re_N a k B ga) (hb : re_N b k B gb) (h41 : tk_h (re_tks a) ≠ 41) : re_N (re_c2 x a b) (k + 2) (B + 2 + 12) (ga + gb + 1) := ⟨re_M_c2 ha.1 hb.1 h41, re_P_c2 ha.2 hb.2 ha.1.1 hb.1.1⟩
theorem re_N_c3 {x : Int64} {a b c : RE} {k B ga gb gc : Nat} (ha : re_N a k B ga) (hb : re_N b k B gb) (hc : re_N c k B gc) (h41 : tk_h (re_tks a) ≠ 41) : re_N (re_c3 x a b c) (k + 3) (B + 3 + 12) (ga + gb + gc + 1) := ⟨re_M_c3 ha.1 hb.1 hc.1 h41, re_P_c3 ha.2 hb.2 hc.2 ha.1.1 hb.1.1 hc.1.1⟩
theorem rs_N_set {x : Int64} {e : RE} {k B g : Nat} (h : re_N e k B g) (hk : k ≤ 60) : rs_N (rs_set x e) (B + 1) (re_ss e) g := ⟨rs_M_set h.1 hk, rs_P_set h.2⟩
theorem rs_N_ret {e : RE} {k B g : Nat} (h : re_N e k B g) (hk : k ≤ 60) : rs_N (rs_ret e) (B + 1) (re_ss e) g := ⟨rs_M_ret h.1 hk, rs_P_ret h.2⟩
theorem rs_N_wr {a b : RE} {ka Ba ga kb Bb gb : Nat} (ha : re_N a ka Ba ga) (hb : re_N b kb Bb gb) (hka : ka ≤ 59) (hkb : kb ≤ 59) : rs_N (rs_wr a b) (max Ba (Bb + 1)) (re_ss a + re_ss b) (ga + gb) := ⟨rs_M_wr ha.1 hb.1 hka hkb, rs_P_wr ha.2 hb.2 ha.1.1⟩
theorem rs_N_if {e : RE} {b : RS} {k B g B2 f2 g2 : Nat} (h : re_N e k B g) (hk : k ≤ 60) (hb : rb_N b B2 f2 g2) : rs_N (rs_if e b) (B + B2 + 2) (re_ss e + 1 + f2) (g + g2) := ⟨rs_M_if h.1 hk hb.1, rs_P_if h.2 hb.2 h.1.1⟩
theorem rs_N_ife {e : RE} {b c : RS} {k B g B2 f2 g2 B3 f3 g3 : Nat} (h : re_N e k B g) (hk : k ≤ 60) (hb : rb_N b B2 f2 g2) (hc : rb_N c B3 f3 g3) : rs_N (rs_ife e b c) (B + (B2 + B3) + 4) (re_ss e + 1 + f2 + f3) (g + g2 + g3) := ⟨rs_M_ife h.1 hk hb.1 hc.1, rs_P_ife h.2 hb.2 hc.2 h.1.1 hb.1.1⟩
theorem rs_N_wh {e : RE} {b : RS} {k B g B2 f2 g2 : Nat} (h : re_N e k B g) (hk : k ≤ 60) (hb : rb_N b B2 f2 g2) : rs_N (rs_wh e b) (B + B2 + 6) (re_ss e + 1 + f2) (g + g2) := ⟨rs_M_wh h.1 hk hb.1, rs_P_wh h.2 hb.2 h.1.1⟩
theorem rb_N_nil : rb_N rs_nil 0 0 0 := ⟨rb_M_nil, rs_P_nil⟩
theorem rb_N_cons {s b : RS} {B1 f1 g1 B2 f2 g2 : Nat} (hs : rs_N s B1 f1 g1) (hb : rb_N b B2 f2 g2) : rb_N (rs_cons s b) (max B1 B2) (f1 + f2) (g1 + g2) := ⟨rb_M_cons hs.1 hb.1, rs_P_cons hs.2 hb.2 hs.1.1.1⟩
theorem rb_N_var {x : Int64} {e : RE} {b : RS} {k B g B2 f2 g2 : Nat} (h : re_N e k B g) (hk : k ≤ 60) (hb : rb_N b B2 f2 g2) : rb_N (rs_cons (rs_var x e) b) (max (B + 1) B2) (re_ss e + f2) (g + g2) := ⟨rb_M_var h.1 hk hb.1, rs_P_cons (rs_P_var h.2) hb.2 (rs_o1_var h.1.1).1⟩
theorem rs_N_mono {s : RS} {B fk g B' fk' g' : Nat} (h : rs_N s B fk g) (hB : B ≤ B') (hf : fk ≤ fk') (hg : g ≤ g') : rs_N s B' fk' g' := ⟨rs_M_mono h.1 hB hf hg, h.2⟩
theorem rb_N_mono {s : RS} {B fk g B' fk' g' : Nat} (h : rb_N s B fk g) (hB : B ≤ B') (hf : fk ≤ fk') (hg : g ≤ g') : rb_N s B' fk' g' := ⟨rb_M_mono h.1 hB hf hg, h.2⟩
end RDP2
