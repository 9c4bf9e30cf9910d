/-! pure side, the reader 12: ops put one behind the other -/
section RDB
/-- a row of ops has been put -/
def rd_a (f L0 : Nat) (pw0 : ST) (n0 : Nat) (pw : ST) (n L V T : Nat) (l : List (Int32 × Int32 × Bool)) : Prop :=
  rd_q f pw n L V T ∧ rd_y f L0 pw0 n0 pw n L ∧ rd_c pw n0 l ∧ n = n0 + l.length
/-- a label that isn't put yet -/
def rd_u (pw : ST) (n m : Nat) : Prop := ∀ x, x < n → pw 9 x = 35 → pw 10 x ≠ pu_I m
variable {f L0 L1 n0 n L V T V' T' L' n' : Nat} {pw0 pw pw' : ST} {l l' : List (Int32 × Int32 × Bool)}
theorem rd_y_lo {lo lo' : Nat} (h : rd_y f lo pw n pw' n' L') (hl : lo' ≤ lo) : rd_y f lo' pw n pw' n' L' := by
  obtain ⟨a1, a2, a3, a4⟩ := h
  exact ⟨a1, a2, fun x x0 x1 h => (a3 x x0 x1 h).elim fun m hm => ⟨m, by omega, hm.2⟩, a4⟩
theorem rd_a_0 (h : rd_q f pw n L V T) (hT : T ≤ 1000) : rd_a f L pw n pw n L V T [] := ⟨h, rd_y_rf h hT, rd_c_nil, rfl⟩
theorem rd_a_tr (h1 : rd_a f L0 pw0 n0 pw n L V T l) (h2 : rd_a f L1 pw n pw' n' L' V' T' l') (h0 : L0 ≤ L1) (hL : L ≤ L') : rd_a f L0 pw0 n0 pw' n' L' V' T' (l ++ l') := by
  obtain ⟨a1, a2, a3, a4⟩ := h1
  obtain ⟨b1, b2, b3, b4⟩ := h2
  exact ⟨b1, rd_y_tr a2 b2 (Nat.le_refl _) h0 hL, rd_c_app.mpr ⟨rd_c_y a3 b2 (by omega), by rw [← a4]; exact b3⟩, by rw [List.length_append]; omega⟩
theorem rd_a_emit (h : rd_a f L0 pw0 n0 pw n L V T l) (hn : n < 3200) (hT : T ≤ 1000) {k a : Int32} {t : Nat} (hk : k ≠ 35) (ht : t ≤ T) (b : Bool) (hb : b = true → 1 ≤ t) :
    ∃ pw', fX6_emit pw k a (pu_I t) = some pw' ∧ rd_a f L0 pw0 n0 pw' (n + 1) L V T (l ++ [(k, a, b)]) := by
  obtain ⟨pw', e1, e2, e3, e4, e5, e6⟩ := rd_emit h.1 hn hT (k := k) (a := a) (lo := L0) hk ht
  refine ⟨pw', e1, rd_a_tr h ⟨e2, e3, ?_, rfl⟩ (Nat.le_refl _) (Nat.le_refl _)⟩
  exact rd_c_cons.mpr ⟨⟨e4, fun _ => e5, fun q => ⟨t, hb q, by omega, e6⟩⟩, rd_c_nil⟩
theorem rd_a_tick (h : rd_a f L0 pw0 n0 pw n L V T l) {x : Nat} (hx : x < n) (hn : n ≤ 3200) (hT : T + 1 ≤ 1000) :
    ∃ pw', fX6_tick pw (pu_I x) = some pw' ∧ rd_a f L0 pw0 n0 pw' n L V (T + 1) l ∧ tq_k pw' x := by
  obtain ⟨pw', e1, e2, e3, ⟨t, t1, t2, t3⟩, e4, e5⟩ := rd_tick h.1 hx hn hT (lo := L0)
  have := rd_a_tr h (⟨e2, e3, rd_c_nil, rfl⟩ : rd_a f L0 pw n pw' n L V (T + 1) []) (Nat.le_refl _) (Nat.le_refl _)
  rw [List.append_nil] at this
  exact ⟨pw', e1, this, t, t1, t2, t3⟩
theorem rd_a_lab (h : rd_a f L0 pw0 n0 pw n L V T l) (hL : L < 640) (hT : T ≤ 1000) :
    ∃ pw', fX6_newLabel pw = some (pu_I L, pw') ∧ rd_a f L0 pw0 n0 pw' n (L + 1) V T l ∧ rd_u pw' n L := by
  obtain ⟨pw', e1, e2, e3, e4⟩ := rd_lab h.1 hL hT (lo := L0)
  have := rd_a_tr h (⟨e2, e3, rd_c_nil, rfl⟩ : rd_a f L0 pw n pw' n (L + 1) V T []) (Nat.le_refl _) (by omega)
  rw [List.append_nil] at this
  refine ⟨pw', e1, this, fun x hx h35 => ?_⟩
  rw [e4 9 (by decide)] at h35
  rw [e4 10 (by decide)]
  obtain ⟨m, m1, m2, _⟩ := h.1.2.2 x hx h35
  rw [m2]
  exact fun q => absurd (pu_inj (by omega) (by omega) q) (by omega)
theorem rd_u_y {m lo : Nat} (h : rd_u pw n m) (hy : rd_y f lo pw n pw' n' L') (hm : m < lo) (hL : L' ≤ 640) : rd_u pw' n' m := by
  intro x hx h35
  by_cases e : x < n
  · obtain ⟨y1, y2, _⟩ := hy.2.1 x e
    rw [y1] at h35
    rw [y2]
    exact h x e h35
  · obtain ⟨k, k1, k2, k3⟩ := hy.2.2.1 x (by omega) hx h35
    rw [k3]
    exact fun q => absurd (pu_inj (by omega) (by omega) q) (by omega)
theorem rd_a_put (h : rd_a f L0 pw0 n0 pw n L V T l) (hn : n < 3200) (hT : T ≤ 1000) {m : Nat} (hm : m < L) (hL : L ≤ 640) (hlo : L0 ≤ m) (hu : rd_u pw n m) :
    ∃ pw', fX6_putLabel pw (pu_I m) = some pw' ∧ rd_a f L0 pw0 n0 pw' (n + 1) L V T (l ++ [(35, pu_I m, false)]) := by
  obtain ⟨pw', e1, e2, e3, e4, e5, e6⟩ := rd_putl h.1 hn hT hm hL hlo hu
  refine ⟨pw', e1, rd_a_tr h ⟨e2, e3, ?_, rfl⟩ (Nat.le_refl _) (Nat.le_refl _)⟩
  exact rd_c_cons.mpr ⟨⟨e4, fun _ => e5, fun q => by cases q⟩, rd_c_nil⟩
theorem rd_a_var (h : rd_a f L0 pw0 n0 pw n L V T l) (hf : f < 6) (hV : V < 320) (hT : T ≤ 1000) :
    ∃ pw', fX6_newVariable pw (pu_I f) = some (pu_I V, pw') ∧ rd_a f L0 pw0 n0 pw' n L (V + 1) T l ∧ (∀ m, rd_u pw n m → rd_u pw' n m) := by
  obtain ⟨pw', e1, e2, e3, e4⟩ := rd_var h.1 hf hV hT (lo := L0)
  have := rd_a_tr h (⟨e2, e3, rd_c_nil, rfl⟩ : rd_a f L0 pw n pw' n L (V + 1) T []) (Nat.le_refl _) (Nat.le_refl _)
  rw [List.append_nil] at this
  exact ⟨pw', e1, this, fun m hu x hx h35 => by rw [e4 9 (by decide)] at h35; rw [e4 10 (by decide)]; exact hu x hx h35⟩
theorem rd_a_T (h : rd_a f L0 pw0 n0 pw n L V T l) (hT : T ≤ T') : rd_a f L0 pw0 n0 pw n L V T' l := ⟨rd_q_T h.1 hT, h.2⟩
/-- number 0 and "unequal" -/
theorem rd_truth (h : rd_a f L0 pw0 n0 pw n L V T l) (hn : n + 1 < 3200) (hT : T ≤ 1000) :
    ∃ pw', fX7_emitTruth pw = some pw' ∧ rd_a f L0 pw0 n0 pw' (n + 2) L V T (l ++ [(0, 0, false), (16, 0, false)]) := by
  obtain ⟨pw1, e1, e2⟩ := rd_a_emit h (by omega) hT (k := 0) (a := 0) (by decide) (Nat.zero_le _) false (fun q => by cases q)
  obtain ⟨pw2, e3, e4⟩ := rd_a_emit e2 (by omega) hT (k := 16) (a := 0) (by decide) (Nat.zero_le _) false (fun q => by cases q)
  rw [List.append_assoc] at e4
  refine ⟨pw2, ?_, e4⟩
  unfold fX7_emitTruth
  rw [show (0 : Int32) = pu_I 0 from rfl] at e1 e3 ⊢
  rw [e1]
  show ((fX6_emit pw1 16 (pu_I 0) (pu_I 0)).bind fun o => some o) = _
  rw [e3]
  rfl
/-- a test read is a row of ops put -/
theorem rd_R_a {r : Nat} {F : rd_F} {e : RE} (h : rd_R r F e) (hok : re_ok e) {rw : ST} {rl : SL} {pw pl tw tl} {op lp sv cs} {rest : List Tok} (h1 : rd_w rw rl f op sv cs lp) (h2 : rd_q f pw n L V T) (h3 : tk_s tw tl (re_tks e ++ rest)) (h4 : rd_st r rest) (h5 : rd_in e op sv cs n L V T) :
    ∃ rw' rl' pw' tw' tl', F rw rl pw pl tw tl = some (pu_I (re_ht e), rw', rl', pw', tw', tl') ∧ rd_w rw' rl' f op sv (cs ++ re_cl e n) lp ∧
      rd_a f L pw n pw' (n + re_ln e) (L + re_ss e) (V + re_ss e) (T + (re_tks e).length) (re_cd e sv L V) ∧ tk_s tw' tl' rest := by
  obtain ⟨rw', rl', pw', tw', tl', a1, a2, a3, a4, a5, a6⟩ := h rw rl pw pl tw tl f op sv cs lp n L V T rest h1 h2 h3 h4 h5
  exact ⟨rw', rl', pw', tw', tl', a1, a2, ⟨a3, a4, a5, by rw [hok.1]⟩, a6⟩
theorem rd_R_of {r : Nat} {F : rd_F} {e : RE} (h : ∀ rw rl pw pl tw tl f op sv cs lp n L V T rest, rd_w rw rl f op sv cs lp → rd_q f pw n L V T → tk_s tw tl (re_tks e ++ rest) → rd_st r rest → rd_in e op sv cs n L V T →
    ∃ rw' rl' pw' tw' tl', F rw rl pw pl tw tl = some (pu_I (re_ht e), rw', rl', pw', tw', tl') ∧ rd_w rw' rl' f op sv (cs ++ re_cl e n) lp ∧
      rd_a f L pw n pw' (n + re_ln e) (L + re_ss e) (V + re_ss e) (T + (re_tks e).length) (re_cd e sv L V) ∧ tk_s tw' tl' rest) : rd_R r F e := by
  intro rw rl pw pl tw tl f op sv cs lp n L V T rest h1 h2 h3 h4 h5
  obtain ⟨rw', rl', pw', tw', tl', a1, a2, ⟨a3, a4, a5, _⟩, a6⟩ := h rw rl pw pl tw tl f op sv cs lp n L V T rest h1 h2 h3 h4 h5
  exact ⟨rw', rl', pw', tw', tl', a1, a2, a3, a4, a5, a6⟩
end RDB
section RDL
theorem rd_eta (x : Option (Int32 × ST × SL × ST × ST × SL)) : (x.bind fun o => some (o.1, o.2.1, o.2.2.1, o.2.2.2.1, o.2.2.2.2.1, o.2.2.2.2.2)) = x := by
  cases x <;> rfl
/-- a function that answers as another does -/
theorem rd_R_eq {r : Nat} {F G : rd_F} {e : RE} (h : rd_R r G e) (hF : ∀ rw rl pw pl tw tl rest, tk_s tw tl (re_tks e ++ rest) → F rw rl pw pl tw tl = G rw rl pw pl tw tl) : rd_R r F e := by
  intro rw rl pw pl tw tl f op sv cs lp n L V T rest h1 h2 h3 h4 h5
  rw [hF rw rl pw pl tw tl rest h3]
  exact h rw rl pw pl tw tl f op sv cs lp n L V T rest h1 h2 h3 h4 h5
theorem tk_h_a : ∀ {ts rest : List Tok}, 1 ≤ ts.length → tk_h (ts ++ rest) = tk_h ts
  | [], _, h => by simp only [List.length_nil] at h; omega
  | _ :: _, _, _ => rfl
variable {D r : Nat} {e : RE}
theorem rd_l_sgnd (h : rd_R 5 (rd_sngl D) e) (hok : re_ok e) (h1 : tk_h (re_tks e) ≠ 45) (h2 : tk_h (re_tks e) ≠ 33) : rd_R 5 (rd_sgnd (D + 1)) e := by
  refine rd_R_eq h fun rw rl pw pl tw tl rest ht => ?_
  have h0 : tw 0 2 = tk_h (re_tks e) := by rw [tk_h_s ht, tk_h_a hok.2.2.2.1]
  show fX7_readSigned (rd_sngl D) rw rl pw pl tw tl = _
  unfold fX7_readSigned
  rw [h0, if_neg h1, if_neg h2]
  exact rd_eta _
theorem rd_l_op4 (h : rd_R 5 (rd_sgnd D) e) : rd_R 5 (rd_opnd (D + 1) 4) e := by
  refine rd_R_eq h fun rw rl pw pl tw tl rest ht => ?_
  show fX7_readOperand (rd_sgnd D) ((rR D).2.2.2.2.1) rw rl (pu_I 4) pw pl tw tl = _
  unfold fX7_readOperand
  rw [if_pos (show pu_I 4 = (4 : Int32) from rfl)]
  exact rd_eta _
theorem rd_l_op (h : rd_R (r + 1) (rd_test D (r + 1)) e) (hr : r < 4) : rd_R (r + 1) (rd_opnd (D + 1) r) e := by
  refine rd_R_eq h fun rw rl pw pl tw tl rest ht => ?_
  show fX7_readOperand (rd_sgnd D) ((rR D).2.2.2.2.1) rw rl (pu_I r) pw pl tw tl = _
  unfold fX7_readOperand
  rw [if_neg (show ¬ pu_I r = (4 : Int32) from fun q => absurd (pu_inj (a := r) (b := 4) (by omega) (by decide) q) (by omega)), pu_su]
  exact rd_eta _
/-- the loop over a row's operators ends -/
theorem rd_L17 {k1 : ST → SL → Int32 → ST → SL → ST → SL → Option (Int32 × ST × SL × ST × ST × SL)} {k2 : ST → SL → Int32 → ST → SL → ST → SL → Option (Int32 × ST × SL × ST × ST × SL)} {p2w : ST} {p2l : SL} {h : Int32} {k n : Nat} {rw : ST} {rl : SL} {pw tw : ST} {tl : SL} {rest : List Tok} (ht : tk_s tw tl rest) (hs : rd_st r rest) (hk : k < 600) :
    fX7_readTest_L17 (pu_I r) p2w p2l k1 k2 (n + 1) h (pu_I k) rw rl pw tw tl = some (h, rw, rl, pw, tw, tl) := by
  obtain ⟨_, i, s1, s2⟩ := hs
  unfold fX7_readTest_L17
  rw [if_neg (by rw [show (600 : Int32) = pu_I 600 from rfl, pu_le (by decide) (by omega)]; omega), tk_h_s ht, s1]
  show (if i = pu_I r then _ else some (h, rw, rl, pw, tw, tl)) = _
  rw [if_neg (fun q => by rw [q] at s2; exact Int32.lt_irrefl s2)]
theorem rd_l_test (h : rd_R (r + 1) (rd_opnd D r) e) (hok : re_ok e) (hr : r ≤ 4) : rd_R r (rd_test (D + 1) r) e := by
  intro rw rl pw pl tw tl f op sv cs lp n L V T rest h1 h2 h3 h4 h5
  obtain ⟨rw', rl', pw', tw', tl', a1, a2, a3, a4, a5, a6⟩ := h rw rl pw pl tw tl f op sv cs lp n L V T rest h1 h2 h3 (rd_st_mono h4 (by omega) (by omega)) h5
  refine ⟨rw', rl', pw', tw', tl', ?_, a2, a3, a4, a5, a6⟩
  show fX7_readTest ((rR D).2.2.2.2.2.1) ((rR D).2.2.2.2.2.2.1) rw rl (pu_I r) pw pl tw tl = _
  unfold fX7_readTest
  rw [show (rR D).2.2.2.2.2.1 rw rl (pu_I r) pw pl tw tl = _ from a1]
  show ((fX7_readTest_L17 (pu_I r) pw pl ((rR D).2.2.2.2.2.1) ((rR D).2.2.2.2.2.2.1) (4194303 + 1) (pu_I (re_ht e)) (pu_I 0) rw' rl' pw' tw' tl').bind fun o17 => some (o17.1, o17.2.1, o17.2.2.1, o17.2.2.2.1, o17.2.2.2.2.1, o17.2.2.2.2.2)) = _
  rw [rd_L17 a6 h4 (by decide)]
  rfl
/-- all rows from a test's own on -/
def re_Q (e : RE) : Prop := ∀ D, re_dp e ≤ D → (re_lv e = 6 → rd_R 5 (rd_sngl D) e) ∧ (5 ≤ re_lv e → rd_R 5 (rd_sgnd D) e) ∧ ∀ r, r ≤ 4 → r ≤ re_lv e → rd_R r (rd_test D r) e
theorem re_up {d0 r0 : Nat} (hok : re_ok e) (h : ∀ D, d0 ≤ D → rd_R r0 (rd_test D r0) e) (hr0 : r0 ≤ 4) : ∀ m r, r + m = r0 → ∀ D, d0 + 2 * m ≤ D → rd_R r (rd_test D r) e := by
  intro m
  induction m with
  | zero =>
    intro r hr D hD
    obtain rfl : r = r0 := by omega
    exact h D (by omega)
  | succ m ih =>
    intro r hr D hD
    obtain ⟨D', rfl⟩ : ∃ q, D = q + 2 := ⟨D - 2, by omega⟩
    exact rd_l_test (rd_l_op (ih (r + 1) (by omega) D' (by omega)) (by omega)) hok (by omega)
theorem re_up4 {d0 : Nat} (hok : re_ok e) (h : ∀ D, d0 ≤ D → rd_R 5 (rd_sgnd D) e) : ∀ r, r ≤ 4 → ∀ D, d0 + 10 ≤ D → rd_R r (rd_test D r) e := fun r hr D hD => by
  refine re_up (d0 := d0 + 2) (r0 := 4) hok (fun D hD => ?_) (Nat.le_refl 4) (4 - r) r (by omega) D (by omega)
  obtain ⟨D', rfl⟩ : ∃ q, D = q + 2 := ⟨D - 2, by omega⟩
  exact rd_l_test (rd_l_op4 (h D' (by omega))) hok (Nat.le_refl 4)
/-- single -/
theorem re_Q6 {d0 : Nat} (hok : re_ok e) (hlv : re_lv e = 6) (h1 : tk_h (re_tks e) ≠ 45) (h2 : tk_h (re_tks e) ≠ 33) (hd : d0 + 11 ≤ re_dp e) (h : ∀ D, d0 ≤ D → rd_R 5 (rd_sngl D) e) : re_Q e := by
  have hs : ∀ D, d0 + 1 ≤ D → rd_R 5 (rd_sgnd D) e := fun D hD => by
    obtain ⟨D', rfl⟩ : ∃ q, D = q + 1 := ⟨D - 1, by omega⟩
    exact rd_l_sgnd (h D' (by omega)) hok h1 h2
  exact fun D hD => ⟨fun _ => h D (by omega), fun _ => hs D (by omega), fun r hr _ => re_up4 hok hs r hr D (by omega)⟩
/-- signed -/
theorem re_Q5 {d0 : Nat} (hok : re_ok e) (hlv : re_lv e = 5) (hd : d0 + 10 ≤ re_dp e) (h : ∀ D, d0 ≤ D → rd_R 5 (rd_sgnd D) e) : re_Q e :=
  fun D hD => ⟨fun q => by omega, fun _ => h D (by omega), fun r hr _ => re_up4 hok h r hr D (by omega)⟩
/-- with an operator of row r0 -/
theorem re_Qr {d0 r0 : Nat} (hok : re_ok e) (hlv : re_lv e = r0) (hr0 : r0 ≤ 4) (hd : d0 + 8 ≤ re_dp e) (h : ∀ D, d0 ≤ D → rd_R r0 (rd_test D r0) e) : re_Q e :=
  fun D hD => ⟨fun q => by omega, fun q => by omega, fun r hr hl => re_up hok h hr0 (r0 - r) r (by omega) D (by omega)⟩
/-- as an operand of row r -/
theorem re_Qo (h : re_Q e) (hr : r ≤ 4) (hl : r < re_lv e) {D : Nat} (hD : re_dp e ≤ D) : rd_R (r + 1) (rd_opnd (D + 1) r) e := by
  by_cases e4 : r = 4
  · subst e4
    exact rd_l_op4 ((h D hD).2.1 (by omega))
  · exact rd_l_op ((h D hD).2.2 (r + 1) (by omega) (by omega)) (by omega)
end RDL
