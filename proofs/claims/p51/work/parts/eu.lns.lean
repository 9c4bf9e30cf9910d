/-! pure side, the made function 3: lines, defined -/
section MDL
abbrev md_G := RS → RS
def md_ct (n : Nat) : Int64 := if n = 0 then 26928 else if n = 1 then 26929 else 26930
/-- lines one behind the other -/
def md_many (line : md_S → md_G × md_S) : Nat → md_S → md_G × md_S
  | 0, s => (id, s)
  | n + 1, s => (fun b => (line s).1 ((md_many line n (line s).2).1 b), (md_many line n (line s).2).2)
/-- a while with its counter -/
def md_wh (n v : Nat) (F : md_G) (b : RS) : RS :=
  rs_cons (rs_var (md_ct n) (re_nm 0)) (rs_cons (rs_wh (re_bn 60 11 2 (re_vr (md_ct n)) (re_nm (pu_I v))) (F (rs_cons (rs_set (md_ct n) (re_bn 43 1 3 (re_vr (md_ct n)) (re_nm 1))) rs_nil))) b)
/-- a line; inner: not of the function's own row; fork: it may fork -/
def md_step (dr : Nat → Nat → Nat) (inner fork : Bool) (sub : md_S → md_G × md_S) (s : md_S) : md_G × md_S :=
  (fun t : RE × md_S =>
    if fork = true ∧ t.2.2.1 < 46 ∧ t.2.2.2.1 < 8 ∧ 6 < dr s.1 10 then
      (if dr s.1 10 = 9 ∧ t.2.2.2.2 < 3 then
        (fun F : md_G × md_S => (md_wh t.2.2.2.2 (dr (t.2.1 + 1) 4) F.1, F.2)) (md_many sub (1 + dr (t.2.1 + 2) 2) (t.2.1 + 3, t.2.2.1, t.2.2.2.1 + 1, t.2.2.2.2 + 1))
      else
        (fun F : md_G × md_S => (if dr F.2.1 2 = 0 then (fun b => rs_cons (rs_if t.1 (F.1 rs_nil)) b, (F.2.1 + 1, F.2.2))
          else (fun E : md_G × md_S => (fun b => rs_cons (rs_ife t.1 (F.1 rs_nil) (E.1 rs_nil)) b, E.2)) (md_many sub 1 (F.2.1 + 1, F.2.2)))) (md_many sub (1 + dr (t.2.1 + 1) 2) (t.2.1 + 2, t.2.2.1, t.2.2.2.1 + 1, t.2.2.2.2)))
    else if dr s.1 10 = 5 ∧ inner = true then
      (if dr t.2.1 4 = 0 then (fun b => rs_cons (rs_ret t.1) b, (t.2.1 + 2, t.2.2)) else (fun b => rs_cons (rs_set (md_nm (dr (t.2.1 + 1) 4)) t.1) b, (t.2.1 + 2, t.2.2)))
    else if dr s.1 10 = 6 then (fun o : RE × md_S => (fun b => rs_cons (rs_wr t.1 o.1) b, o.2)) (md_part dr 1 (t.2.1 + 1, t.2.2))
    else (fun b => rs_cons (rs_set (md_nm (dr t.2.1 4)) t.1) b, (t.2.1 + 1, t.2.2))) (md_part dr 2 (s.1 + 1, s.2))
/-- a line with h levels left -/
def md_line (dr : Nat → Nat → Nat) : Nat → md_S → md_G × md_S
  | 0 => md_step dr true false (fun s => (id, s))
  | h + 1 => md_step dr (decide (h = 0)) true (md_line dr h)
/-- what is seen: a, b, c, d; counters from c on are not declared -/
def md_sw (sv : rd_sv) (c : Nat) : Prop := md_sv sv ∧ ∀ m, c ≤ m → m < 3 → rd_lk sv (md_ct m) = none
/-- parts, but the first -/
def md_w (p : Nat) : Nat := min p 46 - (if p = 0 then 0 else 1)
/-- m lines ahead of what follows -/
def md_lk (h m C : Nat) (s s' : md_S) (G : md_G) : Prop :=
  ∃ X I W Fk gL : Nat, (s.2.1 + m ≤ s'.2.1 ∧ s'.2.1 + 2 ≤ max (s.2.1 + 2) C + 2 * m ∧ I + md_w s.2.1 ≤ md_w s'.2.1) ∧ (s'.2.2.1 = s.2.2.1 + Fk ∧ s'.2.2.2 = s.2.2.2 + W ∧ X + W ≤ Fk ∧ (s.2.2.1 ≤ 8 → s'.2.2.1 ≤ 8) ∧ (s.2.2.2 ≤ 3 → s'.2.2.2 ≤ 3)) ∧
    gL + s.2.1 ≤ s'.2.1 + I + 2 * X + 5 * W ∧ ∀ b Bb fb gb, rb_N b Bb fb gb → rb_N (G b) (max (15 * (2 ^ h - 1) + 6 + 9 * X) Bb) (Fk + fb) (gL + gb) ∧
      (rs_sL (G b) ≤ 2 * Fk + rs_sL b ∧ rs_sV (G b) ≤ X + W + rs_sV b ∧ m + rs_ln b ≤ rs_ln (G b) ∧ rs_ln (G b) + s.2.1 ≤ s'.2.1 + I + 7 * X + m + 6 * Fk + 13 * W + rs_ln b ∧ (rs_tks (G b)).length + s.2.1 ≤ s'.2.1 + 4 * I + 4 * m + 14 * Fk + 11 * W + (rs_tks b).length) ∧
      (rs_cn (G b) = rs_cn b ∧ ((∀ n, rs_cl b n = []) → ∀ n, rs_cl (G b) n = [])) ∧ (rs_br (G b) ≤ max (3 + h) (rs_br b) ∧ rs_dp (G b) ≤ max (61 + 3 * h) (rs_dp b)) ∧
      ∀ sv, md_sw sv s.2.2.2 → (∀ sv2, md_sw (sv ++ sv2) s'.2.2.2 → rs_sn b (sv ++ sv2)) → rs_sn (G b) sv
theorem md_lk_0 {h C : Nat} {s : md_S} : md_lk h 0 C s s id := by
  have := Nat.le_max_left (s.2.1 + 2) C
  refine ⟨0, 0, 0, 0, 0, ⟨Nat.le_refl _, by omega, by omega⟩, ⟨rfl, rfl, Nat.le_refl _, fun h => h, fun h => h⟩, by omega, fun b Bb fb gb hN => ⟨rb_N_mono hN (Nat.le_max_right _ _) (by omega) (by omega), ⟨?_, ?_, ?_, ?_, ?_⟩, ⟨rfl, fun h => h⟩, ⟨Nat.le_max_right _ _, Nat.le_max_right _ _⟩, fun sv hsv hb => ?_⟩⟩
  · show rs_sL b ≤ 2 * 0 + rs_sL b; omega
  · show rs_sV b ≤ 0 + 0 + rs_sV b; omega
  · show 0 + rs_ln b ≤ rs_ln b; omega
  · show rs_ln b + s.2.1 ≤ s.2.1 + 0 + 7 * 0 + 0 + 6 * 0 + 13 * 0 + rs_ln b; omega
  · show (rs_tks b).length + s.2.1 ≤ s.2.1 + 4 * 0 + 4 * 0 + 14 * 0 + 11 * 0 + (rs_tks b).length; omega
  · have := hb []
    rw [List.append_nil] at this
    exact this hsv
theorem md_ar3 {p p1 p2 C m : Nat} (h1 : p1 + 2 ≤ max (p + 2) C + 2 * 1) (h2 : p2 + 2 ≤ max (p1 + 2) C + 2 * m) : p2 + 2 ≤ max (p + 2) C + 2 * (m + 1) := by omega
theorem md_lk_s {h m C : Nat} {s s1 s2 : md_S} {G1 G2 : md_G} (h1 : md_lk h 1 C s s1 G1) (h2 : md_lk h m C s1 s2 G2) : md_lk h (m + 1) C s s2 (fun b => G1 (G2 b)) := by
  obtain ⟨X, I, W, Fk, gL, ⟨a1, a2, a3⟩, ⟨a4, a5, a6, a7, a8⟩, a9, a10⟩ := h1
  obtain ⟨Y, J, U, Ek, gM, ⟨b1, b2, b3⟩, ⟨b4, b5, b6, b7, b8⟩, b9, b10⟩ := h2
  have ar := md_ar3 a2 b2
  clear a2 b2
  refine ⟨X + Y, I + J, W + U, Fk + Ek, gL + gM, ⟨by omega, ar, by omega⟩, ⟨by omega, by omega, by omega, fun q => b7 (a7 q), fun q => b8 (a8 q)⟩, by omega, fun b Bb fb gb hN => ?_⟩
  obtain ⟨c1, ⟨c2, c3, c4, c5, c6⟩, ⟨c7, c8⟩, ⟨c9, c10⟩, c11⟩ := b10 b Bb fb gb hN
  obtain ⟨d1, ⟨d2, d3, d4, d5, d6⟩, ⟨d7, d8⟩, ⟨d9, d10⟩, d11⟩ := a10 (G2 b) _ _ _ c1
  show rb_N (G1 (G2 b)) (max (15 * (2 ^ h - 1) + 6 + 9 * (X + Y)) Bb) (Fk + Ek + fb) (gL + gM + gb) ∧
      (rs_sL (G1 (G2 b)) ≤ 2 * (Fk + Ek) + rs_sL b ∧ rs_sV (G1 (G2 b)) ≤ X + Y + (W + U) + rs_sV b ∧ m + 1 + rs_ln b ≤ rs_ln (G1 (G2 b)) ∧ rs_ln (G1 (G2 b)) + s.2.1 ≤ s2.2.1 + (I + J) + 7 * (X + Y) + (m + 1) + 6 * (Fk + Ek) + 13 * (W + U) + rs_ln b ∧ (rs_tks (G1 (G2 b))).length + s.2.1 ≤ s2.2.1 + 4 * (I + J) + 4 * (m + 1) + 14 * (Fk + Ek) + 11 * (W + U) + (rs_tks b).length) ∧
      (rs_cn (G1 (G2 b)) = rs_cn b ∧ ((∀ n, rs_cl b n = []) → ∀ n, rs_cl (G1 (G2 b)) n = [])) ∧ (rs_br (G1 (G2 b)) ≤ max (3 + h) (rs_br b) ∧ rs_dp (G1 (G2 b)) ≤ max (61 + 3 * h) (rs_dp b)) ∧
      ∀ sv, md_sw sv s.2.2.2 → (∀ sv2, md_sw (sv ++ sv2) s2.2.2.2 → rs_sn b (sv ++ sv2)) → rs_sn (G1 (G2 b)) sv
  refine ⟨rb_N_mono d1 ?_ (by omega) (by omega), ⟨by omega, by omega, by omega, by omega, by omega⟩, ⟨d7.trans c7, fun q => d8 (c8 q)⟩, ⟨Nat.le_trans d9 (Nat.max_le.mpr ⟨Nat.le_max_left _ _, c9⟩), Nat.le_trans d10 (Nat.max_le.mpr ⟨Nat.le_max_left _ _, c10⟩)⟩, fun sv hsv hb => d11 sv hsv fun sv2 hsv2 => c11 (sv ++ sv2) hsv2 fun sv3 hsv3 => ?_⟩
  · refine Nat.max_le.mpr ⟨Nat.le_trans (Nat.add_le_add_left (Nat.mul_le_mul_left 9 (Nat.le_add_right X Y)) _) (Nat.le_max_left _ _), Nat.max_le.mpr ⟨Nat.le_trans (Nat.add_le_add_left (Nat.mul_le_mul_left 9 (Nat.le_add_left Y X)) _) (Nat.le_max_left _ _), Nat.le_max_right _ _⟩⟩
  · rw [List.append_assoc] at hsv3 ⊢
    exact hb _ hsv3
theorem md_many_ok {h C : Nat} {line : md_S → md_G × md_S} {Q : md_S → Prop} (hl : ∀ s, Q s → md_lk h 1 C s (line s).2 (line s).1 ∧ Q (line s).2) : ∀ m s, Q s → md_lk h m C s (md_many line m s).2 (md_many line m s).1 ∧ Q (md_many line m s).2 := by
  intro m
  induction m with
  | zero => intro s hs; exact ⟨md_lk_0, hs⟩
  | succ m ih =>
    intro s hs
    obtain ⟨h1, h2⟩ := hl s hs
    obtain ⟨h3, h4⟩ := ih _ h2
    show md_lk h (m + 1) C s (md_many line m (line s).2).2 (fun b => (line s).1 ((md_many line m (line s).2).1 b)) ∧ Q (md_many line m (line s).2).2
    exact ⟨md_lk_s (G1 := (line s).1) (G2 := (md_many line m (line s).2).1) h1 h3, h4⟩
end MDL
