/-! pure side, the allocator 30: rounds -/
section RND
variable {fs na B H K CV CN wd : Nat} {F0 : pu_Flow}
/-- values that are used have registers -/
def pa_rgk (B K : Nat) (fw x9 g : ST) (qs : Nat → List Nat) : Prop :=
  (∀ b, b < B → ∀ a, a ∈ qs b → (pu_ul (x9 2 a) = true → ∃ q, q < K ∧ pa_rg g (x9 4 a) = pu_I q) ∧ (pu_ur (x9 2 a) = true → ∃ q, q < K ∧ pa_rg g (x9 5 a) = pu_I q) ∧ (pu_gw (x9 2 a) = true → ∃ q, q < K ∧ pa_rg g (x9 3 a) = pu_I q)) ∧
  ∀ b, b < B → fw 8 b = 23 ∨ fw 8 b = 24 → ∃ q, q < K ∧ pa_rg g (fw 9 b) = pu_I q
theorem pa_rgk_of {N V : Nat} {n n2 : Nat → Nat} {w fw x9 g : ST} {l : SL} {qs : Nat → List Nat} (has : pa_as F0 B N V H fw x9 n2 qs) (hgr : pg_gr B H V wd fw x9 qs n w l) (hW : ∀ v, pg_W H wd l 0 v → False) (hc : pg_cld n w l H V wd K x9 ((List.range B).flatMap qs) 1 g) : pa_rgk B K fw x9 g qs := by
  have hV := has.1.2.1.2.2
  have hreg : ∀ v : Int32, (∃ u, u < V ∧ v = pu_I u ∧ pg_ct x9 u ((List.range B).flatMap qs) ≠ 0) → ∃ q, q < K ∧ pa_rg g v = pu_I q := fun v ⟨u, u1, u2, u3⟩ => by
    have h8 : g 17 u ≠ -1 := by
      rcases hc.2.2.2.2.2.2 with ⟨q, _⟩ | ⟨_, q⟩
      · exact absurd q (by decide)
      · exact q u u1 u3
    rcases hc.2.2.1 u u1 with h | ⟨q, q1, q2⟩
    · exact absurd h h8
    · exact ⟨q, q1, by unfold pa_rg; rw [u2, pu_nn (by omega)]; exact q2⟩
  refine ⟨fun b hb a ha => ?_, fun b hb he => hreg _ (pa_used has hgr hW hb (l1 := qs b) (l2 := []) (List.append_nil _).symm (Or.inl ⟨he, rfl⟩))⟩
  obtain ⟨m1, m2, hq⟩ := List.append_of_mem ha
  refine ⟨fun h => hreg _ (pa_used has hgr hW hb hq (Or.inl ⟨h, rfl⟩)), fun h => hreg _ (pa_used has hgr hW hb hq (Or.inr (Or.inl ⟨h, rfl⟩))), fun h => ?_⟩
  obtain ⟨u, u1, u2⟩ := (has.1.2.2.2.2.1 b hb a ha).2.1 h
  exact hreg _ ⟨u, u1, u2, pg_ct_p hb ha u2⟩
/-- a round's start -/
def pa_rst (fs na : Nat) (F0 : pu_Flow) (B H K CV CN i : Nat) (aw : ST) (an : Nat → Nat) (fw x9 : ST) (n2 n : Nat → Nat) (qs : Nat → List Nat) (N V c0 : Nat) : Prop :=
  pa_as F0 B N V H fw x9 n2 qs ∧ pa_sk fs na B c0 x9 qs ∧ (x9 0 0 = pu_I N ∧ ∃ R, pv_sR n2 R ∧ N ≤ R ∧ R ≤ 12770) ∧ (aw 0 7 = pu_I K ∧ aw 0 8 = pu_I V ∧ aw 0 9 = pu_I H ∧ aw 0 10 = pu_I c0) ∧
    (V + pa_mF H (pg_F fw x9 qs) B ≤ CV ∧ N + pa_mF H (pg_F fw x9 qs) B ≤ CN) ∧ H ≤ V ∧ c0 + pa_gn B H x9 qs ≤ H ∧ (an 13 ≤ 10700 ∧ an 14 ≤ 10700) ∧ pg_cap n
/-- registers for all: what the rounds leave -/
def pa_fin (fs na : Nat) (F0 : pu_Flow) (B H K CN : Nat) (an0 : Nat → Nat) (aw : ST) (an : Nat → Nat) (fw x9 : ST) (n2 : Nat → Nat) (g : ST) (n : Nat → Nat) : Prop :=
  ∃ N V c1 qs W', pg_fl B N V fw x9 n2 qs ∧ pa_nc B x9 qs ∧ pa_sk fs na B c1 x9 qs ∧ (aw 0 10 = pu_I c1 ∧ c1 ≤ H) ∧ V ≤ n 17 ∧ N ≤ CN ∧ pa_rgk B K fw x9 g qs ∧ pa_ok F0 (pu_roF (pg_F fw x9 qs) (pa_rg g)) (fun b => b < B) W'
/-- rows as long as they may be -/
def pa_caps (an n2 n : Nat → Nat) : Prop := (an 13 ≤ 10700 ∧ an 14 ≤ 10700) ∧ (∃ R, pv_sR n2 R ∧ R ≤ 12770) ∧ pg_cap n
/-- what of the allocator stays -/
def pa_awk (aw aw' : ST) : Prop := (∀ r, r ≠ 0 → r ≠ 13 → r ≠ 14 → aw' r = aw r) ∧ ∀ z, z ≠ 8 → z ≠ 10 → z ≠ 11 → aw' 0 z = aw 0 z
theorem pa_L101 (hwd : wd = (H + 63) / 64) (hwd2 : wd ≤ 20) (hCV : CV ≤ 7110) (hCVw : CV * wd ≤ 135100) (hCN : CN < 8496) (hK2 : 2 ≤ K) (hK : K ≤ 8) {an0 : Nat → Nat} {fn : Nat → Nat} :
    ∀ (m i k : Nat) (aw : ST) (an : Nat → Nat) (fw x9 : ST) (n2 : Nat → Nat) (w : ST) (l : SL) (n : Nat → Nat) (qs : Nat → List Nat) (N V c0 : Nat), i + m = 17 → m < k → pa_rst fs na F0 B H K CV CN i aw an fw x9 n2 n qs N V c0 →
      ∃ res, fX0_makeFunction_L101 k (pu_I i) aw an fw fn x9 n2 w l n = some res ∧ ((∃ aw' an' fw' x9' n2' g l' n', res = .inr (aw', an', fw', fn, x9', n2', g, l', n') ∧ pa_awk aw aw' ∧ pa_caps an' n2' n') ∨
        ∃ j aw' an' fw' x9' n2' g l' n', res = .inl (pu_I j, aw', an', fw', fn, x9', n2', g, l', n') ∧ (i ≤ j ∧ j ≤ 16) ∧ pa_fin fs na F0 B H K CN an0 aw' an' fw' x9' n2' g n' ∧ pa_awk aw aw' ∧ pa_caps an' n2' n') := by
  intro m
  induction m with
  | zero =>
    intro i k aw an fw x9 n2 w l n qs N V c0 hi hk hr
    obtain ⟨k', rfl⟩ : ∃ k', k = k' + 1 := ⟨k - 1, by omega⟩
    obtain rfl : i = 17 := by omega
    have hlt : (16 : Int32) < pu_I 17 := by decide
    obtain ⟨_, _, ⟨_, R, hR1, _, hR2⟩, _, _, _, _, h1314, hcap⟩ := hr
    refine ⟨.inr (aw, an, fw, fn, x9, n2, w, l, n), ?_, Or.inl ⟨_, _, _, _, _, _, _, _, rfl, ⟨fun _ _ _ _ => rfl, fun _ _ _ _ => rfl⟩, h1314, ⟨R, hR1, hR2⟩, hcap⟩⟩
    generalize pu_I 17 = v at hlt ⊢
    show (if 16 < v then some (Sum.inr (aw, an, fw, fn, x9, n2, w, l, n)) else _) = _
    rw [if_pos hlt]
  | succ m ih =>
    intro i k aw an fw x9 n2 w l n qs N V c0 hi hk hr
    obtain ⟨k', rfl⟩ : ∃ k', k = k' + 1 := ⟨k - 1, by omega⟩
    obtain ⟨has, hsk, hrm, ⟨a7, a8, a9, a10⟩, ⟨hb1, hb2⟩, hHV, hc0, ⟨h13, h14⟩, hcap⟩ := hr
    have hlt : ¬ (16 : Int32) < pu_I i := fun h => by
      have := (pu_lt (a := 16) (by decide) (by omega)).mp h
      omega
    have hV2 : V ≤ 7110 := by omega
    have hVw : V * wd ≤ 135100 := Nat.le_trans (Nat.mul_le_mul_right wd (by omega)) hCVw
    have hH : H < 2000 := by omega
    obtain ⟨w1, l1, n1, r1, r2, r3⟩ := pa_reckon has hHV hwd hwd2 hV2 hVw hcap w l
    obtain ⟨aw1, fw1, x1, w2, l2, n3, qs1, u1, u2, u3, u4, u5, u6, u7, u8, u9⟩ := pa_128 (n2 := n2) hHV hwd hwd2 hV2 hVw 1000000 0 NF aw fw x9 w1 l1 n1 qs (by omega) (by have := pv_NF; omega) a9 a8 has r2 r3
    have b7 : aw1 0 7 = pu_I K := by rw [u2 0 7 (by decide)]; exact a7
    have b8 : aw1 0 8 = pu_I V := by rw [u2 0 8 (by decide)]; exact a8
    have b9 : aw1 0 9 = pu_I H := by rw [u2 0 9 (by decide)]; exact a9
    have b10 : aw1 0 10 = pu_I c0 := by rw [u2 0 10 (by decide)]; exact a10
    obtain ⟨o, g, l3, v1, v2, v3⟩ := pg_colour u3.1 u4 hHV hwd hwd2 hK2 hK
    have hgo : fX0_makeFunction_L101 (k' + 1) (pu_I i) aw an fw fn x9 n2 w l n = (if o = 0 then ((fX0_putAway an aw1 n3 g fw1 n2 x1).bind fun o_115 => fX0_makeFunction_L101 k' (pu_I (i + 1)) o_115.1 o_115.2.1 o_115.2.2.1 fn o_115.2.2.2.1 o_115.2.2.2.2 g l3 n3) else some (Sum.inl (pu_I i, aw1, an, fw1, fn, x1, n2, g, l3, n3))) := by
      show (if 16 < pu_I i then some (Sum.inr (aw, an, fw, fn, x9, n2, w, l, n)) else ((fX2_reckon n w l fw (aw 0 9) (aw 0 8) n2 x9).bind fun (o_46 : ST × SL × (Nat → Nat)) => (fX0_makeFunction_G126_75 (fX0_makeFunction_L101 k') (pu_I i) aw an fw fn x9 n2 o_46))) = _
      rw [if_neg hlt, a9, a8, r1, Option.bind_some]
      unfold fX0_makeFunction_G126_75
      dsimp only
      rw [show fX0_makeFunction_L128 n2 NF 0 aw fw x9 w1 l1 n1 = some (aw1, fw1, x1, w2, l2, n3) from u1, Option.bind_some]
      unfold fX0_makeFunction_G176_111 fX0_makeFunction_G200_130
      dsimp only
      rw [b7, v1, Option.bind_some, pu_su]
    rw [hgo]
    have hmF := u8
    rcases v3.2.2.2.2.2.2 with ⟨rfl, _⟩ | ⟨rfl, _⟩
    · rw [if_pos rfl]
      obtain ⟨aw', an', fw', x9', n2', qs', V', N', c1, p1, p2, p3, p4, p5, p6, p7, p8, p9, p10, p11, ⟨p12, _, p13⟩, p14, p15, p16⟩ := pa_putAway (an := an) u3 (u7 fs na c0 hsk) ⟨by rw [u6]; exact hrm.1, hrm.2⟩ u4.2.1 hHV hH (by omega) hV2 hK v3 b8 b10 h13 h14 (by omega) (by omega)
      rw [p1, Option.bind_some]
      obtain ⟨res, t1, t2⟩ := ih (i + 1) k' aw' an' fw' x9' n2' g l3 n3 qs' N' V' c1 (by omega) (by omega) ⟨p2, p3, p4, ⟨by rw [p7 7 (by decide) (by decide)]; exact b7, p5, by rw [p7 9 (by decide) (by decide)]; exact b9, p6⟩, ⟨by omega, by omega⟩, by omega, by omega, ⟨p14, p15⟩, u4.2.1.2.2.2.2⟩
      have hk1 : ∀ aw2, pa_awk aw' aw2 → pa_awk aw aw2 := fun aw2 ⟨q1, q2⟩ => ⟨fun r r0 r3 r4 => by
        rw [q1 r r0 r3 r4, p8 r r0 r3 r4]
        funext z
        exact u2 r z fun h => r0 h.1, fun z z8 z10 z11 => by
        rw [q2 z z8 z10 z11, p7 z z8 z10]
        exact u2 0 z fun h => z11 h.2⟩
      refine ⟨res, t1, t2.imp ?_ ?_⟩
      · rintro ⟨aw2, an2, fw2, x2, n22, g2, l4, n4, q1, q2, q3⟩
        exact ⟨aw2, an2, fw2, x2, n22, g2, l4, n4, q1, hk1 aw2 q2, q3⟩
      · rintro ⟨j, aw2, an2, fw2, x2, n22, g2, l4, n4, q1, ⟨q2, q3⟩, q4, q5, q6⟩
        exact ⟨j, aw2, an2, fw2, x2, n22, g2, l4, n4, q1, ⟨by omega, q3⟩, q4, hk1 aw2 q5, q6⟩
    · rw [if_neg (by decide)]
      obtain ⟨W', hW'⟩ := pa_coloured u3 u4 u5 v3
      refine ⟨_, rfl, Or.inr ⟨i, aw1, an, fw1, x1, n2, g, l3, n3, rfl, ⟨Nat.le_refl i, by omega⟩, ⟨N, V, c0, qs1, W', u3.1, u3.2.2.1, u7 fs na c0 hsk, ⟨b10, by omega⟩, u4.2.1.2.2.2.1.2.2.2.2.2.1, by omega, pa_rgk_of u3 u4 u5 v3, hW'⟩, ⟨fun r r0 _ _ => ?_, fun z _ _ z11 => u2 0 z fun h => z11 h.2⟩, ⟨h13, h14⟩, ?_, u4.2.1.2.2.2.2⟩⟩
      · funext z
        exact u2 r z fun h => r0 h.1
      · obtain ⟨R, hR1, _, hR2⟩ := hrm.2
        exact ⟨R, hR1, hR2⟩
end RND
