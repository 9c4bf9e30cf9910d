/-! pure side, the maker 24: what phis take -/
section FP
variable {w fw : ST} {n : Nat → Nat} {B m : Nat} {ph : Nat → List Nat} {wb : Nat → Nat}
theorem pt_wys_e {w w' : ST} (h10 : w' 10 = w 10) (h11 : w' 11 = w 11) (h14 : w' 14 = w 14) (h15 : w' 15 = w 15) (h : pv_wys B w wb) : pv_wys B w' wb := by
  unfold pv_wys
  rw [h10, h11, h14, h15]
  exact h
/-- what a phi has taken -/
def pt_tf (w fw : ST) (wb : Nat → Nat) (b a : Nat) (f : ST) : Prop := ∀ j, wb b ≤ j → j < wb (b + 1) → f 21 (a * 60 + nn (fw 15 j)) = w 20 (nn (fw 15 j) * 320 + nn (w 19 a))
theorem pv_fph24 (hB : B ≤ 60) (hw : pv_wys B fw wb) (hR : pt_rm n m) {b a : Nat} (hb : b < B) (ha : a < m) (hm : m ≤ 250) (hva : ∃ u, u < 320 ∧ w 19 a = pu_I u) {f1 : ST} (hf : ∀ r, r ≠ 21 → f1 r = fw r) :
    ∃ f', fX4_fillPhis_L24 w n (pu_I b) (pu_I a) NF 0 f1 = some f' ∧ (∀ r, r ≠ 21 → f' r = fw r) ∧ pt_tf w fw wb b a f' ∧ (∀ z, z / 60 ≠ a → f' 21 z = f1 21 z) := by
  obtain ⟨R, ⟨h19, h20, h21, h21'⟩, hmR, _⟩ := id hR
  obtain ⟨u, u1, u2⟩ := hva
  have hun : nn (w 19 a) = u := by rw [u2, pu_nn (by omega)]
  have hwb := hw.2.1 b hb
  have hw120 := hw.2.2.1 (b + 1) (by omega)
  refine pv_for (G := fun k i (s : ST) => fX4_fillPhis_L24 w n (pu_I b) (pu_I a) k i s) (hi := wb (b + 1) - wb b)
    (Inv := fun i s => (∀ r, r ≠ 21 → s r = fw r) ∧ (∀ j, wb b ≤ j → j < wb b + i → s 21 (a * 60 + nn (fw 15 j)) = w 20 (nn (fw 15 j) * 320 + nn (w 19 a))) ∧ (∀ z, z / 60 ≠ a → s 21 z = f1 21 z))
    (Q := fun f' => (∀ r, r ≠ 21 → f' r = fw r) ∧ pt_tf w fw wb b a f' ∧ (∀ z, z / 60 ≠ a → f' 21 z = f1 21 z)) ?_ ?_ (wb (b + 1) - wb b) 0 NF f1 (by omega) (by have := pv_NF; omega) ⟨hf, fun j j1 j2 => absurd j1 (by omega), fun z _ => rfl⟩
  · rintro k i s hi ⟨s1, s2, s3⟩
    have hws := pt_wys_e (s1 10 (by decide)) (s1 11 (by decide)) (s1 14 (by decide)) (s1 15 (by decide)) hw
    obtain ⟨p, p1, p2, _⟩ := hw.2.2.2.1 b (wb b + i) hb (by omega) (by omega)
    have hpn : nn (fw 15 (wb b + i)) = p := by rw [p2, pu_nn (by omega)]
    have hx : ixb (pu_I p * 320 + w 19 a) 19200 = true ∧ nn (pu_I p * 320 + w 19 a) = p * 320 + u := by
      rw [u2, show (320 : Int32) = pu_I 320 from rfl, pv_mul, pv_add]
      exact ⟨(pu_ix (by omega)).mpr (by omega), pu_nn (by omega)⟩
    have hx2 : ixb (pu_I a * 60 + pu_I p) (n 21) = true ∧ nn (pu_I a * 60 + pu_I p) = a * 60 + p := by
      rw [show (60 : Int32) = pu_I 60 from rfl, pv_mul, pv_add]
      exact ⟨(pu_ix (by omega)).mpr (by omega), pu_nn (by omega)⟩
    have hst : fX1_setTake n s (pu_I a) (pu_I p) (w 20 (p * 320 + u)) = some (upw s 21 (a * 60 + p) (w 20 (p * 320 + u))) := by
      unfold fX1_setTake
      rw [if_pos hx2.1, hx2.2]
      rfl
    refine ⟨upw s 21 (a * 60 + p) (w 20 (p * 320 + u)), ?_, fun r hr => by rw [pv_upw_n hr, s1 r hr], fun j j1 j2 => ?_, fun z hz => ?_⟩
    · show ((fX1_waysTo s (pu_I b)).bind fun (o_4 : Int32) => (if o_4 ≤ pu_I i then some s else ((fX1_wayFrom s (pu_I b) (pu_I i)).bind fun (o_7 : Int32) => (if ixb (pu_I a) 250 = true then (if ixb ((o_7 * 320) + (w 19 (nn (pu_I a)))) 19200 = true then ((fX1_setTake n s (pu_I a) o_7 (w 20 (nn ((o_7 * 320) + (w 19 (nn (pu_I a))))))).bind fun (o_11 : ST) => ((fX4_fillPhis_L24 w n (pu_I b) (pu_I a) k) (pu_I i + 1) o_11)) else none) else none)))) = _
      rw [pv_waysTo hB hws hb, Option.bind_some, if_neg (by rw [pu_le (by omega) (by omega)]; omega), pv_wayFrom hB hws hb (by omega), Option.bind_some, s1 15 (by decide), p2, if_pos ((pu_ix (by omega)).mpr (by omega)), pu_nn (show a < 2147483648 by omega), if_pos hx.1, hx.2, hst, Option.bind_some, pu_su]
    · rw [pv_upw, hun]
      by_cases e : nn (fw 15 j) = p
      · rw [e, if_pos ⟨rfl, rfl⟩]
      · rw [if_neg fun h => e (by omega), ← hun]
        have : j ≠ wb b + i := fun h => e (by rw [h]; exact hpn)
        exact s2 j j1 (by omega)
    · rw [pv_upw, if_neg fun h => hz (by omega)]
      exact s3 z hz
  · rintro k s ⟨s1, s2, s3⟩
    have hws := pt_wys_e (s1 10 (by decide)) (s1 11 (by decide)) (s1 14 (by decide)) (s1 15 (by decide)) hw
    refine ⟨s, ?_, s1, fun j j1 j2 => s2 j j1 (by omega), s3⟩
    show ((fX1_waysTo s (pu_I b)).bind fun (o_4 : Int32) => (if o_4 ≤ pu_I (wb (b + 1) - wb b) then some s else _)) = _
    rw [pv_waysTo hB hws hb, Option.bind_some, if_pos (Int32.le_refl _)]
theorem pv_fillPhis (hB : B ≤ 60) (hw0 : fw 0 0 = pu_I B) (hw : pv_wys B fw wb) (hR : pt_rm n m) (hm : m ≤ 250) (hph : pv_phc B fw ph) (hd : pv_dis B m ph) (hva : ∀ b, b < B → ∀ a, a ∈ ph b → ∃ u, u < 320 ∧ w 19 a = pu_I u) :
    ∃ f', fX4_fillPhis w n fw = some f' ∧ (∀ r, r ≠ 21 → f' r = fw r) ∧ (∀ b, b < B → ∀ a, a ∈ ph b → pt_tf w fw wb b a f') := by
  obtain ⟨R, ⟨h19, h20, h21, h21'⟩, hmR, _⟩ := id hR
  obtain ⟨t, e1, t1, t2⟩ := pv_for (G := fun k b (s : ST) => fX4_fillPhis_L2 w n k b s) (hi := B)
    (Inv := fun b s => (∀ r, r ≠ 21 → s r = fw r) ∧ (∀ x, x < b → ∀ a, a ∈ ph x → pt_tf w fw wb x a s))
    (Q := fun f' => (∀ r, r ≠ 21 → f' r = fw r) ∧ (∀ b, b < B → ∀ a, a ∈ ph b → pt_tf w fw wb b a f'))
    (by
      rintro k b s hb ⟨s1, s2⟩
      have hbx : ixb (pu_I b) 60 = true := (pu_ix (by omega)).mpr (by omega)
      obtain ⟨t, e1, t1, t2, t3⟩ := pv_chl (G := fun k x (s : ST) => fX4_fillPhis_L17 w n (pu_I b) k x s) (nx := fw 20)
        (Inv := fun done rem s' => ph b = done ++ rem ∧ (∀ r, r ≠ 21 → s' r = fw r) ∧ (∀ a, a ∈ done → pt_tf w fw wb b a s') ∧ (∀ z, z / 60 ∉ ph b → s' 21 z = s 21 z))
        (Q := fun s' => (∀ r, r ≠ 21 → s' r = fw r) ∧ (∀ a, a ∈ ph b → pt_tf w fw wb b a s') ∧ (∀ z, z / 60 ∉ ph b → s' 21 z = s 21 z))
        (by
          rintro k a done rem s' ⟨i0, i1, i2, i3⟩
          have hab : a ∈ ph b := by rw [i0]; exact List.mem_append_right _ List.mem_cons_self
          have ham : a < m := hd.1 b hb a hab
          have hnd := hd.2.1 b hb
          rw [i0] at hnd
          have han : a ∉ done := fun h => (List.nodup_append.mp hnd).2.2 a h a List.mem_cons_self rfl
          obtain ⟨f', q1, q2, q3, q4⟩ := pv_fph24 hB hw hR hb ham hm (hva b hb a hab) i1
          refine ⟨f', ?_, by rw [i0]; simp, q2, fun a' ha' => ?_, fun z hz => ?_⟩
          · show (if pu_I a < 0 then some s' else ((fX4_fillPhis_L24 w n (pu_I b) (pu_I a) NF 0 s').bind fun (o24 : ST) => (if ixb (pu_I a) (n 20) = true then ((fX4_fillPhis_L17 w n (pu_I b) k) (o24 20 (nn (pu_I a))) o24) else none))) = _
            rw [if_neg (pu_ge (by omega)), q1, Option.bind_some, if_pos ((pu_ix (by omega)).mpr (by omega)), pu_nn (show a < 2147483648 by omega), q2 20 (by decide)]
          · rcases List.mem_append.mp ha' with h | h
            · intro j j1 j2
              have hne : a' ≠ a := fun e => han (by rw [← e]; exact h)
              obtain ⟨p, p1, p2, _⟩ := hw.2.2.2.1 b j hb j1 j2
              have hpn : nn (fw 15 j) = p := by rw [p2, pu_nn (by omega)]
              rw [q4 _ (by rw [hpn]; omega)]
              exact i2 a' h j j1 j2
            · rw [List.mem_singleton.mp h]; exact q3
          · rw [q4 z fun e => hz (by rw [e]; exact hab)]
            exact i3 z hz)
        (by
          rintro k x done s' hx ⟨i0, i1, i2, i3⟩
          rw [List.append_nil] at i0
          refine ⟨s', ?_, i1, by rw [i0]; exact i2, i3⟩
          show (if x < 0 then some s' else _) = _
          rw [if_pos hx]) (ph b) [] (fw 6 b) NF s (hph.1 b hb) (by have := pv_NF; have := pv_len m (ph b) (hd.2.1 b hb) (hd.1 b hb); omega) ⟨rfl, s1, fun a ha => (by cases ha), fun z _ => rfl⟩
      refine ⟨t, ?_, t1, fun x hx a ha => ?_⟩
      · show (if (s 0 0) ≤ pu_I b then some s else (if ixb (pu_I b) 60 = true then ((fX4_fillPhis_L17 w n (pu_I b) NF (s 6 (nn (pu_I b))) s).bind fun (o17 : ST) => ((fX4_fillPhis_L2 w n k) (pu_I b + 1) o17)) else none)) = _
        rw [s1 0 (by decide), hw0, if_neg (by rw [pu_le (by omega) (by omega)]; omega), if_pos hbx, pu_nn (by omega), s1 6 (by decide), e1, Option.bind_some, pu_su]
      · by_cases e : x = b
        · rw [e] at ha ⊢
          exact t2 a ha
        · intro j j1 j2
          obtain ⟨p, p1, p2, _⟩ := hw.2.2.2.1 x j (by omega) j1 j2
          have hpn : nn (fw 15 j) = p := by rw [p2, pu_nn (by omega)]
          have hdv : (a * 60 + p) / 60 = a := by omega
          rw [t3 _ (by
            rw [hpn, hdv]
            exact fun h => e (hd.2.2 x b a (by omega) hb ha h))]
          exact s2 x (by omega) a ha j j1 j2)
    (by
      rintro k s ⟨s1, s2⟩
      refine ⟨s, ?_, s1, s2⟩
      show (if (s 0 0) ≤ pu_I B then some s else _) = _
      rw [s1 0 (by decide), hw0, if_pos (Int32.le_refl _)]) B 0 NF fw (by omega) (by have := pv_NF; omega) ⟨fun r _ => rfl, fun x hx => absurd hx (Nat.not_lt_zero x)⟩
  refine ⟨t, ?_, t1, t2⟩
  have e1 : fX4_fillPhis_L2 w n NF 0 fw = some t := e1
  unfold fX4_fillPhis
  rw [e1]
  rfl
end FP
