/-! pure side: Made makes f's text -/
section FMD
variable {xm : Nat} {xf : RI}
theorem dw_made (hx : xm < 2147483648) {d0 : Nat} (hd : d0 < 1000) : fMade xm xf (pu_I d0) = some (mx_ft (dx xm xf) d0) := by
  have m0 : mr9 (mw0 (pu_I d0)) (d0, 0, 0, 0) := ⟨rfl, (by show (46 : Int32) = 46 - pu_I 0; decide), rfl, rfl⟩
  obtain ⟨w1, d1, m1⟩ := dw_dr (xf := xf) hx m0 (n := 4) (by show d0 < _; omega) (by decide) (by decide)
  have d1' : fX13_draw (mw0 (pu_I d0)) 4 xm xf = some (pu_I (dx xm xf d0 4), w1) := d1
  have k1 := dx_lt (xm := xm) (xf := xf) d0 4 (by decide)
  have hlen := (mx_txt_len (dr := dx xm xf) (d0 := d0) (n := 2) dx_lt (by decide)).1
  unfold fMade
  rw [d1', Option.bind_some]
  dsimp only
  unfold mx_ft at hlen ⊢
  generalize dx xm xf d0 4 = k at k1 hlen ⊢
  have e1 : (3 : Int32) + pu_I k = pu_I (3 + k) := (Int32.ofNat_add 3 k).symm
  rw [e1, if_pos ((pu_ix (k := 3 + k) (n := 7) (by omega)).mpr (by omega)), pu_nn (by omega)]
  have h2 : dL 2 = 1300 := rfl
  obtain ⟨w2, r2, m2, q1, q2, q3, q4⟩ := dw_many (dw_line (xf := xf) hx) (3 + k) w1 (d0 + 1, 0, 0, 0) m1 ⟨by show d0 + 1 + (3 + k) * dL 2 ≤ _; rw [h2]; omega, by show 0 + (3 + k) * dL 2 ≤ _; rw [h2]; omega, by show 0 + (3 + k) * dL 2 ≤ _; rw [h2]; omega, (by show 0 ≤ 3; decide)⟩
  have r2' : fLs (rN xm xf 3) (3 + k) w1 0 = some (mx_many (md_line (dx xm xf) 2) (mx_line (dx xm xf) 2) (3 + k) (d0 + 1, 0, 0, 0), w2) := r2
  rw [r2', Option.bind_some]
  dsimp only
  rw [List.length_append, List.length_append] at hlen
  rw [if_pos (by omega)]
  rfl
end FMD
