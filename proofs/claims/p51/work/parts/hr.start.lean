theorem dL_law_534 : decode cL_law 534 = .ok (.ireturn, 1) := by decide +kernel
/-! the law from its entry, for every script -/
set_option maxHeartbeats 8000000 in
set_option maxRecDepth 100000 in
theorem whole_at (hm9 : MNA4) {p : Program} {e : Env} {s : State} {m : MethodId} {below : List Frame} {meth : Method} {c : Code} (l : Launch) {b L : Nat} {xs : Nat → Int32} (hL : L ≤ 260) (C0 : lw_At p s m meth c b L xs) : W p l e room_1 s m #[Value.ref b] below meth c s.heap [] 0 0 (lw_Z below #[Value.ref b] s) (entryFrame m ([Value.ref b] : List Value).toArray 18) := by
  obtain ⟨hx, hb, hr, hml, hown, hts0, hX, hbl, hlocks, hgv⟩ := id C0
  have hts : ∀ w ∈ gw, w.before #[Value.ref b] s = true := fun w h => hts0 w (gw_tbl h)
  obtain ⟨dC, dI, hK⟩ := known_of hts
  obtain ⟨aK, aV, aN, aO, dOv, dTv, hE⟩ := env_of C0
  have hA : ∀ q : Nat, s.heap.size ≤ q → (fun q : Nat => s.heap.size ≤ q) q := fun _ h => h
  have hA2 : ∀ q : Nat, (fun q : Nat => s.heap.size ≤ q) q → s.heap.size ≤ q := fun _ h => h
  have hx31 : L < 2147483648 := by omega
  have hl := lv_entry ([.ref b]) (n := 18) (Nat.le_of_ble_eq_true rfl)
  rw [lg_entry_eq]
  generalize (lg_sl ([.ref b]) ++ List.replicate (18 - (lg_sl ([.ref b])).length) Slot.unset).toArray = ls at hl ⊢
  have hl : lv_has ls 18 [(0, .ref b)] := hl
  refine kO hm9 hx hb hml hown hts hE hA dC dI 190000 2250000 (rd9_ok hx31 (T := 0) (by decide)) (rd9_ok hx31 (T := 1) (by decide)) (rd9_ok hx31 (T := 2) (by decide)) 0 0 ⟨by decide, by decide⟩ (by decide) (by decide) (fun H locs ls hS => ?_) s.heap [] ls hK va_S.rf hl
  refine va_forget (fun q hq => hA2 _ (hS.2.2 q hq)) ?_
  refine W.widen (k := 600074) (n := 7301550) (Nat.le_of_ble_eq_true rfl) (Nat.le_of_ble_eq_true rfl) ?_
  exact lw_ret hx hb hr hlocks dL_law_534
