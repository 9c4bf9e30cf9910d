/-! pure side, the allocator 10: the lines of a block's steps, written -/
section WRC
variable {n2 gn : Nat → Nat} {x9 g : ST} {N : Nat}
/-- the lines of steps -/
def pa_ls (x9 g : ST) (l : List Nat) : List pu_Stp := ((l.map (pv_S x9)).filter (fun s => !pu_idl (pa_rg g) s)).map (pu_rns (pa_rg g))
theorem pa_ls_add (l : List Nat) (a : Nat) : pa_ls x9 g (l ++ [a]) = pa_ls x9 g l ++ (if pu_idl (pa_rg g) (pv_S x9 a) = true then [] else [pu_rns (pa_rg g) (pv_S x9 a)]) := by
  unfold pa_ls
  rw [List.map_append, List.filter_append, List.map_append]
  congr 1
  show (([pv_S x9 a] : List pu_Stp).filter (fun s => !pu_idl (pa_rg g) s)).map (pu_rns (pa_rg g)) = _
  cases h : pu_idl (pa_rg g) (pv_S x9 a) with
  | true => rw [List.filter_cons_of_neg (by rw [h]; decide), if_pos rfl]; rfl
  | false => rw [List.filter_cons_of_pos (by rw [h]; decide), if_neg (by decide)]; rfl
theorem pa_ls_len (l : List Nat) : (pa_ls x9 g l).length ≤ l.length := by
  unfold pa_ls
  rw [List.length_map]
  refine Nat.le_trans (List.length_filter_le _ _) ?_
  rw [List.length_map]
  exact Nat.le_refl _
theorem pa_116 (hN : N < 50000) (h2 : N ≤ n2 2) (h3 : N ≤ n2 3) (h4 : N ≤ n2 4) (h5 : N ≤ n2 5) (h6 : N ≤ n2 6) {l : List Nat} {x : Int32} (hch : pv_ch (x9 6) x l) (hlt : ∀ a, a ∈ l → a < N) (hlen : l.length < 50000) (hrg : ∀ a, a ∈ l → pa_rgs x9 gn a) {c9 : ST} {cn : Nat → Nat} {K : Nat} (hK : K + l.length < 8620) (hc : c9 0 0 = pu_I K) (hR : ∃ R, pv_sR cn R ∧ K ≤ R ∧ R ≤ 12950) :
    ∃ c9' cn', fX0_writeCode_L116 n2 x9 gn g NF x c9 cn = some (c9', cn') ∧ pa_wr c9 cn K (pa_ls x9 g l) c9' cn' := by
  obtain ⟨t, t1, t2⟩ := pv_chl (G := fun k x (s : ST × (Nat → Nat)) => fX0_writeCode_L116 n2 x9 gn g k x s.1 s.2) (nx := x9 6)
    (Inv := fun done rem s => done ++ rem = l ∧ pa_wr c9 cn K (pa_ls x9 g done) s.1 s.2) (Q := fun s => pa_wr c9 cn K (pa_ls x9 g l) s.1 s.2)
    (fun k a done rem s hI => by
      obtain ⟨i1, i2⟩ := hI
      have ha : a ∈ l := by rw [← i1]; exact List.mem_append_right _ List.mem_cons_self
      have haN := hlt a ha
      have hdl : done.length + rem.length + 1 = l.length := by rw [← i1, List.length_append, List.length_cons]; omega
      have hll := pa_ls_len (x9 := x9) (g := g) done
      have hid := pa_isIdle (g := g) haN (by omega) h2 h3 h4 (hrg a ha)
      have h6x : ixb (pu_I a) (n2 6) = true := (pu_ix (by omega)).mpr (by omega)
      have han : nn (pu_I a) = a := pu_nn (by omega)
      by_cases hI9 : pu_idl (pa_rg g) (pv_S x9 a) = true
      · rw [if_pos hI9] at hid
        refine ⟨s, ?_, by rw [List.append_assoc]; exact i1, ?_⟩
        · show (if pu_I a < 0 then some (s.1, s.2) else ((fX0_isIdle (pu_I a) n2 x9 gn g).bind _)) = _
          rw [if_neg (pu_ge (by omega)), hid, Option.bind_some, if_neg (show ¬ (1 : Int32) = 0 by decide)]
          unfold fX0_writeCode_J137
          rw [if_pos h6x, han]
        · rw [pa_ls_add, if_pos hI9, List.append_nil]
          exact i2
      · rw [if_neg hI9] at hid
        obtain ⟨R, r1, r2, r3⟩ := i2.2.2.2
        obtain ⟨c91, cn1, R', e1, e2, e3, e4, e5, e6, e7⟩ := pa_writeStep (g := g) haN (by omega) h2 h3 h4 h5 (hrg a ha) i2.1 r1 r2 (by omega)
        refine ⟨(c91, cn1), ?_, by rw [List.append_assoc]; exact i1, ?_⟩
        · show (if pu_I a < 0 then some (s.1, s.2) else ((fX0_isIdle (pu_I a) n2 x9 gn g).bind _)) = _
          rw [if_neg (pu_ge (by omega)), hid, Option.bind_some, if_pos rfl, e1, Option.bind_some]
          unfold fX0_writeCode_G137_31 fX0_writeCode_J137
          rw [if_pos h6x, han]
        · rw [pa_ls_add, if_neg hI9]
          refine pa_wr_tr i2 ⟨e2, fun j s h => ?_, e4, R', e5, e6, by rcases e7 with h | h <;> omega⟩
          cases j with
          | zero =>
            have h : some (pu_rns (pa_rg g) (pv_S x9 a)) = some s := h
            rw [← Option.some.inj h]
            exact e3
          | succ j =>
            have h : ([] : List pu_Stp)[j]? = some s := h
            cases h)
    (fun k x done s hx hI => by
      obtain ⟨i1, i2⟩ := hI
      rw [List.append_nil] at i1
      refine ⟨s, ?_, by rw [← i1]; exact i2⟩
      show (if x < 0 then some (s.1, s.2) else _) = _
      rw [if_pos hx]) l [] x NF (c9, cn) hch (by have := pv_NF; omega) ⟨rfl, pa_wr0 hc hR⟩
  exact ⟨t.1, t.2, t1, t2⟩
/-- how many lines they are -/
theorem pa_33 (hN : N < 50000) (h2 : N ≤ n2 2) (h3 : N ≤ n2 3) (h4 : N ≤ n2 4) (h6 : N ≤ n2 6) {l : List Nat} {x : Int32} (hch : pv_ch (x9 6) x l) (hlt : ∀ a, a ∈ l → a < N) (hlen : l.length < 50000) (hrg : ∀ a, a ∈ l → pa_rgs x9 gn a) (K : Nat) :
    fX0_writeCode_L33 n2 x9 gn g NF (pu_I K) x = some (pu_I (K + (pa_ls x9 g l).length)) := by
  obtain ⟨t, t1, t2⟩ := pv_chl (G := fun k x (v : Int32) => fX0_writeCode_L33 n2 x9 gn g k v x) (nx := x9 6)
    (Inv := fun done rem v => done ++ rem = l ∧ v = pu_I (K + (pa_ls x9 g done).length)) (Q := fun v => v = pu_I (K + (pa_ls x9 g l).length))
    (fun k a done rem v hI => by
      obtain ⟨i1, rfl⟩ := hI
      have ha : a ∈ l := by rw [← i1]; exact List.mem_append_right _ List.mem_cons_self
      have haN := hlt a ha
      have hid := pa_isIdle (g := g) haN (by omega) h2 h3 h4 (hrg a ha)
      have h6x : ixb (pu_I a) (n2 6) = true := (pu_ix (by omega)).mpr (by omega)
      have han : nn (pu_I a) = a := pu_nn (by omega)
      refine ⟨pu_I (K + (pa_ls x9 g (done ++ [a])).length), ?_, by rw [List.append_assoc]; exact i1, rfl⟩
      show (if pu_I a < 0 then some (pu_I (K + (pa_ls x9 g done).length)) else ((fX0_isIdle (pu_I a) n2 x9 gn g).bind _)) = _
      rw [if_neg (pu_ge (by omega)), hid, Option.bind_some, pa_ls_add]
      by_cases hI9 : pu_idl (pa_rg g) (pv_S x9 a) = true
      · rw [if_pos hI9, if_pos hI9, if_neg (show ¬ (1 : Int32) = 0 by decide), List.append_nil]
        unfold fX0_writeCode_J53
        rw [if_pos h6x, han, Int32.add_zero]
      · rw [if_neg hI9, if_neg hI9, if_pos rfl, List.length_append]
        unfold fX0_writeCode_J53
        rw [if_pos h6x, han, pu_su]
        rfl)
    (fun k x done v hx hI => by
      obtain ⟨i1, rfl⟩ := hI
      rw [List.append_nil] at i1
      refine ⟨pu_I (K + (pa_ls x9 g done).length), ?_, (by rw [i1])⟩
      show (if x < 0 then some (pu_I (K + (pa_ls x9 g done).length)) else _) = _
      rw [if_pos hx]) l [] x NF (pu_I K) hch (by have := pv_NF; omega) ⟨rfl, rfl⟩
  rw [← t2]
  exact t1
end WRC
