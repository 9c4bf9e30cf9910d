/-! words that every contract carries: the good ones of the tables; the others by premises that move with the machine -/
def gw : List Cond := lw_tbl.filter goodWord
theorem gw_of {w : Cond} (h : w ∈ lw_tbl) (g : goodWord w = true) : w ∈ gw := List.mem_filter.mpr ⟨h, g⟩
theorem tb_t {w : Cond} {i : Nat} (h : tables_1[i]? = some w) : w ∈ lw_tbl := List.mem_append_right _ (List.mem_of_getElem? h)
theorem mq_1 {w : Cond} {i : Nat} (h : tables_1_1[i]? = some w) (g : goodWord w = true) : w ∈ gw := gw_of (List.mem_append_right _ (tbl_1 h)) g
theorem mq_2 {w : Cond} {i : Nat} (h : tables_1_2[i]? = some w) (g : goodWord w = true) : w ∈ gw := gw_of (List.mem_append_right _ (tbl_2 h)) g
theorem mq_3 {w : Cond} {i : Nat} (h : tables_1_3[i]? = some w) (g : goodWord w = true) : w ∈ gw := gw_of (List.mem_append_right _ (tbl_3 h)) g
theorem mq_4 {w : Cond} {i : Nat} (h : tables_1_4[i]? = some w) (g : goodWord w = true) : w ∈ gw := gw_of (List.mem_append_right _ (tbl_4 h)) g
theorem mq_5 {w : Cond} {i : Nat} (h : tables_1_5[i]? = some w) (g : goodWord w = true) : w ∈ gw := gw_of (List.mem_append_right _ (tbl_5 h)) g
theorem mq_6 {w : Cond} {i : Nat} (h : tables_1_6[i]? = some w) (g : goodWord w = true) : w ∈ gw := gw_of (List.mem_append_right _ (tbl_6 h)) g
theorem mq_7 {w : Cond} {i : Nat} (h : tables_1_7[i]? = some w) (g : goodWord w = true) : w ∈ gw := gw_of (List.mem_append_right _ (tbl_7 h)) g
theorem mq_8 {w : Cond} {i : Nat} (h : tables_1_8[i]? = some w) (g : goodWord w = true) : w ∈ gw := gw_of (List.mem_append_right _ (tbl_8 h)) g
theorem mq_9 {w : Cond} {i : Nat} (h : tables_1_9[i]? = some w) (g : goodWord w = true) : w ∈ gw := gw_of (List.mem_append_right _ (tbl_9 h)) g
theorem mq_10 {w : Cond} {i : Nat} (h : tables_1_10[i]? = some w) (g : goodWord w = true) : w ∈ gw := gw_of (List.mem_append_right _ (tbl_10 h)) g
theorem mq_11 {w : Cond} {i : Nat} (h : tables_1_11[i]? = some w) (g : goodWord w = true) : w ∈ gw := gw_of (List.mem_append_right _ (tbl_11 h)) g
theorem mk_s {w : Cond} {i : Nat} (h : (k2_sels lw_privs)[i]? = some w) (g : goodWord w = true) : w ∈ gw := gw_of (List.mem_append_left _ (List.mem_of_getElem? h)) g
theorem uw_of {C : String} {T : u_T} {N : Nat} (h : ∀ k, k < N → u_lay C T k ∈ gw) : ∀ w ∈ u_ws C T N, w ∈ gw := by
  intro w hw
  obtain ⟨k, hk, rfl⟩ := List.mem_map.mp hw
  exact h k (List.mem_range.mp hk)
theorem gw_tbl {w : Cond} (h : w ∈ gw) : w ∈ lw_tbl := (List.mem_filter.mp h).1
theorem gw_good {w : Cond} (h : w ∈ gw) : goodWord w = true := (List.mem_filter.mp h).2
def wz (y : MethodName) (c : ByteArray) (n : Nat) (r : Option FieldType) : List Cond := .code y c n r :: gw
def wh (y : MethodName) (c : ByteArray) (n : Nat) (r : Option FieldType) (hh : List (Nat × Nat × Nat × Nat)) : List Cond := .codeWith y c n r hh :: gw
theorem gi_cons {w0 : Cond} (h : w0 ∈ gw) : GoodIn gw (w0 :: gw) := fun w hw => (List.mem_cons.mp hw).elim (fun e => by rw [e]; exact ⟨h, good_of_word (gw_good h)⟩) (fun h1 => ⟨h1, good_of_word (gw_good h1)⟩)
theorem gi_z {y : MethodName} {c : ByteArray} {n : Nat} {r : Option FieldType} (h : Cond.code y c n r ∈ gw) : GoodIn gw (wz y c n r) := gi_cons h
theorem gi_h {y : MethodName} {c : ByteArray} {n : Nat} {r : Option FieldType} {hh : List (Nat × Nat × Nat × Nat)} (h : Cond.codeWith y c n r hh ∈ gw) : GoodIn gw (wh y c n r hh) := gi_cons h
theorem gi_app {a b : List Cond} (ha : ∀ w ∈ a, w ∈ gw) (hb : GoodIn gw b) : GoodIn gw (a ++ b) := fun w h => (List.mem_append.mp h).elim (fun h1 => ⟨ha w h1, good_of_word (gw_good (ha w h1))⟩) (hb w)
theorem gi_V {own : String} {idx : Nat} {C : String} {y : MethodName} {ws : List Cond} (h1 : Cond.methodLink own idx y ∈ gw) (h2 : Cond.instanceMethod y ∈ gw) (h3 : Cond.selects C y y ∈ gw) (h4 : Cond.initialized C ∈ gw) (h5 : GoodIn gw ws) : GoodIn gw (wsV own idx C y ws) := by
  refine gi_app (fun w hw => ?_) h5
  simp only [List.mem_cons, List.not_mem_nil, or_false] at hw
  rcases hw with rfl | rfl | rfl | rfl
  · exact h1
  · exact h2
  · exact h3
  · exact h4
theorem gi_S {own : String} {idx : Nat} {y : MethodName} {ws : List Cond} (h1 : Cond.methodLink own idx y ∈ gw) (h2 : Cond.static y ∈ gw) (h4 : Cond.initialized y.cls ∈ gw) (h5 : GoodIn gw ws) : GoodIn gw (va_wsS own idx y ws) := by
  refine gi_app (fun w hw => ?_) h5
  simp only [List.mem_cons, List.not_mem_nil, or_false] at hw
  rcases hw with rfl | rfl | rfl
  · exact h1
  · exact h2
  · exact h4
/-- words that move with the machine, though they aren't good ones -/
def mvb : Cond → Bool
  | .castable .. => true
  | .declares _ => true
  | .methodLinkNest .. => true
  | _ => false
theorem mv_warm {w : Cond} (hm : mvb w = true) {s U : State} (hW : s.WarmedH U.vm) (h : va_Nw w s) : va_Nw w U := by
  cases w <;> first | (simp [mvb] at hm; done) | exact va_Nw.warmC hW h | exact va_Nw.warmD hW h | exact va_Nw.warmM hW h
theorem mv_on {w : Cond} (hm : mvb w = true) : w.onTables = true := by
  cases w <;> first | (simp [mvb] at hm; done) | rfl
theorem ao_warm {ty : FieldType} {s U : State} (hW : s.WarmedH U.vm) (h : (Cond.arrayOver ty).before #[] s = true) : (Cond.arrayOver ty).before #[] U = true := by
  have h1 := (Cond.arrayOver_setVmC (args := #[]) hW.alike ty).trans h
  exact h1
/-- String constants that are thrown with, or read: own class, place, text -/
def STR (U : State) : Prop := ∀ (own : String) (k : Nat) (tx : String), Cond.stringRef own k tx ∈ tables_1 → ∃ sa, vk_R own k tx sa U
def TX (A : Nat → Prop) (U : State) (H : Heap) : Prop := vx_Zq Bundle.tN "UNASSIGNED_STACK" Bundle.steD A U H ∧ vx_Zq Bundle.tN "SUPPRESSED_SENTINEL" Bundle.listD A U H
/-- what else a contract may know of cells that it doesn't own -/
abbrev ZS := (Nat → Prop) → State → Heap → Prop
def EXM (E : ZS) : Prop := ∀ (A B : Nat → Prop) (s U : State) (H : Heap) (locs : List Loc), E A s s.heap → va_S A s.heap H locs → (∀ q, B q → A q) → U.heap = H → s.WarmedH U.vm → E B U H
def ENV (zs : ZS) (A : Nat → Prop) (U : State) (H : Heap) : Prop :=
  (∀ w ∈ lw_tbl, mvb w = true → va_Nw w U) ∧ (∀ C : String, Cond.arrayOver (.object C) ∈ lw_tbl → va_AO C U) ∧ (Cond.arrayOver (.array .int)).before #[] U = true ∧ STR U ∧ TX A U H ∧ va_Nc "java/lang/IllegalStateException" "java/lang/IllegalArgumentException" U ∧ va_Z "java/lang/String" "COMPACT_STRINGS" "Z" (.int 1) A U H ∧ va_Zq "jdk/internal/util/Preconditions" "SIOOBE_FORMATTER" "Ljava/util/function/BiFunction;" A U H ∧ EXM zs ∧ zs A U H
theorem ENV.call {zs : ZS} {A B : Nat → Prop} {s U : State} {H : Heap} {locs : List Loc} (h : ENV zs A s s.heap) (hS : va_S A s.heap H locs) (hAB : ∀ q, B q → A q) (hU : U.heap = H) (hW : s.WarmedH U.vm) : ENV zs B U U.heap := by
  obtain ⟨h1, h2, h3, h4, ⟨h5, h6⟩, h7, h8, h9, hg1, hg2⟩ := h
  rw [hU]
  refine ⟨fun w hw hm => mv_warm hm hW (h1 w hw hm), fun C hC => va_AO.moved hW.alike (h2 C hC), ao_warm hW h3, fun own k tx hk => ?_, ⟨?_, ?_⟩, va_Nc.moved hW.alike h7, ?_, ?_, hg1, ?_⟩
  · obtain ⟨sa, hsa⟩ := h4 own k tx hk
    exact ⟨sa, vk_R.warm hW hsa⟩
  · exact ((h5.kept hS.2.1).narrow hAB).moved hW.alike
  · exact ((h6.kept hS.2.1).narrow hAB).moved hW.alike
  · exact ((h8.kept hS.2.1).narrow hAB).moved hW.alike
  · exact ((h9.kept hS.2.1).narrow hAB).moved hW.alike
  · exact hg1 A B s U H locs hg2 hS hAB hU hW
theorem ENV.moved {zs : ZS} {A : Nat → Prop} {U V : State} (h : ENV zs A U U.heap) (hh : V.heap = U.heap) (hW : U.WarmedH V.vm) : ENV zs A V V.heap := h.call (H := U.heap) va_S.rf (fun _ h => h) hh hW
theorem ENV.word {zs : ZS} {A : Nat → Prop} {U : State} {H : Heap} {args : Array Value} (h : ENV zs A U H) {w : Cond} (hw : w ∈ lw_tbl) (hm : mvb w = true) : w.before args U = true := va_Nw.use (mv_on hm) (h.1 w hw hm)
theorem ENV.nw {zs : ZS} {A : Nat → Prop} {U : State} {H : Heap} (h : ENV zs A U H) {w : Cond} (hw : w ∈ lw_tbl) (hm : mvb w = true) : va_Nw w U := h.1 w hw hm
theorem inN {x k : Int32} {n : Nat} (hk : k.toInt = n) (h1 : ¬ x < 0) (h2 : ¬ k ≤ x) : vp_in x n := by
  rw [vp_in_iff]
  have a := Int32.le_iff_toInt_le.mp (Int32.not_lt.mp h1)
  have b := Int32.lt_iff_toInt_lt.mp (Int32.not_le.mp h2)
  have e0 : (0 : Int32).toInt = 0 := by decide
  rw [e0] at a
  rw [hk] at b
  exact ⟨a, b⟩
/-! start and end of a contract; the joining behind a call -/
abbrev PRE (zs : ZS) (dC : Nat → ClassId) (dI : Nat → Nat → Nat) (W0 : va_W) (T0 : List (ClassId × FieldType)) (sz : Nat) : State → Prop := fun U => U.heap.size = sz ∧ va_P (dC, dI) cls W0 U.heap ∧ va_K (dC, dI) cls T0 U ∧ va_D (fun _ => True) W0 ∧ ENV zs (va_A W0 sz) U U.heap
abbrev POST (dC : Nat → ClassId) (dI : Nat → Nat → Nat) (W1 : va_W) (T1 : List (ClassId × FieldType)) (A : Nat → Prop) (t : State) : Prop := va_P (dC, dI) cls W1 t.heap ∧ va_K (dC, dI) cls T1 t ∧ va_D A W1
theorem PRE.blind {zs : ZS} {dC : Nat → ClassId} {dI : Nat → Nat → Nat} {W0 : va_W} {T0 : List (ClassId × FieldType)} {sz : Nat} {av : List Value} : FrameBlind (va_Pc av (PRE zs dC dI W0 T0 sz)) := fun a U g mk q => by
  obtain ⟨q0, q1, q2, q3, q4, q5⟩ := q
  exact ⟨q0, q1, q2, va_K.moved (u := U) (U := U.calling g mk a) (Vm.Alike.refl U.vm) q3, q4, ENV.moved (V := U.calling g mk a) q5 rfl (State.WarmedH.refl U)⟩
theorem PRE.of {zs : ZS} {dC : Nat → ClassId} {dI : Nat → Nat → Nat} {W0 : va_W} {T0 : List (ClassId × FieldType)} {av : List Value} {A : Nat → Prop} {s : State} {H : Heap} {locs : List Loc} (hE : ENV zs A s s.heap) (hS : va_S A s.heap H locs) (hF : ∀ q, va_A W0 H.size q → A q) (hP : va_P (dC, dI) cls W0 H) (hK : va_K (dC, dI) cls T0 s) (hD : va_D A W0) : ∀ U : State, U.heap = H → s.WarmedH U.vm → va_Pc av (PRE zs dC dI W0 T0 H.size) av.toArray U := fun U hU hW =>
  ⟨rfl, by rw [hU], by rw [hU]; exact hP, va_K.moved hW.alike hK, hD.weaken (fun _ _ _ _ => trivial), ENV.call hE hS hF hU hW⟩
theorem JOIN {dC : Nat → ClassId} {dI : Nat → Nat → Nat} {A : Nat → Prop} {ws wc wr w1 : va_W} {T Tr t1 : List (ClassId × FieldType)} {H H1 : Heap} {s t : State} (hP : va_P (dC, dI) cls ws H) (hD : va_D A ws) (hK : va_K (dC, dI) cls T s) (isC isR tsR : List Nat) (hC : isC.map (fun i => ws[i]?) = wc.map some) (hR : isR.map (fun i => ws[i]?) = wr.map some) (hn : va_nd isR = true) (hdis : ∀ i ∈ isR, i ∉ isC) (hT : tsR.filterMap (fun i => T[i]?) = Tr)
    (hk : ∀ q : Nat, q < H.size → ¬ va_A wc H.size q → H1[q]? = H[q]?) (hF : ∀ q, va_A wc H.size q → A q) (ht : t.heap = H1) (hvm : s.vm.Alike t.vm) (hB : POST dC dI w1 t1 (va_A wc H.size) t) : va_P (dC, dI) cls (wr ++ w1) H1 ∧ va_D A (wr ++ w1) ∧ va_K (dC, dI) cls (Tr ++ t1) s := by
  obtain ⟨b1, b2, b3⟩ := hB
  rw [ht] at b1
  obtain ⟨j1, j2⟩ := va_join hP hD isC isR hC hR hn hdis hk hF b1 b3
  exact ⟨j1, j2, (hK.sub tsR hT).app (va_K.moved hvm.symm b2)⟩
theorem POST.keep {dC : Nat → ClassId} {dI : Nat → Nat → Nat} {A : Nat → Prop} {W1 : va_W} {T1 : List (ClassId × FieldType)} {H : Heap} {s t : State} (hP : va_P (dC, dI) cls W1 H) (hD : va_D A W1) (hK : va_K (dC, dI) cls T1 s) (hal : s.vm.Alike t.vm) (hq : ∀ q : Nat, q < H.size → t.heap[q]? = H[q]?) : POST dC dI W1 T1 A t :=
  ⟨hP.kept (fun k q hk => hq q.1 ((hP k q hk).lt)), va_K.moved hal hK, hD⟩
theorem at_of {zs : ZS} {own cls : String} {ic : Nat} {names : List String} (h : ∀ w ∈ Bundle.ownAtoms own ic cls names, vx_no w = true → w ∈ tables_1 ∧ (goodWord w || mvb w) = true) {args : Array Value} {s : State} {A : Nat → Prop} {H : Heap} (hts : ∀ w ∈ gw, w.before args s = true) (hE : ENV zs A s H) : ∀ w ∈ vx_atS own ic cls names, w.before args s = true := by
  intro w hw
  obtain ⟨h1, h2⟩ := List.mem_filter.mp hw
  obtain ⟨h3, h4⟩ := h w h1 h2
  have hm : w ∈ lw_tbl := List.mem_append_right _ h3
  rcases Bool.or_eq_true_iff.mp h4 with g1 | g1
  · exact hts w (gw_of hm g1)
  · exact hE.word hm g1
theorem at_ot {own cls : String} {ic : Nat} {names : List String} (h : ∀ w ∈ Bundle.ownAtoms own ic cls names, vx_no w = true → w ∈ tables_1 ∧ (goodWord w || mvb w) = true) : ∀ w ∈ vx_atS own ic cls names, vx_ot w = true := by
  intro w hw
  obtain ⟨h1, h2⟩ := List.mem_filter.mp hw
  obtain ⟨h3, h4⟩ := h w h1 h2
  unfold vx_ot
  rcases Bool.or_eq_true_iff.mp h4 with g1 | g1
  · rw [g1, Bool.or_true]
  · rw [mv_on g1, Bool.true_or]
section XR
variable {p : Program} {l : Launch} {e : Env} {R : Room} {s : State} {m : MethodId} {args : Array Value} {below : List Frame} {meth : Method} {c : Code} {H : Heap} {locs : List Loc} {cells slots : Nat} {Q : State → Prop}
variable {cc : ByteArray} {pc : Nat} {ls : Array Slot} {rest : List Value} {D : va_G} {cl : List vw_C} {A : Nat → Prop} {ws : va_W} {H0 : Heap}
theorem lv_topC {x y : Int32} (h : x = y) (k : W p l e R s m args below meth c H locs cells slots Q (F0 m pc ls (.int y :: rest))) : W p l e R s m args below meth c H locs cells slots Q (F0 m pc ls (.int x :: rest)) := by subst h; exact k
theorem lv_topCl {x y : Int64} (h : x = y) (k : W p l e R s m args below meth c H locs cells slots Q (F0 m pc ls (.long y :: rest))) : W p l e R s m args below meth c H locs cells slots Q (F0 m pc ls (.long x :: rest)) := by subst h; exact k
theorem lcmp_self (x : Int64) : lg_cmp x x = 0 := by
  unfold lg_cmp
  simp
end XR
section XS
variable {p : Program} {l : Launch} {e : Env} {R : Room} {s : State} {m : MethodId} {args : Array Value} {below : List Frame} {meth : Method} {c : Code} {H : Heap} {locs : List Loc} {cells slots : Nat} {Q : State → Prop}
variable {mc ms : Nat} {free : Addr → Prop} {A0 A1 : Nat → Prop} {H0 : Heap} {a : Array Value} {pc : Nat} {ls : Array Slot} {st0 rest : List Value}
theorem vx_callr {S SX : Type} {post : S → Prop} {px : SX → Prop} {B : S → Nat → State → Prop} {BX : String → SX → State → Prop} {AX : Nat → Prop} (hr : vx_Run p l e R s m args below meth c H locs cells slots mc ms (F0 m pc ls st0) rest (va_Qr post B A1 a) (vx_X px BX AX) free) (hS : va_S A0 H0 H locs) (hA : ∀ q, q < H.size → A1 q → A0 q) (hf : ∀ q, free q → A0 q) (hAX : ∀ q, q < H.size → AX q → A0 q)
    (kx : ∀ (E : String) (ce : Cell) (q9 : Addr) (u : SX) (t : State) (H1 : Heap) (locs1 : List Loc), t.heap = H1 → s.vm.Alike t.vm → px u → BX E u t → H.size ≤ H1.size → (∀ q : Nat, q < H.size → ¬ AX q → H1[q]? = H[q]?) → va_S A0 H0 H1 locs1 → H1[q9]? = some ce → ce.vm = .none → s.vm.findClass E = some ce.cls → vx_W p l e R s m args below meth c H1 locs1 (cells + mc) (slots + ms) Q (F0 m pc ls rest) q9)
    (kk : ∀ (u : S) (ra : Nat) (t : State) (H1 : Heap) (locs1 : List Loc), t.heap = H1 → s.vm.Alike t.vm → post u → B u ra t → H.size ≤ H1.size → (∀ q : Nat, q < H.size → ¬ A1 q → H1[q]? = H[q]?) → va_S A0 H0 H1 locs1 → W p l e R s m args below meth c H1 locs1 (cells + mc) (slots + ms) Q (F0 m (pc + 3) ls (.ref ra :: rest))) : W p l e R s m args below meth c H locs cells slots Q (F0 m pc ls st0) := by
  intro T hT X
  rcases hr T hT X with ⟨v, st₀, t, T', L, h0, X', hL, e1, e2, ⟨⟨u, ra, hv, hp, hb⟩, hF⟩, st⟩ | ⟨q, st₀, t, T', L, E, ce, h0, X', hL, e1, e2, ⟨u, hp, hb, hF⟩, hce, hcv, hcl, st⟩
  · cases hv
    obtain ⟨k1, k2, k3⟩ := vx_keep h0 e1 hS hA hf hL hF
    obtain ⟨t2, a1, b1⟩ := kk u ra t T'.heap (locs ++ L) e1.symm (by rw [← e2]; exact X'.warmed.alike) hp hb k1 k2 k3 T' rfl X'
    exact ⟨t2, st t2 a1, b1⟩
  · obtain ⟨k1, k2, k3⟩ := vx_keep h0 e1 hS hAX hf hL hF
    obtain ⟨t2, a1, b1⟩ := kx E ce q u t T'.heap (locs ++ L) e1.symm (by rw [← e2]; exact X'.warmed.alike) hp hb k1 k2 k3 (by rw [e1]; exact hce) hcv hcl T' rfl X'
    exact ⟨t2, st.trans a1, b1⟩
/-- new int[n][], what it holds forgotten -/
theorem xk_newA {cc : ByteArray} {D : va_G} {cl : List vw_C} {A : Nat → Prop} {ws : va_W} (hexec : p.tables.exec = Jvm.exec) (hb : c.code = cc) {own : String} {index : Nat} {t : FieldType} (hown : s.vm.findClass own = some m.cls) (hclink : (Cond.classLink own index (FieldType.array t).toString).before args s = true) (hover : (Cond.arrayOver (.array t)).before args s = true)
    (hP : va_P D cl ws H) (hD : va_D A ws) (hS : va_S A H0 H locs) {n : Int32} {N' : Nat} (hn : ¬ n < 0) (hN : n.toNatClampNeg = N') (hbytes : N' * 4 ≤ 536870912) (hcells : cells + 1 ≤ R.cells) (hslots : slots + N' ≤ R.slots) (hdg : decode cc pc = .ok (.anewarray index, 3))
    (kk : ∀ (q : Nat) (H1 : Heap), va_P D cl ws H1 → va_D A ws → va_S A H0 H1 locs → W p l e R s m args below meth c H1 locs (cells + 1) (slots + N') Q (F0 m (pc + 3) ls (.ref q :: rest))) : W p l e R s m args below meth c H locs cells slots Q (F0 m pc ls (.int n :: rest)) := by
  subst hN
  refine W.anewA hexec hb hown hclink hover rfl hdg rfl hn hbytes hcells hslots fun cA kA comp f1 f2 f3 f4 => ?_
  generalize hH1 : H.push ({ cls := cA, slots := Array.replicate n.toNatClampNeg .null, vm := .none } : Cell) = H1
  have z1 : H1.size = H.size + 1 := by rw [← hH1, Array.size_push]
  have o1 : ∀ q : Nat, q < H.size → H1[q]? = H[q]? := fun q hq => by rw [← hH1, Array.getElem?_push, if_neg (Nat.ne_of_lt hq)]
  exact kk H.size H1 (hP.kept (fun k x hx => o1 x.1 ((hP k x hx).lt))) hD ⟨Nat.le_trans hS.1 (by omega), fun x h1 h2 => (o1 x (Nat.lt_of_lt_of_le h1 hS.1)).trans (hS.2.1 x h1 h2), hS.2.2⟩
end XS
/-! stores: the class's objects and rows as functions -/
abbrev ST := Nat → Nat → Int32
abbrev SL := Nat → Nat → Int64
abbrev RI := Nat → Int32
abbrev RL := Nat → Int64
abbrev nn (i : Int32) : Nat := i.toNatClampNeg
def upw (w : ST) (r i : Nat) (v : Int32) : ST := fun q => if q = r then upd (w r) i v else w q
def upl (w : SL) (r i : Nat) (v : Int64) : SL := fun q => if q = r then vp_updL (w r) i v else w q
def srw (w : ST) (r : Nat) (f : RI) : ST := fun q => if q = r then f else w q
def srl (w : SL) (r : Nat) (f : RL) : SL := fun q => if q = r then f else w q
def st0 (x : Nat) (a : Nat → Nat) : Nat → Nat := fun j => if j = 0 then x else a j
def st1 {α : Type} (a : Nat → α) (j : Nat) (x : α) : Nat → α := fun q => if q = j then x else a q
def stn (a : Nat → Nat) (j : Nat) (x : Nat) : Nat → Nat := fun q => if q = j then x else a q
def grs (n m : Nat) : Bool := decide (n < m ∧ m ≤ 3 * (m - n))
theorem grs_1 {n m : Nat} (h : grs n m = true) : n < m := (of_decide_eq_true h).1
theorem grs_2 {n m : Nat} (h : grs n m = true) : m ≤ 3 * (m - n) := (of_decide_eq_true h).2
theorem grs_le {n m : Nat} (h : grs n m = true) : n ≤ m := Nat.le_of_lt (grs_1 h)
/-- how often a row can have grown -/
def lgP (n : Nat) : Nat := if n = 0 then 0 else Nat.log2 (n * n) + 1
theorem lgP_mono {n m : Nat} (h : n ≤ m) : lgP n ≤ lgP m := by
  unfold lgP
  by_cases h0 : n = 0
  · rw [if_pos h0]; exact Nat.zero_le _
  · have hm : m ≠ 0 := by omega
    rw [if_neg h0, if_neg hm]
    have hn : n * n ≠ 0 := Nat.mul_ne_zero h0 h0
    have hmm : m * m ≠ 0 := Nat.mul_ne_zero hm hm
    exact Nat.succ_le_succ ((Nat.le_log2 hmm).mpr (Nat.le_trans (Nat.log2_self_le hn) (Nat.mul_le_mul h h)))
theorem grs_3 {n m : Nat} (h : grs n m = true) : lgP n + 1 ≤ lgP m := by
  have h1 := grs_1 h
  have h2 := grs_2 h
  unfold lgP
  have hm : m ≠ 0 := by omega
  by_cases h0 : n = 0
  · rw [if_pos h0, if_neg hm]; omega
  · rw [if_neg h0, if_neg hm]
    have hn : n * n ≠ 0 := Nat.mul_ne_zero h0 h0
    have hmm : m * m ≠ 0 := Nat.mul_ne_zero hm hm
    have h3 : 3 * n ≤ 2 * m := by omega
    have h4 : (3 * n) * (3 * n) ≤ (2 * m) * (2 * m) := Nat.mul_le_mul h3 h3
    have e1 : (3 * n) * (3 * n) = 9 * (n * n) := by rw [Nat.mul_mul_mul_comm]
    have e2 : (2 * m) * (2 * m) = 4 * (m * m) := by rw [Nat.mul_mul_mul_comm]
    have h5 : 2 * (n * n) ≤ m * m := by omega
    have h6 : 2 ^ (Nat.log2 (n * n) + 1) ≤ m * m := by
      have := Nat.log2_self_le hn
      rw [Nat.pow_succ]
      omega
    exact Nat.succ_le_succ ((Nat.le_log2 hmm).mpr h6)
def nck (n : Int32) : Bool := decide (¬ n < 0 ∧ nn n ≤ 60000000)
theorem nck_1 {n : Int32} (h : nck n = true) : ¬ n < 0 := (of_decide_eq_true h).1
theorem nck_4 {n : Int32} (h : nck n = true) : nn n * 4 ≤ 536870912 := by have := (of_decide_eq_true h).2; omega
theorem nck_8 {n : Int32} (h : nck n = true) : nn n * 8 ≤ 536870912 := by have := (of_decide_eq_true h).2; omega
def upF {α : Type} (f : Nat → α) (i : Nat) (x : α) : Nat → α := fun j => if j = i then x else f j
theorem lt4 {i : Nat} (h : i < 4) : i = 0 ∨ i = 1 ∨ i = 2 ∨ i = 3 := by omega
theorem lt6 {i : Nat} (h : i < 6) : i = 0 ∨ i = 1 ∨ i = 2 ∨ i = 3 ∨ i = 4 ∨ i = 5 := by omega
def NF : Nat := 4194304
def ixb (i : Int32) (n : Nat) : Bool := decide (0 ≤ i.toInt ∧ i.toInt < n)
theorem ixb_in {i : Int32} {n : Nat} (h : ixb i n = true) : vp_in i n := vp_in_iff.mpr (of_decide_eq_true h)
theorem ixb_lt {i : Int32} {n : Nat} (h : ixb i n = true) : i.toNatClampNeg < n := Nat.not_le.mp fun q => (ixb_in h) (Or.inr q)
def cpk (sp dp n : Int32) (n0 n1 : Nat) : Bool := decide (¬ sp < 0 ∧ ¬ dp < 0 ∧ ¬ n < 0 ∧ nn sp + nn n ≤ n0 ∧ nn dp + nn n ≤ n1)
theorem cpk_1 {sp dp n : Int32} {n0 n1 : Nat} (h : cpk sp dp n n0 n1 = true) : ¬ sp < 0 := (of_decide_eq_true h).1
theorem cpk_2 {sp dp n : Int32} {n0 n1 : Nat} (h : cpk sp dp n n0 n1 = true) : ¬ dp < 0 := (of_decide_eq_true h).2.1
theorem cpk_3 {sp dp n : Int32} {n0 n1 : Nat} (h : cpk sp dp n n0 n1 = true) : ¬ n < 0 := (of_decide_eq_true h).2.2.1
theorem cpk_4 {sp dp n : Int32} {n0 n1 : Nat} (h : cpk sp dp n n0 n1 = true) : sp.toNatClampNeg + n.toNatClampNeg ≤ n0 := (of_decide_eq_true h).2.2.2.1
theorem cpk_5 {sp dp n : Int32} {n0 n1 : Nat} (h : cpk sp dp n n0 n1 = true) : dp.toNatClampNeg + n.toNatClampNeg ≤ n1 := (of_decide_eq_true h).2.2.2.2
theorem chk9 {c : Prop} [Decidable c] {α : Type} {a : Option α} {o : α} (h : (if c then a else none) = some o) : c ∧ a = some o := by
  by_cases hc : c
  · rw [if_pos hc] at h; exact ⟨hc, h⟩
  · rw [if_neg hc] at h; cases h
theorem br9 {c : Prop} [Decidable c] {α : Type} {a b : Option α} {o : α} (h : (if c then a else b) = some o) : (c ∧ a = some o) ∨ (¬ c ∧ b = some o) := by
  by_cases hc : c
  · rw [if_pos hc] at h; exact Or.inl ⟨hc, h⟩
  · rw [if_neg hc] at h; exact Or.inr ⟨hc, h⟩
theorem bnd9 {α β : Type} {x : Option α} {k : α → Option β} {o : β} (h : x.bind k = some o) : ∃ y, x = some y ∧ k y = some o := by
  cases x with
  | none => cases h
  | some y => exact ⟨y, rfl, h⟩
def lt9 {α β : Type} (x : α) (k : α → β) : β := k x
theorem let9 {α β : Type} {x : α} {k : α → Option β} {o : β} (h : lt9 x k = some o) : ∃ y, y = x ∧ k y = some o := ⟨x, rfl, h⟩
theorem no9 {α : Type} {x : Option α} {o : α} (h : x = none) (h2 : x = some o) : False := by rw [h] at h2; cases h2
theorem el9 {α β γ : Type} {f : α → Option γ} {g : β → Option γ} {t : β} {o : γ} (h : Sum.elim f g (Sum.inr t) = some o) : g t = some o := h
theorem bz9 {x : Int32} (h : x = 0 ∨ x = 1) : narrow .boolean (.int x) = .int x := by
  rcases h with rfl | rfl <;> rfl
theorem vP_mem {D : va_G} {cl : List vw_C} {ws : va_W} {H : Heap} : va_P D cl ws H ↔ ∀ q ∈ ws, va_at D cl q H :=
  ⟨fun h q hq => by obtain ⟨i, hi⟩ := List.getElem?_of_mem hq; exact h i q hi, fun h k q hk => h q (List.mem_of_getElem? hk)⟩
theorem vP_perm {D : va_G} {cl : List vw_C} {ws ws' : va_W} {H : Heap} (h : va_P D cl ws H) (p : List.Perm ws ws') : va_P D cl ws' H := vP_mem.mpr fun q hq => vP_mem.mp h q (p.mem_iff.mpr hq)
theorem vP_l {D : va_G} {cl : List vw_C} {a b : va_W} {H : Heap} (h : va_P D cl (a ++ b) H) : va_P D cl a H := vP_mem.mpr fun q hq => vP_mem.mp h q (List.mem_append_left _ hq)
theorem vP_r {D : va_G} {cl : List vw_C} {a b : va_W} {H : Heap} (h : va_P D cl (a ++ b) H) : va_P D cl b H := vP_mem.mpr fun q hq => vP_mem.mp h q (List.mem_append_right _ hq)
theorem vP_fa {D : va_G} {cl : List vw_C} {a b : List va_W} {H : Heap} (h : va_P D cl (List.flatten (a ++ b)) H) : va_P D cl (List.flatten a ++ List.flatten b) H := by rw [← List.flatten_append]; exact h
theorem vP_fb {D : va_G} {cl : List vw_C} {a b : List va_W} {H : Heap} (h : va_P D cl (List.flatten a ++ List.flatten b) H) : va_P D cl (List.flatten (a ++ b)) H := by rw [List.flatten_append]; exact h
theorem vK_mem {D : va_G} {cl : List vw_C} {t : List (ClassId × FieldType)} {U : State} : va_K D cl t U ↔ (∀ (c : Nat) (q : vw_C), cl[c]? = some q → u_Kn U q.1 q.2.1 q.2.2 (D.1 c) (D.2 c)) ∧ ∀ q ∈ t, ArrOfT U q.1 q.2 ∧ va_RA U q.1 q.2 :=
  ⟨fun h => ⟨h.1, fun q hq => by obtain ⟨i, hi⟩ := List.getElem?_of_mem hq; exact h.2 i q hi⟩, fun h => ⟨h.1, fun k q hk => h.2 q (List.mem_of_getElem? hk)⟩⟩
theorem vK_perm {D : va_G} {cl : List vw_C} {t t' : List (ClassId × FieldType)} {U : State} (h : va_K D cl t U) (p : List.Perm t t') : va_K D cl t' U := vK_mem.mpr ⟨h.1, fun q hq => (vK_mem.mp h).2 q (p.mem_iff.mpr hq)⟩
theorem vK_l {D : va_G} {cl : List vw_C} {a b : List (ClassId × FieldType)} {U : State} (h : va_K D cl (a ++ b) U) : va_K D cl a U := vK_mem.mpr ⟨h.1, fun q hq => (vK_mem.mp h).2 q (List.mem_append_left _ hq)⟩
theorem vK_r {D : va_G} {cl : List vw_C} {a b : List (ClassId × FieldType)} {U : State} (h : va_K D cl (a ++ b) U) : va_K D cl b U := vK_mem.mpr ⟨h.1, fun q hq => (vK_mem.mp h).2 q (List.mem_append_right _ hq)⟩
theorem vK_fa {D : va_G} {cl : List vw_C} {a b : List (List (ClassId × FieldType))} {U : State} (h : va_K D cl (List.flatten (a ++ b)) U) : va_K D cl (List.flatten a ++ List.flatten b) U := by rw [← List.flatten_append]; exact h
theorem vK_fb {D : va_G} {cl : List vw_C} {a b : List (List (ClassId × FieldType))} {U : State} (h : va_K D cl (List.flatten a ++ List.flatten b) U) : va_K D cl (List.flatten (a ++ b)) U := by rw [List.flatten_append]; exact h
theorem vD_iff {A : Nat → Prop} {ws : va_W} : va_D A ws ↔ ws.Pairwise (fun p q => p.1 ≠ q.1) ∧ ∀ q ∈ ws, A q.1 := by
  constructor
  · intro h
    refine ⟨List.pairwise_iff_getElem.mpr fun i j hi hj hij e => ?_, fun q hq => ?_⟩
    · have := h.1 i j _ _ (List.getElem?_eq_getElem hi) (List.getElem?_eq_getElem hj) e
      omega
    · obtain ⟨i, hi⟩ := List.getElem?_of_mem hq
      exact h.2 i q hi
  · intro h
    refine ⟨fun i j p q hp hq e => ?_, fun k q hk => h.2 q (List.mem_of_getElem? hk)⟩
    obtain ⟨hi, rfl⟩ := List.getElem?_eq_some_iff.mp hp
    obtain ⟨hj, rfl⟩ := List.getElem?_eq_some_iff.mp hq
    have k := List.pairwise_iff_getElem.mp h.1
    rcases Nat.lt_trichotomy i j with c | c | c
    · exact absurd e (k i j hi hj c)
    · exact c
    · exact absurd e.symm (k j i hj hi c)
theorem vD_perm {A : Nat → Prop} {ws ws' : va_W} (h : va_D A ws) (p : List.Perm ws ws') : va_D A ws' := by
  have h := vD_iff.mp h
  exact vD_iff.mpr ⟨(p.pairwise_iff (fun {x y} hxy => Ne.symm hxy)).mp h.1, fun q hq => h.2 q (p.mem_iff.mpr hq)⟩
theorem vD_l {A : Nat → Prop} {a b : va_W} (h : va_D A (a ++ b)) : va_D A a := by
  have h := vD_iff.mp h
  exact vD_iff.mpr ⟨(List.pairwise_append.mp h.1).1, fun q hq => h.2 q (List.mem_append_left _ hq)⟩
theorem vD_fa {A : Nat → Prop} {a b : List va_W} (h : va_D A (List.flatten (a ++ b))) : va_D A (List.flatten a ++ List.flatten b) := by rw [← List.flatten_append]; exact h
theorem vD_fb {A : Nat → Prop} {a b : List va_W} (h : va_D A (List.flatten a ++ List.flatten b)) : va_D A (List.flatten (a ++ b)) := by rw [List.flatten_append]; exact h
theorem bP {α : Type} {a b : List (List α)} (p : List.Perm a b) : List.Perm (List.flatten a) (List.flatten b) := List.Perm.flatten p
theorem vfree {A0 : Nat → Prop} {wc wr : va_W} {H0 H : Heap} {locs : List Loc} (hD : va_D A0 (wc ++ wr)) (hS : va_S A0 H0 H locs) (hA : ∀ q, H0.size ≤ q → A0 q) : ∀ q, va_A wc H.size q → A0 q := by
  intro q h
  rcases h with ⟨k, e, h⟩ | h
  · exact (vD_iff.mp hD).2 (q, e) (List.mem_append_left _ (List.mem_of_getElem? h))
  · exact hA q (Nat.le_trans hS.1 h)
theorem JOINC {D : va_G} {cl : List vw_C} {A : Nat → Prop} {wc wr w1 : va_W} {Tc Tr t1 : List (ClassId × FieldType)} {H H1 : Heap} {s : State} (hP : va_P D cl (wc ++ wr) H) (hD : va_D A (wc ++ wr)) (hK : va_K D cl (Tc ++ Tr) s) (hk : ∀ q : Nat, q < H.size → ¬ va_A wc H.size q → H1[q]? = H[q]?) (hF : ∀ q, va_A wc H.size q → A q) (b1 : va_P D cl w1 H1) (b2 : va_K D cl t1 s) (b3 : va_D (va_A wc H.size) w1) : va_P D cl (w1 ++ wr) H1 ∧ va_D A (w1 ++ wr) ∧ va_K D cl (t1 ++ Tr) s := by
  have hr := vP_r hP
  have hd := vD_iff.mp hD
  have hpa := List.pairwise_append.mp hd.1
  have out : ∀ x ∈ wr, ¬ va_A wc H.size x.1 := by
    intro x hx h
    rcases h with ⟨k, e, h⟩ | h
    · exact hpa.2.2 (x.1, e) (List.mem_of_getElem? h) x hx rfl
    · obtain ⟨i, hi⟩ := List.getElem?_of_mem hx
      exact absurd ((hr i x hi).lt) (Nat.not_lt.mpr h)
  refine ⟨b1.app (hr.kept fun k x hx => hk x.1 ((hr k x hx).lt) (out x (List.mem_of_getElem? hx))), ?_, b2.app (vK_r hK)⟩
  have h3 := vD_iff.mp b3
  refine vD_iff.mpr ⟨List.pairwise_append.mpr ⟨h3.1, hpa.2.1, fun x hx y hy e => out y hy (e ▸ h3.2 x hx)⟩, fun q hq => ?_⟩
  rcases List.mem_append.mp hq with h | h
  · exact hF _ (h3.2 q h)
  · exact hd.2 q (List.mem_append_right _ h)
section GA
variable {p : Program} {l : Launch} {e : Env} {R : Room} {s : State} {m : MethodId} {args : Array Value} {below : List Frame} {meth : Method} {c : Code} {H : Heap} {locs : List Loc} {cells slots : Nat} {Q : State → Prop}
variable {cc : ByteArray} {pc : Nat} {ls : Array Slot} {rest : List Value} {D : va_G} {cl : List vw_C} {a : Nat} {tys : List (ClassId × FieldType)} {ws : va_W}
theorem va_aldA (hexec : p.tables.exec = Jvm.exec) (hb : c.code = cc) (hK : va_K D cl tys s) (hP : va_P D cl ws H) (q0 t0 : Nat) {cA : ClassId} {n : Nat} {f : Nat → Option Nat} (ha : ws[q0]? = some (a, .inl (cA, n, .inr (.inr (.inr (.inr f)))))) (ht : tys[t0]? = some (cA, .array .int)) {i : Int32} (hin : vp_in i n) (hdg : decode cc pc = .ok (.aaload, 1))
    (kk : W p l e R s m args below meth c H locs cells slots Q (F0 m (pc + 1) ls (va_rf (f i.toNatClampNeg) :: rest))) : W p l e R s m args below meth c H locs cells slots Q (F0 m pc ls (.int i :: .ref a :: rest)) := by
  have hlt : i.toNatClampNeg < n := Nat.not_le.mp fun q => hin (Or.inr q)
  exact W.aald (v := va_rf (f i.toNatClampNeg)) (ty := .array .int) hexec hb (hP q0 _ ha) ((hK.2 t0 _ ht).1 n (fun j => va_rf (f j))) rfl (fun q => by cases q) (by show ¬ (i < 0 ∨ (arrV _ _ _).slots.size ≤ _); rw [arrV_size]; exact hin) (by show (arrV _ _ _).slots[_]? = _; rw [arrV_read _ _ hlt]) rfl rfl hdg kk
end GA
section G9
variable {p : Program} {l : Launch} {e : Env} {R : Room} {s : State} {m : MethodId} {args : Array Value} {below : List Frame} {meth : Method} {c : Code} {H H0 : Heap} {locs : List Loc} {cells slots : Nat} {Q0 Q : State → Prop} {g : JFrame}
theorem gQ9 (h : ∀ Q, Q = Q0 → W p l e R s m args below meth c H locs cells slots Q g) : W p l e R s m args below meth c H locs cells slots Q0 g := h _ rfl
theorem wH9 (h : H = H0) (k : W p l e R s m args below meth c H locs cells slots Q g) : W p l e R s m args below meth c H0 locs cells slots Q g := by subst h; exact k
end G9
abbrev oX10 (ad : Nat) (a : Nat → Nat) (k : Nat → ClassId) (w : ST) (l : SL) : va_W := [(ad, .inr (0, [.ref (a 1), .int (w 0 1), .int (w 0 2), .int (w 0 3), .int (w 0 4), .long (l 0 5), .int (w 0 6), .int (w 0 7)])), ((a 1), .inl ((k 1), 1200, .inl (w 1)))]
abbrev tX10 (k : Nat → ClassId) : List (ClassId × FieldType) := [((k 1), .int)]
abbrev oX7 (ad : Nat) (a : Nat → Nat) (k : Nat → ClassId) (w : ST) (l : SL) : va_W := [(ad, .inr (1, [.int (w 0 0), .ref (a 2), .ref (a 3), .int (w 0 3), .int (w 0 4), .int (w 0 5), .int (w 0 6), .ref (a 8), .ref (a 9), .int (w 0 9), .ref (a 11), .ref (a 12), .int (w 0 12), .ref (a 14), .ref (a 15), .ref (a 16), .ref (a 17), .int (w 0 17)])), ((a 8), .inl ((k 8), 320, .inr (.inl (l 8)))), ((a 9), .inl ((k 9), 320, .inl (w 9))), ((a 11), .inl ((k 11), 9, .inl (w 11))), ((a 12), .inl ((k 12), 9, .inl (w 12))), ((a 14), .inl ((k 14), 600, .inr (.inl (l 14)))), ((a 15), .inl ((k 15), 600, .inl (w 15))), ((a 16), .inl ((k 16), 600, .inl (w 16))), ((a 17), .inl ((k 17), 600, .inl (w 17)))]
abbrev tX7 (k : Nat → ClassId) : List (ClassId × FieldType) := [((k 8), .long), ((k 9), .int), ((k 11), .int), ((k 12), .int), ((k 14), .long), ((k 15), .int), ((k 16), .int), ((k 17), .int)]
abbrev oX6 (ad : Nat) (a : Nat → Nat) (k : Nat → ClassId) (w : ST) (l : SL) : va_W := [(ad, .inr (2, [.int (w 0 0), .ref (a 2), .ref (a 3), .ref (a 4), .ref (a 5), .ref (a 6), .ref (a 7), .int (w 0 7), .ref (a 9), .ref (a 10), .ref (a 11), .int (w 0 11), .ref (a 13)])), ((a 2), .inl ((k 2), 6, .inr (.inl (l 2)))), ((a 3), .inl ((k 3), 6, .inl (w 3))), ((a 4), .inl ((k 4), 6, .inl (w 4))), ((a 5), .inl ((k 5), 6, .inl (w 5))), ((a 6), .inl ((k 6), 6, .inl (w 6))), ((a 7), .inl ((k 7), 6, .inl (w 7))), ((a 9), .inl ((k 9), 3200, .inl (w 9))), ((a 10), .inl ((k 10), 3200, .inl (w 10))), ((a 11), .inl ((k 11), 3200, .inl (w 11))), ((a 13), .inl ((k 13), 640, .inl (w 13)))]
abbrev tX6 (k : Nat → ClassId) : List (ClassId × FieldType) := [((k 2), .long), ((k 3), .int), ((k 4), .int), ((k 5), .int), ((k 6), .int), ((k 7), .int), ((k 9), .int), ((k 10), .int), ((k 11), .int), ((k 13), .int)]
abbrev oX9 (ad : Nat) (a : Nat → Nat) (k : Nat → ClassId) (n : Nat → Nat) (w : ST) : va_W := [(ad, .inr (3, [.int (w 0 0), .ref (a 2), .ref (a 3), .ref (a 4), .ref (a 5), .ref (a 6)])), ((a 2), .inl ((k 2), (n 2), .inl (w 2))), ((a 3), .inl ((k 3), (n 3), .inl (w 3))), ((a 4), .inl ((k 4), (n 4), .inl (w 4))), ((a 5), .inl ((k 5), (n 5), .inl (w 5))), ((a 6), .inl ((k 6), (n 6), .inl (w 6)))]
abbrev tX9 (k : Nat → ClassId) : List (ClassId × FieldType) := [((k 2), .int), ((k 3), .int), ((k 4), .int), ((k 5), .int), ((k 6), .int)]
abbrev oX1 (ad : Nat) (a : Nat → Nat) (k : Nat → ClassId) (n : Nat → Nat) (w : ST) (l : SL) : va_W := [(ad, .inr (4, [.int (w 0 0), .int (w 0 1), .ref (a 3), .ref (a 4), .ref (a 5), .ref (a 6), .ref (a 7), .ref (a 8), .ref (a 9), .ref (a 10), .ref (a 11), .ref (a 12), .ref (a 13), .ref (a 14), .ref (a 15), .ref (a 16), .ref (a 17), .int (w 0 17), .ref (a 19), .ref (a 20), .ref (a 21)])), ((a 4), .inl ((k 4), 60, .inl (w 4))), ((a 5), .inl ((k 5), 60, .inl (w 5))), ((a 6), .inl ((k 6), 60, .inl (w 6))), ((a 7), .inl ((k 7), 60, .inl (w 7))), ((a 8), .inl ((k 8), 60, .inl (w 8))), ((a 9), .inl ((k 9), 60, .inl (w 9))), ((a 10), .inl ((k 10), 60, .inl (w 10))), ((a 11), .inl ((k 11), 60, .inl (w 11))), ((a 12), .inl ((k 12), 60, .inl (w 12))), ((a 13), .inl ((k 13), 60, .inl (w 13))), ((a 14), .inl ((k 14), 61, .inl (w 14))), ((a 15), .inl ((k 15), 120, .inl (w 15))), ((a 16), .inl ((k 16), 60, .inr (.inl (l 16)))), ((a 17), .inl ((k 17), 60, .inr (.inl (l 17)))), ((a 19), .inl ((k 19), (n 19), .inl (w 19))), ((a 20), .inl ((k 20), (n 20), .inl (w 20))), ((a 21), .inl ((k 21), (n 21), .inl (w 21)))]
abbrev tX1 (k : Nat → ClassId) : List (ClassId × FieldType) := [((k 4), .int), ((k 5), .int), ((k 6), .int), ((k 7), .int), ((k 8), .int), ((k 9), .int), ((k 10), .int), ((k 11), .int), ((k 12), .int), ((k 13), .int), ((k 14), .int), ((k 15), .int), ((k 16), .long), ((k 17), .long), ((k 19), .int), ((k 20), .int), ((k 21), .int)]
abbrev oX8 (ad : Nat) (a : Nat → Nat) (k : Nat → ClassId) (w : ST) : va_W := [(ad, .inr (5, [.ref (a 1), .ref (a 2), .ref (a 3), .ref (a 4), .ref (a 5)])), ((a 1), .inl ((k 1), 60, .inl (w 1))), ((a 2), .inl ((k 2), 60, .inl (w 2))), ((a 3), .inl ((k 3), 60, .inl (w 3))), ((a 4), .inl ((k 4), 60, .inl (w 4))), ((a 5), .inl ((k 5), 60, .inl (w 5)))]
abbrev tX8 (k : Nat → ClassId) : List (ClassId × FieldType) := [((k 1), .int), ((k 2), .int), ((k 3), .int), ((k 4), .int), ((k 5), .int)]
abbrev oX4 (ad : Nat) (a : Nat → Nat) (k : Nat → ClassId) (w : ST) (l : SL) : va_W := [(ad, .inr (6, [.ref (a 1), .ref (a 2), .ref (a 3), .ref (a 4), .ref (a 5), .int (w 0 5), .ref (a 7), .ref (a 8), .ref (a 9), .ref (a 10), .ref (a 11), .ref (a 12), .ref (a 13), .ref (a 14), .ref (a 15), .ref (a 16), .ref (a 17), .ref (a 18), .ref (a 19), .ref (a 20)])), ((a 2), .inl ((k 2), 3200, .inl (w 2))), ((a 3), .inl ((k 3), 3200, .inl (w 3))), ((a 4), .inl ((k 4), 3200, .inl (w 4))), ((a 5), .inl ((k 5), 512, .inl (w 5))), ((a 7), .inl ((k 7), 640, .inl (w 7))), ((a 8), .inl ((k 8), 640, .inl (w 8))), ((a 9), .inl ((k 9), 640, .inl (w 9))), ((a 10), .inl ((k 10), 640, .inl (w 10))), ((a 11), .inl ((k 11), 640, .inl (w 11))), ((a 12), .inl ((k 12), 640, .inl (w 12))), ((a 13), .inl ((k 13), 640, .inl (w 13))), ((a 14), .inl ((k 14), 640, .inl (w 14))), ((a 15), .inl ((k 15), 60, .inl (w 15))), ((a 16), .inl ((k 16), 320, .inr (.inl (l 16)))), ((a 17), .inl ((k 17), 320, .inr (.inl (l 17)))), ((a 18), .inl ((k 18), 60, .inr (.inl (l 18)))), ((a 19), .inl ((k 19), 250, .inl (w 19))), ((a 20), .inl ((k 20), 19200, .inl (w 20)))]
abbrev tX4 (k : Nat → ClassId) : List (ClassId × FieldType) := [((k 2), .int), ((k 3), .int), ((k 4), .int), ((k 5), .int), ((k 7), .int), ((k 8), .int), ((k 9), .int), ((k 10), .int), ((k 11), .int), ((k 12), .int), ((k 13), .int), ((k 14), .int), ((k 15), .int), ((k 16), .long), ((k 17), .long), ((k 18), .long), ((k 19), .int), ((k 20), .int)]
abbrev oX5 (ad : Nat) (a : Nat → Nat) (k : Nat → ClassId) (w : ST) (l : SL) : va_W := [(ad, .inr (7, [.ref (a 1), .ref (a 2), .ref (a 3), .ref (a 4), .ref (a 5), .ref (a 6), .ref (a 7), .long (l 0 7), .ref (a 9), .ref (a 10), .int (w 0 10), .ref (a 12)])), ((a 2), .inl ((k 2), 250, .inl (w 2))), ((a 3), .inl ((k 3), 250, .inl (w 3))), ((a 4), .inl ((k 4), 250, .inl (w 4))), ((a 5), .inl ((k 5), 250, .inl (w 5))), ((a 6), .inl ((k 6), 250, .inl (w 6))), ((a 7), .inl ((k 7), 250, .inl (w 7))), ((a 9), .inl ((k 9), 250, .inl (w 9))), ((a 10), .inl ((k 10), 250, .inl (w 10))), ((a 12), .inl ((k 12), 60, .inl (w 12)))]
abbrev tX5 (k : Nat → ClassId) : List (ClassId × FieldType) := [((k 2), .int), ((k 3), .int), ((k 4), .int), ((k 5), .int), ((k 6), .int), ((k 7), .int), ((k 9), .int), ((k 10), .int), ((k 12), .int)]
abbrev oX0 (ad : Nat) (a : Nat → Nat) (k : Nat → ClassId) (n : Nat → Nat) (w : ST) : va_W := [(ad, .inr (8, [.ref (a 1), .ref (a 2), .ref (a 3), .ref (a 4), .ref (a 5), .int (w 0 5), .ref (a 7), .int (w 0 7), .int (w 0 8), .int (w 0 9), .int (w 0 10), .int (w 0 11), .ref (a 13), .ref (a 14), .ref (a 15), .ref (a 16), .ref (a 17)])), ((a 3), .inl ((k 3), 6, .inl (w 3))), ((a 4), .inl ((k 4), 6, .inl (w 4))), ((a 5), .inl ((k 5), 6, .inl (w 5))), ((a 13), .inl ((k 13), (n 13), .inl (w 13))), ((a 14), .inl ((k 14), (n 14), .inl (w 14))), ((a 15), .inl ((k 15), 250, .inl (w 15))), ((a 16), .inl ((k 16), 250, .inl (w 16))), ((a 17), .inl ((k 17), 61, .inl (w 17)))]
abbrev tX0 (k : Nat → ClassId) : List (ClassId × FieldType) := [((k 3), .int), ((k 4), .int), ((k 5), .int), ((k 13), .int), ((k 14), .int), ((k 15), .int), ((k 16), .int), ((k 17), .int)]
abbrev oX2 (ad : Nat) (a : Nat → Nat) (k : Nat → ClassId) (n : Nat → Nat) (w : ST) (l : SL) : va_W := [(ad, .inr (9, [.int (w 0 0), .int (w 0 1), .int (w 0 2), .ref (a 4), .ref (a 5), .ref (a 6), .ref (a 7), .ref (a 8), .int (w 0 8), .ref (a 10), .ref (a 11), .ref (a 12), .ref (a 13), .ref (a 14), .ref (a 15), .ref (a 16), .ref (a 17), .ref (a 18), .ref (a 19)])), ((a 4), .inl ((k 4), (n 4), .inr (.inl (l 4)))), ((a 5), .inl ((k 5), (n 5), .inr (.inl (l 5)))), ((a 6), .inl ((k 6), (n 6), .inr (.inl (l 6)))), ((a 7), .inl ((k 7), (n 7), .inr (.inl (l 7)))), ((a 8), .inl ((k 8), 2, .inl (w 8))), ((a 10), .inl ((k 10), (n 10), .inl (w 10))), ((a 11), .inl ((k 11), (n 11), .inr (.inl (l 11)))), ((a 12), .inl ((k 12), (n 12), .inl (w 12))), ((a 13), .inl ((k 13), (n 13), .inl (w 13))), ((a 14), .inl ((k 14), (n 14), .inr (.inl (l 14)))), ((a 15), .inl ((k 15), (n 15), .inl (w 15))), ((a 16), .inl ((k 16), (n 16), .inl (w 16))), ((a 17), .inl ((k 17), (n 17), .inl (w 17))), ((a 18), .inl ((k 18), (n 18), .inl (w 18))), ((a 19), .inl ((k 19), (n 19), .inl (w 19)))]
abbrev tX2 (k : Nat → ClassId) : List (ClassId × FieldType) := [((k 4), .long), ((k 5), .long), ((k 6), .long), ((k 7), .long), ((k 8), .int), ((k 10), .int), ((k 11), .long), ((k 12), .int), ((k 13), .int), ((k 14), .long), ((k 15), .int), ((k 16), .int), ((k 17), .int), ((k 18), .int), ((k 19), .int)]
abbrev oX3 (ad : Nat) (a : Nat → Nat) (k : Nat → ClassId) (n : Nat → Nat) (w : ST) : va_W := [(ad, .inr (10, [.int (w 0 0), .int (w 0 1), .int (w 0 2), .ref (a 4), .ref (a 5), .ref (a 6), .ref (a 7), .ref (a 8), .int (w 0 8), .int (w 0 9), .ref (a 11), .ref (a 12), .ref (a 13), .ref (a 14), .ref (a 15), .ref (a 16), .ref (a 17), .int (w 0 17), .ref (a 19), .int (w 0 19)])), ((a 4), .inl ((k 4), 16, .inl (w 4))), ((a 8), .inl ((k 8), 4, .inl (w 8))), ((a 11), .inl ((k 11), 8, .inl (w 11))), ((a 12), .inl ((k 12), 8, .inl (w 12))), ((a 13), .inl ((k 13), 8, .inl (w 13))), ((a 14), .inl ((k 14), 8, .inl (w 14))), ((a 15), .inl ((k 15), 32, .inl (w 15))), ((a 16), .inl ((k 16), 2560, .inl (w 16))), ((a 17), .inl ((k 17), (n 17), .inl (w 17))), ((a 19), .inl ((k 19), 512, .inl (w 19)))]
abbrev tX3 (k : Nat → ClassId) : List (ClassId × FieldType) := [((k 4), .int), ((k 8), .int), ((k 11), .int), ((k 12), .int), ((k 13), .int), ((k 14), .int), ((k 15), .int), ((k 16), .int), ((k 17), .int), ((k 19), .int)]
abbrev oX11 (ad : Nat) (a : Nat → Nat) (w : ST) : va_W := [(ad, .inr (11, [.ref (a 1), .ref (a 2), .ref (a 3), .ref (a 4), .ref (a 5), .ref (a 6), .ref (a 7), .ref (a 8), .ref (a 9), .ref (a 10), .int (w 0 10)]))]
def glX9 (n m : Nat → Nat) : Prop := n 2 ≤ m 2 ∧ n 3 ≤ m 3 ∧ n 4 ≤ m 4 ∧ n 5 ≤ m 5 ∧ n 6 ≤ m 6
def gcX9 (n m : Nat → Nat) : Nat := (m 2 - n 2) + (m 3 - n 3) + (m 4 - n 4) + (m 5 - n 5) + (m 6 - n 6)
def hcX9 (n m : Nat → Nat) : Nat := (lgP (m 2) - lgP (n 2)) + (lgP (m 3) - lgP (n 3)) + (lgP (m 4) - lgP (n 4)) + (lgP (m 5) - lgP (n 5)) + (lgP (m 6) - lgP (n 6))
theorem glX9_rf (n : Nat → Nat) : glX9 n n := by unfold glX9; omega
theorem glX9_tr {a b c : Nat → Nat} (h1 : glX9 a b) (h2 : glX9 b c) : glX9 a c := by unfold glX9 at *; omega
theorem gcX9_add {a b c : Nat → Nat} (h1 : glX9 a b) (h2 : glX9 b c) : gcX9 a b + gcX9 b c = gcX9 a c ∧ hcX9 a b + hcX9 b c = hcX9 a c := by unfold glX9 at h1 h2; have l0_2 := lgP_mono (h1.1); have l0_3 := lgP_mono (h1.2.1); have l0_4 := lgP_mono (h1.2.2.1); have l0_5 := lgP_mono (h1.2.2.2.1); have l0_6 := lgP_mono (h1.2.2.2.2); have l1_2 := lgP_mono (h2.1); have l1_3 := lgP_mono (h2.2.1); have l1_4 := lgP_mono (h2.2.2.1); have l1_5 := lgP_mono (h2.2.2.2.1); have l1_6 := lgP_mono (h2.2.2.2.2); unfold gcX9 hcX9; omega
theorem gsX9 {a b c d : Nat → Nat} (h1 : glX9 a b) (h2 : glX9 b c) (h3 : glX9 c d) : gcX9 a b + gcX9 b c ≤ gcX9 a d ∧ hcX9 a b + hcX9 b c ≤ hcX9 a d := by have q1 := gcX9_add h1 h2; have q2 := gcX9_add (glX9_tr h1 h2) h3; omega
theorem gmX9 {a b c : Nat → Nat} (h1 : glX9 a b) (h2 : glX9 b c) : gcX9 a b ≤ gcX9 a c ∧ hcX9 a b ≤ hcX9 a c := by have q1 := gcX9_add h1 h2; omega
def grX9 {α : Type} (a b : Nat → Nat → α) : Nat → Nat → α := fun i q => if q = 2 then b i q else if q = 3 then b i q else if q = 4 then b i q else if q = 5 then b i q else if q = 6 then b i q else a i q
def glFX9 (n m : Nat → Nat → Nat) : Prop := ∀ j, j < 6 → glX9 (n j) (m j)
def gcFX9 (n m : Nat → Nat → Nat) : Nat := gcX9 (n 0) (m 0) + gcX9 (n 1) (m 1) + gcX9 (n 2) (m 2) + gcX9 (n 3) (m 3) + gcX9 (n 4) (m 4) + gcX9 (n 5) (m 5)
def hcFX9 (n m : Nat → Nat → Nat) : Nat := hcX9 (n 0) (m 0) + hcX9 (n 1) (m 1) + hcX9 (n 2) (m 2) + hcX9 (n 3) (m 3) + hcX9 (n 4) (m 4) + hcX9 (n 5) (m 5)
theorem glFX9_rf (n : Nat → Nat → Nat) : glFX9 n n := fun j _ => glX9_rf _
theorem glFX9_tr {a b c : Nat → Nat → Nat} (h1 : glFX9 a b) (h2 : glFX9 b c) : glFX9 a c := fun j hj => glX9_tr (h1 j hj) (h2 j hj)
theorem gcFX9_add {a b c : Nat → Nat → Nat} (h1 : glFX9 a b) (h2 : glFX9 b c) : gcFX9 a b + gcFX9 b c = gcFX9 a c ∧ hcFX9 a b + hcFX9 b c = hcFX9 a c := by unfold gcFX9 hcFX9; have q0 := gcX9_add (h1 0 (by decide)) (h2 0 (by decide)); have q1 := gcX9_add (h1 1 (by decide)) (h2 1 (by decide)); have q2 := gcX9_add (h1 2 (by decide)) (h2 2 (by decide)); have q3 := gcX9_add (h1 3 (by decide)) (h2 3 (by decide)); have q4 := gcX9_add (h1 4 (by decide)) (h2 4 (by decide)); have q5 := gcX9_add (h1 5 (by decide)) (h2 5 (by decide)); omega
theorem gmFX9 {a b c : Nat → Nat → Nat} (h1 : glFX9 a b) (h2 : glFX9 b c) : gcFX9 a b ≤ gcFX9 a c ∧ hcFX9 a b ≤ hcFX9 a c := by have := gcFX9_add h1 h2; omega
theorem gsFX9 {a b c d : Nat → Nat → Nat} (h1 : glFX9 a b) (h2 : glFX9 b c) (h3 : glFX9 c d) : gcFX9 a b + gcFX9 b c ≤ gcFX9 a d ∧ hcFX9 a b + hcFX9 b c ≤ hcFX9 a d := by have q1 := gcFX9_add h1 h2; have q2 := gcFX9_add (glFX9_tr h1 h2) h3; omega
theorem gcX9_self (n : Nat → Nat) : gcX9 n n = 0 ∧ hcX9 n n = 0 := by unfold gcX9 hcX9; omega
theorem glFX9_u {n : Nat → Nat → Nat} {i : Nat} {m : Nat → Nat} (hi : i < 6) (h : glX9 (n i) m) : glFX9 n (upF n i m) := by
  intro j hj
  unfold upF
  by_cases e : j = i
  · subst e; rw [if_pos rfl]; exact h
  · rw [if_neg e]; exact glX9_rf _
theorem gcFX9_u {n : Nat → Nat → Nat} {i : Nat} {m : Nat → Nat} (hi : i < 6) : gcFX9 n (upF n i m) = gcX9 (n i) m ∧ hcFX9 n (upF n i m) = hcX9 (n i) m := by
  rcases lt6 hi with rfl | rfl | rfl | rfl | rfl | rfl <;> simp [gcFX9, hcFX9, upF, gcX9_self]
theorem glFX9_te {α β : Type} {f : α → (Nat → Nat → Nat)} {g : β → (Nat → Nat → Nat)} {a b : Nat → Nat → Nat} {o : Sum α β} (h : glFX9 a b) (h2 : Sum.elim (fun r => glFX9 b (f r)) (fun t => glFX9 b (g t)) o) : Sum.elim (fun r => glFX9 a (f r)) (fun t => glFX9 a (g t)) o := by
  rcases o with r | t
  · exact glFX9_tr h h2
  · exact glFX9_tr h h2
theorem glFX9_el {α β : Type} {f : α → (Nat → Nat → Nat)} {g : β → (Nat → Nat → Nat)} {a : Nat → Nat → Nat} {o : Sum α β} {o2 : α} (h : Sum.elim (fun r => glFX9 a (f r)) (fun t => glFX9 a (g t)) o) (hr : ∀ r, o = Sum.inl r → r = o2) (hg : ∀ t, o = Sum.inr t → glFX9 (g t) (f o2)) : glFX9 a (f o2) := by
  rcases o with r | t
  · rw [← hr r rfl]; exact h
  · exact glFX9_tr h (hg t rfl)
theorem glX9_te {α β : Type} {f : α → (Nat → Nat)} {g : β → (Nat → Nat)} {a b : Nat → Nat} {o : Sum α β} (h : glX9 a b) (h2 : Sum.elim (fun r => glX9 b (f r)) (fun t => glX9 b (g t)) o) : Sum.elim (fun r => glX9 a (f r)) (fun t => glX9 a (g t)) o := by
  rcases o with r | t
  · exact glX9_tr h h2
  · exact glX9_tr h h2
theorem glX9_el {α β : Type} {f : α → (Nat → Nat)} {g : β → (Nat → Nat)} {a : Nat → Nat} {o : Sum α β} {o2 : α} (h : Sum.elim (fun r => glX9 a (f r)) (fun t => glX9 a (g t)) o) (hr : ∀ r, o = Sum.inl r → r = o2) (hg : ∀ t, o = Sum.inr t → glX9 (g t) (f o2)) : glX9 a (f o2) := by
  rcases o with r | t
  · rw [← hr r rfl]; exact h
  · exact glX9_tr h (hg t rfl)
theorem glX9_2 {n : Nat → Nat} {x : Nat} (h : n 2 ≤ x) : glX9 n (stn n 2 x) := by simp [glX9, stn]; omega
theorem gcX9_2 {n : Nat → Nat} {x : Nat} (h : n 2 ≤ x) : gcX9 n (stn n 2 x) = x - n 2 ∧ hcX9 n (stn n 2 x) = lgP x - lgP (n 2) := by simp [gcX9, hcX9, stn]
theorem glX9_3 {n : Nat → Nat} {x : Nat} (h : n 3 ≤ x) : glX9 n (stn n 3 x) := by simp [glX9, stn]; omega
theorem gcX9_3 {n : Nat → Nat} {x : Nat} (h : n 3 ≤ x) : gcX9 n (stn n 3 x) = x - n 3 ∧ hcX9 n (stn n 3 x) = lgP x - lgP (n 3) := by simp [gcX9, hcX9, stn]
theorem glX9_4 {n : Nat → Nat} {x : Nat} (h : n 4 ≤ x) : glX9 n (stn n 4 x) := by simp [glX9, stn]; omega
theorem gcX9_4 {n : Nat → Nat} {x : Nat} (h : n 4 ≤ x) : gcX9 n (stn n 4 x) = x - n 4 ∧ hcX9 n (stn n 4 x) = lgP x - lgP (n 4) := by simp [gcX9, hcX9, stn]
theorem glX9_5 {n : Nat → Nat} {x : Nat} (h : n 5 ≤ x) : glX9 n (stn n 5 x) := by simp [glX9, stn]; omega
theorem gcX9_5 {n : Nat → Nat} {x : Nat} (h : n 5 ≤ x) : gcX9 n (stn n 5 x) = x - n 5 ∧ hcX9 n (stn n 5 x) = lgP x - lgP (n 5) := by simp [gcX9, hcX9, stn]
theorem glX9_6 {n : Nat → Nat} {x : Nat} (h : n 6 ≤ x) : glX9 n (stn n 6 x) := by simp [glX9, stn]; omega
theorem gcX9_6 {n : Nat → Nat} {x : Nat} (h : n 6 ≤ x) : gcX9 n (stn n 6 x) = x - n 6 ∧ hcX9 n (stn n 6 x) = lgP x - lgP (n 6) := by simp [gcX9, hcX9, stn]
def glX1 (n m : Nat → Nat) : Prop := n 19 ≤ m 19 ∧ n 20 ≤ m 20 ∧ n 21 ≤ m 21
def gcX1 (n m : Nat → Nat) : Nat := (m 19 - n 19) + (m 20 - n 20) + (m 21 - n 21)
def hcX1 (n m : Nat → Nat) : Nat := (lgP (m 19) - lgP (n 19)) + (lgP (m 20) - lgP (n 20)) + (lgP (m 21) - lgP (n 21))
theorem glX1_rf (n : Nat → Nat) : glX1 n n := by unfold glX1; omega
theorem glX1_tr {a b c : Nat → Nat} (h1 : glX1 a b) (h2 : glX1 b c) : glX1 a c := by unfold glX1 at *; omega
theorem gcX1_add {a b c : Nat → Nat} (h1 : glX1 a b) (h2 : glX1 b c) : gcX1 a b + gcX1 b c = gcX1 a c ∧ hcX1 a b + hcX1 b c = hcX1 a c := by unfold glX1 at h1 h2; have l0_19 := lgP_mono (h1.1); have l0_20 := lgP_mono (h1.2.1); have l0_21 := lgP_mono (h1.2.2); have l1_19 := lgP_mono (h2.1); have l1_20 := lgP_mono (h2.2.1); have l1_21 := lgP_mono (h2.2.2); unfold gcX1 hcX1; omega
theorem gsX1 {a b c d : Nat → Nat} (h1 : glX1 a b) (h2 : glX1 b c) (h3 : glX1 c d) : gcX1 a b + gcX1 b c ≤ gcX1 a d ∧ hcX1 a b + hcX1 b c ≤ hcX1 a d := by have q1 := gcX1_add h1 h2; have q2 := gcX1_add (glX1_tr h1 h2) h3; omega
theorem gmX1 {a b c : Nat → Nat} (h1 : glX1 a b) (h2 : glX1 b c) : gcX1 a b ≤ gcX1 a c ∧ hcX1 a b ≤ hcX1 a c := by have q1 := gcX1_add h1 h2; omega
def grX1 {α : Type} (a b : Nat → Nat → α) : Nat → Nat → α := fun i q => if q = 19 then b i q else if q = 20 then b i q else if q = 21 then b i q else a i q
def glFX1 (n m : Nat → Nat → Nat) : Prop := ∀ j, j < 6 → glX1 (n j) (m j)
def gcFX1 (n m : Nat → Nat → Nat) : Nat := gcX1 (n 0) (m 0) + gcX1 (n 1) (m 1) + gcX1 (n 2) (m 2) + gcX1 (n 3) (m 3) + gcX1 (n 4) (m 4) + gcX1 (n 5) (m 5)
def hcFX1 (n m : Nat → Nat → Nat) : Nat := hcX1 (n 0) (m 0) + hcX1 (n 1) (m 1) + hcX1 (n 2) (m 2) + hcX1 (n 3) (m 3) + hcX1 (n 4) (m 4) + hcX1 (n 5) (m 5)
theorem glFX1_rf (n : Nat → Nat → Nat) : glFX1 n n := fun j _ => glX1_rf _
theorem glFX1_tr {a b c : Nat → Nat → Nat} (h1 : glFX1 a b) (h2 : glFX1 b c) : glFX1 a c := fun j hj => glX1_tr (h1 j hj) (h2 j hj)
theorem gcFX1_add {a b c : Nat → Nat → Nat} (h1 : glFX1 a b) (h2 : glFX1 b c) : gcFX1 a b + gcFX1 b c = gcFX1 a c ∧ hcFX1 a b + hcFX1 b c = hcFX1 a c := by unfold gcFX1 hcFX1; have q0 := gcX1_add (h1 0 (by decide)) (h2 0 (by decide)); have q1 := gcX1_add (h1 1 (by decide)) (h2 1 (by decide)); have q2 := gcX1_add (h1 2 (by decide)) (h2 2 (by decide)); have q3 := gcX1_add (h1 3 (by decide)) (h2 3 (by decide)); have q4 := gcX1_add (h1 4 (by decide)) (h2 4 (by decide)); have q5 := gcX1_add (h1 5 (by decide)) (h2 5 (by decide)); omega
theorem gmFX1 {a b c : Nat → Nat → Nat} (h1 : glFX1 a b) (h2 : glFX1 b c) : gcFX1 a b ≤ gcFX1 a c ∧ hcFX1 a b ≤ hcFX1 a c := by have := gcFX1_add h1 h2; omega
theorem gsFX1 {a b c d : Nat → Nat → Nat} (h1 : glFX1 a b) (h2 : glFX1 b c) (h3 : glFX1 c d) : gcFX1 a b + gcFX1 b c ≤ gcFX1 a d ∧ hcFX1 a b + hcFX1 b c ≤ hcFX1 a d := by have q1 := gcFX1_add h1 h2; have q2 := gcFX1_add (glFX1_tr h1 h2) h3; omega
theorem gcX1_self (n : Nat → Nat) : gcX1 n n = 0 ∧ hcX1 n n = 0 := by unfold gcX1 hcX1; omega
theorem glFX1_u {n : Nat → Nat → Nat} {i : Nat} {m : Nat → Nat} (hi : i < 6) (h : glX1 (n i) m) : glFX1 n (upF n i m) := by
  intro j hj
  unfold upF
  by_cases e : j = i
  · subst e; rw [if_pos rfl]; exact h
  · rw [if_neg e]; exact glX1_rf _
theorem gcFX1_u {n : Nat → Nat → Nat} {i : Nat} {m : Nat → Nat} (hi : i < 6) : gcFX1 n (upF n i m) = gcX1 (n i) m ∧ hcFX1 n (upF n i m) = hcX1 (n i) m := by
  rcases lt6 hi with rfl | rfl | rfl | rfl | rfl | rfl <;> simp [gcFX1, hcFX1, upF, gcX1_self]
theorem glFX1_te {α β : Type} {f : α → (Nat → Nat → Nat)} {g : β → (Nat → Nat → Nat)} {a b : Nat → Nat → Nat} {o : Sum α β} (h : glFX1 a b) (h2 : Sum.elim (fun r => glFX1 b (f r)) (fun t => glFX1 b (g t)) o) : Sum.elim (fun r => glFX1 a (f r)) (fun t => glFX1 a (g t)) o := by
  rcases o with r | t
  · exact glFX1_tr h h2
  · exact glFX1_tr h h2
theorem glFX1_el {α β : Type} {f : α → (Nat → Nat → Nat)} {g : β → (Nat → Nat → Nat)} {a : Nat → Nat → Nat} {o : Sum α β} {o2 : α} (h : Sum.elim (fun r => glFX1 a (f r)) (fun t => glFX1 a (g t)) o) (hr : ∀ r, o = Sum.inl r → r = o2) (hg : ∀ t, o = Sum.inr t → glFX1 (g t) (f o2)) : glFX1 a (f o2) := by
  rcases o with r | t
  · rw [← hr r rfl]; exact h
  · exact glFX1_tr h (hg t rfl)
theorem glX1_te {α β : Type} {f : α → (Nat → Nat)} {g : β → (Nat → Nat)} {a b : Nat → Nat} {o : Sum α β} (h : glX1 a b) (h2 : Sum.elim (fun r => glX1 b (f r)) (fun t => glX1 b (g t)) o) : Sum.elim (fun r => glX1 a (f r)) (fun t => glX1 a (g t)) o := by
  rcases o with r | t
  · exact glX1_tr h h2
  · exact glX1_tr h h2
theorem glX1_el {α β : Type} {f : α → (Nat → Nat)} {g : β → (Nat → Nat)} {a : Nat → Nat} {o : Sum α β} {o2 : α} (h : Sum.elim (fun r => glX1 a (f r)) (fun t => glX1 a (g t)) o) (hr : ∀ r, o = Sum.inl r → r = o2) (hg : ∀ t, o = Sum.inr t → glX1 (g t) (f o2)) : glX1 a (f o2) := by
  rcases o with r | t
  · rw [← hr r rfl]; exact h
  · exact glX1_tr h (hg t rfl)
theorem glX1_19 {n : Nat → Nat} {x : Nat} (h : n 19 ≤ x) : glX1 n (stn n 19 x) := by simp [glX1, stn]; omega
theorem gcX1_19 {n : Nat → Nat} {x : Nat} (h : n 19 ≤ x) : gcX1 n (stn n 19 x) = x - n 19 ∧ hcX1 n (stn n 19 x) = lgP x - lgP (n 19) := by simp [gcX1, hcX1, stn]
theorem glX1_20 {n : Nat → Nat} {x : Nat} (h : n 20 ≤ x) : glX1 n (stn n 20 x) := by simp [glX1, stn]; omega
theorem gcX1_20 {n : Nat → Nat} {x : Nat} (h : n 20 ≤ x) : gcX1 n (stn n 20 x) = x - n 20 ∧ hcX1 n (stn n 20 x) = lgP x - lgP (n 20) := by simp [gcX1, hcX1, stn]
theorem glX1_21 {n : Nat → Nat} {x : Nat} (h : n 21 ≤ x) : glX1 n (stn n 21 x) := by simp [glX1, stn]; omega
theorem gcX1_21 {n : Nat → Nat} {x : Nat} (h : n 21 ≤ x) : gcX1 n (stn n 21 x) = x - n 21 ∧ hcX1 n (stn n 21 x) = lgP x - lgP (n 21) := by simp [gcX1, hcX1, stn]
def glX0 (n m : Nat → Nat) : Prop := n 13 ≤ m 13 ∧ n 14 ≤ m 14
def gcX0 (n m : Nat → Nat) : Nat := (m 13 - n 13) + (m 14 - n 14)
def hcX0 (n m : Nat → Nat) : Nat := (lgP (m 13) - lgP (n 13)) + (lgP (m 14) - lgP (n 14))
theorem glX0_rf (n : Nat → Nat) : glX0 n n := by unfold glX0; omega
theorem glX0_tr {a b c : Nat → Nat} (h1 : glX0 a b) (h2 : glX0 b c) : glX0 a c := by unfold glX0 at *; omega
theorem gcX0_add {a b c : Nat → Nat} (h1 : glX0 a b) (h2 : glX0 b c) : gcX0 a b + gcX0 b c = gcX0 a c ∧ hcX0 a b + hcX0 b c = hcX0 a c := by unfold glX0 at h1 h2; have l0_13 := lgP_mono (h1.1); have l0_14 := lgP_mono (h1.2); have l1_13 := lgP_mono (h2.1); have l1_14 := lgP_mono (h2.2); unfold gcX0 hcX0; omega
theorem gsX0 {a b c d : Nat → Nat} (h1 : glX0 a b) (h2 : glX0 b c) (h3 : glX0 c d) : gcX0 a b + gcX0 b c ≤ gcX0 a d ∧ hcX0 a b + hcX0 b c ≤ hcX0 a d := by have q1 := gcX0_add h1 h2; have q2 := gcX0_add (glX0_tr h1 h2) h3; omega
theorem gmX0 {a b c : Nat → Nat} (h1 : glX0 a b) (h2 : glX0 b c) : gcX0 a b ≤ gcX0 a c ∧ hcX0 a b ≤ hcX0 a c := by have q1 := gcX0_add h1 h2; omega
def grX0 {α : Type} (a b : Nat → Nat → α) : Nat → Nat → α := fun i q => if q = 13 then b i q else if q = 14 then b i q else a i q
def glFX0 (n m : Nat → Nat → Nat) : Prop := ∀ j, j < 6 → glX0 (n j) (m j)
def gcFX0 (n m : Nat → Nat → Nat) : Nat := gcX0 (n 0) (m 0) + gcX0 (n 1) (m 1) + gcX0 (n 2) (m 2) + gcX0 (n 3) (m 3) + gcX0 (n 4) (m 4) + gcX0 (n 5) (m 5)
def hcFX0 (n m : Nat → Nat → Nat) : Nat := hcX0 (n 0) (m 0) + hcX0 (n 1) (m 1) + hcX0 (n 2) (m 2) + hcX0 (n 3) (m 3) + hcX0 (n 4) (m 4) + hcX0 (n 5) (m 5)
theorem glFX0_rf (n : Nat → Nat → Nat) : glFX0 n n := fun j _ => glX0_rf _
theorem glFX0_tr {a b c : Nat → Nat → Nat} (h1 : glFX0 a b) (h2 : glFX0 b c) : glFX0 a c := fun j hj => glX0_tr (h1 j hj) (h2 j hj)
theorem gcFX0_add {a b c : Nat → Nat → Nat} (h1 : glFX0 a b) (h2 : glFX0 b c) : gcFX0 a b + gcFX0 b c = gcFX0 a c ∧ hcFX0 a b + hcFX0 b c = hcFX0 a c := by unfold gcFX0 hcFX0; have q0 := gcX0_add (h1 0 (by decide)) (h2 0 (by decide)); have q1 := gcX0_add (h1 1 (by decide)) (h2 1 (by decide)); have q2 := gcX0_add (h1 2 (by decide)) (h2 2 (by decide)); have q3 := gcX0_add (h1 3 (by decide)) (h2 3 (by decide)); have q4 := gcX0_add (h1 4 (by decide)) (h2 4 (by decide)); have q5 := gcX0_add (h1 5 (by decide)) (h2 5 (by decide)); omega
theorem gmFX0 {a b c : Nat → Nat → Nat} (h1 : glFX0 a b) (h2 : glFX0 b c) : gcFX0 a b ≤ gcFX0 a c ∧ hcFX0 a b ≤ hcFX0 a c := by have := gcFX0_add h1 h2; omega
theorem gsFX0 {a b c d : Nat → Nat → Nat} (h1 : glFX0 a b) (h2 : glFX0 b c) (h3 : glFX0 c d) : gcFX0 a b + gcFX0 b c ≤ gcFX0 a d ∧ hcFX0 a b + hcFX0 b c ≤ hcFX0 a d := by have q1 := gcFX0_add h1 h2; have q2 := gcFX0_add (glFX0_tr h1 h2) h3; omega
theorem gcX0_self (n : Nat → Nat) : gcX0 n n = 0 ∧ hcX0 n n = 0 := by unfold gcX0 hcX0; omega
theorem glFX0_u {n : Nat → Nat → Nat} {i : Nat} {m : Nat → Nat} (hi : i < 6) (h : glX0 (n i) m) : glFX0 n (upF n i m) := by
  intro j hj
  unfold upF
  by_cases e : j = i
  · subst e; rw [if_pos rfl]; exact h
  · rw [if_neg e]; exact glX0_rf _
theorem gcFX0_u {n : Nat → Nat → Nat} {i : Nat} {m : Nat → Nat} (hi : i < 6) : gcFX0 n (upF n i m) = gcX0 (n i) m ∧ hcFX0 n (upF n i m) = hcX0 (n i) m := by
  rcases lt6 hi with rfl | rfl | rfl | rfl | rfl | rfl <;> simp [gcFX0, hcFX0, upF, gcX0_self]
theorem glFX0_te {α β : Type} {f : α → (Nat → Nat → Nat)} {g : β → (Nat → Nat → Nat)} {a b : Nat → Nat → Nat} {o : Sum α β} (h : glFX0 a b) (h2 : Sum.elim (fun r => glFX0 b (f r)) (fun t => glFX0 b (g t)) o) : Sum.elim (fun r => glFX0 a (f r)) (fun t => glFX0 a (g t)) o := by
  rcases o with r | t
  · exact glFX0_tr h h2
  · exact glFX0_tr h h2
theorem glFX0_el {α β : Type} {f : α → (Nat → Nat → Nat)} {g : β → (Nat → Nat → Nat)} {a : Nat → Nat → Nat} {o : Sum α β} {o2 : α} (h : Sum.elim (fun r => glFX0 a (f r)) (fun t => glFX0 a (g t)) o) (hr : ∀ r, o = Sum.inl r → r = o2) (hg : ∀ t, o = Sum.inr t → glFX0 (g t) (f o2)) : glFX0 a (f o2) := by
  rcases o with r | t
  · rw [← hr r rfl]; exact h
  · exact glFX0_tr h (hg t rfl)
theorem glX0_te {α β : Type} {f : α → (Nat → Nat)} {g : β → (Nat → Nat)} {a b : Nat → Nat} {o : Sum α β} (h : glX0 a b) (h2 : Sum.elim (fun r => glX0 b (f r)) (fun t => glX0 b (g t)) o) : Sum.elim (fun r => glX0 a (f r)) (fun t => glX0 a (g t)) o := by
  rcases o with r | t
  · exact glX0_tr h h2
  · exact glX0_tr h h2
theorem glX0_el {α β : Type} {f : α → (Nat → Nat)} {g : β → (Nat → Nat)} {a : Nat → Nat} {o : Sum α β} {o2 : α} (h : Sum.elim (fun r => glX0 a (f r)) (fun t => glX0 a (g t)) o) (hr : ∀ r, o = Sum.inl r → r = o2) (hg : ∀ t, o = Sum.inr t → glX0 (g t) (f o2)) : glX0 a (f o2) := by
  rcases o with r | t
  · rw [← hr r rfl]; exact h
  · exact glX0_tr h (hg t rfl)
theorem glX0_13 {n : Nat → Nat} {x : Nat} (h : n 13 ≤ x) : glX0 n (stn n 13 x) := by simp [glX0, stn]; omega
theorem gcX0_13 {n : Nat → Nat} {x : Nat} (h : n 13 ≤ x) : gcX0 n (stn n 13 x) = x - n 13 ∧ hcX0 n (stn n 13 x) = lgP x - lgP (n 13) := by simp [gcX0, hcX0, stn]
theorem glX0_14 {n : Nat → Nat} {x : Nat} (h : n 14 ≤ x) : glX0 n (stn n 14 x) := by simp [glX0, stn]; omega
theorem gcX0_14 {n : Nat → Nat} {x : Nat} (h : n 14 ≤ x) : gcX0 n (stn n 14 x) = x - n 14 ∧ hcX0 n (stn n 14 x) = lgP x - lgP (n 14) := by simp [gcX0, hcX0, stn]
def glX2 (n m : Nat → Nat) : Prop := n 4 ≤ m 4 ∧ n 5 ≤ m 5 ∧ n 6 ≤ m 6 ∧ n 7 ≤ m 7 ∧ n 10 ≤ m 10 ∧ n 11 ≤ m 11 ∧ n 12 ≤ m 12 ∧ n 13 ≤ m 13 ∧ n 14 ≤ m 14 ∧ n 15 ≤ m 15 ∧ n 16 ≤ m 16 ∧ n 17 ≤ m 17 ∧ n 18 ≤ m 18 ∧ n 19 ≤ m 19
def gcX2 (n m : Nat → Nat) : Nat := (m 4 - n 4) + (m 5 - n 5) + (m 6 - n 6) + (m 7 - n 7) + (m 10 - n 10) + (m 11 - n 11) + (m 12 - n 12) + (m 13 - n 13) + (m 14 - n 14) + (m 15 - n 15) + (m 16 - n 16) + (m 17 - n 17) + (m 18 - n 18) + (m 19 - n 19)
def hcX2 (n m : Nat → Nat) : Nat := (lgP (m 4) - lgP (n 4)) + (lgP (m 5) - lgP (n 5)) + (lgP (m 6) - lgP (n 6)) + (lgP (m 7) - lgP (n 7)) + (lgP (m 10) - lgP (n 10)) + (lgP (m 11) - lgP (n 11)) + (lgP (m 12) - lgP (n 12)) + (lgP (m 13) - lgP (n 13)) + (lgP (m 14) - lgP (n 14)) + (lgP (m 15) - lgP (n 15)) + (lgP (m 16) - lgP (n 16)) + (lgP (m 17) - lgP (n 17)) + (lgP (m 18) - lgP (n 18)) + (lgP (m 19) - lgP (n 19))
theorem glX2_rf (n : Nat → Nat) : glX2 n n := by unfold glX2; omega
theorem glX2_tr {a b c : Nat → Nat} (h1 : glX2 a b) (h2 : glX2 b c) : glX2 a c := by unfold glX2 at *; omega
theorem gcX2_add {a b c : Nat → Nat} (h1 : glX2 a b) (h2 : glX2 b c) : gcX2 a b + gcX2 b c = gcX2 a c ∧ hcX2 a b + hcX2 b c = hcX2 a c := by unfold glX2 at h1 h2; have l0_4 := lgP_mono (h1.1); have l0_5 := lgP_mono (h1.2.1); have l0_6 := lgP_mono (h1.2.2.1); have l0_7 := lgP_mono (h1.2.2.2.1); have l0_10 := lgP_mono (h1.2.2.2.2.1); have l0_11 := lgP_mono (h1.2.2.2.2.2.1); have l0_12 := lgP_mono (h1.2.2.2.2.2.2.1); have l0_13 := lgP_mono (h1.2.2.2.2.2.2.2.1); have l0_14 := lgP_mono (h1.2.2.2.2.2.2.2.2.1); have l0_15 := lgP_mono (h1.2.2.2.2.2.2.2.2.2.1); have l0_16 := lgP_mono (h1.2.2.2.2.2.2.2.2.2.2.1); have l0_17 := lgP_mono (h1.2.2.2.2.2.2.2.2.2.2.2.1); have l0_18 := lgP_mono (h1.2.2.2.2.2.2.2.2.2.2.2.2.1); have l0_19 := lgP_mono (h1.2.2.2.2.2.2.2.2.2.2.2.2.2); have l1_4 := lgP_mono (h2.1); have l1_5 := lgP_mono (h2.2.1); have l1_6 := lgP_mono (h2.2.2.1); have l1_7 := lgP_mono (h2.2.2.2.1); have l1_10 := lgP_mono (h2.2.2.2.2.1); have l1_11 := lgP_mono (h2.2.2.2.2.2.1); have l1_12 := lgP_mono (h2.2.2.2.2.2.2.1); have l1_13 := lgP_mono (h2.2.2.2.2.2.2.2.1); have l1_14 := lgP_mono (h2.2.2.2.2.2.2.2.2.1); have l1_15 := lgP_mono (h2.2.2.2.2.2.2.2.2.2.1); have l1_16 := lgP_mono (h2.2.2.2.2.2.2.2.2.2.2.1); have l1_17 := lgP_mono (h2.2.2.2.2.2.2.2.2.2.2.2.1); have l1_18 := lgP_mono (h2.2.2.2.2.2.2.2.2.2.2.2.2.1); have l1_19 := lgP_mono (h2.2.2.2.2.2.2.2.2.2.2.2.2.2); unfold gcX2 hcX2; omega
theorem gsX2 {a b c d : Nat → Nat} (h1 : glX2 a b) (h2 : glX2 b c) (h3 : glX2 c d) : gcX2 a b + gcX2 b c ≤ gcX2 a d ∧ hcX2 a b + hcX2 b c ≤ hcX2 a d := by have q1 := gcX2_add h1 h2; have q2 := gcX2_add (glX2_tr h1 h2) h3; omega
theorem gmX2 {a b c : Nat → Nat} (h1 : glX2 a b) (h2 : glX2 b c) : gcX2 a b ≤ gcX2 a c ∧ hcX2 a b ≤ hcX2 a c := by have q1 := gcX2_add h1 h2; omega
def grX2 {α : Type} (a b : Nat → Nat → α) : Nat → Nat → α := fun i q => if q = 4 then b i q else if q = 5 then b i q else if q = 6 then b i q else if q = 7 then b i q else if q = 10 then b i q else if q = 11 then b i q else if q = 12 then b i q else if q = 13 then b i q else if q = 14 then b i q else if q = 15 then b i q else if q = 16 then b i q else if q = 17 then b i q else if q = 18 then b i q else if q = 19 then b i q else a i q
def glFX2 (n m : Nat → Nat → Nat) : Prop := ∀ j, j < 6 → glX2 (n j) (m j)
def gcFX2 (n m : Nat → Nat → Nat) : Nat := gcX2 (n 0) (m 0) + gcX2 (n 1) (m 1) + gcX2 (n 2) (m 2) + gcX2 (n 3) (m 3) + gcX2 (n 4) (m 4) + gcX2 (n 5) (m 5)
def hcFX2 (n m : Nat → Nat → Nat) : Nat := hcX2 (n 0) (m 0) + hcX2 (n 1) (m 1) + hcX2 (n 2) (m 2) + hcX2 (n 3) (m 3) + hcX2 (n 4) (m 4) + hcX2 (n 5) (m 5)
theorem glFX2_rf (n : Nat → Nat → Nat) : glFX2 n n := fun j _ => glX2_rf _
theorem glFX2_tr {a b c : Nat → Nat → Nat} (h1 : glFX2 a b) (h2 : glFX2 b c) : glFX2 a c := fun j hj => glX2_tr (h1 j hj) (h2 j hj)
theorem gcFX2_add {a b c : Nat → Nat → Nat} (h1 : glFX2 a b) (h2 : glFX2 b c) : gcFX2 a b + gcFX2 b c = gcFX2 a c ∧ hcFX2 a b + hcFX2 b c = hcFX2 a c := by unfold gcFX2 hcFX2; have q0 := gcX2_add (h1 0 (by decide)) (h2 0 (by decide)); have q1 := gcX2_add (h1 1 (by decide)) (h2 1 (by decide)); have q2 := gcX2_add (h1 2 (by decide)) (h2 2 (by decide)); have q3 := gcX2_add (h1 3 (by decide)) (h2 3 (by decide)); have q4 := gcX2_add (h1 4 (by decide)) (h2 4 (by decide)); have q5 := gcX2_add (h1 5 (by decide)) (h2 5 (by decide)); omega
theorem gmFX2 {a b c : Nat → Nat → Nat} (h1 : glFX2 a b) (h2 : glFX2 b c) : gcFX2 a b ≤ gcFX2 a c ∧ hcFX2 a b ≤ hcFX2 a c := by have := gcFX2_add h1 h2; omega
theorem gsFX2 {a b c d : Nat → Nat → Nat} (h1 : glFX2 a b) (h2 : glFX2 b c) (h3 : glFX2 c d) : gcFX2 a b + gcFX2 b c ≤ gcFX2 a d ∧ hcFX2 a b + hcFX2 b c ≤ hcFX2 a d := by have q1 := gcFX2_add h1 h2; have q2 := gcFX2_add (glFX2_tr h1 h2) h3; omega
theorem gcX2_self (n : Nat → Nat) : gcX2 n n = 0 ∧ hcX2 n n = 0 := by unfold gcX2 hcX2; omega
theorem glFX2_u {n : Nat → Nat → Nat} {i : Nat} {m : Nat → Nat} (hi : i < 6) (h : glX2 (n i) m) : glFX2 n (upF n i m) := by
  intro j hj
  unfold upF
  by_cases e : j = i
  · subst e; rw [if_pos rfl]; exact h
  · rw [if_neg e]; exact glX2_rf _
theorem gcFX2_u {n : Nat → Nat → Nat} {i : Nat} {m : Nat → Nat} (hi : i < 6) : gcFX2 n (upF n i m) = gcX2 (n i) m ∧ hcFX2 n (upF n i m) = hcX2 (n i) m := by
  rcases lt6 hi with rfl | rfl | rfl | rfl | rfl | rfl <;> simp [gcFX2, hcFX2, upF, gcX2_self]
theorem glFX2_te {α β : Type} {f : α → (Nat → Nat → Nat)} {g : β → (Nat → Nat → Nat)} {a b : Nat → Nat → Nat} {o : Sum α β} (h : glFX2 a b) (h2 : Sum.elim (fun r => glFX2 b (f r)) (fun t => glFX2 b (g t)) o) : Sum.elim (fun r => glFX2 a (f r)) (fun t => glFX2 a (g t)) o := by
  rcases o with r | t
  · exact glFX2_tr h h2
  · exact glFX2_tr h h2
theorem glFX2_el {α β : Type} {f : α → (Nat → Nat → Nat)} {g : β → (Nat → Nat → Nat)} {a : Nat → Nat → Nat} {o : Sum α β} {o2 : α} (h : Sum.elim (fun r => glFX2 a (f r)) (fun t => glFX2 a (g t)) o) (hr : ∀ r, o = Sum.inl r → r = o2) (hg : ∀ t, o = Sum.inr t → glFX2 (g t) (f o2)) : glFX2 a (f o2) := by
  rcases o with r | t
  · rw [← hr r rfl]; exact h
  · exact glFX2_tr h (hg t rfl)
theorem glX2_te {α β : Type} {f : α → (Nat → Nat)} {g : β → (Nat → Nat)} {a b : Nat → Nat} {o : Sum α β} (h : glX2 a b) (h2 : Sum.elim (fun r => glX2 b (f r)) (fun t => glX2 b (g t)) o) : Sum.elim (fun r => glX2 a (f r)) (fun t => glX2 a (g t)) o := by
  rcases o with r | t
  · exact glX2_tr h h2
  · exact glX2_tr h h2
theorem glX2_el {α β : Type} {f : α → (Nat → Nat)} {g : β → (Nat → Nat)} {a : Nat → Nat} {o : Sum α β} {o2 : α} (h : Sum.elim (fun r => glX2 a (f r)) (fun t => glX2 a (g t)) o) (hr : ∀ r, o = Sum.inl r → r = o2) (hg : ∀ t, o = Sum.inr t → glX2 (g t) (f o2)) : glX2 a (f o2) := by
  rcases o with r | t
  · rw [← hr r rfl]; exact h
  · exact glX2_tr h (hg t rfl)
theorem glX2_4 {n : Nat → Nat} {x : Nat} (h : n 4 ≤ x) : glX2 n (stn n 4 x) := by simp [glX2, stn]; omega
theorem gcX2_4 {n : Nat → Nat} {x : Nat} (h : n 4 ≤ x) : gcX2 n (stn n 4 x) = x - n 4 ∧ hcX2 n (stn n 4 x) = lgP x - lgP (n 4) := by simp [gcX2, hcX2, stn]
theorem glX2_5 {n : Nat → Nat} {x : Nat} (h : n 5 ≤ x) : glX2 n (stn n 5 x) := by simp [glX2, stn]; omega
theorem gcX2_5 {n : Nat → Nat} {x : Nat} (h : n 5 ≤ x) : gcX2 n (stn n 5 x) = x - n 5 ∧ hcX2 n (stn n 5 x) = lgP x - lgP (n 5) := by simp [gcX2, hcX2, stn]
theorem glX2_6 {n : Nat → Nat} {x : Nat} (h : n 6 ≤ x) : glX2 n (stn n 6 x) := by simp [glX2, stn]; omega
theorem gcX2_6 {n : Nat → Nat} {x : Nat} (h : n 6 ≤ x) : gcX2 n (stn n 6 x) = x - n 6 ∧ hcX2 n (stn n 6 x) = lgP x - lgP (n 6) := by simp [gcX2, hcX2, stn]
theorem glX2_7 {n : Nat → Nat} {x : Nat} (h : n 7 ≤ x) : glX2 n (stn n 7 x) := by simp [glX2, stn]; omega
theorem gcX2_7 {n : Nat → Nat} {x : Nat} (h : n 7 ≤ x) : gcX2 n (stn n 7 x) = x - n 7 ∧ hcX2 n (stn n 7 x) = lgP x - lgP (n 7) := by simp [gcX2, hcX2, stn]
theorem glX2_10 {n : Nat → Nat} {x : Nat} (h : n 10 ≤ x) : glX2 n (stn n 10 x) := by simp [glX2, stn]; omega
theorem gcX2_10 {n : Nat → Nat} {x : Nat} (h : n 10 ≤ x) : gcX2 n (stn n 10 x) = x - n 10 ∧ hcX2 n (stn n 10 x) = lgP x - lgP (n 10) := by simp [gcX2, hcX2, stn]
theorem glX2_11 {n : Nat → Nat} {x : Nat} (h : n 11 ≤ x) : glX2 n (stn n 11 x) := by simp [glX2, stn]; omega
theorem gcX2_11 {n : Nat → Nat} {x : Nat} (h : n 11 ≤ x) : gcX2 n (stn n 11 x) = x - n 11 ∧ hcX2 n (stn n 11 x) = lgP x - lgP (n 11) := by simp [gcX2, hcX2, stn]
theorem glX2_12 {n : Nat → Nat} {x : Nat} (h : n 12 ≤ x) : glX2 n (stn n 12 x) := by simp [glX2, stn]; omega
theorem gcX2_12 {n : Nat → Nat} {x : Nat} (h : n 12 ≤ x) : gcX2 n (stn n 12 x) = x - n 12 ∧ hcX2 n (stn n 12 x) = lgP x - lgP (n 12) := by simp [gcX2, hcX2, stn]
theorem glX2_13 {n : Nat → Nat} {x : Nat} (h : n 13 ≤ x) : glX2 n (stn n 13 x) := by simp [glX2, stn]; omega
theorem gcX2_13 {n : Nat → Nat} {x : Nat} (h : n 13 ≤ x) : gcX2 n (stn n 13 x) = x - n 13 ∧ hcX2 n (stn n 13 x) = lgP x - lgP (n 13) := by simp [gcX2, hcX2, stn]
theorem glX2_14 {n : Nat → Nat} {x : Nat} (h : n 14 ≤ x) : glX2 n (stn n 14 x) := by simp [glX2, stn]; omega
theorem gcX2_14 {n : Nat → Nat} {x : Nat} (h : n 14 ≤ x) : gcX2 n (stn n 14 x) = x - n 14 ∧ hcX2 n (stn n 14 x) = lgP x - lgP (n 14) := by simp [gcX2, hcX2, stn]
theorem glX2_15 {n : Nat → Nat} {x : Nat} (h : n 15 ≤ x) : glX2 n (stn n 15 x) := by simp [glX2, stn]; omega
theorem gcX2_15 {n : Nat → Nat} {x : Nat} (h : n 15 ≤ x) : gcX2 n (stn n 15 x) = x - n 15 ∧ hcX2 n (stn n 15 x) = lgP x - lgP (n 15) := by simp [gcX2, hcX2, stn]
theorem glX2_16 {n : Nat → Nat} {x : Nat} (h : n 16 ≤ x) : glX2 n (stn n 16 x) := by simp [glX2, stn]; omega
theorem gcX2_16 {n : Nat → Nat} {x : Nat} (h : n 16 ≤ x) : gcX2 n (stn n 16 x) = x - n 16 ∧ hcX2 n (stn n 16 x) = lgP x - lgP (n 16) := by simp [gcX2, hcX2, stn]
theorem glX2_17 {n : Nat → Nat} {x : Nat} (h : n 17 ≤ x) : glX2 n (stn n 17 x) := by simp [glX2, stn]; omega
theorem gcX2_17 {n : Nat → Nat} {x : Nat} (h : n 17 ≤ x) : gcX2 n (stn n 17 x) = x - n 17 ∧ hcX2 n (stn n 17 x) = lgP x - lgP (n 17) := by simp [gcX2, hcX2, stn]
theorem glX2_18 {n : Nat → Nat} {x : Nat} (h : n 18 ≤ x) : glX2 n (stn n 18 x) := by simp [glX2, stn]; omega
theorem gcX2_18 {n : Nat → Nat} {x : Nat} (h : n 18 ≤ x) : gcX2 n (stn n 18 x) = x - n 18 ∧ hcX2 n (stn n 18 x) = lgP x - lgP (n 18) := by simp [gcX2, hcX2, stn]
theorem glX2_19 {n : Nat → Nat} {x : Nat} (h : n 19 ≤ x) : glX2 n (stn n 19 x) := by simp [glX2, stn]; omega
theorem gcX2_19 {n : Nat → Nat} {x : Nat} (h : n 19 ≤ x) : gcX2 n (stn n 19 x) = x - n 19 ∧ hcX2 n (stn n 19 x) = lgP x - lgP (n 19) := by simp [gcX2, hcX2, stn]
def glX3 (n m : Nat → Nat) : Prop := n 17 ≤ m 17
def gcX3 (n m : Nat → Nat) : Nat := (m 17 - n 17)
def hcX3 (n m : Nat → Nat) : Nat := (lgP (m 17) - lgP (n 17))
theorem glX3_rf (n : Nat → Nat) : glX3 n n := by unfold glX3; omega
theorem glX3_tr {a b c : Nat → Nat} (h1 : glX3 a b) (h2 : glX3 b c) : glX3 a c := by unfold glX3 at *; omega
theorem gcX3_add {a b c : Nat → Nat} (h1 : glX3 a b) (h2 : glX3 b c) : gcX3 a b + gcX3 b c = gcX3 a c ∧ hcX3 a b + hcX3 b c = hcX3 a c := by unfold glX3 at h1 h2; have l0_17 := lgP_mono (h1); have l1_17 := lgP_mono (h2); unfold gcX3 hcX3; omega
theorem gsX3 {a b c d : Nat → Nat} (h1 : glX3 a b) (h2 : glX3 b c) (h3 : glX3 c d) : gcX3 a b + gcX3 b c ≤ gcX3 a d ∧ hcX3 a b + hcX3 b c ≤ hcX3 a d := by have q1 := gcX3_add h1 h2; have q2 := gcX3_add (glX3_tr h1 h2) h3; omega
theorem gmX3 {a b c : Nat → Nat} (h1 : glX3 a b) (h2 : glX3 b c) : gcX3 a b ≤ gcX3 a c ∧ hcX3 a b ≤ hcX3 a c := by have q1 := gcX3_add h1 h2; omega
def grX3 {α : Type} (a b : Nat → Nat → α) : Nat → Nat → α := fun i q => if q = 17 then b i q else a i q
def glFX3 (n m : Nat → Nat → Nat) : Prop := ∀ j, j < 6 → glX3 (n j) (m j)
def gcFX3 (n m : Nat → Nat → Nat) : Nat := gcX3 (n 0) (m 0) + gcX3 (n 1) (m 1) + gcX3 (n 2) (m 2) + gcX3 (n 3) (m 3) + gcX3 (n 4) (m 4) + gcX3 (n 5) (m 5)
def hcFX3 (n m : Nat → Nat → Nat) : Nat := hcX3 (n 0) (m 0) + hcX3 (n 1) (m 1) + hcX3 (n 2) (m 2) + hcX3 (n 3) (m 3) + hcX3 (n 4) (m 4) + hcX3 (n 5) (m 5)
theorem glFX3_rf (n : Nat → Nat → Nat) : glFX3 n n := fun j _ => glX3_rf _
theorem glFX3_tr {a b c : Nat → Nat → Nat} (h1 : glFX3 a b) (h2 : glFX3 b c) : glFX3 a c := fun j hj => glX3_tr (h1 j hj) (h2 j hj)
theorem gcFX3_add {a b c : Nat → Nat → Nat} (h1 : glFX3 a b) (h2 : glFX3 b c) : gcFX3 a b + gcFX3 b c = gcFX3 a c ∧ hcFX3 a b + hcFX3 b c = hcFX3 a c := by unfold gcFX3 hcFX3; have q0 := gcX3_add (h1 0 (by decide)) (h2 0 (by decide)); have q1 := gcX3_add (h1 1 (by decide)) (h2 1 (by decide)); have q2 := gcX3_add (h1 2 (by decide)) (h2 2 (by decide)); have q3 := gcX3_add (h1 3 (by decide)) (h2 3 (by decide)); have q4 := gcX3_add (h1 4 (by decide)) (h2 4 (by decide)); have q5 := gcX3_add (h1 5 (by decide)) (h2 5 (by decide)); omega
theorem gmFX3 {a b c : Nat → Nat → Nat} (h1 : glFX3 a b) (h2 : glFX3 b c) : gcFX3 a b ≤ gcFX3 a c ∧ hcFX3 a b ≤ hcFX3 a c := by have := gcFX3_add h1 h2; omega
theorem gsFX3 {a b c d : Nat → Nat → Nat} (h1 : glFX3 a b) (h2 : glFX3 b c) (h3 : glFX3 c d) : gcFX3 a b + gcFX3 b c ≤ gcFX3 a d ∧ hcFX3 a b + hcFX3 b c ≤ hcFX3 a d := by have q1 := gcFX3_add h1 h2; have q2 := gcFX3_add (glFX3_tr h1 h2) h3; omega
theorem gcX3_self (n : Nat → Nat) : gcX3 n n = 0 ∧ hcX3 n n = 0 := by unfold gcX3 hcX3; omega
theorem glFX3_u {n : Nat → Nat → Nat} {i : Nat} {m : Nat → Nat} (hi : i < 6) (h : glX3 (n i) m) : glFX3 n (upF n i m) := by
  intro j hj
  unfold upF
  by_cases e : j = i
  · subst e; rw [if_pos rfl]; exact h
  · rw [if_neg e]; exact glX3_rf _
theorem gcFX3_u {n : Nat → Nat → Nat} {i : Nat} {m : Nat → Nat} (hi : i < 6) : gcFX3 n (upF n i m) = gcX3 (n i) m ∧ hcFX3 n (upF n i m) = hcX3 (n i) m := by
  rcases lt6 hi with rfl | rfl | rfl | rfl | rfl | rfl <;> simp [gcFX3, hcFX3, upF, gcX3_self]
theorem glFX3_te {α β : Type} {f : α → (Nat → Nat → Nat)} {g : β → (Nat → Nat → Nat)} {a b : Nat → Nat → Nat} {o : Sum α β} (h : glFX3 a b) (h2 : Sum.elim (fun r => glFX3 b (f r)) (fun t => glFX3 b (g t)) o) : Sum.elim (fun r => glFX3 a (f r)) (fun t => glFX3 a (g t)) o := by
  rcases o with r | t
  · exact glFX3_tr h h2
  · exact glFX3_tr h h2
theorem glFX3_el {α β : Type} {f : α → (Nat → Nat → Nat)} {g : β → (Nat → Nat → Nat)} {a : Nat → Nat → Nat} {o : Sum α β} {o2 : α} (h : Sum.elim (fun r => glFX3 a (f r)) (fun t => glFX3 a (g t)) o) (hr : ∀ r, o = Sum.inl r → r = o2) (hg : ∀ t, o = Sum.inr t → glFX3 (g t) (f o2)) : glFX3 a (f o2) := by
  rcases o with r | t
  · rw [← hr r rfl]; exact h
  · exact glFX3_tr h (hg t rfl)
theorem glX3_te {α β : Type} {f : α → (Nat → Nat)} {g : β → (Nat → Nat)} {a b : Nat → Nat} {o : Sum α β} (h : glX3 a b) (h2 : Sum.elim (fun r => glX3 b (f r)) (fun t => glX3 b (g t)) o) : Sum.elim (fun r => glX3 a (f r)) (fun t => glX3 a (g t)) o := by
  rcases o with r | t
  · exact glX3_tr h h2
  · exact glX3_tr h h2
theorem glX3_el {α β : Type} {f : α → (Nat → Nat)} {g : β → (Nat → Nat)} {a : Nat → Nat} {o : Sum α β} {o2 : α} (h : Sum.elim (fun r => glX3 a (f r)) (fun t => glX3 a (g t)) o) (hr : ∀ r, o = Sum.inl r → r = o2) (hg : ∀ t, o = Sum.inr t → glX3 (g t) (f o2)) : glX3 a (f o2) := by
  rcases o with r | t
  · rw [← hr r rfl]; exact h
  · exact glX3_tr h (hg t rfl)
theorem glX3_17 {n : Nat → Nat} {x : Nat} (h : n 17 ≤ x) : glX3 n (stn n 17 x) := by simp [glX3, stn]; omega
theorem gcX3_17 {n : Nat → Nat} {x : Nat} (h : n 17 ≤ x) : gcX3 n (stn n 17 x) = x - n 17 ∧ hcX3 n (stn n 17 x) = lgP x - lgP (n 17) := by simp [gcX3, hcX3, stn]
