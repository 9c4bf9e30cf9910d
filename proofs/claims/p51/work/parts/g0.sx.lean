/-! strings: what is read only; calls on StringBuilders -/
section SXB
def zA (E F : ZS) : ZS := fun A U H => E A U H ∧ F A U H
theorem zA_m {E F : ZS} (hE : EXM E) (hF : EXM F) : EXM (zA E F) := fun A B s U H locs h hS hAB hU hW => ⟨hE A B s U H locs h.1 hS hAB hU hW, hF A B s U H locs h.2 hS hAB hU hW⟩
variable {zs X : ZS} {A : Nat → Prop} {U s : State} {H : Heap} {locs : List Loc}
theorem ENV.ex (h : ENV zs A U H) : zs A U H := h.2.2.2.2.2.2.2.2.2
theorem ENV.exm (h : ENV zs A U H) : EXM zs := h.2.2.2.2.2.2.2.2.1
theorem ENV.cs (h : ENV zs A U H) : va_Z "java/lang/String" "COMPACT_STRINGS" "Z" (.int 1) A U H := h.2.2.2.2.2.2.1
theorem ENV.fm (h : ENV zs A U H) : va_Zq "jdk/internal/util/Preconditions" "SIOOBE_FORMATTER" "Ljava/util/function/BiFunction;" A U H := h.2.2.2.2.2.2.2.1
theorem ENV.add (h : ENV zs A U H) (hm : EXM X) (hx : X A U H) : ENV (zA zs X) A U H :=
  ⟨h.1, h.2.1, h.2.2.1, h.2.2.2.1, h.2.2.2.2.1, h.2.2.2.2.2.1, h.2.2.2.2.2.2.1, h.2.2.2.2.2.2.2.1, zA_m h.exm hm, h.ex, hx⟩
def fbk (f : RI) (s n : Nat) : Bool := (List.range n).all fun i => fits .byte (.int (f (s + i)))
theorem fbk_i {f : RI} {s n : Nat} (h : fbk f s n = true) : ∀ i, i < n → fits .byte (.int (f (s + i))) = true := fun i hi => List.all_eq_true.mp h i (List.mem_range.mpr hi)
theorem nck_1b {n : Int32} (h : nck n = true) : nn n * 1 ≤ 536870912 := by have := (of_decide_eq_true h).2; omega
theorem by9 {x : Int32} (h : x = (x : Int32).toInt8.toInt32) : narrow .byte (.int x) = .int x := congrArg Value.int h.symm
theorem cz9 {x : Int32} (h : x = (x : Int32).toUInt32.toUInt16.toUInt32.toInt32) : narrow .char (.int x) = .int x := congrArg Value.int h.symm
/-- bytes, read only -/
def bq9 (v n : Nat) (f : RI) : ZS := fun A U H => va_T .byte v n (fun j => .int (f j)) A U H ∧ n < 2147483648 ∧ ∀ j, j < n → fits .byte (.int (f j)) = true
/-- a String, read only -/
def sq9 (a v n : Nat) (f : RI) : ZS := fun A U H => va_O "java/lang/String" a A U H ∧ va_OF "java/lang/String" "coder" "B" (.int 0) a A U H ∧ va_OF "java/lang/String" "value" "[B" (.ref v) a A U H ∧ bq9 v n f A U H
/-- the script -/
def xq9 (b L : Nat) (xs : RI) : ZS := fun A U H => va_X b L xs U H ∧ b < H.size ∧ ¬ A b
theorem bq9_m {v n : Nat} {f : RI} : EXM (bq9 v n f) := fun A B s U H locs h hS hAB hU hW => ⟨((h.1.kept hS.2.1).narrow hAB).moved hW.alike, h.2⟩
theorem sq9_m {a v n : Nat} {f : RI} : EXM (sq9 a v n f) := fun A B s U H locs h hS hAB hU hW => ⟨((h.1.kept hS.2.1).narrow hAB).moved hW.alike, ((h.2.1.kept hS.2.1).narrow hAB).moved hW.alike, ((h.2.2.1.kept hS.2.1).narrow hAB).moved hW.alike, bq9_m A B s U H locs h.2.2.2 hS hAB hU hW⟩
theorem xq9_m {b L : Nat} {xs : RI} : EXM (xq9 b L xs) := fun A B s U H locs h hS hAB hU hW => ⟨(h.1.kept (hS.2.1 b h.2.1 h.2.2)).moved hW.alike, Nat.lt_of_lt_of_le h.2.1 hS.1, fun q => h.2.2 (hAB b q)⟩
theorem sq9_b {a v n : Nat} {f : RI} (h : sq9 a v n f A U H) : bq9 v n f A U H := h.2.2.2
theorem vk_rcv {a v n : Nat} {f : RI} (h : sq9 a v n f A s s.heap) (hS : va_S A s.heap H locs) : ∃ cell : Cell, H[a]? = some cell ∧ cell.vm.isStatics = false ∧ s.vm.findClass "java/lang/String" = some cell.cls := by
  obtain ⟨cell, h1, h2, h3, -⟩ := h.1.kept hS.2.1
  exact ⟨cell, h1, h2, h3⟩
/-- digits -/
def dgO (j : Nat) : Int32 := Int32.ofNat (48 + j % 10)
def dgT (j : Nat) : Int32 := Int32.ofNat (48 + j / 10)
def dg9 (o t : Nat) : ZS := fun A U H => (va_Z "java/lang/Integer" "DigitOnes" "[B" (.ref o) A U H ∧ bq9 o 100 dgO A U H) ∧ va_Z "java/lang/Integer" "DigitTens" "[B" (.ref t) A U H ∧ bq9 t 100 dgT A U H
theorem dg9_m {o t : Nat} : EXM (dg9 o t) := fun A B s U H locs h hS hAB hU hW => ⟨⟨((h.1.1.kept hS.2.1).narrow hAB).moved hW.alike, bq9_m A B s U H locs h.1.2 hS hAB hU hW⟩, ((h.2.1.kept hS.2.1).narrow hAB).moved hW.alike, bq9_m A B s U H locs h.2.2 hS hAB hU hW⟩
/-- the literals that are read: whose, where, text, bytes -/
def litL : List (String × Nat × String × List Int32) := [("Gearbox$Tokens", 80, "(){}[],;=+-*/%&|^!<>", [40, 41, 123, 125, 91, 93, 44, 59, 61, 43, 45, 42, 47, 37, 38, 124, 94, 33, 60, 62]), ("GearboxLaw", 82, "fun g(n,b,c){if n<1||n>", [102, 117, 110, 32, 103, 40, 110, 44, 98, 44, 99, 41, 123, 105, 102, 32, 110, 60, 49, 124, 124, 110, 62]), ("GearboxLaw", 87, "{return b-c;}[n]=[b]+n;var t=g(n-1,c,b)*2;return t+h(n,t);}fun h(x,y){var z=x&&y;if !z{return x|y;}while x>0{x=x-1;y=y+x*z;}return y%(x+7)-x;}", [123, 114, 101, 116, 117, 114, 110, 32, 98, 45, 99, 59, 125, 91, 110, 93, 61, 91, 98, 93, 43, 110, 59, 118, 97, 114, 32, 116, 61, 103, 40, 110, 45, 49, 44, 99, 44, 98, 41, 42, 50, 59, 114, 101, 116, 117, 114, 110, 32, 116, 43, 104, 40, 110, 44, 116, 41, 59, 125, 102, 117, 110, 32, 104, 40, 120, 44, 121, 41, 123, 118, 97, 114, 32, 122, 61, 120, 38, 38, 121, 59, 105, 102, 32, 33, 122, 123, 114, 101, 116, 117, 114, 110, 32, 120, 124, 121, 59, 125, 119, 104, 105, 108, 101, 32, 120, 62, 48, 123, 120, 61, 120, 45, 49, 59, 121, 61, 121, 43, 120, 42, 122, 59, 125, 114, 101, 116, 117, 114, 110, 32, 121, 37, 40, 120, 43, 55, 41, 45, 120, 59, 125]), ("GearboxLaw$Made", 45, "fun f(a,b){var c=b;var d=3;", [102, 117, 110, 32, 102, 40, 97, 44, 98, 41, 123, 118, 97, 114, 32, 99, 61, 98, 59, 118, 97, 114, 32, 100, 61, 51, 59]), ("GearboxLaw$Made", 55, "}", [125]), ("GearboxLaw$Made", 115, "=", [61]), ("GearboxLaw$Made", 120, ";", [59]), ("GearboxLaw$Made", 122, "[", [91]), ("GearboxLaw$Made", 124, "]=", [93, 61]), ("GearboxLaw$Made", 126, "if ", [105, 102, 32]), ("GearboxLaw$Made", 128, "{", [123]), ("GearboxLaw$Made", 130, "else{", [101, 108, 115, 101, 123]), ("GearboxLaw$Made", 132, "var i", [118, 97, 114, 32, 105]), ("GearboxLaw$Made", 137, "=0;while i", [61, 48, 59, 119, 104, 105, 108, 101, 32, 105]), ("GearboxLaw$Made", 139, "<", [60]), ("GearboxLaw$Made", 141, "i", [105]), ("GearboxLaw$Made", 143, "=i", [61, 105]), ("GearboxLaw$Made", 145, "+1;}", [43, 49, 59, 125]), ("GearboxLaw$Made", 147, "return ", [114, 101, 116, 117, 114, 110, 32]), ("GearboxLaw$Made", 151, "(-", [40, 45]), ("GearboxLaw$Made", 153, "(!", [40, 33]), ("GearboxLaw$Made", 158, ")", [41]), ("GearboxLaw$Made", 160, "]", [93]), ("GearboxLaw$Made", 162, "(", [40]), ("GearboxLaw$Made", 167, "&&", [38, 38]), ("GearboxLaw$Made", 169, "||", [124, 124]), ("GearboxLaw$Made", 215, "", []), ("GearboxLaw$Made", 217, "+", [43]), ("GearboxLaw$Made", 219, "-", [45]), ("GearboxLaw$Made", 221, "*", [42]), ("GearboxLaw$Made", 223, "/", [47]), ("GearboxLaw$Made", 225, "%", [37]), ("GearboxLaw$Made", 227, "&", [38]), ("GearboxLaw$Made", 229, "|", [124]), ("GearboxLaw$Made", 231, "^", [94]), ("GearboxLaw$Made", 233, "<<", [60, 60]), ("GearboxLaw$Made", 235, ">>", [62, 62]), ("GearboxLaw$Made", 237, "<=", [60, 61]), ("GearboxLaw$Made", 239, ">", [62]), ("GearboxLaw$Made", 241, ">=", [62, 61]), ("GearboxLaw$Made", 243, "==", [61, 61]), ("GearboxLaw$Made", 245, "!=", [33, 61]), ("GearboxLaw$Made", 247, "a", [97]), ("GearboxLaw$Made", 249, "b", [98]), ("GearboxLaw$Made", 251, "c", [99]), ("GearboxLaw$Made", 253, "d", [100])]
/-- String constants -/
def st9 (aK aV : Nat → Nat) : ZS := fun A U H => ∀ i q, litL[i]? = some q → sq9 (aK i) (aV i) q.2.2.2.length (fun j => q.2.2.2.getD j 0) A U H ∧ vk_R q.1 q.2.1 q.2.2.1 (aK i) U
theorem st9_m {aK aV : Nat → Nat} : EXM (st9 aK aV) := fun A B s U H locs h hS hAB hU hW i q hq => ⟨sq9_m A B s U H locs (h i q hq).1 hS hAB hU hW, vk_R.warm hW (h i q hq).2⟩
/-- private methods of AbstractStringBuilder on a StringBuilder -/
def pvL : List MethodName := [⟨"java/lang/AbstractStringBuilder", "ensureCapacityInternal", "(I)V"⟩, ⟨"java/lang/AbstractStringBuilder", "newCapacity", "(I)I"⟩, ⟨"java/lang/AbstractStringBuilder", "putStringAt", "(ILjava/lang/String;)V"⟩, ⟨"java/lang/AbstractStringBuilder", "inflateIfNeededFor", "(Ljava/lang/String;)V"⟩]
def pv9 : ZS := fun _ U _ => ∀ y, y ∈ pvL → va_Nw (Cond.selects "java/lang/StringBuilder" y y) U
theorem pv9_m : EXM pv9 := fun A B s U H locs h hS hAB hU hW y hy => word_at hW (Or.inl rfl) (h y hy)
theorem pv9_w (h : pv9 A s H) {args : Array Value} (k : Nat) {y : MethodName} (hy : pvL[k]? = some y) : (Cond.selects "java/lang/StringBuilder" y y).before args s = true := va_Nw.use rfl (h y (List.mem_of_getElem? hy))
theorem gi_U {own : String} {idx : Nat} {C owner : String} {x y : MethodName} {ws : List Cond} (h1 : Cond.methodLink own idx x ∈ gw) (h2 : Cond.sameMethod x.cls owner x.name x.desc ∈ gw) (h3 : Cond.selects C x y ∈ gw) (h4 : Cond.instanceMethod y ∈ gw) (h5 : Cond.initialized y.cls ∈ gw) (h6 : GoodIn gw ws) : GoodIn gw (va_wsU own idx C owner x y ws) := by
  refine gi_app (fun w hw => ?_) h6
  simp only [List.mem_cons, List.not_mem_nil, or_false] at hw
  rcases hw with rfl | rfl | rfl | rfl | rfl
  · exact h1
  · exact h2
  · exact h3
  · exact h4
  · exact h5
theorem gi_O {own : String} {idx : Nat} {C owner : String} {x y : MethodName} {ws : List Cond} (h1 : Cond.methodLink own idx x ∈ gw) (h2 : Cond.sameMethod x.cls owner x.name x.desc ∈ gw) (h0 : Cond.instanceMethod ⟨owner, x.name, x.desc⟩ ∈ gw) (h3 : Cond.selects C x y ∈ gw) (h4 : Cond.instanceMethod y ∈ gw) (h5 : Cond.initialized y.cls ∈ gw) (h6 : GoodIn gw ws) : GoodIn gw (va_wsO own idx C owner x y ws) := by
  refine gi_app (fun w hw => ?_) h6
  simp only [List.mem_cons, List.not_mem_nil, or_false] at hw
  rcases hw with rfl | rfl | rfl | rfl | rfl | rfl
  · exact h1
  · exact h2
  · exact h0
  · exact h3
  · exact h4
  · exact h5
theorem gi_SU {own : String} {idx : Nat} {y : MethodName} {ws : List Cond} (h1 : Cond.methodLink own idx y ∈ gw) (h2 : Cond.sameMethod y.cls y.cls y.name y.desc ∈ gw) (h3 : Cond.superclass own y.cls ∈ gw) (h4 : Cond.instanceMethod y ∈ gw) (h5 : Cond.initialized y.cls ∈ gw) (h6 : GoodIn gw ws) : GoodIn gw (va_wsSU own idx y ws) := by
  refine gi_app (fun w hw => ?_) h6
  simp only [List.mem_cons, List.not_mem_nil, or_false] at hw
  rcases hw with rfl | rfl | rfl | rfl | rfl
  · exact h1
  · exact h2
  · exact h3
  · exact h4
  · exact h5
def wsUP (own : String) (idx : Nat) (owner : String) (x : MethodName) (ws : List Cond) : List Cond := ([.methodLink own idx x, .sameMethod x.cls owner x.name x.desc, .instanceMethod x, .initialized x.cls] : List Cond) ++ ws
theorem gi_UP {own : String} {idx : Nat} {owner : String} {x : MethodName} {ws : List Cond} (h1 : Cond.methodLink own idx x ∈ gw) (h2 : Cond.sameMethod x.cls owner x.name x.desc ∈ gw) (h4 : Cond.instanceMethod x ∈ gw) (h5 : Cond.initialized x.cls ∈ gw) (h6 : GoodIn gw ws) : GoodIn gw (wsUP own idx owner x ws) := by
  refine gi_app (fun w hw => ?_) h6
  simp only [List.mem_cons, List.not_mem_nil, or_false] at hw
  rcases hw with rfl | rfl | rfl | rfl
  · exact h1
  · exact h2
  · exact h4
  · exact h5
theorem sx_cuP {R : Room} {s : State} {args : Array Value} {own owner : String} {index maxL mc ms : Nat} {x : MethodName} {bytes : ByteArray} {ret : Option FieldType} {Ts ws ws' : List Cond} {rm : Room} (n : Nat) (ht : ∀ w ∈ Ts, w.before args s = true) (hT : GoodIn Ts (wsUP own index owner x ws)) {C : String} (hsel : (Cond.selects C x x).before args s = true) (hw : ws = Cond.code x bytes maxL ret :: ws') (hrc : rm.cells = mc) (hrs : rm.slots = ms)
    (hyx : x = ⟨owner, x.name, x.desc⟩) (hd : owner ≠ "java/lang/invoke/MethodHandle" ∧ owner ≠ "java/lang/invoke/VarHandle" ∧ (parseMethodDescriptor x.desc).map (fun d => d.parameters.length) = some n) (hR : rm.frames + 1 ≤ R.frames ∧ 8 + (maxL + 11) + rm.locals ≤ R.locals) : va_CU R s args own C owner index x x bytes maxL ret ws rm mc ms n := by
  have ok : ∀ w ∈ wsUP own index owner x ws, w.before args s = true := fun w h => ht w (hT w h).1
  have hG : GoodIn Ts ws := fun w h => hT w (by unfold wsUP; exact List.mem_append_right _ h)
  have hc : Cond.code x bytes maxL ret ∈ ws := by rw [hw]; exact List.mem_cons_self
  refine ⟨⟨hrc, hrs, hR.1, hR.2, pay_in ht hG, hc⟩, ht _ (hG _ hc).1, ok _ (by simp [wsUP]), ⟨hd.1, hd.2.1⟩, fun sig h => ?_, ok _ (by simp [wsUP]), ok _ (by simp [wsUP]), by rw [← hyx]; exact va_Decl.of (ok _ (by simp [wsUP])) (ht _ (hG _ hc).1), hsel, ok _ (by simp [wsUP])⟩
  have h2 := hd.2.2
  rw [h] at h2
  exact (Option.some.inj h2).symm
end SXB
