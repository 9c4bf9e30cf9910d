abbrev cX23_init : ByteArray := prog_26_method_1_code
def yX23_init : MethodName := ⟨RX23, "<init>", "(I)V"⟩
theorem dX23_init_0 : decode cX23_init 0 = .ok (.aload_n 0, 1) := by decide +kernel
theorem dX23_init_1 : decode cX23_init 1 = .ok (.invokespecial 1, 3) := by decide +kernel
theorem dX23_init_4 : decode cX23_init 4 = .ok (.aload_n 0, 1) := by decide +kernel
theorem dX23_init_5 : decode cX23_init 5 = .ok (.iload_n 1, 1) := by decide +kernel
theorem dX23_init_6 : decode cX23_init 6 = .ok (.putfield 7, 3) := by decide +kernel
theorem dX23_init_9 : decode cX23_init 9 = .ok (.return_, 1) := by decide +kernel
theorem qw612 : Cond.fieldLink RX23 7 "GearboxModel$Wrong" "at" "I" ∈ gw := mq_13 (i := 59) rfl rfl
/-! the kit's rows of throwing methods (vx_), with the thrown cell's address in the end's words: for an exception whose fields are read by who catches it -/
def vy_T (XC : String → Nat → State → State → Prop) (st : State) (q : Addr) (t : State) (mc ms : Nat) (free : Addr → Prop) : Prop :=
  ∃ (E : String) (ce : Cell) (L : List Loc), XC E q st t ∧ t.heap[q]? = some ce ∧ ce.vm = .none ∧ st.vm.findClass E = some ce.cls ∧ st.WarmedH t.vm ∧ st.sameButNew ({ t with vm := st.vm } : State) L mc ms ∧ ∀ z ∈ L, free z.base
def vy_Q (Qc : Array Value → State → Outcome → State → Prop) (XC : String → Nat → State → State → Prop) (mc ms : Nat) (free : Addr → Prop) : Array Value → State → Outcome → State → Prop := fun a st o t =>
  (Qc a st o t ∧ ∃ L, FrameEnd st o t L mc ms ∧ ∀ q ∈ L, free q.base) ∨ ∃ q, o = .threw q ∧ vy_T XC st q t mc ms free
def vy_Met (l : Launch) (y : MethodName) (ws : List Cond) (rm : Room) (Pc : Array Value → State → Prop) (Qc : Array Value → State → Outcome → State → Prop) (XC : String → Nat → State → State → Prop) (mc ms : Nat) (free : Addr → Prop) : Prop :=
  MetFree l y (headSpec ws rm) Pc (fun _ _ _ _ _ => True) (vy_Q Qc XC mc ms free)
def vy_Post (XC : String → Nat → State → State → Prop) (mc ms : Nat) (free : Addr → Prop) : Pt → Array Value → Addr → Pt → Prop := fun A a q B =>
  ∃ (g : JFrame) (mk : MethodId) (t : State) (L : List Loc) (E : String) (ce : Cell), B.U.heap = t.heap ∧ B.U.vm = t.vm ∧ XC E q (A.U.calling g mk a) t ∧ t.heap[q]? = some ce ∧ ce.vm = .none ∧ A.U.vm.findClass E = some ce.cls ∧ B.locs = A.locs ++ L ∧ (∀ z ∈ L, free z.base) ∧ B.cells = A.cells + mc ∧ B.slots = A.slots + ms
section Payer2
variable {l : Launch} {R : Room} {p : Program} {e : Env} {below : List Frame} {s : State} {sargs : Array Value} {y : MethodName} {len W9 : Nat}
theorem vy_back {ws : List Cond} {rm : Room} {Pc : Array Value → State → Prop} {Qc : Array Value → State → Outcome → State → Prop} {XC : String → Nat → State → State → Prop} {mc ms : Nat} {free : Addr → Prop} {bytes : ByteArray} {maxL : Nat} {ret : Option FieldType}
    (hM : vy_Met l y ws rm Pc Qc XC mc ms free) (hblind : FrameBlind Pc) (hrc : rm.cells = mc) (hrs : rm.slots = ms)
    (hframes : rm.frames + 1 ≤ R.frames) (hlocals : W9 + (maxL + 11) + rm.locals ≤ R.locals)
    (hws : ∀ w ∈ ws, ∀ a' U, s.WarmedH U.vm → w.before a' U = true) (hcode : Cond.code y bytes maxL ret ∈ ws) (hinit : ∀ a' U, s.WarmedH U.vm → (Cond.initialized y.cls).before a' U = true) :
    vx_Back l R p e below s sargs y len W9 (PreOf R mc ms Pc) (PostOf Qc mc ms free) (vy_Post XC mc ms free) := by
  intro m meth c A g ig mk a X hg hsize hdg hW hn hp
  have h1 : (headSpec ws rm).pre.before a A.U = true := atoms_intro fun w hw => hws w hw _ _ X.warmed
  have h2 : (Cond.code y bytes maxL ret).before a A.U = true := hws _ hcode _ _ X.warmed
  have h3 : (Cond.initialized y.cls).before a A.U = true := hinit _ _ X.warmed
  have h4 : A.cells + (headSpec ws rm).room.cells ≤ R.cells := by rw [show (headSpec ws rm).room.cells = mc from hrc]; exact hp.1
  have h5 : A.slots + (headSpec ws rm).room.slots ≤ R.slots := by rw [show (headSpec ws rm).room.slots = ms from hrs]; exact hp.2.1
  have hPc : Pc a (A.U.calling g mk a) := hblind _ _ _ _ hp.2.2
  obtain ⟨U, Ls, c0, s0⟩ := A
  dsimp only [Pt.U, Pt.locs, Pt.cells, Pt.slots] at h1 h2 h3 h4 h5 X hn hPc ⊢
  obtain ⟨methY, cY, hmY, hcY, -, hlY, -, -, -, -⟩ := Cond.code_spec hn h2
  obtain ⟨kY, hkY, -⟩ := className_of_methodNamed hn
  have hinitY : kY.init = .initialized := Cond.initialized_spec (findClass_of_methodNamed hn) hkY h3
  have h : At U g.method c below := by rw [hg]; exact X.here
  have hlocals9 : W9 + (maxL + 11) + (headSpec ws rm).room.locals ≤ R.locals := hlocals
  have happ : (headSpec ws rm).appliesLoose y e.platform (U.calling g mk a) = true :=
    Spec.appliesLoose_calling (g := g) h hdg hn hkY hinitY
      (X.room_calling (g := g) (R' := (headSpec ws rm).room) hsize hmY hcY hframes (by rw [hlY]; omega) h4 h5) h1
  obtain ⟨mid, hmid⟩ := h.above
  have hfr : (U.setTop g).frames = (.java g :: mid) ++ below := by rw [State.frames_setTop' g h.top, hmid]; rfl
  obtain ⟨o, s₂, hsteps, -, hend, hq⟩ := Steps.callFree hM p X.admits X.cas X.clock (acts := []) hfr happ hPc trivial
  have hq' : vy_Q Qc XC mc ms free a (U.calling g mk a) o s₂ := hq
  rw [State.frames_setTop' g h.top] at hend
  obtain ⟨g₀, hg0⟩ := Option.isSome_iff_exists.mp h.top
  obtain ⟨r, hr⟩ := State.topJava?_eq_some.mp hg0
  have hr' : (({ U with heap := s₂.heap, slotsUsed := s₂.slotsUsed } : State).setVm s₂.vm).frames = .java g₀ :: r := hr
  rcases hq' with ⟨hqc, L, hfe, hL⟩ | ⟨q, rfl, E, ce, L, hx, hce, hcv, hcl, hW₂, hsm, hL⟩
  · obtain ⟨⟨v, rfl⟩, hW₂, e2, q2, q3, q4, q5, q6⟩ := id hfe
    have e3 : s₂ = ({ (U.calling g mk a).setFrames s₂.frames with heap := s₂.heap, slotsUsed := s₂.slotsUsed } : State).setVm s₂.vm := by
      have : s₂ = ({ s₂ with vm := (U.calling g mk a).vm } : State).setVm s₂.vm := rfl
      rw [e2] at this
      exact this
    obtain ⟨c₂, i₂, len₂, hc₂, hd₂, hf₂⟩ := hend
    have hW' : U.WarmedH s₂.vm := hW₂
    have hcc : c₂ = c := by
      have h1 : s₂.code? g.method = U.code? g.method := by
        rw [State.code?_eq, State.code?_eq, hW'.alike.method?]
      exact Option.some.inj (hc₂.symm.trans (h1.trans h.code))
    subst hcc
    have hlen : len₂ = len := by rw [hdg] at hd₂; cases hd₂; rfl
    subst hlen
    have hs₂ : s₂ = (({ U with heap := s₂.heap, slotsUsed := s₂.slotsUsed } : State).setVm s₂.vm).setTop { g with pc := g.pc + len₂, stack := v.toList ++ g.stack } := by
      refine e3.trans ?_
      rw [hf₂, State.calling_eq h.top, State.setFrames_setFrames, State.setTop_of_frames _ hr', hr]
      rfl
    have hsame : U.sameButNew ({ U with heap := s₂.heap, slotsUsed := s₂.slotsUsed } : State) L mc ms := by
      refine ⟨?_, q2, q3, q4, q5, q6⟩
      obtain ⟨t, ht, -⟩ := State.frames_cons hr
      show ({ U with heap := s₂.heap, slotsUsed := s₂.slotsUsed } : State) = { U.setFrames U.frames with heap := s₂.heap, slotsUsed := s₂.slotsUsed }
      rw [State.setFrames_self ht]
    subst hg
    refine Or.inl ⟨v, ⟨(({ U with heap := s₂.heap, slotsUsed := s₂.slotsUsed } : State).setVm s₂.vm), Ls ++ L, c0 + mc, s0 + ms⟩,
      ⟨X.admits, X.cas, X.clock, X.frames, X.room, X.hears, X.method, X.code, (X.here.setHeapUsed s₂.heap s₂.slotsUsed).setVm hW'.alike, X.tail, State.WarmedH.trans X.warmed hW', X.limits, X.bytes, X.same.trans (hsame.setVm s.vm)⟩,
      ⟨g, mk, s₂, L, rfl, rfl, hqc, rfl, hL, rfl, rfl⟩, ?_⟩
    show Steps p.tables e below _ ((({ U with heap := s₂.heap, slotsUsed := s₂.slotsUsed } : State).setVm s₂.vm).setTop { g with pc := g.pc + len₂, stack := v.toList ++ g.stack })
    rw [← hs₂]
    exact hsteps
  · obtain ⟨e2, q2, q3, q4, q5, q6⟩ := id hsm
    have e3 : s₂ = ({ (U.calling g mk a).setFrames s₂.frames with heap := s₂.heap, slotsUsed := s₂.slotsUsed } : State).setVm s₂.vm := by
      have : s₂ = ({ s₂ with vm := (U.calling g mk a).vm } : State).setVm s₂.vm := rfl
      rw [e2] at this
      exact this
    have hf₂ : s₂.frames = .throwing q :: .java g :: U.frames.tail := hend
    have hW' : U.WarmedH s₂.vm := hW₂
    have hs₂ : s₂ = ((({ U with heap := s₂.heap, slotsUsed := s₂.slotsUsed } : State).setVm s₂.vm).setTop g).pushFrame (.throwing q) := by
      refine e3.trans ?_
      rw [hf₂, State.calling_eq h.top, State.setFrames_setFrames, State.pushFrame, State.frames_setTop _ hr', State.setTop_of_frames _ hr', State.setFrames_setFrames, hr]
      rfl
    have hsame : U.sameButNew ({ U with heap := s₂.heap, slotsUsed := s₂.slotsUsed } : State) L mc ms := by
      refine ⟨?_, q2, q3, q4, q5, q6⟩
      obtain ⟨t, ht, -⟩ := State.frames_cons hr
      show ({ U with heap := s₂.heap, slotsUsed := s₂.slotsUsed } : State) = { U.setFrames U.frames with heap := s₂.heap, slotsUsed := s₂.slotsUsed }
      rw [State.setFrames_self ht]
    subst hg
    refine Or.inr ⟨q, ⟨(({ U with heap := s₂.heap, slotsUsed := s₂.slotsUsed } : State).setVm s₂.vm), Ls ++ L, c0 + mc, s0 + ms⟩,
      ⟨X.admits, X.cas, X.clock, X.frames, X.room, X.hears, X.method, X.code, (X.here.setHeapUsed s₂.heap s₂.slotsUsed).setVm hW'.alike, X.tail, State.WarmedH.trans X.warmed hW', X.limits, X.bytes, X.same.trans (hsame.setVm s.vm)⟩,
      ⟨g, mk, s₂, L, E, ce, rfl, rfl, hx, hce, hcv, hcl, rfl, hL, rfl, rfl⟩, ?_⟩
    show Steps p.tables e below _ (((({ U with heap := s₂.heap, slotsUsed := s₂.slotsUsed } : State).setVm s₂.vm).setTop g).pushFrame (.throwing q))
    rw [← hs₂]
    exact hsteps
end Payer2
def vy_Run (p : Program) (l : Launch) (e : Env) (R : Room) (s : State) (m : MethodId) (args : Array Value) (below : List Frame) (meth : Method) (c : Code) (H : Heap) (locs : List Loc) (cells slots mc ms : Nat) (g : JFrame) (rest : List Value) (Qa : State → Outcome → State → Prop) (XC : String → Nat → State → State → Prop) (free : Addr → Prop) : Prop :=
  ∀ T : State, T.heap = H → Stand p l e R s m args below meth c T locs cells slots →
    (∃ (v : Option Value) (st₀ t T' : State) (L : List Loc), st₀.heap = H ∧ Stand p l e R s m args below meth c T' (locs ++ L) (cells + mc) (slots + ms) ∧ (∀ q ∈ L, free q.base) ∧ T'.heap = t.heap ∧ T'.vm = t.vm ∧ Qa st₀ (.returned v) t ∧
      Goes p e below T g T' { g with pc := g.pc + 3, stack := v.toList ++ rest }) ∨
    (∃ (q : Addr) (st₀ t T' : State) (L : List Loc) (E : String) (ce : Cell), st₀.heap = H ∧ Stand p l e R s m args below meth c T' (locs ++ L) (cells + mc) (slots + ms) ∧ (∀ z ∈ L, free z.base) ∧ T'.heap = t.heap ∧ T'.vm = t.vm ∧ XC E q st₀ t ∧ t.heap[q]? = some ce ∧ ce.vm = .none ∧ s.vm.findClass E = some ce.cls ∧
      Steps p.tables e below (T.setTop g) ((T'.setTop { g with stack := rest }).pushFrame (.throwing q)))
def vy_X {S : Type} (px : S → Prop) (B : String → Nat → S → State → Prop) (A : Nat → Prop) : String → Nat → State → State → Prop := fun E q st t => ∃ u : S, px u ∧ B E q u t ∧ va_F A st t
section Runs2
variable {p : Program} {l : Launch} {e : Env} {R : Room} {s : State} {m : MethodId} {args : Array Value} {below : List Frame} {meth : Method} {c : Code} {H : Heap} {locs : List Loc} {cells slots : Nat}
variable {y : MethodName} {bytes cc : ByteArray} {maxL nL mc ms n index : Nat} {ret : Option FieldType} {ws : List Cond} {rm : Room} {Pc : Array Value → State → Prop} {Qc : Array Value → State → Outcome → State → Prop} {XC : String → Nat → State → State → Prop} {free : Addr → Prop} {Ts : List Cond} {own C : String} {b : Addr} {As rest : List Value} {g : JFrame}
theorem vy_callBack (cb : CallB R s args own index y bytes maxL ret ws rm mc ms n) (hM : vy_Met l y ws rm Pc Qc XC mc ms free) (hbl : FrameBlind Pc) : vx_Back l R p e below s args y 3 8 (PreOf R mc ms Pc) (PostOf Qc mc ms free) (vy_Post XC mc ms free) := by
  obtain ⟨hrc, hrs, hfr, hlo, hws, hcw, -, hini, -⟩ := cb
  exact vy_back (bytes := bytes) (maxL := maxL) (ret := ret) hM hbl hrc hrs hfr hlo hws hcw (fun a' U hW => word_at hW (Or.inl (by first | rfl | simp [Cond.onTables, Cond.keeps, Cond.steady])) hini)
theorem vy_runV (S : CallFix p m c cc nL s args Ts own) (hM : vy_Met l y ws rm Pc Qc XC mc ms free) (cw : CallW R s args own C index y bytes maxL ret ws rm mc ms n) (hp : PreV s H C b Pc As)
    (hg : g.method = m) (hn : As.length = n) (hsize : g.locals.size = nL) (hstack : g.stack = As.reverse ++ .ref b :: rest) (hW : 2 * g.monitorRoom + (rest.map fun v => v.category).sum ≤ 8) (hdg : decode cc g.pc = .ok (.invokevirtual index, 3)) (hf : cells + mc ≤ R.cells ∧ slots + ms ≤ R.slots) :
    vy_Run p l e R s m args below meth c H locs cells slots mc ms g rest (Qc (Value.ref b :: As).toArray) XC free := by
  have hK : vx_Back l R p e below s args y 3 8 (PreOf R mc ms Pc) (PostOf Qc mc ms free) (vy_Post XC mc ms free) := vy_callBack cw.1 hM hp.1
  obtain ⟨⟨-, -, -, -, -, -, hcode, -, hy, hlen, hl⟩, hin, hse⟩ := cw
  obtain ⟨hx, hb, hml, ho, -⟩ := S
  obtain ⟨-, ⟨cellB, hcB, hoB, hclB⟩, hPc⟩ := hp
  intro T hT X
  rcases vx_callV X hx (C := C) (bytes := bytes) (maxL := maxL) (ret := ret) ho hl hin hse hcode hy hK (by rw [hT]; exact hcB) hoB hclB hg (hsize.trans hml.symm) (argsL := As) (rest := rest) (fun sig h => hn.trans (hlen sig h)) hstack hW (by rw [hb]; exact hdg)
    (fun vm₁ hW₁ => ⟨hf.1, hf.2, hPc (T.setVm vm₁) hT hW₁⟩) with ⟨v, vm₁, ⟨U', l2, c2, s2⟩, hW₁, X', ⟨g', mk, t, L, e1, e2, hq, h1, hL, h2, h3⟩, st⟩ | ⟨q, vm₁, ⟨U', l2, c2, s2⟩, hW₁, X', ⟨g', mk, t, L, E, ce, e1, e2, hq, hce, hcv, hcl, h1, hL, h2, h3⟩, st⟩
  · dsimp only [Pt.U, Pt.locs, Pt.cells, Pt.slots] at X' e1 e2 h1 h2 h3 st
    subst h1; subst h2; subst h3
    exact Or.inl ⟨v, (T.setVm vm₁).calling g' mk (Value.ref b :: As).toArray, t, U', L, hT, X', hL, e1, e2, hq, st⟩
  · dsimp only [Pt.U, Pt.locs, Pt.cells, Pt.slots] at X' e1 e2 h1 h2 h3 st hcl
    subst h1; subst h2; subst h3
    exact Or.inr ⟨q, (T.setVm vm₁).calling g' mk (Value.ref b :: As).toArray, t, U', L, E, ce, hT, X', hL, e1, e2, hq, hce, hcv, vx_cls hW₁ hcl, st⟩
end Runs2
section Rows2
variable {p : Program} {l : Launch} {e : Env} {R : Room} {s : State} {m : MethodId} {args : Array Value} {below : List Frame} {meth : Method} {c : Code} {H : Heap} {locs : List Loc} {cells slots : Nat} {Q : State → Prop}
variable {mc ms : Nat} {free : Addr → Prop} {A0 A1 : Nat → Prop} {H0 : Heap} {a : Array Value} {pc : Nat} {ls : Array Slot} {st0 rest : List Value}
theorem vy_callv {S SX : Type} {post : S → Prop} {px : SX → Prop} {B : S → State → Prop} {BX : String → Nat → SX → State → Prop} {AX : Nat → Prop} (hr : vy_Run p l e R s m args below meth c H locs cells slots mc ms (F0 m pc ls st0) rest (va_Qv post B A1 a) (vy_X px BX AX) free) (hS : va_S A0 H0 H locs) (hA : ∀ q, q < H.size → A1 q → A0 q) (hf : ∀ q, free q → A0 q) (hAX : ∀ q, q < H.size → AX q → A0 q)
    (kx : ∀ (E : String) (ce : Cell) (q9 : Addr) (u : SX) (t : State) (H1 : Heap) (locs1 : List Loc), t.heap = H1 → s.vm.Alike t.vm → px u → BX E q9 u t → H.size ≤ H1.size → (∀ q : Nat, q < H.size → ¬ AX q → H1[q]? = H[q]?) → va_S A0 H0 H1 locs1 → H1[q9]? = some ce → ce.vm = .none → s.vm.findClass E = some ce.cls → vx_W p l e R s m args below meth c H1 locs1 (cells + mc) (slots + ms) Q (F0 m pc ls rest) q9)
    (kk : ∀ (u : S) (t : State) (H1 : Heap) (locs1 : List Loc), t.heap = H1 → s.vm.Alike t.vm → post u → B u t → H.size ≤ H1.size → (∀ q : Nat, q < H.size → ¬ A1 q → H1[q]? = H[q]?) → va_S A0 H0 H1 locs1 → W p l e R s m args below meth c H1 locs1 (cells + mc) (slots + ms) Q (F0 m (pc + 3) ls (rest))) : W p l e R s m args below meth c H locs cells slots Q (F0 m pc ls st0) := by
  intro T hT X
  rcases hr T hT X with ⟨v, st₀, t, T', L, h0, X', hL, e1, e2, ⟨⟨u, hv, hp, hb⟩, hF⟩, st⟩ | ⟨q, st₀, t, T', L, E, ce, h0, X', hL, e1, e2, ⟨u, hp, hb, hF⟩, hce, hcv, hcl, st⟩
  · cases hv
    obtain ⟨k1, k2, k3⟩ := vx_keep h0 e1 hS hA hf hL hF
    obtain ⟨t2, a1, b1⟩ := kk u t T'.heap (locs ++ L) e1.symm (by rw [← e2]; exact X'.warmed.alike) hp hb k1 k2 k3 T' rfl X'
    exact ⟨t2, st t2 a1, b1⟩
  · obtain ⟨k1, k2, k3⟩ := vx_keep h0 e1 hS hAX hf hL hF
    obtain ⟨t2, a1, b1⟩ := kx E ce q u t T'.heap (locs ++ L) e1.symm (by rw [← e2]; exact X'.warmed.alike) hp hb k1 k2 k3 (by rw [e1]; exact hce) hcv hcl T' rfl X'
    exact ⟨t2, st.trans a1, b1⟩
end Rows2
section Ends2
variable {p : Program} {l : Launch} {e : Env} {R : Room} {s : State} {m : MethodId} {args : Array Value} {below : List Frame} {meth : Method} {c : Code} {H : Heap} {locs : List Loc} {cells slots : Nat} {Q : State → Prop}
variable {mc ms : Nat} {free : Addr → Prop} {A0 A1 : Nat → Prop} {H0 : Heap} {a : Array Value} {ls : Array Slot} {st0 rest : List Value}
variable {Qc : Array Value → State → Outcome → State → Prop} {XC : String → Nat → State → State → Prop}
def vy_MQ (below : List Frame) (Qc : Array Value → State → Outcome → State → Prop) (XC : String → Nat → State → State → Prop) (a : Array Value) (s : State) (mc ms : Nat) (free : Addr → Prop) : State → Prop := fun t =>
  ∃ o, t.status = .running ∧ Ended t below o ∧ vy_Q Qc XC mc ms free a s o t
theorem vy_ret {g : JFrame} {mc ms : Nat} (k : W p l e R s m args below meth c H locs cells slots (MQ below Qc args s mc ms free) g) : W p l e R s m args below meth c H locs cells slots (vy_MQ below Qc XC args s mc ms free) g := by
  intro T hT X
  obtain ⟨t, a1, o, b1, b2, b3, b4⟩ := k T hT X
  exact ⟨t, a1, o, b1, b2, Or.inl ⟨b3, b4⟩⟩
theorem vy_out {pc : Nat} {E : String} {ce : Cell} {q : Addr} {mc ms : Nat} (hout : ∀ x ∈ c.exceptionTable.toList, covers x pc = false) (hlocks : meth.locks = false) (hcell : H[q]? = some ce) (hv : ce.vm = .none) (hcl : s.vm.findClass E = some ce.cls)
    (hx : ∀ t : State, t.heap = H → s.vm.Alike t.vm → XC E q s t) (hf : ∀ z ∈ locs, free z.base) (hc : cells ≤ mc) (hs : slots ≤ ms) :
    vx_W p l e R s m args below meth c H locs cells slots (vy_MQ below Qc XC args s mc ms free) (F0 m pc ls rest) q := by
  intro T hT X
  obtain ⟨st1, hrun, hend, hW, hsm⟩ := X.leaveThrown q (g := F0 m pc ls rest) rfl rfl rfl hout hlocks
  have hcell9 : (T.setFrames (.throwing q :: below)).heap[q]? = some ce := by
    show T.heap[q]? = some ce
    rw [hT]; exact hcell
  exact ⟨_, st1, .threw q, hrun, hend, Or.inr ⟨q, rfl, E, ce, locs, hx _ hT hW.alike, hcell9, hv, hcl, hW, hsm.mono hc hs, hf⟩⟩
end Ends2
section Bodies2
variable {l : Launch}
theorem vy_ofW {y : MethodName} {ws ws' : List Cond} {rm : Room} {Pc : Array Value → State → Prop} {Qc : Array Value → State → Outcome → State → Prop} {XC : String → Nat → State → State → Prop} {mc ms : Nat} {free : Addr → Prop} {cc : ByteArray} {maxL : Nat} {ret : Option FieldType}
    (hy : plainName y.cls = true) (hw : ws = Cond.code y cc maxL ret :: ws')
    (body : ∀ p e s m args below meth c s₁, BodyLoose p l y (headSpec ws rm) cc maxL ret e s m args below meth c s₁ → c.maxLocals = maxL → (∀ x ∈ c.exceptionTable.toList, False) → Pc args s →
      W p l e (headSpec ws rm).room s m args below meth c s.heap [] 0 0 (vy_MQ below Qc XC args s mc ms free) (entryFrame m args maxL)) : vy_Met l y ws rm Pc Qc XC mc ms free := by
  refine MetFree.of_bodyS (code := cc) (maxLocals := maxL) (ret := ret) hy ?_ ?_
  · intro args s m h hn
    obtain ⟨meth, c, h1, h2, h3, h4, h5, h6, -, -⟩ := Cond.code_spec hn (atoms_spec (ws := ws) h _ (by rw [hw]; exact List.mem_cons_self))
    exact ⟨meth, c, h1, h2, h3, h4, h5, h6⟩
  · intro p e s m args below meth c s₁ B hml hP _
    have hh0 : s₁.heap = s.heap := by rw [B.state]; rfl
    have ht : ∀ x ∈ c.exceptionTable.toList, False := by
      obtain ⟨meth9, c9, h1, h2, -, -, -, -, h7, -⟩ := Cond.code_spec B.named (atoms_spec (ws := ws) B.pre _ (by rw [hw]; exact List.mem_cons_self))
      cases Option.some.inj (h1.symm.trans B.method)
      cases Option.some.inj (h2.symm.trans (Stand.of_body B).code)
      intro x hx
      rw [Array.isEmpty_iff.mp h7] at hx
      cases hx
    obtain ⟨t, a1, o, b1, b2, b3⟩ := body p e s m args below meth c s₁ B hml ht hP s₁ hh0 (Stand.of_body B)
    exact ⟨t, o, a1, b1, b2, b3⟩
end Bodies2

/-! the reference's own exception: made without a message, its field read by who catches it -/
theorem vx_athrow {p : Program} {l : Launch} {e : Env} {R : Room} {s : State} {m : MethodId} {args : Array Value} {below : List Frame} {meth : Method} {c : Code} {H : Heap} {locs : List Loc} {cells slots : Nat} {Q : State → Prop} {ls : Array Slot} {rest : List Value} {cc : ByteArray} {pc : Nat} (hexec : p.tables.exec = Jvm.exec) (hb : c.code = cc) {q : Addr} (hdg : decode cc pc = .ok (.athrow, 1)) (k : vx_W p l e R s m args below meth c H locs cells slots Q (F0 m pc ls rest) q) : W p l e R s m args below meth c H locs cells slots Q (F0 m pc ls (.ref q :: rest)) := by
  intro T hT X
  obtain ⟨t, st, hq⟩ := k T hT X
  refine ⟨t, ?_, hq⟩
  have hdg' : decode c.code pc = .ok (.athrow, 1) := by rw [hb]; exact hdg
  jvm_step X.here [X.here.top, hexec, hdg', athrow.wp_sem]
  exact st
def xw_own : List Cond := [.methodLink RX23 1 (Bundle.init0 "java/lang/RuntimeException"), .selects RX23 Bundle.tFill0 Bundle.tFill0, .selects RX23 Bundle.tFill Bundle.tFill, .lays RX23 Bundle.tN "cause" "Ljava/lang/Throwable;", .lays RX23 Bundle.tN "stackTrace" Bundle.steD, .lays RX23 Bundle.tN "suppressedExceptions" Bundle.listD,
  .isRef (.static Bundle.tN "UNASSIGNED_STACK" Bundle.steD), .isRef (.static Bundle.tN "SUPPRESSED_SENTINEL" Bundle.listD), .fieldLink Bundle.tN 198 Bundle.tN "backtrace" "Ljava/lang/Object;", .lays Bundle.tN Bundle.tN "backtrace" "Ljava/lang/Object;", .lays RX23 Bundle.tN "backtrace" "Ljava/lang/Object;"]
def xw_ats : List Cond := Bundle.throwableAtoms ++ Bundle.chain0Atoms "java/lang/RuntimeException" ["java/lang/Exception"] ++ xw_own
set_option maxRecDepth 20000 in
theorem xw_a : ∀ w ∈ xw_ats, vx_no w = true → w ∈ tables_1 ∧ (goodWord w || mvb w) = true := (List.forall_mem_append.mpr ⟨(List.forall_mem_append.mpr ⟨(List.forall_mem_cons.mpr ⟨fun _ => ⟨tbl_1 (i := 17) rfl, rfl⟩, (List.forall_mem_cons.mpr ⟨fun _ => ⟨tbl_5 (i := 21) rfl, rfl⟩, (List.forall_mem_cons.mpr ⟨fun _ => ⟨tbl_5 (i := 30) rfl, rfl⟩, (List.forall_mem_cons.mpr ⟨fun _ => ⟨tbl_5 (i := 36) rfl, rfl⟩, (List.forall_mem_cons.mpr ⟨fun _ => ⟨tbl_5 (i := 39) rfl, rfl⟩, (List.forall_mem_cons.mpr ⟨fun _ => ⟨tbl_5 (i := 41) rfl, rfl⟩, (List.forall_mem_cons.mpr ⟨fun _ => ⟨tbl_5 (i := 22) rfl, rfl⟩, (List.forall_mem_cons.mpr ⟨fun _ => ⟨tbl_5 (i := 23) rfl, rfl⟩, (List.forall_mem_cons.mpr ⟨fun _ => ⟨tbl_1 (i := 53) rfl, rfl⟩, (List.forall_mem_cons.mpr ⟨fun _ => ⟨tbl_1 (i := 54) rfl, rfl⟩, (List.forall_mem_cons.mpr ⟨fun _ => ⟨tbl_5 (i := 24) rfl, rfl⟩, (List.forall_mem_cons.mpr ⟨fun _ => ⟨tbl_5 (i := 29) rfl, rfl⟩, (List.forall_mem_cons.mpr ⟨fun _ => ⟨tbl_5 (i := 37) rfl, rfl⟩, (List.forall_mem_cons.mpr ⟨fun _ => ⟨tbl_5 (i := 57) rfl, rfl⟩, (List.forall_mem_cons.mpr ⟨fun _ => ⟨tbl_5 (i := 11) rfl, rfl⟩, (List.forall_mem_cons.mpr ⟨fun _ => ⟨tbl_5 (i := 58) rfl, rfl⟩, (List.forall_mem_cons.mpr ⟨fun _ => ⟨tbl_5 (i := 13) rfl, rfl⟩, (List.forall_mem_cons.mpr ⟨fun _ => ⟨tbl_5 (i := 59) rfl, rfl⟩, (List.forall_mem_cons.mpr ⟨fun _ => ⟨tbl_5 (i := 15) rfl, rfl⟩, (List.forall_mem_cons.mpr ⟨fun _ => ⟨tbl_5 (i := 25) rfl, rfl⟩, (List.forall_mem_cons.mpr ⟨fun h => absurd h (by decide +kernel), (List.forall_mem_cons.mpr ⟨fun _ => ⟨tbl_5 (i := 27) rfl, rfl⟩, (List.forall_mem_cons.mpr ⟨fun h => absurd h (by decide +kernel), (List.forall_mem_cons.mpr ⟨fun _ => ⟨tbl_5 (i := 17) rfl, rfl⟩, (fun _ h => absurd h List.not_mem_nil)⟩)⟩)⟩)⟩)⟩)⟩)⟩)⟩)⟩)⟩)⟩)⟩)⟩)⟩)⟩)⟩)⟩)⟩)⟩)⟩)⟩)⟩)⟩)⟩), (List.forall_mem_append.mpr ⟨(List.forall_mem_cons.mpr ⟨fun _ => ⟨tbl_13 (i := 53) rfl, rfl⟩, (List.forall_mem_cons.mpr ⟨fun _ => ⟨tbl_13 (i := 54) rfl, rfl⟩, (List.forall_mem_cons.mpr ⟨fun _ => ⟨tbl_13 (i := 55) rfl, rfl⟩, (List.forall_mem_cons.mpr ⟨fun _ => ⟨tbl_13 (i := 56) rfl, rfl⟩, (List.forall_mem_cons.mpr ⟨fun _ => ⟨tbl_5 (i := 4) rfl, rfl⟩, (fun _ h => absurd h List.not_mem_nil)⟩)⟩)⟩)⟩)⟩), (List.forall_mem_cons.mpr ⟨fun _ => ⟨tbl_13 (i := 56) rfl, rfl⟩, (List.forall_mem_cons.mpr ⟨fun _ => ⟨tbl_13 (i := 57) rfl, rfl⟩, (List.forall_mem_cons.mpr ⟨fun _ => ⟨tbl_13 (i := 58) rfl, rfl⟩, (List.forall_mem_cons.mpr ⟨fun _ => ⟨tbl_5 (i := 22) rfl, rfl⟩, (List.forall_mem_cons.mpr ⟨fun _ => ⟨tbl_5 (i := 6) rfl, rfl⟩, (fun _ h => absurd h List.not_mem_nil)⟩)⟩)⟩)⟩)⟩)⟩)⟩), (List.forall_mem_cons.mpr ⟨fun _ => ⟨tbl_13 (i := 52) rfl, rfl⟩, (List.forall_mem_cons.mpr ⟨fun _ => ⟨tbl_13 (i := 43) rfl, rfl⟩, (List.forall_mem_cons.mpr ⟨fun _ => ⟨tbl_5 (i := 32) rfl, rfl⟩, (List.forall_mem_cons.mpr ⟨fun _ => ⟨tbl_13 (i := 44) rfl, rfl⟩, (List.forall_mem_cons.mpr ⟨fun _ => ⟨tbl_13 (i := 45) rfl, rfl⟩, (List.forall_mem_cons.mpr ⟨fun _ => ⟨tbl_13 (i := 46) rfl, rfl⟩, (List.forall_mem_cons.mpr ⟨fun h => absurd h (by decide +kernel), (List.forall_mem_cons.mpr ⟨fun h => absurd h (by decide +kernel), (List.forall_mem_cons.mpr ⟨fun _ => ⟨tbl_5 (i := 20) rfl, rfl⟩, (List.forall_mem_cons.mpr ⟨fun _ => ⟨tbl_5 (i := 19) rfl, rfl⟩, (List.forall_mem_cons.mpr ⟨fun _ => ⟨tbl_13 (i := 48) rfl, rfl⟩, (fun _ h => absurd h List.not_mem_nil)⟩)⟩)⟩)⟩)⟩)⟩)⟩)⟩)⟩)⟩)⟩)⟩)
theorem xw_w {zs : Nat × Nat} {args : Array Value} {s : State} {A : Nat → Prop} (hts : ∀ w ∈ gw, w.before args s = true) (hE : ENV zs A s s.heap) : ∀ w ∈ xw_ats, w.before args s = true := by
  refine vx_own (L := xw_ats) (fun w hw => ?_) (vx_isRefq hE.2.2.2.2.1.1.1) (vx_isRefq hE.2.2.2.2.1.2.1) hE.2.2.2.2.1.1.2.word hE.2.2.2.2.1.2.2.word
  obtain ⟨h1, h2⟩ := List.mem_filter.mp hw
  obtain ⟨h3, h4⟩ := xw_a w h1 h2
  have hm : w ∈ lw_tbl := List.mem_append_right _ h3
  rcases Bool.or_eq_true_iff.mp h4 with g1 | g1
  · exact hts w (gw_of hm g1)
  · exact hE.word hm g1
/-- a cell of that class as 'new' leaves it -/
def RAW (h0 : Nat) (U : State) : Prop := ∃ (cX : ClassId) (kX : Class), U.vm.findClass RX23 = some cX ∧ U.vm.classes[cX]? = some kX ∧ U.heap[h0]? = some (freshCell cX kX)
theorem RAW.of {h0 : Nat} {u U : State} {cX : ClassId} {kX : Class} (h1 : u.vm.findClass RX23 = some cX) (h2 : u.vm.classes[cX]? = some kX) (hvm : u.vm.Alike U.vm) (h3 : U.heap[h0]? = some (freshCell cX kX)) : RAW h0 U := by
  obtain ⟨k', hk', he⟩ := hvm.2.2 _ _ h2
  refine ⟨cX, k', by rw [hvm.findClass]; exact h1, hk', ?_⟩
  have hi : k'.instanceTypes = kX.instanceTypes := by rw [he]
  rw [h3, freshCell, freshCell, hi]
abbrev RPRE (zs : Nat × Nat) (dC : Nat → ClassId) (dI : Nat → Nat → Nat) (W0 : va_W) (T0 : List (ClassId × FieldType)) (sz : Nat) (h0 : Nat) : State → Prop := fun U => PRE zs dC dI W0 T0 sz U ∧ RAW h0 U
theorem RPRE.blind {zs : Nat × Nat} {dC : Nat → ClassId} {dI : Nat → Nat → Nat} {W0 : va_W} {T0 : List (ClassId × FieldType)} {sz h0 : Nat} {av : List Value} : FrameBlind (va_Pc av (RPRE zs dC dI W0 T0 sz h0)) := fun a U g mk q => by
  obtain ⟨q0, q1, q2⟩ := q
  obtain ⟨z0, z1⟩ := (PRE.blind : FrameBlind (va_Pc av (PRE zs dC dI W0 T0 sz))) a U g mk ⟨q0, q1⟩
  exact ⟨z0, z1, q2⟩
theorem RPRE.of {zs : Nat × Nat} {dC : Nat → ClassId} {dI : Nat → Nat → Nat} {W0 : va_W} {T0 : List (ClassId × FieldType)} {av : List Value} {A : Nat → Prop} {s : State} {H : Heap} {locs : List Loc} {h0 : Nat} (hE : ENV zs A s s.heap) (hS : va_S A s.heap H locs) (hF : ∀ q, va_A W0 H.size q → A q) (hP : va_P (dC, dI) cls W0 H) (hK : va_K (dC, dI) cls T0 s) (hD : va_D A W0) (hR : ∀ U : State, U.heap = H → s.WarmedH U.vm → RAW h0 U) : ∀ U : State, U.heap = H → s.WarmedH U.vm → va_Pc av (RPRE zs dC dI W0 T0 H.size h0) av.toArray U := fun U hU hW => by
  obtain ⟨z0, z1⟩ := (PRE.of (av := av) hE hS hF hP hK hD) U hU hW
  exact ⟨z0, z1, hR U hU hW⟩
theorem xw_cell {D : va_G} {cl : List vw_C} {ws : va_W} {tys : List (ClassId × FieldType)} {H : Heap} {a ci q0 : Nat} {fs : List Value} {r : vw_C} {s : State} (hK : va_K D cl tys s) (hP : va_P D cl ws H) (he : ws[q0]? = some (a, .inr (ci, fs))) (hc : cl[ci]? = some r) : ∃ ce : Cell, H[a]? = some ce ∧ ce.vm = .none ∧ s.vm.findClass r.1 = some ce.cls := by
  obtain ⟨r', h1, cell, q1, q2, q3, -⟩ := hP q0 _ he
  have hr : r' = r := Option.some.inj (h1.symm.trans hc)
  subst hr
  exact ⟨cell, q1, q3, by rw [q2]; exact (hK.1 ci _ hc).2.1⟩
section XWR
variable {p : Program} {l : Launch} {e : Env} {R : Room} {s : State} {m : MethodId} {args : Array Value} {below : List Frame} {meth : Method} {c : Code} {H : Heap} {locs : List Loc} {cells slots : Nat} {Q : State → Prop}
variable {cc : ByteArray} {pc : Nat} {ls : Array Slot} {rest : List Value} {D : va_G} {cl : List vw_C} {A : Nat → Prop} {ws : va_W} {tys : List (ClassId × FieldType)} {H0 : Heap}
theorem xw_new (hexec : p.tables.exec = Jvm.exec) (hb : c.code = cc) {own : String} {ci index n : Nat} (hts : ∀ w ∈ gw, w.before args s = true) (hin : ∀ w ∈ u_ws RX23 TX23 1, w ∈ gw) (hown : s.vm.findClass own = some m.cls) (hcl : (Cond.classLink own index RX23).before args s = true) (hinst : (Cond.instantiable RX23 n).before args s = true) (hini : (Cond.initialized RX23).before args s = true)
    (hK : va_K D cl tys s) (hP : va_P D cl ws H) (hD : va_D A ws) (hS : va_S A H0 H locs) (hA : ∀ q, H0.size ≤ q → A q) (hc : cl[ci]? = some (RX23, TX23, 1)) (hcells : cells + 1 ≤ R.cells) (hslots : slots + n ≤ R.slots) (hdg : decode cc pc = .ok (.new index, 3))
    (kk : ∀ (q : Nat) (H1 : Heap), va_P D cl (ws ++ [(q, .inr (ci, [.int 0]))]) H1 → va_D A (ws ++ [(q, .inr (ci, [.int 0]))]) → va_S A H0 H1 locs → (∀ U : State, U.heap = H1 → s.WarmedH U.vm → RAW q U) →
      W p l e R s m args below meth c H1 locs (cells + 1) (slots + n) Q (F0 m (pc + 3) ls (.ref q :: rest))) : W p l e R s m args below meth c H locs cells slots Q (F0 m pc ls rest) := by
  have hKn := hK.1 ci _ hc
  refine W.newcK hexec hb hown hcl hinst hini rfl hdg hcells hslots hKn.2.1 rfl fun H1 kC hkC e1 z1 o1 => ?_
  have hk : ∀ (k : Nat) (x : Nat × va_E), ws[k]? = some x → H1[x.1]? = H[x.1]? := fun k x hx => o1 x.1 ((hP k x hx).lt)
  refine kk H.size H1 ((hP.kept hk).app (fun k x hx => ?_)) (hD.push hP rfl (hA _ hS.1)) ⟨Nat.le_trans hS.1 (by omega), fun x h1 h2 => (o1 x (Nat.lt_of_lt_of_le h1 hS.1)).trans (hS.2.1 x h1 h2), hS.2.2⟩ (fun U hU hW => RAW.of hKn.2.1 hkC hW.alike (by rw [hU]; exact e1))
  have hz : k < 1 := (List.getElem?_eq_some_iff.mp hx).1
  rw [show k = 0 by omega] at hx
  cases hx
  exact ⟨_, hc, (u_born tyX23 hts hin hKn hkC e1 tyX23_ok).to df_X23⟩
set_option maxHeartbeats 4000000 in
theorem xw_super {zs : Nat × Nat} {a ci : Nat} (hexec : p.tables.exec = Jvm.exec) (hb : c.code = cc) (hl : l.stackTraces = false) (hown : s.vm.findClass RX23 = some m.cls) (hts : ∀ w ∈ gw, w.before args s = true) (hE : ENV zs A s s.heap) (hK : va_K D cl tys s) (hc : cl[ci]? = some (RX23, TX23, 1)) (hin : ∀ w ∈ u_ws RX23 TX23 1, w ∈ gw) (hRaw : RAW a s) (hAa : A a) (hsize : ls.size = c.maxLocals)
    (hdg : decode cc pc = .ok (.invokespecial 1, 3)) (hfr : 5 ≤ R.frames) (hlo : (rest.map fun v => v.category).sum + 67 ≤ R.locals)
    (kk : ∀ (H1 : Heap) (locs1 : List Loc), va_P D cl [(a, .inr (ci, [.int 0]))] H1 → va_S A s.heap H1 locs1 → W p l e R s m args below meth c H1 locs1 cells slots Q (F0 m (pc + 3) ls rest)) : W p l e R s m args below meth c s.heap [] cells slots Q (F0 m pc ls (.ref a :: rest)) := by
  intro T hT X
  have h := xw_w hts hE
  have o : ∀ w ∈ xw_own, w.before args s = true := fun w hw => h w (List.mem_append_right _ hw)
  have t9 : ∀ w ∈ Bundle.throwableAtoms, w.before args s = true := fun w hw => h w (List.mem_append_left _ (List.mem_append_left _ hw))
  have c9 : ∀ w ∈ Bundle.chain0Atoms "java/lang/RuntimeException" ["java/lang/Exception"], w.before args s = true := fun w hw => h w (List.mem_append_left _ (List.mem_append_right _ hw))
  have htr : e.platform.stackTraces = false := (show e.platform.stackTraces = l.stackTraces by rw [X.admits.platform]).trans hl
  have howns : e.platform.frameOwnsMonitors = true := by rw [X.admits.platform]
  have hfin : e.platform.finalization = false := by rw [X.admits.platform]
  have hpl : e.platform.magicAccessors = ({} : Platform).magicAccessors := by rw [X.admits.platform]
  obtain ⟨T9, Z, L, LZ, Y⟩ := ThrowableC.of_atoms (args := args) howns hfin hpl t9
  obtain ⟨P1, Ps, hlen, L1, hL, hP1m, hlink1, hlink⟩ := Bundle.chain0 (args := args) hpl Y.init0 ["java/lang/Exception"] "java/lang/RuntimeException" (by decide) (by decide) c9
  obtain ⟨cX, kX, hfX, hkX, hcX⟩ := hRaw
  obtain ⟨hSl, hfc, kC, hkC, hord⟩ := hK.1 ci _ hc
  have eX : D.1 ci = cX := Option.some.inj (hfc.symm.trans hfX)
  subst eX
  have eK : kC = kX := Option.some.inj (hkC.symm.trans hkX)
  subst eK
  have hcell : T.heap[a]? = some (freshCell (D.1 ci) kC) := by rw [hT]; exact hcX
  have halt : a < s.heap.size := (Array.getElem?_eq_some_iff.mp hcX).1
  have hsel0 : selectMethod e.platform s.vm (D.1 ci) T9.fill0 = .method T9.fill0 := by
    obtain ⟨c2, r2, m2, q1, q2, q3, q4, -⟩ := Cond.selects_spec (o (.selects RX23 Bundle.tFill0 Bundle.tFill0) (by simp [xw_own]))
    cases Option.some.inj (q1.symm.trans hfc)
    cases Option.some.inj (q2.symm.trans (State.methodFound?_of_named Y.fill0 (by decide)))
    cases Option.some.inj (q3.symm.trans Y.fill0)
    rw [Launch.admits_selectMethod X.admits]; exact q4
  have hselF : selectMethod e.platform s.vm (D.1 ci) T9.fill = .method T9.fill := by
    obtain ⟨c2, r2, m2, q1, q2, q3, q4, -⟩ := Cond.selects_spec (o (.selects RX23 Bundle.tFill Bundle.tFill) (by simp [xw_own]))
    cases Option.some.inj (q1.symm.trans hfc)
    cases Option.some.inj (q2.symm.trans (State.methodFound?_of_named Y.fill (by decide)))
    cases Option.some.inj (q3.symm.trans Y.fill)
    rw [Launch.admits_selectMethod X.admits]; exact q4
  obtain ⟨cellS0, hcS0, hiss⟩ := Y.statics
  obtain ⟨u0, hu0⟩ := Cond.staticRefV Y.unassigned L.unassignedStatic L.statics hcS0 hiss (o (.isRef (.static Bundle.tN "UNASSIGNED_STACK" Bundle.steD)) (by simp [xw_own]))
  obtain ⟨sen, hsen⟩ := Cond.staticRefV Y.sentinel L.sentinelStatic L.statics hcS0 hiss (o (.isRef (.static Bundle.tN "SUPPRESSED_SENTINEL" Bundle.listD)) (by simp [xw_own]))
  obtain ⟨ci198, i198, fB, hk198, hg198, ha198, hsB, -, hnB, htB, hffB⟩ := Cond.ownField (t := .object "java/lang/Object") Y.found L.cls (by decide +kernel) (o (.fieldLink Bundle.tN 198 Bundle.tN "backtrace" "Ljava/lang/Object;") (by simp [xw_own])) (o (.lays Bundle.tN Bundle.tN "backtrace" "Ljava/lang/Object;") (by simp [xw_own])) e.platform hpl
  have hcellS : T.heap[T9.aS]? = some cellS0 := by rw [hT]; exact hcS0
  have hknownS : cellS0.vm ≠ .unknown := by
    intro hu
    rw [show cellS0.vm = .unknown from hu] at hiss
    cases hiss
  have hneS : T9.aS ≠ a := by
    intro h9
    rw [h9] at hcS0
    cases Option.some.inj (hcX.symm.trans hcS0)
    cases hiss
  obtain ⟨tyC, dC, hdC, hdnC⟩ := Cond.laysAt hfc hkC Y.cause (o (.lays RX23 Bundle.tN "cause" "Ljava/lang/Throwable;") (by simp [xw_own]))
  obtain ⟨tyS, dS, hdS, hdnS⟩ := Cond.laysAt hfc hkC Y.stack (o (.lays RX23 Bundle.tN "stackTrace" Bundle.steD) (by simp [xw_own]))
  obtain ⟨tyP, dP, hdP, hdnP⟩ := Cond.laysAt hfc hkC Y.supp (o (.lays RX23 Bundle.tN "suppressedExceptions" Bundle.listD) (by simp [xw_own]))
  obtain ⟨tyB, dB, hdB, hdnB⟩ := Cond.laysAt hfc hkC hffB (o (.lays RX23 Bundle.tN "backtrace" "Ljava/lang/Object;") (by simp [xw_own]))
  have bC := Cond.laysApart hdB hdC hdnB hdnC (by rw [hnB, Y.causeName]; decide)
  have bS := Cond.laysApart hdB hdS hdnB hdnS (by rw [hnB, Y.stackName]; decide)
  have bP := Cond.laysApart hdB hdP hdnB hdnP (by rw [hnB, Y.suppName]; decide)
  have hskip : SkipFacts T9 e.platform s (fun u => u) u0 ((preparedCellV T9.toThrowableT (freshCell (D.1 ci) kC) a u0 sen).withEntry T.cur) :=
    ⟨{ ci198 := ci198, i198 := i198, fBack := fB }, ⟨hk198, hg198, ha198, hsB⟩, by
      have := fresh_default (c := D.1 ci) tyB
      rw [htB] at this
      simpa [preparedCellV, Cell.setSlot, Cell.withEntry, Array.getElem?_setIfInBounds, bC, bS, bP, bC.symm, bS.symm, bP.symm, defaultValue] using this, fun _ _ => rfl⟩
  obtain ⟨cf, kf, fi, fA, hiA, hslA⟩ := hSl 0 (by decide)
  have tyA := (u_facts hfc hkC (u_lays hts hin (k := 0) (by decide)) hiA).2.2
  have nmA := State.fieldFound?_type hiA (t := .int) (by decide +kernel)
  have mC : fA.slot ≠ T9.fCause.slot := u_apart (u_lays hts hin (k := 0) (by decide)) (Or.inl (o (.lays RX23 Bundle.tN "cause" "Ljava/lang/Throwable;") (by simp [xw_own]))) hiA Y.cause (by rw [nmA.1, Y.causeName]; decide)
  have mS : fA.slot ≠ T9.fStack.slot := u_apart (u_lays hts hin (k := 0) (by decide)) (Or.inl (o (.lays RX23 Bundle.tN "stackTrace" Bundle.steD) (by simp [xw_own]))) hiA Y.stack (by rw [nmA.1, Y.stackName]; decide)
  have mP : fA.slot ≠ T9.fSupp.slot := u_apart (u_lays hts hin (k := 0) (by decide)) (Or.inl (o (.lays RX23 Bundle.tN "suppressedExceptions" Bundle.listD) (by simp [xw_own]))) hiA Y.supp (by rw [nmA.1, Y.suppName]; decide)
  obtain ⟨tm, methC, cdC, kC9, vm₁, hnC, -, -, -, -, -, -, -, hW₁, st1⟩ := Steps.initCold (tb := p.tables) (e := e) (below := below) (s := s) (U := T) X.here hexec X.warmed hpl hown (t := Bundle.init0 "java/lang/RuntimeException") rfl rfl (by decide)
    (o (.methodLink RX23 1 (Bundle.init0 "java/lang/RuntimeException")) (by simp [xw_own])) (c9 (.instanceMethod (Bundle.init0 "java/lang/RuntimeException")) (by simp [Bundle.chain0Atoms, Bundle.passAtoms])) (bytes := Bundle.five) (maxL := 1) (c9 (.code (Bundle.init0 "java/lang/RuntimeException") Bundle.five 1 none) (by simp [Bundle.chain0Atoms, Bundle.passAtoms]))
    (f := F0 m pc ls (.ref a :: rest)) rfl (a := a) (rest := rest) rfl (by rw [hb]; exact hdg)
  cases Option.some.inj (hnC.symm.trans hP1m)
  have X₁ := X.noted hW₁
  have hlen1 : Ps.length = 1 := hlen
  obtain ⟨vm₂, X₂, st2⟩ := X₁.ctorPlainOffV hexec (g := F0 m pc ls rest) rfl hsize T9 L Z LZ (P1 :: Ps)
    (fun P hP => by rcases List.mem_cons.mp hP with rfl | hP; exact L1; exact hL P hP) ⟨hlink1, hlink⟩ (u0 := u0) (sen := sen) (self := a) (cell := freshCell (D.1 ci) kC) (cellS := cellS0)
    hcell (fun _ => by simp) (by simp) rfl rfl hsel0 hselF hcellS hneS hknownS hu0 hsen
    (Takes.of_laid hkC hord tyC (by rw [Y.causeType]; rfl)) (Takes.of_laid hkC hord tyS (by rw [Y.stackType]; exact fits_refV_array _ u0)) (Takes.of_laid hkC hord tyP (by rw [Y.suppType]; exact fits_refV_object _ sen)) Y.objLocals hskip htr [] (by rw [hb]; exact hdg)
    (by simp only [List.length_cons, hlen1]; omega) (by
      simp only [List.length_cons, hlen1]
      have e1 : 2 * (F0 m pc ls rest).monitorRoom + ((F0 m pc ls rest).stack.map fun v => v.category).sum = (rest.map fun v => v.category).sum := by
        show 2 * 0 + _ = _
        rw [Nat.mul_zero, Nat.zero_add]
      rw [e1]
      omega)
  have hlt : a < ((T.setVm vm₁).setVm vm₂).heap.size := (Array.getElem?_eq_some_iff.mp hcell).1
  have hU := heapAt_setCell_self (s := (T.setVm vm₁).setVm vm₂) ((preparedCellV T9.toThrowableT (freshCell (D.1 ci) kC) a u0 sen).setSlot T9.fStack.slot u0.v) hlt
  have hsl : ((preparedCellV T9.toThrowableT (freshCell (D.1 ci) kC) a u0 sen).setSlot T9.fStack.slot u0.v).slots[fA.slot]? = some (.int 0) := by
    have := fresh_default (c := D.1 ci) tyA
    rw [nmA.2] at this
    simpa [preparedCellV, Cell.setSlot, Array.getElem?_setIfInBounds, mC, mS, mP, mC.symm, mS.symm, mP.symm, defaultValue] using this
  obtain ⟨t, a1, b1⟩ := kk _ _ (fun k q hk => by
      have hz : k < 1 := (List.getElem?_eq_some_iff.mp hk).1
      rw [show k = 0 by omega] at hk
      cases hk
      refine ⟨_, hc, _, hU, rfl, rfl, fun j hj => ?_⟩
      have hj0 : j = 0 := Nat.lt_one_iff.mp hj
      subst hj0
      rw [← hslA]
      exact hsl) ⟨by
        show s.heap.size ≤ (T.heap.setIfInBounds a _).size
        rw [Array.size_setIfInBounds, hT]
        exact Nat.le_refl _, fun q hq hAq => by
        have hne : a ≠ q := fun h9 => hAq (h9 ▸ hAa)
        refine (heapAt_setCell_ne (s := (T.setVm vm₁).setVm vm₂) _ hne).trans ?_
        show T.heap[q]? = _
        rw [hT], fun z hz => by
        have hb9 : z.base = a := by
          simp only [List.nil_append, List.mem_cons, List.not_mem_nil, or_false] at hz
          rcases hz with rfl | rfl | rfl | rfl <;> rfl
        rw [hb9]
        exact hAa⟩ _ rfl X₂
  refine ⟨t, st1 t (fun acts => ?_), b1⟩
  rw [doInvoke_state]
  exact st2 t a1
end XWR

set_option maxHeartbeats 4000000 in
set_option maxRecDepth 100000 in
theorem kX23_init {zs : Nat × Nat} (l : Launch) (dC : Nat → ClassId) (dI : Nat → Nat → Nat) (h0 : Nat) (p0 : Int32) (sz : Nat) (hl9 : l.stackTraces = false)  : Met l yX23_init (wz yX23_init cX23_init 2 (Option.none : Option Jvm.ClassFile.FieldType)) ({ frames := 5, cells := 0, slots := 0, locals := 67 }) (va_Pc [.ref h0, .int p0] (RPRE zs dC dI [(h0, .inr (17, [.int 0]))] [] sz h0)) (va_Qv (fun (_ : Unit) => True) (fun _ t => POST dC dI [(h0, .inr (17, [.int p0]))] [] (va_A [(h0, .inr (17, [.int 0]))] sz) t) (va_A [(h0, .inr (17, [.int 0]))] sz)) 0 0 (va_A [(h0, .inr (17, [.int 0]))] sz) := by
  refine Met.ofW (cc := cX23_init) (maxL := 2) (ret := (Option.none : Option Jvm.ClassFile.FieldType)) (by decide) rfl ?_
  intro p e s m args below meth c s₁ B hml hv
  obtain ⟨rfl, ⟨hsz, hP, hK, hD0, hE⟩, hRaw⟩ := hv
  have hx := B.exec
  have hb := B.bytes
  have hr := B.returns
  have hts0 := atoms_spec (ws := wz yX23_init cX23_init 2 (Option.none : Option Jvm.ClassFile.FieldType)) B.pre
  have hts : ∀ w ∈ gw, w.before _ s = true := fun w h => hts0 w (List.mem_cons_of_mem _ h)
  have hown : s.vm.findClass RX23 = some m.cls := findClass_of_methodNamed B.named
  have hlocks := B.notSynchronized
  have hin : meth.name = "<init>" := (name_of_methodNamed B.named B.method).1
  subst hsz
  have hD := hD0.self (sz := s.heap.size)
  generalize hAe : va_A [(h0, .inr (17, [.int 0]))] s.heap.size = A at hD hE ⊢
  have hA : ∀ q : Nat, s.heap.size ≤ q → A q := fun q h => by rw [← hAe]; exact Or.inr h
  have hS : va_S A s.heap s.heap [] := va_S.rf
  have hP : va_P (dC, dI) cls [(h0, .inr (17, [.int 0]))] s.heap := hP
  have hl := lv_entry ([.ref h0, .int p0]) (n := 2) (Nat.le_of_ble_eq_true rfl)
  rw [lg_entry_eq]
  generalize (lg_sl ([.ref h0, .int p0]) ++ List.replicate (2 - (lg_sl ([.ref h0, .int p0])).length) Slot.unset).toArray = ls at hl ⊢
  have hl : lv_has ls 2 [(0, .ref h0), (1, .int p0)] := hl
  refine lv_aload_n hx hb dX23_init_0 rfl (lv_at hl 0 rfl) ?_
  refine xw_super (a := h0) (ci := 17) hx hb hl9 hown hts hE hK rfl i_X23 hRaw (hD.2 0 _ rfl) (by rw [hml]; exact hl.1) dX23_init_1 (Nat.le_of_ble_eq_true rfl) (Nat.le_of_ble_eq_true rfl) (fun H locs hP hS => ?_)
  refine lv_aload_n hx hb dX23_init_4 rfl (lv_at hl 0 rfl) ?_
  refine lv_iload_n hx hb dX23_init_5 rfl (lv_at hl 1 rfl) ?_
  refine va_putF (D := (dC, dI)) (ci := 17) (v := .int p0) (ty := .int) (C := RX23) (T := TX23) (N := 1) hx hb hts i_X23 tyX23 tyX23_ok nmX23 hown hK hP hD hS 0 rfl rfl 0 (by decide) (hts _ qw612) (fun _ h9 => h9) rfl hin rfl (by decide +kernel) rfl rfl (Nat.le_of_ble_eq_true rfl) dX23_init_6 (fun H locs hP hD hS => ?_)
  have hP : va_P (dC, dI) cls [(h0, .inr (17, [.int p0]))] H := hP
  have hD : va_D A [(h0, .inr (17, [.int p0]))] := hD
  have hP9 : va_P (dC, dI) cls [(h0, .inr (17, [.int p0]))] H := hP.sub [0] rfl
  have hD9 : va_D A [(h0, .inr (17, [.int p0]))] := hD.sub [0] (by decide) rfl
  have hK9 : va_K (dC, dI) cls [] s := hK.sub [] rfl
  exact W.vret hx hb hr (fun t ht hW => ⟨⟨(), rfl, trivial, ⟨by rw [ht]; exact hP9, va_K.moved hW.alike hK9, hD9⟩⟩, hS.F ht⟩) hS.2.2 dX23_init_9
