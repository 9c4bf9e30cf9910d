theorem qw646 : Cond.instantiable RX11 11 ∈ gw := mq_1 (i := 48) rfl rfl
theorem qw651 : Cond.instantiable RX24 9 ∈ gw := mq_11 (i := 159) rfl rfl
/-! the law's beginning -/
theorem an1 {a b : Cond} {args : Array Value} {s : State} (h : (Jvm.Cond.and a b).before args s = true) : a.before args s = true := (Bool.and_eq_true_iff.mp ((Cond.before_and a b).symm.trans h)).1
theorem an2 {a b : Cond} {args : Array Value} {s : State} (h : (Jvm.Cond.and a b).before args s = true) : b.before args s = true := (Bool.and_eq_true_iff.mp ((Cond.before_and a b).symm.trans h)).2
abbrev env_l : List (Nat × String) := [(80, "Gearbox$Tokens"), (236, "Gearbox$Reader"), (48, "java/util/Arrays"), (57, "java/util/Arrays"), (59, "java/util/Arrays"), (337, "java/util/Arrays"), (13, "java/lang/ArrayIndexOutOfBoundsException"), (91, "Gearbox"), (102, "Gearbox"), (331, "Gearbox"), (334, "Gearbox"), (336, "Gearbox"), (260, "Gearbox"), (262, "Gearbox"), (284, "Gearbox"), (286, "Gearbox"), (308, "Gearbox"), (50, "GearboxModel$Reader"), (124, "GearboxModel$Reader")]
set_option maxRecDepth 100000 in
theorem env_str : tables_1.all (fun w => match w with | .stringRef own k _ => decide ((k, own) ∈ env_l) | _ => true) = true := by decide +kernel
theorem env_sr {args : Array Value} {s : State} {own tx : String} {k : Nat} (h1 : (Cond.stringRef own k tx).before args s = true) (h2 : (Cond.exactly (.string own k) "java/lang/String").before args s = true) : ∃ sa, vk_R own k tx sa s := by
  obtain ⟨a9, -, -, -, r1, -⟩ := Cond.exactly_spec (args := args) (first := s) (o := none) (s := s) (idx := []) h2
  exact ⟨a9, vk_R.of h1 r1⟩
set_option maxHeartbeats 4000000 in
set_option maxRecDepth 100000 in
theorem env_of {p : Program} {s : State} {m : MethodId} {meth : Method} {c : Code} {b L : Nat} {xs : Nat → Int32} (C0 : lw_At p s m meth c b L xs) : ∃ zs : Nat × Nat, ENV zs (fun q : Nat => s.heap.size ≤ q) s s.heap := by
  obtain ⟨-, -, -, -, -, hts, -, -, -, hgv⟩ := C0
  have hnv : narrow_1.before #[Value.ref b] s = true := an2 hgv
  have h1 : narrow_1_1.before #[Value.ref b] s = true := an1 hnv
  have h2 : narrow_1_2.before #[Value.ref b] s = true := an1 (an2 hnv)
  have h3 : narrow_1_3.before #[Value.ref b] s = true := an2 (an2 hnv)
  have hA : ∀ a : Nat, a < s.heap.size → ¬ (fun q : Nat => s.heap.size ≤ q) a := fun a h => Nat.not_le.mpr h
  have ht : ∀ w : Cond, w ∈ tables_1 → w.before #[Value.ref b] s = true := fun w h => hts w (List.mem_append_right _ h)
  have zex : (Cond.exactly (.string "GearboxModel$Reader" 50) "java/lang/String").before #[Value.ref b] s = true := (an1 (an1 (an1 (an2 (an1 (an2 (an1 (an2 h3))))))))
  have zco : (Cond.eq (.field (.string "GearboxModel$Reader" 50) "java/lang/String" "coder" "B") (.int 0)).before #[Value.ref b] s = true := (an1 (an2 (an1 (an1 (an2 (an1 (an2 (an1 (an2 h3)))))))))
  have zar : (Cond.arrayOf (.field (.string "GearboxModel$Reader" 50) "java/lang/String" "value" "[B") .byte).before #[Value.ref b] s = true := (an2 (an2 (an1 (an1 (an2 (an1 (an2 (an1 (an2 h3)))))))))
  have zle : (Cond.eq (.length (.field (.string "GearboxModel$Reader" 50) "java/lang/String" "value" "[B")) (.int 44)).before #[Value.ref b] s = true := (an1 (an2 (an1 (an2 (an1 (an2 (an1 (an2 h3))))))))
  have zel : ∀ j : Nat, j < 44 → (Cond.eq (.elem (.field (.string "GearboxModel$Reader" 50) "java/lang/String" "value" "[B") (.int (Int32.ofNat j))) (.int (kb j))).before #[Value.ref b] s = true := (lt_s (lt_s (lt_s (lt_s (lt_s (lt_s (lt_s (lt_s (lt_s (lt_s (lt_s (lt_s (lt_s (lt_s (lt_s (lt_s (lt_s (lt_s (lt_s (lt_s (lt_s (lt_s (lt_s (lt_s (lt_s (lt_s (lt_s (lt_s (lt_s (lt_s (lt_s (lt_s (lt_s (lt_s (lt_s (lt_s (lt_s (lt_s (lt_s (lt_s (lt_s (lt_s (lt_s (lt_s lt_0 (an1 (an2 (an2 (an1 (an2 (an1 (an2 (an1 (an2 h3)))))))))) (an2 (an2 (an2 (an1 (an2 (an1 (an2 (an1 (an2 h3)))))))))) (an1 (an1 (an2 (an2 (an1 (an2 (an1 (an2 h3))))))))) (an1 (an2 (an1 (an2 (an2 (an1 (an2 (an1 (an2 h3)))))))))) (an2 (an2 (an1 (an2 (an2 (an1 (an2 (an1 (an2 h3)))))))))) (an1 (an2 (an2 (an2 (an1 (an2 (an1 (an2 h3))))))))) (an1 (an2 (an2 (an2 (an2 (an1 (an2 (an1 (an2 h3)))))))))) (an2 (an2 (an2 (an2 (an2 (an1 (an2 (an1 (an2 h3)))))))))) (an1 (an1 (an1 (an1 (an2 (an2 (an1 (an2 h3))))))))) (an2 (an1 (an1 (an1 (an2 (an2 (an1 (an2 h3))))))))) (an1 (an2 (an1 (an1 (an2 (an2 (an1 (an2 h3))))))))) (an1 (an2 (an2 (an1 (an1 (an2 (an2 (an1 (an2 h3)))))))))) (an2 (an2 (an2 (an1 (an1 (an2 (an2 (an1 (an2 h3)))))))))) (an1 (an1 (an2 (an1 (an2 (an2 (an1 (an2 h3))))))))) (an1 (an2 (an1 (an2 (an1 (an2 (an2 (an1 (an2 h3)))))))))) (an2 (an2 (an1 (an2 (an1 (an2 (an2 (an1 (an2 h3)))))))))) (an1 (an2 (an2 (an1 (an2 (an2 (an1 (an2 h3))))))))) (an1 (an2 (an2 (an2 (an1 (an2 (an2 (an1 (an2 h3)))))))))) (an2 (an2 (an2 (an2 (an1 (an2 (an2 (an1 (an2 h3)))))))))) (an1 (an1 (an1 (an2 (an2 (an2 (an1 (an2 h3))))))))) (an1 (an2 (an1 (an1 (an2 (an2 (an2 (an1 (an2 h3)))))))))) (an2 (an2 (an1 (an1 (an2 (an2 (an2 (an1 (an2 h3)))))))))) (an1 (an2 (an1 (an2 (an2 (an2 (an1 (an2 h3))))))))) (an1 (an2 (an2 (an1 (an2 (an2 (an2 (an1 (an2 h3)))))))))) (an2 (an2 (an2 (an1 (an2 (an2 (an2 (an1 (an2 h3)))))))))) (an1 (an1 (an2 (an2 (an2 (an2 (an1 (an2 h3))))))))) (an1 (an2 (an1 (an2 (an2 (an2 (an2 (an1 (an2 h3)))))))))) (an2 (an2 (an1 (an2 (an2 (an2 (an2 (an1 (an2 h3)))))))))) (an1 (an2 (an2 (an2 (an2 (an2 (an1 (an2 h3))))))))) (an1 (an2 (an2 (an2 (an2 (an2 (an2 (an1 (an2 h3)))))))))) (an2 (an2 (an2 (an2 (an2 (an2 (an2 (an1 (an2 h3)))))))))) (an1 (an1 (an1 (an1 (an1 (an1 (an2 (an2 h3))))))))) (an2 (an1 (an1 (an1 (an1 (an1 (an2 (an2 h3))))))))) (an1 (an2 (an1 (an1 (an1 (an1 (an2 (an2 h3))))))))) (an1 (an2 (an2 (an1 (an1 (an1 (an1 (an2 (an2 h3)))))))))) (an2 (an2 (an2 (an1 (an1 (an1 (an1 (an2 (an2 h3)))))))))) (an1 (an1 (an2 (an1 (an1 (an1 (an2 (an2 h3))))))))) (an1 (an2 (an1 (an2 (an1 (an1 (an1 (an2 (an2 h3)))))))))) (an2 (an2 (an1 (an2 (an1 (an1 (an1 (an2 (an2 h3)))))))))) (an1 (an2 (an2 (an1 (an1 (an1 (an2 (an2 h3))))))))) (an1 (an2 (an2 (an2 (an1 (an1 (an1 (an2 (an2 h3)))))))))) (an2 (an2 (an2 (an2 (an1 (an1 (an1 (an2 (an2 h3)))))))))) (an1 (an1 (an1 (an2 (an1 (an1 (an2 (an2 h3))))))))) (an1 (an2 (an1 (an1 (an2 (an1 (an1 (an2 (an2 h3))))))))))
  have znc : (Cond.not (.castable "java/lang/IllegalStateException" "java/lang/IllegalArgumentException")).before #[Value.ref b] s = true := (an1 (an1 (an2 (an1 (an2 (an1 (an1 (an2 h1))))))))
  have zcs : (Cond.eq (.static "java/lang/String" "COMPACT_STRINGS" "Z") (.int 1)).before #[Value.ref b] s = true := (an2 (an2 (an1 (an1 (an1 (an1 (an1 (an1 (an1 h1)))))))))
  have zsi : (Cond.isRef (.static "jdk/internal/util/Preconditions" "SIOOBE_FORMATTER" "Ljava/util/function/BiFunction;")).before #[Value.ref b] s = true := (an1 (an2 (an1 (an1 (an1 (an1 (an1 (an1 h1))))))))
  have zus : (Cond.isRef (.static Bundle.tN "UNASSIGNED_STACK" Bundle.steD)).before #[Value.ref b] s = true := (an1 (an2 (an1 (an2 (an1 (an1 (an1 (an1 (an1 h1)))))))))
  have zss : (Cond.isRef (.static Bundle.tN "SUPPRESSED_SENTINEL" Bundle.listD)).before #[Value.ref b] s = true := (an2 (an2 (an1 (an2 (an1 (an1 (an1 (an1 (an1 h1)))))))))
  have key : ∀ q ∈ env_l, (Cond.exactly (.string q.2 q.1) "java/lang/String").before #[Value.ref b] s = true := (List.forall_mem_cons.mpr ⟨(an2 (an2 (an1 (an2 (an2 (an1 (an1 (an2 (an1 h2))))))))), (List.forall_mem_cons.mpr ⟨(an1 (an2 (an1 (an2 (an2 (an2 (an1 (an2 (an1 h2))))))))), (List.forall_mem_cons.mpr ⟨(an2 (an2 (an1 (an1 (an1 (an2 (an2 (an2 (an1 h2))))))))), (List.forall_mem_cons.mpr ⟨(an1 (an1 (an2 (an2 (an2 (an2 (an2 (an1 h2)))))))), (List.forall_mem_cons.mpr ⟨(an1 (an1 (an1 (an2 (an1 (an1 (an1 (an2 h2)))))))), (List.forall_mem_cons.mpr ⟨(an1 (an1 (an2 (an2 (an2 (an1 (an1 (an1 (an2 h2))))))))), (List.forall_mem_cons.mpr ⟨(an2 (an2 (an1 (an2 (an1 (an2 (an1 (an1 (an2 h2))))))))), (List.forall_mem_cons.mpr ⟨(an1 (an2 (an1 (an2 (an2 (an1 (an2 (an1 (an2 h2))))))))), (List.forall_mem_cons.mpr ⟨(an1 (an1 (an2 (an2 (an2 (an2 (an2 (an1 (an2 h2))))))))), (List.forall_mem_cons.mpr ⟨(an2 (an2 (an1 (an1 (an1 (an2 (an1 (an2 (an2 h2))))))))), (List.forall_mem_cons.mpr ⟨(an1 (an2 (an1 (an2 (an1 (an2 (an2 (an2 h2)))))))), (List.forall_mem_cons.mpr ⟨(an2 (an1 (an1 (an1 (an1 (an1 (an1 (an1 h3)))))))), (List.forall_mem_cons.mpr ⟨(an1 (an2 (an2 (an2 (an2 (an2 (an1 (an1 (an1 h3))))))))), (List.forall_mem_cons.mpr ⟨(an1 (an1 (an2 (an2 (an2 (an2 (an1 (an1 h3)))))))), (List.forall_mem_cons.mpr ⟨(an2 (an2 (an1 (an2 (an1 (an2 (an1 (an2 (an1 h3))))))))), (List.forall_mem_cons.mpr ⟨(an1 (an2 (an2 (an2 (an1 (an2 (an2 (an1 h3)))))))), (List.forall_mem_cons.mpr ⟨(an1 (an2 (an2 (an2 (an1 (an1 (an1 (an1 (an2 h3))))))))), (List.forall_mem_cons.mpr ⟨(an1 (an1 (an1 (an2 (an1 (an2 (an1 (an2 h3)))))))), (List.forall_mem_cons.mpr ⟨(an2 (an2 (an1 (an2 (an1 (an2 (an1 (an2 (an2 h3))))))))), (fun _ h => absurd h List.not_mem_nil)⟩)⟩)⟩)⟩)⟩)⟩)⟩)⟩)⟩)⟩)⟩)⟩)⟩)⟩)⟩)⟩)⟩)⟩)⟩)
  obtain ⟨a, cS, cA, kA, q1, q2, q3, q4, q5, q6, -⟩ := Cond.exactly_spec (args := #[Value.ref b]) (first := s) (o := none) (s := s) (idx := []) zex
  obtain ⟨t, et, hT⟩ := va_Tof (f := fun j => .int (kb j)) (N := 44) (A := fun q : Nat => s.heap.size ≤ q) (by decide) zar (va_eqt zle) (fun j hj => va_eqt (zel j hj)) hA
  have hini := ht _ (tbl_1 (i := 17) rfl)
  refine ⟨(a, t), fun w hw hm => va_Nw.of (mv_on hm) (hts w hw), fun C hC => hts _ hC, ht _ (tbl_4 (i := 59) rfl), fun own k tx hk => ?_, ⟨vx_Zqof (ht _ (tbl_5 (i := 26) rfl)) hini zus hA, vx_Zqof (ht _ (tbl_5 (i := 28) rfl)) hini zss hA⟩, va_Nc.of znc, va_Zof (ht _ (tbl_4 (i := 159) rfl)) (ht _ (tbl_1 (i := 22) rfl)) (va_eqt zcs) hA, va_Zqof (ht _ (tbl_4 (i := 202) rfl)) (ht _ (tbl_1 (i := 26) rfl)) zsi hA, vk_R.of (ht _ (tbl_12 (i := 173) rfl)) q1, va_Oof zex q1 hA, vk_OFof q1 (va_eqt zco) hA, vk_OFof q1 et hA, hT⟩
  have h9 := List.all_eq_true.mp env_str _ hk
  exact env_sr (ht _ hk) (key _ (of_decide_eq_true h9))
set_option maxHeartbeats 4000000 in
theorem known_of {s : State} {args : Array Value} (hts : ∀ w ∈ gw, w.before args s = true) : ∃ (dC : Nat → ClassId) (dI : Nat → Nat → Nat), va_K (dC, dI) cls [] s := by
  obtain ⟨c0, j0, k0⟩ := u_known (C := RX10) (T := TX10) (N := 8) (n := 8) hts i_X10 (hts _ qw150)
  obtain ⟨c1, j1, k1⟩ := u_known (C := RX7) (T := TX7) (N := 18) (n := 18) hts i_X7 (hts _ qw156)
  obtain ⟨c2, j2, k2⟩ := u_known (C := RX6) (T := TX6) (N := 13) (n := 13) hts i_X6 (hts _ qw191)
  obtain ⟨c3, j3, k3⟩ := u_known (C := RX9) (T := TX9) (N := 6) (n := 6) hts i_X9 (hts _ qw34)
  obtain ⟨c4, j4, k4⟩ := u_known (C := RX1) (T := TX1) (N := 21) (n := 21) hts i_X1 (hts _ qw112)
  obtain ⟨c5, j5, k5⟩ := u_known (C := RX8) (T := TX8) (N := 5) (n := 5) hts i_X8 (hts _ qw165)
  obtain ⟨c6, j6, k6⟩ := u_known (C := RX4) (T := TX4) (N := 20) (n := 20) hts i_X4 (hts _ qw170)
  obtain ⟨c7, j7, k7⟩ := u_known (C := RX5) (T := TX5) (N := 12) (n := 12) hts i_X5 (hts _ qw177)
  obtain ⟨c8, j8, k8⟩ := u_known (C := RX0) (T := TX0) (N := 17) (n := 17) hts i_X0 (hts _ qw184)
  obtain ⟨c9, j9, k9⟩ := u_known (C := RX2) (T := TX2) (N := 19) (n := 19) hts i_X2 (hts _ qw123)
  obtain ⟨c10, j10, k10⟩ := u_known (C := RX3) (T := TX3) (N := 20) (n := 20) hts i_X3 (hts _ qw198)
  obtain ⟨c11, j11, k11⟩ := u_known (C := RX11) (T := TX11) (N := 11) (n := 11) hts i_X11 (hts _ qw646)
  obtain ⟨c12, j12, k12⟩ := u_known (C := RX20) (T := TX20) (N := 2) (n := 2) hts i_X20 (hts _ qw365)
  obtain ⟨c13, j13, k13⟩ := u_known (C := RX22) (T := TX22) (N := 15) (n := 15) hts i_X22 (hts _ qw384)
  obtain ⟨c14, j14, k14⟩ := u_known (C := RX21) (T := TX21) (N := 18) (n := 18) hts i_X21 (hts _ qw394)
  obtain ⟨c15, j15, k15⟩ := u_known (C := RX24) (T := TX24) (N := 9) (n := 9) hts i_X24 (hts _ qw651)
  obtain ⟨c16, j16, k16⟩ := u_known (C := RX19) (T := TX19) (N := 23) (n := 23) hts i_X19 (hts _ qw614)
  obtain ⟨c17, j17, k17⟩ := u_known (C := RX23) (T := TX23) (N := 1) (n := 7) hts i_X23 (hts _ qw626)
  refine ⟨fun k => ([c0, c1, c2, c3, c4, c5, c6, c7, c8, c9, c10, c11, c12, c13, c14, c15, c16, c17] : List ClassId).getD k c0, fun k => ([j0, j1, j2, j3, j4, j5, j6, j7, j8, j9, j10, j11, j12, j13, j14, j15, j16, j17] : List (Nat → Nat)).getD k j0, fun k q hq => ?_, fun k q h => by simp at h⟩
  match k, hq with
  | 0, hq => cases hq; exact k0
  | 1, hq => cases hq; exact k1
  | 2, hq => cases hq; exact k2
  | 3, hq => cases hq; exact k3
  | 4, hq => cases hq; exact k4
  | 5, hq => cases hq; exact k5
  | 6, hq => cases hq; exact k6
  | 7, hq => cases hq; exact k7
  | 8, hq => cases hq; exact k8
  | 9, hq => cases hq; exact k9
  | 10, hq => cases hq; exact k10
  | 11, hq => cases hq; exact k11
  | 12, hq => cases hq; exact k12
  | 13, hq => cases hq; exact k13
  | 14, hq => cases hq; exact k14
  | 15, hq => cases hq; exact k15
  | 16, hq => cases hq; exact k16
  | 17, hq => cases hq; exact k17
  | k + 18, hq => simp [cls] at hq
