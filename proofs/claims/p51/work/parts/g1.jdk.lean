abbrev oJ4 (ad : Nat) (a : Nat → Nat) (k : Nat → ClassId) (n : Nat → Nat) (w : ST) : va_W := [(ad, .inr (12, [.ref (a 1), .int (w 0 1), .int (w 0 2), .int (w 0 3)])), ((a 1), .inl ((k 1), (n 1), .inl (w 1)))]
abbrev tJ4 (k : Nat → ClassId) : List (ClassId × FieldType) := [((k 1), .byte)]
def glJ4 (n m : Nat → Nat) : Prop := n 1 ≤ m 1
def gcJ4 (n m : Nat → Nat) : Nat := (m 1 - n 1)
def hcJ4 (n m : Nat → Nat) : Nat := (lgP (m 1) - lgP (n 1))
theorem glJ4_rf (n : Nat → Nat) : glJ4 n n := by unfold glJ4; omega
theorem glJ4_tr {a b c : Nat → Nat} (h1 : glJ4 a b) (h2 : glJ4 b c) : glJ4 a c := by unfold glJ4 at *; omega
theorem gcJ4_add {a b c : Nat → Nat} (h1 : glJ4 a b) (h2 : glJ4 b c) : gcJ4 a b + gcJ4 b c = gcJ4 a c ∧ hcJ4 a b + hcJ4 b c = hcJ4 a c := by unfold glJ4 at h1 h2; have l0_1 := lgP_mono (h1); have l1_1 := lgP_mono (h2); unfold gcJ4 hcJ4; omega
theorem gsJ4 {a b c d : Nat → Nat} (h1 : glJ4 a b) (h2 : glJ4 b c) (h3 : glJ4 c d) : gcJ4 a b + gcJ4 b c ≤ gcJ4 a d ∧ hcJ4 a b + hcJ4 b c ≤ hcJ4 a d := by have q1 := gcJ4_add h1 h2; have q2 := gcJ4_add (glJ4_tr h1 h2) h3; omega
theorem gmJ4 {a b c : Nat → Nat} (h1 : glJ4 a b) (h2 : glJ4 b c) : gcJ4 a b ≤ gcJ4 a c ∧ hcJ4 a b ≤ hcJ4 a c := by have q1 := gcJ4_add h1 h2; omega
def grJ4 {α : Type} (a b : Nat → Nat → α) : Nat → Nat → α := fun i q => if q = 1 then b i q else a i q
def glFJ4 (n m : Nat → Nat → Nat) : Prop := ∀ j, j < 6 → glJ4 (n j) (m j)
def gcFJ4 (n m : Nat → Nat → Nat) : Nat := gcJ4 (n 0) (m 0) + gcJ4 (n 1) (m 1) + gcJ4 (n 2) (m 2) + gcJ4 (n 3) (m 3) + gcJ4 (n 4) (m 4) + gcJ4 (n 5) (m 5)
def hcFJ4 (n m : Nat → Nat → Nat) : Nat := hcJ4 (n 0) (m 0) + hcJ4 (n 1) (m 1) + hcJ4 (n 2) (m 2) + hcJ4 (n 3) (m 3) + hcJ4 (n 4) (m 4) + hcJ4 (n 5) (m 5)
theorem glFJ4_rf (n : Nat → Nat → Nat) : glFJ4 n n := fun j _ => glJ4_rf _
theorem glFJ4_tr {a b c : Nat → Nat → Nat} (h1 : glFJ4 a b) (h2 : glFJ4 b c) : glFJ4 a c := fun j hj => glJ4_tr (h1 j hj) (h2 j hj)
theorem gcFJ4_add {a b c : Nat → Nat → Nat} (h1 : glFJ4 a b) (h2 : glFJ4 b c) : gcFJ4 a b + gcFJ4 b c = gcFJ4 a c ∧ hcFJ4 a b + hcFJ4 b c = hcFJ4 a c := by unfold gcFJ4 hcFJ4; have q0 := gcJ4_add (h1 0 (by decide)) (h2 0 (by decide)); have q1 := gcJ4_add (h1 1 (by decide)) (h2 1 (by decide)); have q2 := gcJ4_add (h1 2 (by decide)) (h2 2 (by decide)); have q3 := gcJ4_add (h1 3 (by decide)) (h2 3 (by decide)); have q4 := gcJ4_add (h1 4 (by decide)) (h2 4 (by decide)); have q5 := gcJ4_add (h1 5 (by decide)) (h2 5 (by decide)); omega
theorem gmFJ4 {a b c : Nat → Nat → Nat} (h1 : glFJ4 a b) (h2 : glFJ4 b c) : gcFJ4 a b ≤ gcFJ4 a c ∧ hcFJ4 a b ≤ hcFJ4 a c := by have := gcFJ4_add h1 h2; omega
theorem gsFJ4 {a b c d : Nat → Nat → Nat} (h1 : glFJ4 a b) (h2 : glFJ4 b c) (h3 : glFJ4 c d) : gcFJ4 a b + gcFJ4 b c ≤ gcFJ4 a d ∧ hcFJ4 a b + hcFJ4 b c ≤ hcFJ4 a d := by have q1 := gcFJ4_add h1 h2; have q2 := gcFJ4_add (glFJ4_tr h1 h2) h3; omega
theorem gcJ4_self (n : Nat → Nat) : gcJ4 n n = 0 ∧ hcJ4 n n = 0 := by unfold gcJ4 hcJ4; omega
theorem glFJ4_u {n : Nat → Nat → Nat} {i : Nat} {m : Nat → Nat} (hi : i < 6) (h : glJ4 (n i) m) : glFJ4 n (upF n i m) := by
  intro j hj
  unfold upF
  by_cases e : j = i
  · subst e; rw [if_pos rfl]; exact h
  · rw [if_neg e]; exact glJ4_rf _
theorem gcFJ4_u {n : Nat → Nat → Nat} {i : Nat} {m : Nat → Nat} (hi : i < 6) : gcFJ4 n (upF n i m) = gcJ4 (n i) m ∧ hcFJ4 n (upF n i m) = hcJ4 (n i) m := by
  rcases lt6 hi with rfl | rfl | rfl | rfl | rfl | rfl <;> simp [gcFJ4, hcFJ4, upF, gcJ4_self]
theorem glFJ4_te {α β : Type} {f : α → (Nat → Nat → Nat)} {g : β → (Nat → Nat → Nat)} {a b : Nat → Nat → Nat} {o : Sum α β} (h : glFJ4 a b) (h2 : Sum.elim (fun r => glFJ4 b (f r)) (fun t => glFJ4 b (g t)) o) : Sum.elim (fun r => glFJ4 a (f r)) (fun t => glFJ4 a (g t)) o := by
  rcases o with r | t
  · exact glFJ4_tr h h2
  · exact glFJ4_tr h h2
theorem glFJ4_el {α β : Type} {f : α → (Nat → Nat → Nat)} {g : β → (Nat → Nat → Nat)} {a : Nat → Nat → Nat} {o : Sum α β} {o2 : α} (h : Sum.elim (fun r => glFJ4 a (f r)) (fun t => glFJ4 a (g t)) o) (hr : ∀ r, o = Sum.inl r → r = o2) (hg : ∀ t, o = Sum.inr t → glFJ4 (g t) (f o2)) : glFJ4 a (f o2) := by
  rcases o with r | t
  · rw [← hr r rfl]; exact h
  · exact glFJ4_tr h (hg t rfl)
theorem glJ4_te {α β : Type} {f : α → (Nat → Nat)} {g : β → (Nat → Nat)} {a b : Nat → Nat} {o : Sum α β} (h : glJ4 a b) (h2 : Sum.elim (fun r => glJ4 b (f r)) (fun t => glJ4 b (g t)) o) : Sum.elim (fun r => glJ4 a (f r)) (fun t => glJ4 a (g t)) o := by
  rcases o with r | t
  · exact glJ4_tr h h2
  · exact glJ4_tr h h2
theorem glJ4_el {α β : Type} {f : α → (Nat → Nat)} {g : β → (Nat → Nat)} {a : Nat → Nat} {o : Sum α β} {o2 : α} (h : Sum.elim (fun r => glJ4 a (f r)) (fun t => glJ4 a (g t)) o) (hr : ∀ r, o = Sum.inl r → r = o2) (hg : ∀ t, o = Sum.inr t → glJ4 (g t) (f o2)) : glJ4 a (f o2) := by
  rcases o with r | t
  · rw [← hr r rfl]; exact h
  · exact glJ4_tr h (hg t rfl)
theorem glJ4_1 {n : Nat → Nat} {x : Nat} (h : n 1 ≤ x) : glJ4 n (stn n 1 x) := by simp [glJ4, stn]; omega
theorem gcJ4_1 {n : Nat → Nat} {x : Nat} (h : n 1 ≤ x) : gcJ4 n (stn n 1 x) = x - n 1 ∧ hcJ4 n (stn n 1 x) = lgP x - lgP (n 1) := by simp [gcJ4, hcJ4, stn]
abbrev cJ0_coder_7d493 : ByteArray := prog_42_method_152_code
def yJ0_coder_7d493 : MethodName := ⟨RJ0, "coder", "()B"⟩
abbrev cJ0_isLatin1_aae02 : ByteArray := prog_42_method_154_code
def yJ0_isLatin1_aae02 : MethodName := ⟨RJ0, "isLatin1", "()Z"⟩
abbrev cJ0_length_8abf5 : ByteArray := prog_42_method_54_code
def yJ0_length_8abf5 : MethodName := ⟨RJ0, "length", "()I"⟩
def RJ3 : String := "jdk/internal/util/Preconditions"
abbrev cJ3_checkIndex_8e157 : ByteArray := prog_50_method_11_code
def yJ3_checkIndex_8e157 : MethodName := ⟨RJ3, "checkIndex", "(IILjava/util/function/BiFunction;)I"⟩
abbrev cJ0_checkIndex_df160 : ByteArray := prog_42_method_155_code
def yJ0_checkIndex_df160 : MethodName := ⟨RJ0, "checkIndex", "(II)V"⟩
def RJ1 : String := "java/lang/StringLatin1"
abbrev cJ1_charAt_3b067 : ByteArray := prog_44_method_2_code
def yJ1_charAt_3b067 : MethodName := ⟨RJ1, "charAt", "([BI)C"⟩
abbrev cJ0_charAt_5068e : ByteArray := prog_42_method_56_code
def yJ0_charAt_5068e : MethodName := ⟨RJ0, "charAt", "(I)C"⟩
abbrev cJ0_getBytes_840e7 : ByteArray := prog_42_method_147_code
def yJ0_getBytes_840e7 : MethodName := ⟨RJ0, "getBytes", "([BIB)V"⟩
def RJ5 : String := "java/lang/AbstractStringBuilder"
abbrev cJ5_isLatin1_aae02 : ByteArray := prog_30_method_68_code
def yJ5_isLatin1_aae02 : MethodName := ⟨RJ5, "isLatin1", "()Z"⟩
def RJ8 : String := "jdk/internal/util/ArraysSupport"
abbrev cJ8_newLength_cabcc : ByteArray := prog_49_method_27_code
def yJ8_newLength_cabcc : MethodName := ⟨RJ8, "newLength", "(III)I"⟩
abbrev cJ8_hugeLength_7cf53 : ByteArray := prog_49_method_28_code
def yJ8_hugeLength_7cf53 : MethodName := ⟨RJ8, "hugeLength", "(II)I"⟩
abbrev cJ5_newCapacity_0f7a4 : ByteArray := prog_30_method_10_code
def yJ5_newCapacity_0f7a4 : MethodName := ⟨RJ5, "newCapacity", "(I)I"⟩
abbrev cJ5_ensureCapacityInternal_d00df : ByteArray := prog_30_method_9_code
def yJ5_ensureCapacityInternal_d00df : MethodName := ⟨RJ5, "ensureCapacityInternal", "(I)V"⟩
abbrev cJ7_copyOf_9075b : ByteArray := prog_48_method_121_code
def yJ7_copyOf_9075b : MethodName := ⟨RJ7, "copyOf", "([BI)[B"⟩
abbrev cJ5_inflateIfNeededFor_a7421 : ByteArray := prog_30_method_71_code
def yJ5_inflateIfNeededFor_a7421 : MethodName := ⟨RJ5, "inflateIfNeededFor", "(Ljava/lang/String;)V"⟩
abbrev cJ5_putStringAt_47b60 : ByteArray := prog_30_method_73_code
def yJ5_putStringAt_47b60 : MethodName := ⟨RJ5, "putStringAt", "(ILjava/lang/String;)V"⟩
abbrev cJ5_append_cf1ce : ByteArray := prog_30_method_22_code
def yJ5_append_cf1ce : MethodName := ⟨RJ5, "append", "(Ljava/lang/String;)Ljava/lang/AbstractStringBuilder;"⟩
def RJ6 : String := "java/lang/Integer"
abbrev cJ6_stringSize_0f7a4 : ByteArray := prog_37_method_13_code
def yJ6_stringSize_0f7a4 : MethodName := ⟨RJ6, "stringSize", "(I)I"⟩
abbrev cJ6_getChars_ba4f3 : ByteArray := prog_37_method_12_code
def yJ6_getChars_ba4f3 : MethodName := ⟨RJ6, "getChars", "(II[B)I"⟩
abbrev cJ5_append_c97b9 : ByteArray := prog_30_method_32_code
def yJ5_append_c97b9 : MethodName := ⟨RJ5, "append", "(I)Ljava/lang/AbstractStringBuilder;"⟩
abbrev cJ4_append_15ec4 : ByteArray := prog_43_method_7_code
def yJ4_append_15ec4 : MethodName := ⟨RJ4, "append", "(Ljava/lang/String;)Ljava/lang/StringBuilder;"⟩
abbrev cJ4_append_bf812 : ByteArray := prog_43_method_15_code
def yJ4_append_bf812 : MethodName := ⟨RJ4, "append", "(I)Ljava/lang/StringBuilder;"⟩
abbrev cJ1_canEncode_9a6ad : ByteArray := prog_44_method_4_code
def yJ1_canEncode_9a6ad : MethodName := ⟨RJ1, "canEncode", "(I)Z"⟩
abbrev cJ1_indexOfChar_4cfef : ByteArray := prog_44_method_23_code
def yJ1_indexOfChar_4cfef : MethodName := ⟨RJ1, "indexOfChar", "([BIII)I"⟩
abbrev cJ1_indexOf_4cfef : ByteArray := prog_44_method_22_code
def yJ1_indexOf_4cfef : MethodName := ⟨RJ1, "indexOf", "([BIII)I"⟩
abbrev cJ0_indexOf_7cf53 : ByteArray := prog_42_method_80_code
def yJ0_indexOf_7cf53 : MethodName := ⟨RJ0, "indexOf", "(II)I"⟩
abbrev cJ0_indexOf_0f7a4 : ByteArray := prog_42_method_79_code
def yJ0_indexOf_0f7a4 : MethodName := ⟨RJ0, "indexOf", "(I)I"⟩
theorem dJ0_charAt_5068e_0 : decode cJ0_charAt_5068e 0 = .ok (.aload_n 0, 1) := by decide +kernel
theorem dJ0_charAt_5068e_1 : decode cJ0_charAt_5068e 1 = .ok (.invokevirtual 492, 3) := by decide +kernel
theorem dJ0_charAt_5068e_4 : decode cJ0_charAt_5068e 4 = .ok (.ifCond .eq 12, 3) := by decide +kernel
theorem dJ0_charAt_5068e_7 : decode cJ0_charAt_5068e 7 = .ok (.aload_n 0, 1) := by decide +kernel
theorem dJ0_charAt_5068e_8 : decode cJ0_charAt_5068e 8 = .ok (.getfield 9, 3) := by decide +kernel
theorem dJ0_charAt_5068e_11 : decode cJ0_charAt_5068e 11 = .ok (.iload_n 1, 1) := by decide +kernel
theorem dJ0_charAt_5068e_12 : decode cJ0_charAt_5068e 12 = .ok (.invokestatic 495, 3) := by decide +kernel
theorem dJ0_charAt_5068e_15 : decode cJ0_charAt_5068e 15 = .ok (.ireturn, 1) := by decide +kernel
theorem dJ0_charAt_5068e_16 : decode cJ0_charAt_5068e 16 = .ok (.aload_n 0, 1) := by decide +kernel
theorem dJ0_charAt_5068e_17 : decode cJ0_charAt_5068e 17 = .ok (.getfield 9, 3) := by decide +kernel
theorem dJ0_charAt_5068e_20 : decode cJ0_charAt_5068e 20 = .ok (.iload_n 1, 1) := by decide +kernel
theorem dJ0_checkIndex_df160_0 : decode cJ0_checkIndex_df160 0 = .ok (.iload_n 0, 1) := by decide +kernel
theorem dJ0_checkIndex_df160_1 : decode cJ0_checkIndex_df160 1 = .ok (.iload_n 1, 1) := by decide +kernel
theorem dJ0_checkIndex_df160_2 : decode cJ0_checkIndex_df160 2 = .ok (.getstatic 1053, 3) := by decide +kernel
theorem dJ0_checkIndex_df160_5 : decode cJ0_checkIndex_df160 5 = .ok (.invokestatic 1059, 3) := by decide +kernel
theorem dJ0_checkIndex_df160_8 : decode cJ0_checkIndex_df160 8 = .ok (.pop, 1) := by decide +kernel
theorem dJ0_checkIndex_df160_9 : decode cJ0_checkIndex_df160 9 = .ok (.return_, 1) := by decide +kernel
theorem dJ0_coder_7d493_0 : decode cJ0_coder_7d493 0 = .ok (.getstatic 38, 3) := by decide +kernel
theorem dJ0_coder_7d493_3 : decode cJ0_coder_7d493 3 = .ok (.ifCond .eq 10, 3) := by decide +kernel
theorem dJ0_coder_7d493_6 : decode cJ0_coder_7d493 6 = .ok (.aload_n 0, 1) := by decide +kernel
theorem dJ0_coder_7d493_7 : decode cJ0_coder_7d493 7 = .ok (.getfield 15, 3) := by decide +kernel
theorem dJ0_coder_7d493_10 : decode cJ0_coder_7d493 10 = .ok (.goto 4, 3) := by decide +kernel
theorem dJ0_coder_7d493_13 : decode cJ0_coder_7d493 13 = .ok (.iconst 1, 1) := by decide +kernel
theorem dJ0_coder_7d493_14 : decode cJ0_coder_7d493 14 = .ok (.ireturn, 1) := by decide +kernel
theorem dJ0_getBytes_840e7_0 : decode cJ0_getBytes_840e7 0 = .ok (.aload_n 0, 1) := by decide +kernel
theorem dJ0_getBytes_840e7_1 : decode cJ0_getBytes_840e7 1 = .ok (.invokevirtual 335, 3) := by decide +kernel
theorem dJ0_getBytes_840e7_4 : decode cJ0_getBytes_840e7 4 = .ok (.iload_n 3, 1) := by decide +kernel
theorem dJ0_getBytes_840e7_5 : decode cJ0_getBytes_840e7 5 = .ok (.if_icmp .ne 23, 3) := by decide +kernel
theorem dJ0_getBytes_840e7_8 : decode cJ0_getBytes_840e7 8 = .ok (.aload_n 0, 1) := by decide +kernel
theorem dJ0_getBytes_840e7_9 : decode cJ0_getBytes_840e7 9 = .ok (.getfield 9, 3) := by decide +kernel
theorem dJ0_getBytes_840e7_12 : decode cJ0_getBytes_840e7 12 = .ok (.iconst 0, 1) := by decide +kernel
theorem dJ0_getBytes_840e7_13 : decode cJ0_getBytes_840e7 13 = .ok (.aload_n 1, 1) := by decide +kernel
theorem dJ0_getBytes_840e7_14 : decode cJ0_getBytes_840e7 14 = .ok (.iload_n 2, 1) := by decide +kernel
theorem dJ0_getBytes_840e7_15 : decode cJ0_getBytes_840e7 15 = .ok (.iload_n 3, 1) := by decide +kernel
theorem dJ0_getBytes_840e7_16 : decode cJ0_getBytes_840e7 16 = .ok (.ishl, 1) := by decide +kernel
theorem dJ0_getBytes_840e7_17 : decode cJ0_getBytes_840e7 17 = .ok (.aload_n 0, 1) := by decide +kernel
theorem dJ0_getBytes_840e7_18 : decode cJ0_getBytes_840e7 18 = .ok (.getfield 9, 3) := by decide +kernel
theorem dJ0_getBytes_840e7_21 : decode cJ0_getBytes_840e7 21 = .ok (.arraylength, 1) := by decide +kernel
theorem dJ0_getBytes_840e7_22 : decode cJ0_getBytes_840e7 22 = .ok (.invokestatic 212, 3) := by decide +kernel
theorem dJ0_getBytes_840e7_25 : decode cJ0_getBytes_840e7 25 = .ok (.goto 18, 3) := by decide +kernel
theorem dJ0_getBytes_840e7_28 : decode cJ0_getBytes_840e7 28 = .ok (.aload_n 0, 1) := by decide +kernel
theorem dJ0_getBytes_840e7_29 : decode cJ0_getBytes_840e7 29 = .ok (.getfield 9, 3) := by decide +kernel
theorem dJ0_getBytes_840e7_32 : decode cJ0_getBytes_840e7 32 = .ok (.iconst 0, 1) := by decide +kernel
theorem dJ0_getBytes_840e7_33 : decode cJ0_getBytes_840e7 33 = .ok (.aload_n 1, 1) := by decide +kernel
theorem dJ0_getBytes_840e7_34 : decode cJ0_getBytes_840e7 34 = .ok (.iload_n 2, 1) := by decide +kernel
theorem dJ0_getBytes_840e7_35 : decode cJ0_getBytes_840e7 35 = .ok (.aload_n 0, 1) := by decide +kernel
theorem dJ0_getBytes_840e7_36 : decode cJ0_getBytes_840e7 36 = .ok (.getfield 9, 3) := by decide +kernel
theorem dJ0_getBytes_840e7_39 : decode cJ0_getBytes_840e7 39 = .ok (.arraylength, 1) := by decide +kernel
theorem dJ0_getBytes_840e7_43 : decode cJ0_getBytes_840e7 43 = .ok (.return_, 1) := by decide +kernel
theorem dJ0_indexOf_0f7a4_0 : decode cJ0_indexOf_0f7a4 0 = .ok (.aload_n 0, 1) := by decide +kernel
theorem dJ0_indexOf_0f7a4_1 : decode cJ0_indexOf_0f7a4 1 = .ok (.iload_n 1, 1) := by decide +kernel
theorem dJ0_indexOf_0f7a4_2 : decode cJ0_indexOf_0f7a4 2 = .ok (.iconst 0, 1) := by decide +kernel
theorem dJ0_indexOf_0f7a4_3 : decode cJ0_indexOf_0f7a4 3 = .ok (.invokevirtual 633, 3) := by decide +kernel
theorem dJ0_indexOf_0f7a4_6 : decode cJ0_indexOf_0f7a4 6 = .ok (.ireturn, 1) := by decide +kernel
theorem dJ0_indexOf_7cf53_0 : decode cJ0_indexOf_7cf53 0 = .ok (.aload_n 0, 1) := by decide +kernel
theorem dJ0_indexOf_7cf53_1 : decode cJ0_indexOf_7cf53 1 = .ok (.invokevirtual 492, 3) := by decide +kernel
theorem dJ0_indexOf_7cf53_4 : decode cJ0_indexOf_7cf53 4 = .ok (.ifCond .eq 19, 3) := by decide +kernel
theorem dJ0_indexOf_7cf53_7 : decode cJ0_indexOf_7cf53 7 = .ok (.aload_n 0, 1) := by decide +kernel
theorem dJ0_indexOf_7cf53_8 : decode cJ0_indexOf_7cf53 8 = .ok (.getfield 9, 3) := by decide +kernel
theorem dJ0_indexOf_7cf53_11 : decode cJ0_indexOf_7cf53 11 = .ok (.iload_n 1, 1) := by decide +kernel
theorem dJ0_indexOf_7cf53_12 : decode cJ0_indexOf_7cf53 12 = .ok (.iload_n 2, 1) := by decide +kernel
theorem dJ0_indexOf_7cf53_13 : decode cJ0_indexOf_7cf53 13 = .ok (.aload_n 0, 1) := by decide +kernel
theorem dJ0_indexOf_7cf53_14 : decode cJ0_indexOf_7cf53 14 = .ok (.invokevirtual 505, 3) := by decide +kernel
theorem dJ0_indexOf_7cf53_17 : decode cJ0_indexOf_7cf53 17 = .ok (.invokestatic 637, 3) := by decide +kernel
theorem dJ0_indexOf_7cf53_20 : decode cJ0_indexOf_7cf53 20 = .ok (.goto 16, 3) := by decide +kernel
theorem dJ0_indexOf_7cf53_23 : decode cJ0_indexOf_7cf53 23 = .ok (.aload_n 0, 1) := by decide +kernel
theorem dJ0_indexOf_7cf53_24 : decode cJ0_indexOf_7cf53 24 = .ok (.getfield 9, 3) := by decide +kernel
theorem dJ0_indexOf_7cf53_27 : decode cJ0_indexOf_7cf53 27 = .ok (.iload_n 1, 1) := by decide +kernel
theorem dJ0_indexOf_7cf53_28 : decode cJ0_indexOf_7cf53 28 = .ok (.iload_n 2, 1) := by decide +kernel
theorem dJ0_indexOf_7cf53_29 : decode cJ0_indexOf_7cf53 29 = .ok (.aload_n 0, 1) := by decide +kernel
theorem dJ0_indexOf_7cf53_30 : decode cJ0_indexOf_7cf53 30 = .ok (.invokevirtual 505, 3) := by decide +kernel
theorem dJ0_indexOf_7cf53_36 : decode cJ0_indexOf_7cf53 36 = .ok (.ireturn, 1) := by decide +kernel
theorem dJ0_isLatin1_aae02_0 : decode cJ0_isLatin1_aae02 0 = .ok (.getstatic 38, 3) := by decide +kernel
theorem dJ0_isLatin1_aae02_3 : decode cJ0_isLatin1_aae02 3 = .ok (.ifCond .eq 14, 3) := by decide +kernel
theorem dJ0_isLatin1_aae02_6 : decode cJ0_isLatin1_aae02 6 = .ok (.aload_n 0, 1) := by decide +kernel
theorem dJ0_isLatin1_aae02_7 : decode cJ0_isLatin1_aae02 7 = .ok (.getfield 15, 3) := by decide +kernel
theorem dJ0_isLatin1_aae02_10 : decode cJ0_isLatin1_aae02 10 = .ok (.ifCond .ne 7, 3) := by decide +kernel
theorem dJ0_isLatin1_aae02_13 : decode cJ0_isLatin1_aae02 13 = .ok (.iconst 1, 1) := by decide +kernel
theorem dJ0_isLatin1_aae02_14 : decode cJ0_isLatin1_aae02 14 = .ok (.goto 4, 3) := by decide +kernel
theorem dJ0_isLatin1_aae02_17 : decode cJ0_isLatin1_aae02 17 = .ok (.iconst 0, 1) := by decide +kernel
theorem dJ0_isLatin1_aae02_18 : decode cJ0_isLatin1_aae02 18 = .ok (.ireturn, 1) := by decide +kernel
theorem dJ0_length_8abf5_0 : decode cJ0_length_8abf5 0 = .ok (.aload_n 0, 1) := by decide +kernel
theorem dJ0_length_8abf5_1 : decode cJ0_length_8abf5 1 = .ok (.getfield 9, 3) := by decide +kernel
theorem dJ0_length_8abf5_4 : decode cJ0_length_8abf5 4 = .ok (.arraylength, 1) := by decide +kernel
theorem dJ0_length_8abf5_5 : decode cJ0_length_8abf5 5 = .ok (.aload_n 0, 1) := by decide +kernel
theorem dJ0_length_8abf5_6 : decode cJ0_length_8abf5 6 = .ok (.invokevirtual 335, 3) := by decide +kernel
theorem dJ0_length_8abf5_9 : decode cJ0_length_8abf5 9 = .ok (.ishr, 1) := by decide +kernel
theorem dJ0_length_8abf5_10 : decode cJ0_length_8abf5 10 = .ok (.ireturn, 1) := by decide +kernel
theorem dJ1_canEncode_9a6ad_0 : decode cJ1_canEncode_9a6ad 0 = .ok (.iload_n 0, 1) := by decide +kernel
theorem dJ1_canEncode_9a6ad_1 : decode cJ1_canEncode_9a6ad 1 = .ok (.ifCond .lt 14, 3) := by decide +kernel
theorem dJ1_canEncode_9a6ad_4 : decode cJ1_canEncode_9a6ad 4 = .ok (.iload_n 0, 1) := by decide +kernel
theorem dJ1_canEncode_9a6ad_5 : decode cJ1_canEncode_9a6ad 5 = .ok (.sipush 255, 3) := by decide +kernel
theorem dJ1_canEncode_9a6ad_8 : decode cJ1_canEncode_9a6ad 8 = .ok (.if_icmp .gt 7, 3) := by decide +kernel
theorem dJ1_canEncode_9a6ad_11 : decode cJ1_canEncode_9a6ad 11 = .ok (.iconst 1, 1) := by decide +kernel
theorem dJ1_canEncode_9a6ad_12 : decode cJ1_canEncode_9a6ad 12 = .ok (.goto 4, 3) := by decide +kernel
theorem dJ1_canEncode_9a6ad_15 : decode cJ1_canEncode_9a6ad 15 = .ok (.iconst 0, 1) := by decide +kernel
theorem dJ1_canEncode_9a6ad_16 : decode cJ1_canEncode_9a6ad 16 = .ok (.ireturn, 1) := by decide +kernel
theorem dJ1_charAt_3b067_0 : decode cJ1_charAt_3b067 0 = .ok (.iload_n 1, 1) := by decide +kernel
theorem dJ1_charAt_3b067_1 : decode cJ1_charAt_3b067 1 = .ok (.aload_n 0, 1) := by decide +kernel
theorem dJ1_charAt_3b067_2 : decode cJ1_charAt_3b067 2 = .ok (.arraylength, 1) := by decide +kernel
theorem dJ1_charAt_3b067_3 : decode cJ1_charAt_3b067 3 = .ok (.invokestatic 9, 3) := by decide +kernel
theorem dJ1_charAt_3b067_6 : decode cJ1_charAt_3b067 6 = .ok (.aload_n 0, 1) := by decide +kernel
theorem dJ1_charAt_3b067_7 : decode cJ1_charAt_3b067 7 = .ok (.iload_n 1, 1) := by decide +kernel
theorem dJ1_charAt_3b067_8 : decode cJ1_charAt_3b067 8 = .ok (.baload, 1) := by decide +kernel
theorem dJ1_charAt_3b067_9 : decode cJ1_charAt_3b067 9 = .ok (.sipush 255, 3) := by decide +kernel
theorem dJ1_charAt_3b067_12 : decode cJ1_charAt_3b067 12 = .ok (.iand, 1) := by decide +kernel
theorem dJ1_charAt_3b067_13 : decode cJ1_charAt_3b067 13 = .ok (.i2c, 1) := by decide +kernel
theorem dJ1_charAt_3b067_14 : decode cJ1_charAt_3b067 14 = .ok (.ireturn, 1) := by decide +kernel
theorem dJ1_indexOfChar_4cfef_0 : decode cJ1_indexOfChar_4cfef 0 = .ok (.iload_n 1, 1) := by decide +kernel
theorem dJ1_indexOfChar_4cfef_1 : decode cJ1_indexOfChar_4cfef 1 = .ok (.i2b, 1) := by decide +kernel
theorem dJ1_indexOfChar_4cfef_2 : decode cJ1_indexOfChar_4cfef 2 = .ok (.istore 4, 2) := by decide +kernel
theorem dJ1_indexOfChar_4cfef_4 : decode cJ1_indexOfChar_4cfef 4 = .ok (.iload_n 2, 1) := by decide +kernel
theorem dJ1_indexOfChar_4cfef_5 : decode cJ1_indexOfChar_4cfef 5 = .ok (.istore 5, 2) := by decide +kernel
theorem dJ1_indexOfChar_4cfef_7 : decode cJ1_indexOfChar_4cfef 7 = .ok (.iload 5, 2) := by decide +kernel
theorem dJ1_indexOfChar_4cfef_9 : decode cJ1_indexOfChar_4cfef 9 = .ok (.iload_n 3, 1) := by decide +kernel
theorem dJ1_indexOfChar_4cfef_10 : decode cJ1_indexOfChar_4cfef 10 = .ok (.if_icmp .ge 21, 3) := by decide +kernel
theorem dJ1_indexOfChar_4cfef_13 : decode cJ1_indexOfChar_4cfef 13 = .ok (.aload_n 0, 1) := by decide +kernel
theorem dJ1_indexOfChar_4cfef_14 : decode cJ1_indexOfChar_4cfef 14 = .ok (.iload 5, 2) := by decide +kernel
theorem dJ1_indexOfChar_4cfef_16 : decode cJ1_indexOfChar_4cfef 16 = .ok (.baload, 1) := by decide +kernel
theorem dJ1_indexOfChar_4cfef_17 : decode cJ1_indexOfChar_4cfef 17 = .ok (.iload 4, 2) := by decide +kernel
theorem dJ1_indexOfChar_4cfef_19 : decode cJ1_indexOfChar_4cfef 19 = .ok (.if_icmp .ne 6, 3) := by decide +kernel
theorem dJ1_indexOfChar_4cfef_22 : decode cJ1_indexOfChar_4cfef 22 = .ok (.iload 5, 2) := by decide +kernel
theorem dJ1_indexOfChar_4cfef_24 : decode cJ1_indexOfChar_4cfef 24 = .ok (.ireturn, 1) := by decide +kernel
theorem dJ1_indexOfChar_4cfef_25 : decode cJ1_indexOfChar_4cfef 25 = .ok (.iinc 5 1, 3) := by decide +kernel
theorem dJ1_indexOfChar_4cfef_28 : decode cJ1_indexOfChar_4cfef 28 = .ok (.goto (-21), 3) := by decide +kernel
theorem dJ1_indexOfChar_4cfef_31 : decode cJ1_indexOfChar_4cfef 31 = .ok (.iconst (-1), 1) := by decide +kernel
theorem dJ1_indexOfChar_4cfef_32 : decode cJ1_indexOfChar_4cfef 32 = .ok (.ireturn, 1) := by decide +kernel
theorem dJ1_indexOf_4cfef_0 : decode cJ1_indexOf_4cfef 0 = .ok (.iload_n 1, 1) := by decide +kernel
theorem dJ1_indexOf_4cfef_1 : decode cJ1_indexOf_4cfef 1 = .ok (.invokestatic 88, 3) := by decide +kernel
theorem dJ1_indexOf_4cfef_4 : decode cJ1_indexOf_4cfef 4 = .ok (.ifCond .ne 5, 3) := by decide +kernel
theorem dJ1_indexOf_4cfef_7 : decode cJ1_indexOf_4cfef 7 = .ok (.iconst (-1), 1) := by decide +kernel
theorem dJ1_indexOf_4cfef_8 : decode cJ1_indexOf_4cfef 8 = .ok (.ireturn, 1) := by decide +kernel
theorem dJ1_indexOf_4cfef_9 : decode cJ1_indexOf_4cfef 9 = .ok (.iload_n 2, 1) := by decide +kernel
theorem dJ1_indexOf_4cfef_10 : decode cJ1_indexOf_4cfef 10 = .ok (.iconst 0, 1) := by decide +kernel
theorem dJ1_indexOf_4cfef_11 : decode cJ1_indexOf_4cfef 11 = .ok (.invokestatic 92, 3) := by decide +kernel
theorem dJ1_indexOf_4cfef_14 : decode cJ1_indexOf_4cfef 14 = .ok (.istore_n 2, 1) := by decide +kernel
theorem dJ1_indexOf_4cfef_15 : decode cJ1_indexOf_4cfef 15 = .ok (.iload_n 3, 1) := by decide +kernel
theorem dJ1_indexOf_4cfef_16 : decode cJ1_indexOf_4cfef 16 = .ok (.aload_n 0, 1) := by decide +kernel
theorem dJ1_indexOf_4cfef_17 : decode cJ1_indexOf_4cfef 17 = .ok (.arraylength, 1) := by decide +kernel
theorem dJ1_indexOf_4cfef_18 : decode cJ1_indexOf_4cfef 18 = .ok (.invokestatic 38, 3) := by decide +kernel
theorem dJ1_indexOf_4cfef_21 : decode cJ1_indexOf_4cfef 21 = .ok (.istore_n 3, 1) := by decide +kernel
theorem dJ1_indexOf_4cfef_22 : decode cJ1_indexOf_4cfef 22 = .ok (.iload_n 2, 1) := by decide +kernel
theorem dJ1_indexOf_4cfef_23 : decode cJ1_indexOf_4cfef 23 = .ok (.iload_n 3, 1) := by decide +kernel
theorem dJ1_indexOf_4cfef_24 : decode cJ1_indexOf_4cfef 24 = .ok (.if_icmp .lt 5, 3) := by decide +kernel
theorem dJ1_indexOf_4cfef_27 : decode cJ1_indexOf_4cfef 27 = .ok (.iconst (-1), 1) := by decide +kernel
theorem dJ1_indexOf_4cfef_28 : decode cJ1_indexOf_4cfef 28 = .ok (.ireturn, 1) := by decide +kernel
theorem dJ1_indexOf_4cfef_29 : decode cJ1_indexOf_4cfef 29 = .ok (.aload_n 0, 1) := by decide +kernel
theorem dJ1_indexOf_4cfef_30 : decode cJ1_indexOf_4cfef 30 = .ok (.iload_n 1, 1) := by decide +kernel
theorem dJ1_indexOf_4cfef_31 : decode cJ1_indexOf_4cfef 31 = .ok (.iload_n 2, 1) := by decide +kernel
theorem dJ1_indexOf_4cfef_32 : decode cJ1_indexOf_4cfef 32 = .ok (.iload_n 3, 1) := by decide +kernel
theorem dJ1_indexOf_4cfef_33 : decode cJ1_indexOf_4cfef 33 = .ok (.invokestatic 95, 3) := by decide +kernel
theorem dJ1_indexOf_4cfef_36 : decode cJ1_indexOf_4cfef 36 = .ok (.ireturn, 1) := by decide +kernel
theorem dJ3_checkIndex_8e157_0 : decode cJ3_checkIndex_8e157 0 = .ok (.iload_n 0, 1) := by decide +kernel
theorem dJ3_checkIndex_8e157_1 : decode cJ3_checkIndex_8e157 1 = .ok (.ifCond .lt 8, 3) := by decide +kernel
theorem dJ3_checkIndex_8e157_4 : decode cJ3_checkIndex_8e157 4 = .ok (.iload_n 0, 1) := by decide +kernel
theorem dJ3_checkIndex_8e157_5 : decode cJ3_checkIndex_8e157 5 = .ok (.iload_n 1, 1) := by decide +kernel
theorem dJ3_checkIndex_8e157_6 : decode cJ3_checkIndex_8e157 6 = .ok (.if_icmp .lt 10, 3) := by decide +kernel
theorem dJ3_checkIndex_8e157_9 : decode cJ3_checkIndex_8e157 9 = .ok (.aload_n 2, 1) := by decide +kernel
theorem dJ3_checkIndex_8e157_10 : decode cJ3_checkIndex_8e157 10 = .ok (.iload_n 0, 1) := by decide +kernel
theorem dJ3_checkIndex_8e157_11 : decode cJ3_checkIndex_8e157 11 = .ok (.iload_n 1, 1) := by decide +kernel
theorem dJ3_checkIndex_8e157_16 : decode cJ3_checkIndex_8e157 16 = .ok (.iload_n 0, 1) := by decide +kernel
theorem dJ3_checkIndex_8e157_17 : decode cJ3_checkIndex_8e157 17 = .ok (.ireturn, 1) := by decide +kernel
theorem dJ4_append_15ec4_0 : decode cJ4_append_15ec4 0 = .ok (.aload_n 0, 1) := by decide +kernel
theorem dJ4_append_15ec4_1 : decode cJ4_append_15ec4 1 = .ok (.aload_n 1, 1) := by decide +kernel
theorem dJ4_append_15ec4_2 : decode cJ4_append_15ec4 2 = .ok (.invokespecial 29, 3) := by decide +kernel
theorem dJ4_append_15ec4_5 : decode cJ4_append_15ec4 5 = .ok (.pop, 1) := by decide +kernel
theorem dJ4_append_15ec4_6 : decode cJ4_append_15ec4 6 = .ok (.aload_n 0, 1) := by decide +kernel
theorem dJ4_append_15ec4_7 : decode cJ4_append_15ec4 7 = .ok (.areturn, 1) := by decide +kernel
theorem dJ4_append_bf812_0 : decode cJ4_append_bf812 0 = .ok (.aload_n 0, 1) := by decide +kernel
theorem dJ4_append_bf812_1 : decode cJ4_append_bf812 1 = .ok (.iload_n 1, 1) := by decide +kernel
theorem dJ4_append_bf812_2 : decode cJ4_append_bf812 2 = .ok (.invokespecial 53, 3) := by decide +kernel
theorem dJ4_append_bf812_5 : decode cJ4_append_bf812 5 = .ok (.pop, 1) := by decide +kernel
theorem dJ4_append_bf812_6 : decode cJ4_append_bf812 6 = .ok (.aload_n 0, 1) := by decide +kernel
theorem dJ4_append_bf812_7 : decode cJ4_append_bf812 7 = .ok (.areturn, 1) := by decide +kernel
theorem dJ5_append_c97b9_0 : decode cJ5_append_c97b9 0 = .ok (.aload_n 0, 1) := by decide +kernel
theorem dJ5_append_c97b9_1 : decode cJ5_append_c97b9 1 = .ok (.getfield 79, 3) := by decide +kernel
theorem dJ5_append_c97b9_4 : decode cJ5_append_c97b9 4 = .ok (.istore_n 2, 1) := by decide +kernel
theorem dJ5_append_c97b9_5 : decode cJ5_append_c97b9 5 = .ok (.iload_n 2, 1) := by decide +kernel
theorem dJ5_append_c97b9_6 : decode cJ5_append_c97b9 6 = .ok (.iload_n 1, 1) := by decide +kernel
theorem dJ5_append_c97b9_7 : decode cJ5_append_c97b9 7 = .ok (.invokestatic 245, 3) := by decide +kernel
theorem dJ5_append_c97b9_10 : decode cJ5_append_c97b9 10 = .ok (.iadd, 1) := by decide +kernel
theorem dJ5_append_c97b9_11 : decode cJ5_append_c97b9 11 = .ok (.istore_n 3, 1) := by decide +kernel
theorem dJ5_append_c97b9_12 : decode cJ5_append_c97b9 12 = .ok (.aload_n 0, 1) := by decide +kernel
theorem dJ5_append_c97b9_13 : decode cJ5_append_c97b9 13 = .ok (.iload_n 3, 1) := by decide +kernel
theorem dJ5_append_c97b9_14 : decode cJ5_append_c97b9 14 = .ok (.invokevirtual 100, 3) := by decide +kernel
theorem dJ5_append_c97b9_17 : decode cJ5_append_c97b9 17 = .ok (.aload_n 0, 1) := by decide +kernel
theorem dJ5_append_c97b9_18 : decode cJ5_append_c97b9 18 = .ok (.invokevirtual 83, 3) := by decide +kernel
theorem dJ5_append_c97b9_21 : decode cJ5_append_c97b9 21 = .ok (.ifCond .eq 16, 3) := by decide +kernel
theorem dJ5_append_c97b9_24 : decode cJ5_append_c97b9 24 = .ok (.iload_n 1, 1) := by decide +kernel
theorem dJ5_append_c97b9_25 : decode cJ5_append_c97b9 25 = .ok (.iload_n 3, 1) := by decide +kernel
theorem dJ5_append_c97b9_26 : decode cJ5_append_c97b9 26 = .ok (.aload_n 0, 1) := by decide +kernel
theorem dJ5_append_c97b9_27 : decode cJ5_append_c97b9 27 = .ok (.getfield 15, 3) := by decide +kernel
theorem dJ5_append_c97b9_30 : decode cJ5_append_c97b9 30 = .ok (.invokestatic 248, 3) := by decide +kernel
theorem dJ5_append_c97b9_33 : decode cJ5_append_c97b9 33 = .ok (.pop, 1) := by decide +kernel
theorem dJ5_append_c97b9_34 : decode cJ5_append_c97b9 34 = .ok (.goto 14, 3) := by decide +kernel
theorem dJ5_append_c97b9_37 : decode cJ5_append_c97b9 37 = .ok (.iload_n 1, 1) := by decide +kernel
theorem dJ5_append_c97b9_38 : decode cJ5_append_c97b9 38 = .ok (.iload_n 2, 1) := by decide +kernel
theorem dJ5_append_c97b9_39 : decode cJ5_append_c97b9 39 = .ok (.iload_n 3, 1) := by decide +kernel
theorem dJ5_append_c97b9_40 : decode cJ5_append_c97b9 40 = .ok (.aload_n 0, 1) := by decide +kernel
theorem dJ5_append_c97b9_41 : decode cJ5_append_c97b9 41 = .ok (.getfield 15, 3) := by decide +kernel
theorem dJ5_append_c97b9_48 : decode cJ5_append_c97b9 48 = .ok (.aload_n 0, 1) := by decide +kernel
theorem dJ5_append_c97b9_49 : decode cJ5_append_c97b9 49 = .ok (.iload_n 3, 1) := by decide +kernel
theorem dJ5_append_c97b9_50 : decode cJ5_append_c97b9 50 = .ok (.putfield 79, 3) := by decide +kernel
theorem dJ5_append_c97b9_53 : decode cJ5_append_c97b9 53 = .ok (.aload_n 0, 1) := by decide +kernel
theorem dJ5_append_c97b9_54 : decode cJ5_append_c97b9 54 = .ok (.areturn, 1) := by decide +kernel
theorem dJ5_append_cf1ce_0 : decode cJ5_append_cf1ce 0 = .ok (.aload_n 1, 1) := by decide +kernel
theorem dJ5_append_cf1ce_1 : decode cJ5_append_cf1ce 1 = .ok (.ifnonnull 8, 3) := by decide +kernel
theorem dJ5_append_cf1ce_9 : decode cJ5_append_cf1ce 9 = .ok (.aload_n 1, 1) := by decide +kernel
theorem dJ5_append_cf1ce_10 : decode cJ5_append_cf1ce 10 = .ok (.invokevirtual 32, 3) := by decide +kernel
theorem dJ5_append_cf1ce_13 : decode cJ5_append_cf1ce 13 = .ok (.istore_n 2, 1) := by decide +kernel
theorem dJ5_append_cf1ce_14 : decode cJ5_append_cf1ce 14 = .ok (.aload_n 0, 1) := by decide +kernel
theorem dJ5_append_cf1ce_15 : decode cJ5_append_cf1ce 15 = .ok (.aload_n 0, 1) := by decide +kernel
theorem dJ5_append_cf1ce_16 : decode cJ5_append_cf1ce 16 = .ok (.getfield 79, 3) := by decide +kernel
theorem dJ5_append_cf1ce_19 : decode cJ5_append_cf1ce 19 = .ok (.iload_n 2, 1) := by decide +kernel
theorem dJ5_append_cf1ce_20 : decode cJ5_append_cf1ce 20 = .ok (.iadd, 1) := by decide +kernel
theorem dJ5_append_cf1ce_21 : decode cJ5_append_cf1ce 21 = .ok (.invokevirtual 100, 3) := by decide +kernel
theorem dJ5_append_cf1ce_24 : decode cJ5_append_cf1ce 24 = .ok (.aload_n 0, 1) := by decide +kernel
theorem dJ5_append_cf1ce_25 : decode cJ5_append_cf1ce 25 = .ok (.aload_n 0, 1) := by decide +kernel
theorem dJ5_append_cf1ce_26 : decode cJ5_append_cf1ce 26 = .ok (.getfield 79, 3) := by decide +kernel
theorem dJ5_append_cf1ce_29 : decode cJ5_append_cf1ce 29 = .ok (.aload_n 1, 1) := by decide +kernel
theorem dJ5_append_cf1ce_30 : decode cJ5_append_cf1ce 30 = .ok (.invokevirtual 208, 3) := by decide +kernel
theorem dJ5_append_cf1ce_33 : decode cJ5_append_cf1ce 33 = .ok (.aload_n 0, 1) := by decide +kernel
theorem dJ5_append_cf1ce_34 : decode cJ5_append_cf1ce 34 = .ok (.dup, 1) := by decide +kernel
theorem dJ5_append_cf1ce_35 : decode cJ5_append_cf1ce 35 = .ok (.getfield 79, 3) := by decide +kernel
theorem dJ5_append_cf1ce_38 : decode cJ5_append_cf1ce 38 = .ok (.iload_n 2, 1) := by decide +kernel
theorem dJ5_append_cf1ce_39 : decode cJ5_append_cf1ce 39 = .ok (.iadd, 1) := by decide +kernel
theorem dJ5_append_cf1ce_40 : decode cJ5_append_cf1ce 40 = .ok (.putfield 79, 3) := by decide +kernel
theorem dJ5_append_cf1ce_43 : decode cJ5_append_cf1ce 43 = .ok (.aload_n 0, 1) := by decide +kernel
theorem dJ5_append_cf1ce_44 : decode cJ5_append_cf1ce 44 = .ok (.areturn, 1) := by decide +kernel
theorem dJ5_ensureCapacityInternal_d00df_0 : decode cJ5_ensureCapacityInternal_d00df 0 = .ok (.aload_n 0, 1) := by decide +kernel
theorem dJ5_ensureCapacityInternal_d00df_1 : decode cJ5_ensureCapacityInternal_d00df 1 = .ok (.getfield 15, 3) := by decide +kernel
theorem dJ5_ensureCapacityInternal_d00df_4 : decode cJ5_ensureCapacityInternal_d00df 4 = .ok (.arraylength, 1) := by decide +kernel
theorem dJ5_ensureCapacityInternal_d00df_5 : decode cJ5_ensureCapacityInternal_d00df 5 = .ok (.aload_n 0, 1) := by decide +kernel
theorem dJ5_ensureCapacityInternal_d00df_6 : decode cJ5_ensureCapacityInternal_d00df 6 = .ok (.getfield 22, 3) := by decide +kernel
theorem dJ5_ensureCapacityInternal_d00df_9 : decode cJ5_ensureCapacityInternal_d00df 9 = .ok (.ishr, 1) := by decide +kernel
theorem dJ5_ensureCapacityInternal_d00df_10 : decode cJ5_ensureCapacityInternal_d00df 10 = .ok (.istore_n 2, 1) := by decide +kernel
theorem dJ5_ensureCapacityInternal_d00df_11 : decode cJ5_ensureCapacityInternal_d00df 11 = .ok (.iload_n 1, 1) := by decide +kernel
theorem dJ5_ensureCapacityInternal_d00df_12 : decode cJ5_ensureCapacityInternal_d00df 12 = .ok (.iload_n 2, 1) := by decide +kernel
theorem dJ5_ensureCapacityInternal_d00df_13 : decode cJ5_ensureCapacityInternal_d00df 13 = .ok (.isub, 1) := by decide +kernel
theorem dJ5_ensureCapacityInternal_d00df_14 : decode cJ5_ensureCapacityInternal_d00df 14 = .ok (.ifCond .le 24, 3) := by decide +kernel
theorem dJ5_ensureCapacityInternal_d00df_17 : decode cJ5_ensureCapacityInternal_d00df 17 = .ok (.aload_n 0, 1) := by decide +kernel
theorem dJ5_ensureCapacityInternal_d00df_18 : decode cJ5_ensureCapacityInternal_d00df 18 = .ok (.aload_n 0, 1) := by decide +kernel
theorem dJ5_ensureCapacityInternal_d00df_19 : decode cJ5_ensureCapacityInternal_d00df 19 = .ok (.getfield 15, 3) := by decide +kernel
theorem dJ5_ensureCapacityInternal_d00df_22 : decode cJ5_ensureCapacityInternal_d00df 22 = .ok (.aload_n 0, 1) := by decide +kernel
theorem dJ5_ensureCapacityInternal_d00df_23 : decode cJ5_ensureCapacityInternal_d00df 23 = .ok (.iload_n 1, 1) := by decide +kernel
theorem dJ5_ensureCapacityInternal_d00df_24 : decode cJ5_ensureCapacityInternal_d00df 24 = .ok (.invokevirtual 104, 3) := by decide +kernel
theorem dJ5_ensureCapacityInternal_d00df_27 : decode cJ5_ensureCapacityInternal_d00df 27 = .ok (.aload_n 0, 1) := by decide +kernel
theorem dJ5_ensureCapacityInternal_d00df_28 : decode cJ5_ensureCapacityInternal_d00df 28 = .ok (.getfield 22, 3) := by decide +kernel
theorem dJ5_ensureCapacityInternal_d00df_31 : decode cJ5_ensureCapacityInternal_d00df 31 = .ok (.ishl, 1) := by decide +kernel
theorem dJ5_ensureCapacityInternal_d00df_32 : decode cJ5_ensureCapacityInternal_d00df 32 = .ok (.invokestatic 108, 3) := by decide +kernel
theorem dJ5_ensureCapacityInternal_d00df_35 : decode cJ5_ensureCapacityInternal_d00df 35 = .ok (.putfield 15, 3) := by decide +kernel
theorem dJ5_ensureCapacityInternal_d00df_38 : decode cJ5_ensureCapacityInternal_d00df 38 = .ok (.return_, 1) := by decide +kernel
theorem dJ5_inflateIfNeededFor_a7421_0 : decode cJ5_inflateIfNeededFor_a7421 0 = .ok (.getstatic 18, 3) := by decide +kernel
theorem dJ5_inflateIfNeededFor_a7421_3 : decode cJ5_inflateIfNeededFor_a7421 3 = .ok (.ifCond .eq 18, 3) := by decide +kernel
theorem dJ5_inflateIfNeededFor_a7421_6 : decode cJ5_inflateIfNeededFor_a7421 6 = .ok (.aload_n 0, 1) := by decide +kernel
theorem dJ5_inflateIfNeededFor_a7421_7 : decode cJ5_inflateIfNeededFor_a7421 7 = .ok (.getfield 22, 3) := by decide +kernel
theorem dJ5_inflateIfNeededFor_a7421_10 : decode cJ5_inflateIfNeededFor_a7421 10 = .ok (.aload_n 1, 1) := by decide +kernel
theorem dJ5_inflateIfNeededFor_a7421_11 : decode cJ5_inflateIfNeededFor_a7421 11 = .ok (.invokevirtual 40, 3) := by decide +kernel
theorem dJ5_inflateIfNeededFor_a7421_14 : decode cJ5_inflateIfNeededFor_a7421 14 = .ok (.if_icmp .eq 7, 3) := by decide +kernel
theorem dJ5_inflateIfNeededFor_a7421_17 : decode cJ5_inflateIfNeededFor_a7421 17 = .ok (.aload_n 0, 1) := by decide +kernel
theorem dJ5_inflateIfNeededFor_a7421_21 : decode cJ5_inflateIfNeededFor_a7421 21 = .ok (.return_, 1) := by decide +kernel
theorem dJ5_isLatin1_aae02_0 : decode cJ5_isLatin1_aae02 0 = .ok (.getstatic 18, 3) := by decide +kernel
theorem dJ5_isLatin1_aae02_3 : decode cJ5_isLatin1_aae02 3 = .ok (.ifCond .eq 14, 3) := by decide +kernel
theorem dJ5_isLatin1_aae02_6 : decode cJ5_isLatin1_aae02 6 = .ok (.aload_n 0, 1) := by decide +kernel
theorem dJ5_isLatin1_aae02_7 : decode cJ5_isLatin1_aae02 7 = .ok (.getfield 22, 3) := by decide +kernel
theorem dJ5_isLatin1_aae02_10 : decode cJ5_isLatin1_aae02 10 = .ok (.ifCond .ne 7, 3) := by decide +kernel
theorem dJ5_isLatin1_aae02_13 : decode cJ5_isLatin1_aae02 13 = .ok (.iconst 1, 1) := by decide +kernel
theorem dJ5_isLatin1_aae02_14 : decode cJ5_isLatin1_aae02 14 = .ok (.goto 4, 3) := by decide +kernel
theorem dJ5_isLatin1_aae02_17 : decode cJ5_isLatin1_aae02 17 = .ok (.iconst 0, 1) := by decide +kernel
theorem dJ5_isLatin1_aae02_18 : decode cJ5_isLatin1_aae02 18 = .ok (.ireturn, 1) := by decide +kernel
theorem dJ5_newCapacity_0f7a4_0 : decode cJ5_newCapacity_0f7a4 0 = .ok (.aload_n 0, 1) := by decide +kernel
theorem dJ5_newCapacity_0f7a4_1 : decode cJ5_newCapacity_0f7a4 1 = .ok (.getfield 15, 3) := by decide +kernel
theorem dJ5_newCapacity_0f7a4_4 : decode cJ5_newCapacity_0f7a4 4 = .ok (.arraylength, 1) := by decide +kernel
theorem dJ5_newCapacity_0f7a4_5 : decode cJ5_newCapacity_0f7a4 5 = .ok (.istore_n 2, 1) := by decide +kernel
theorem dJ5_newCapacity_0f7a4_6 : decode cJ5_newCapacity_0f7a4 6 = .ok (.iload_n 1, 1) := by decide +kernel
theorem dJ5_newCapacity_0f7a4_7 : decode cJ5_newCapacity_0f7a4 7 = .ok (.aload_n 0, 1) := by decide +kernel
theorem dJ5_newCapacity_0f7a4_8 : decode cJ5_newCapacity_0f7a4 8 = .ok (.getfield 22, 3) := by decide +kernel
theorem dJ5_newCapacity_0f7a4_11 : decode cJ5_newCapacity_0f7a4 11 = .ok (.ishl, 1) := by decide +kernel
theorem dJ5_newCapacity_0f7a4_12 : decode cJ5_newCapacity_0f7a4 12 = .ok (.istore_n 3, 1) := by decide +kernel
theorem dJ5_newCapacity_0f7a4_13 : decode cJ5_newCapacity_0f7a4 13 = .ok (.iload_n 3, 1) := by decide +kernel
theorem dJ5_newCapacity_0f7a4_14 : decode cJ5_newCapacity_0f7a4 14 = .ok (.iload_n 2, 1) := by decide +kernel
theorem dJ5_newCapacity_0f7a4_15 : decode cJ5_newCapacity_0f7a4 15 = .ok (.isub, 1) := by decide +kernel
theorem dJ5_newCapacity_0f7a4_16 : decode cJ5_newCapacity_0f7a4 16 = .ok (.istore 4, 2) := by decide +kernel
theorem dJ5_newCapacity_0f7a4_18 : decode cJ5_newCapacity_0f7a4 18 = .ok (.iload_n 2, 1) := by decide +kernel
theorem dJ5_newCapacity_0f7a4_19 : decode cJ5_newCapacity_0f7a4 19 = .ok (.iload 4, 2) := by decide +kernel
theorem dJ5_newCapacity_0f7a4_21 : decode cJ5_newCapacity_0f7a4 21 = .ok (.iload_n 2, 1) := by decide +kernel
theorem dJ5_newCapacity_0f7a4_22 : decode cJ5_newCapacity_0f7a4 22 = .ok (.iconst 2, 1) := by decide +kernel
theorem dJ5_newCapacity_0f7a4_23 : decode cJ5_newCapacity_0f7a4 23 = .ok (.aload_n 0, 1) := by decide +kernel
theorem dJ5_newCapacity_0f7a4_24 : decode cJ5_newCapacity_0f7a4 24 = .ok (.getfield 22, 3) := by decide +kernel
theorem dJ5_newCapacity_0f7a4_27 : decode cJ5_newCapacity_0f7a4 27 = .ok (.ishl, 1) := by decide +kernel
theorem dJ5_newCapacity_0f7a4_28 : decode cJ5_newCapacity_0f7a4 28 = .ok (.iadd, 1) := by decide +kernel
theorem dJ5_newCapacity_0f7a4_29 : decode cJ5_newCapacity_0f7a4 29 = .ok (.invokestatic 114, 3) := by decide +kernel
theorem dJ5_newCapacity_0f7a4_32 : decode cJ5_newCapacity_0f7a4 32 = .ok (.istore 5, 2) := by decide +kernel
theorem dJ5_newCapacity_0f7a4_34 : decode cJ5_newCapacity_0f7a4 34 = .ok (.iload 5, 2) := by decide +kernel
theorem dJ5_newCapacity_0f7a4_36 : decode cJ5_newCapacity_0f7a4 36 = .ok (.ldc 39, 2) := by decide +kernel
theorem dJ5_newCapacity_0f7a4_38 : decode cJ5_newCapacity_0f7a4 38 = .ok (.if_icmp .ne 13, 3) := by decide +kernel
theorem dJ5_newCapacity_0f7a4_51 : decode cJ5_newCapacity_0f7a4 51 = .ok (.iload 5, 2) := by decide +kernel
theorem dJ5_newCapacity_0f7a4_53 : decode cJ5_newCapacity_0f7a4 53 = .ok (.aload_n 0, 1) := by decide +kernel
theorem dJ5_newCapacity_0f7a4_54 : decode cJ5_newCapacity_0f7a4 54 = .ok (.getfield 22, 3) := by decide +kernel
theorem dJ5_newCapacity_0f7a4_57 : decode cJ5_newCapacity_0f7a4 57 = .ok (.ishr, 1) := by decide +kernel
theorem dJ5_newCapacity_0f7a4_58 : decode cJ5_newCapacity_0f7a4 58 = .ok (.ireturn, 1) := by decide +kernel
theorem dJ5_putStringAt_47b60_0 : decode cJ5_putStringAt_47b60 0 = .ok (.aload_n 0, 1) := by decide +kernel
theorem dJ5_putStringAt_47b60_1 : decode cJ5_putStringAt_47b60 1 = .ok (.aload_n 2, 1) := by decide +kernel
theorem dJ5_putStringAt_47b60_2 : decode cJ5_putStringAt_47b60 2 = .ok (.invokevirtual 397, 3) := by decide +kernel
theorem dJ5_putStringAt_47b60_5 : decode cJ5_putStringAt_47b60 5 = .ok (.aload_n 2, 1) := by decide +kernel
theorem dJ5_putStringAt_47b60_6 : decode cJ5_putStringAt_47b60 6 = .ok (.aload_n 0, 1) := by decide +kernel
theorem dJ5_putStringAt_47b60_7 : decode cJ5_putStringAt_47b60 7 = .ok (.getfield 15, 3) := by decide +kernel
theorem dJ5_putStringAt_47b60_10 : decode cJ5_putStringAt_47b60 10 = .ok (.iload_n 1, 1) := by decide +kernel
theorem dJ5_putStringAt_47b60_11 : decode cJ5_putStringAt_47b60 11 = .ok (.aload_n 0, 1) := by decide +kernel
theorem dJ5_putStringAt_47b60_12 : decode cJ5_putStringAt_47b60 12 = .ok (.getfield 22, 3) := by decide +kernel
theorem dJ5_putStringAt_47b60_15 : decode cJ5_putStringAt_47b60 15 = .ok (.invokevirtual 399, 3) := by decide +kernel
theorem dJ5_putStringAt_47b60_18 : decode cJ5_putStringAt_47b60 18 = .ok (.return_, 1) := by decide +kernel
theorem dJ6_getChars_ba4f3_0 : decode cJ6_getChars_ba4f3 0 = .ok (.iload_n 1, 1) := by decide +kernel
theorem dJ6_getChars_ba4f3_1 : decode cJ6_getChars_ba4f3 1 = .ok (.istore 5, 2) := by decide +kernel
theorem dJ6_getChars_ba4f3_3 : decode cJ6_getChars_ba4f3 3 = .ok (.iload_n 0, 1) := by decide +kernel
theorem dJ6_getChars_ba4f3_4 : decode cJ6_getChars_ba4f3 4 = .ok (.ifCond .ge 7, 3) := by decide +kernel
theorem dJ6_getChars_ba4f3_7 : decode cJ6_getChars_ba4f3 7 = .ok (.iconst 1, 1) := by decide +kernel
theorem dJ6_getChars_ba4f3_8 : decode cJ6_getChars_ba4f3 8 = .ok (.goto 4, 3) := by decide +kernel
theorem dJ6_getChars_ba4f3_11 : decode cJ6_getChars_ba4f3 11 = .ok (.iconst 0, 1) := by decide +kernel
theorem dJ6_getChars_ba4f3_12 : decode cJ6_getChars_ba4f3 12 = .ok (.istore 6, 2) := by decide +kernel
theorem dJ6_getChars_ba4f3_14 : decode cJ6_getChars_ba4f3 14 = .ok (.iload 6, 2) := by decide +kernel
theorem dJ6_getChars_ba4f3_16 : decode cJ6_getChars_ba4f3 16 = .ok (.ifCond .ne 6, 3) := by decide +kernel
theorem dJ6_getChars_ba4f3_19 : decode cJ6_getChars_ba4f3 19 = .ok (.iload_n 0, 1) := by decide +kernel
theorem dJ6_getChars_ba4f3_20 : decode cJ6_getChars_ba4f3 20 = .ok (.ineg, 1) := by decide +kernel
theorem dJ6_getChars_ba4f3_21 : decode cJ6_getChars_ba4f3 21 = .ok (.istore_n 0, 1) := by decide +kernel
theorem dJ6_getChars_ba4f3_22 : decode cJ6_getChars_ba4f3 22 = .ok (.iload_n 0, 1) := by decide +kernel
theorem dJ6_getChars_ba4f3_23 : decode cJ6_getChars_ba4f3 23 = .ok (.bipush (-100), 2) := by decide +kernel
theorem dJ6_getChars_ba4f3_25 : decode cJ6_getChars_ba4f3 25 = .ok (.if_icmp .gt 47, 3) := by decide +kernel
theorem dJ6_getChars_ba4f3_28 : decode cJ6_getChars_ba4f3 28 = .ok (.iload_n 0, 1) := by decide +kernel
theorem dJ6_getChars_ba4f3_29 : decode cJ6_getChars_ba4f3 29 = .ok (.bipush 100, 2) := by decide +kernel
theorem dJ6_getChars_ba4f3_31 : decode cJ6_getChars_ba4f3 31 = .ok (.idiv, 1) := by decide +kernel
theorem dJ6_getChars_ba4f3_32 : decode cJ6_getChars_ba4f3 32 = .ok (.istore_n 3, 1) := by decide +kernel
theorem dJ6_getChars_ba4f3_33 : decode cJ6_getChars_ba4f3 33 = .ok (.iload_n 3, 1) := by decide +kernel
theorem dJ6_getChars_ba4f3_34 : decode cJ6_getChars_ba4f3 34 = .ok (.bipush 100, 2) := by decide +kernel
theorem dJ6_getChars_ba4f3_36 : decode cJ6_getChars_ba4f3 36 = .ok (.imul, 1) := by decide +kernel
theorem dJ6_getChars_ba4f3_37 : decode cJ6_getChars_ba4f3 37 = .ok (.iload_n 0, 1) := by decide +kernel
theorem dJ6_getChars_ba4f3_38 : decode cJ6_getChars_ba4f3 38 = .ok (.isub, 1) := by decide +kernel
theorem dJ6_getChars_ba4f3_39 : decode cJ6_getChars_ba4f3 39 = .ok (.istore 4, 2) := by decide +kernel
theorem dJ6_getChars_ba4f3_41 : decode cJ6_getChars_ba4f3 41 = .ok (.iload_n 3, 1) := by decide +kernel
theorem dJ6_getChars_ba4f3_42 : decode cJ6_getChars_ba4f3 42 = .ok (.istore_n 0, 1) := by decide +kernel
theorem dJ6_getChars_ba4f3_43 : decode cJ6_getChars_ba4f3 43 = .ok (.aload_n 2, 1) := by decide +kernel
theorem dJ6_getChars_ba4f3_44 : decode cJ6_getChars_ba4f3 44 = .ok (.iinc 5 (-1), 3) := by decide +kernel
theorem dJ6_getChars_ba4f3_47 : decode cJ6_getChars_ba4f3 47 = .ok (.iload 5, 2) := by decide +kernel
theorem dJ6_getChars_ba4f3_49 : decode cJ6_getChars_ba4f3 49 = .ok (.getstatic 83, 3) := by decide +kernel
theorem dJ6_getChars_ba4f3_52 : decode cJ6_getChars_ba4f3 52 = .ok (.iload 4, 2) := by decide +kernel
theorem dJ6_getChars_ba4f3_54 : decode cJ6_getChars_ba4f3 54 = .ok (.baload, 1) := by decide +kernel
theorem dJ6_getChars_ba4f3_55 : decode cJ6_getChars_ba4f3 55 = .ok (.bastore, 1) := by decide +kernel
theorem dJ6_getChars_ba4f3_56 : decode cJ6_getChars_ba4f3 56 = .ok (.aload_n 2, 1) := by decide +kernel
theorem dJ6_getChars_ba4f3_57 : decode cJ6_getChars_ba4f3 57 = .ok (.iinc 5 (-1), 3) := by decide +kernel
theorem dJ6_getChars_ba4f3_60 : decode cJ6_getChars_ba4f3 60 = .ok (.iload 5, 2) := by decide +kernel
theorem dJ6_getChars_ba4f3_62 : decode cJ6_getChars_ba4f3 62 = .ok (.getstatic 87, 3) := by decide +kernel
theorem dJ6_getChars_ba4f3_65 : decode cJ6_getChars_ba4f3 65 = .ok (.iload 4, 2) := by decide +kernel
theorem dJ6_getChars_ba4f3_67 : decode cJ6_getChars_ba4f3 67 = .ok (.baload, 1) := by decide +kernel
theorem dJ6_getChars_ba4f3_68 : decode cJ6_getChars_ba4f3 68 = .ok (.bastore, 1) := by decide +kernel
theorem dJ6_getChars_ba4f3_69 : decode cJ6_getChars_ba4f3 69 = .ok (.goto (-47), 3) := by decide +kernel
theorem dJ6_getChars_ba4f3_72 : decode cJ6_getChars_ba4f3 72 = .ok (.aload_n 2, 1) := by decide +kernel
theorem dJ6_getChars_ba4f3_73 : decode cJ6_getChars_ba4f3 73 = .ok (.iinc 5 (-1), 3) := by decide +kernel
theorem dJ6_getChars_ba4f3_76 : decode cJ6_getChars_ba4f3 76 = .ok (.iload 5, 2) := by decide +kernel
theorem dJ6_getChars_ba4f3_78 : decode cJ6_getChars_ba4f3 78 = .ok (.getstatic 83, 3) := by decide +kernel
theorem dJ6_getChars_ba4f3_81 : decode cJ6_getChars_ba4f3 81 = .ok (.iload_n 0, 1) := by decide +kernel
theorem dJ6_getChars_ba4f3_82 : decode cJ6_getChars_ba4f3 82 = .ok (.ineg, 1) := by decide +kernel
theorem dJ6_getChars_ba4f3_83 : decode cJ6_getChars_ba4f3 83 = .ok (.baload, 1) := by decide +kernel
theorem dJ6_getChars_ba4f3_84 : decode cJ6_getChars_ba4f3 84 = .ok (.bastore, 1) := by decide +kernel
theorem dJ6_getChars_ba4f3_85 : decode cJ6_getChars_ba4f3 85 = .ok (.iload_n 0, 1) := by decide +kernel
theorem dJ6_getChars_ba4f3_86 : decode cJ6_getChars_ba4f3 86 = .ok (.bipush (-9), 2) := by decide +kernel
theorem dJ6_getChars_ba4f3_88 : decode cJ6_getChars_ba4f3 88 = .ok (.if_icmp .ge 16, 3) := by decide +kernel
theorem dJ6_getChars_ba4f3_91 : decode cJ6_getChars_ba4f3 91 = .ok (.aload_n 2, 1) := by decide +kernel
theorem dJ6_getChars_ba4f3_92 : decode cJ6_getChars_ba4f3 92 = .ok (.iinc 5 (-1), 3) := by decide +kernel
theorem dJ6_getChars_ba4f3_95 : decode cJ6_getChars_ba4f3 95 = .ok (.iload 5, 2) := by decide +kernel
theorem dJ6_getChars_ba4f3_97 : decode cJ6_getChars_ba4f3 97 = .ok (.getstatic 87, 3) := by decide +kernel
theorem dJ6_getChars_ba4f3_100 : decode cJ6_getChars_ba4f3 100 = .ok (.iload_n 0, 1) := by decide +kernel
theorem dJ6_getChars_ba4f3_101 : decode cJ6_getChars_ba4f3 101 = .ok (.ineg, 1) := by decide +kernel
theorem dJ6_getChars_ba4f3_102 : decode cJ6_getChars_ba4f3 102 = .ok (.baload, 1) := by decide +kernel
theorem dJ6_getChars_ba4f3_103 : decode cJ6_getChars_ba4f3 103 = .ok (.bastore, 1) := by decide +kernel
theorem dJ6_getChars_ba4f3_104 : decode cJ6_getChars_ba4f3 104 = .ok (.iload 6, 2) := by decide +kernel
theorem dJ6_getChars_ba4f3_106 : decode cJ6_getChars_ba4f3 106 = .ok (.ifCond .eq 12, 3) := by decide +kernel
theorem dJ6_getChars_ba4f3_109 : decode cJ6_getChars_ba4f3 109 = .ok (.aload_n 2, 1) := by decide +kernel
theorem dJ6_getChars_ba4f3_110 : decode cJ6_getChars_ba4f3 110 = .ok (.iinc 5 (-1), 3) := by decide +kernel
theorem dJ6_getChars_ba4f3_113 : decode cJ6_getChars_ba4f3 113 = .ok (.iload 5, 2) := by decide +kernel
theorem dJ6_getChars_ba4f3_115 : decode cJ6_getChars_ba4f3 115 = .ok (.bipush 45, 2) := by decide +kernel
theorem dJ6_getChars_ba4f3_117 : decode cJ6_getChars_ba4f3 117 = .ok (.bastore, 1) := by decide +kernel
theorem dJ6_getChars_ba4f3_118 : decode cJ6_getChars_ba4f3 118 = .ok (.iload 5, 2) := by decide +kernel
theorem dJ6_getChars_ba4f3_120 : decode cJ6_getChars_ba4f3 120 = .ok (.ireturn, 1) := by decide +kernel
theorem dJ6_stringSize_0f7a4_0 : decode cJ6_stringSize_0f7a4 0 = .ok (.iconst 1, 1) := by decide +kernel
theorem dJ6_stringSize_0f7a4_1 : decode cJ6_stringSize_0f7a4 1 = .ok (.istore_n 1, 1) := by decide +kernel
theorem dJ6_stringSize_0f7a4_2 : decode cJ6_stringSize_0f7a4 2 = .ok (.iload_n 0, 1) := by decide +kernel
theorem dJ6_stringSize_0f7a4_3 : decode cJ6_stringSize_0f7a4 3 = .ok (.ifCond .lt 8, 3) := by decide +kernel
theorem dJ6_stringSize_0f7a4_6 : decode cJ6_stringSize_0f7a4 6 = .ok (.iconst 0, 1) := by decide +kernel
theorem dJ6_stringSize_0f7a4_7 : decode cJ6_stringSize_0f7a4 7 = .ok (.istore_n 1, 1) := by decide +kernel
theorem dJ6_stringSize_0f7a4_8 : decode cJ6_stringSize_0f7a4 8 = .ok (.iload_n 0, 1) := by decide +kernel
theorem dJ6_stringSize_0f7a4_9 : decode cJ6_stringSize_0f7a4 9 = .ok (.ineg, 1) := by decide +kernel
theorem dJ6_stringSize_0f7a4_10 : decode cJ6_stringSize_0f7a4 10 = .ok (.istore_n 0, 1) := by decide +kernel
theorem dJ6_stringSize_0f7a4_11 : decode cJ6_stringSize_0f7a4 11 = .ok (.bipush (-10), 2) := by decide +kernel
theorem dJ6_stringSize_0f7a4_13 : decode cJ6_stringSize_0f7a4 13 = .ok (.istore_n 2, 1) := by decide +kernel
theorem dJ6_stringSize_0f7a4_14 : decode cJ6_stringSize_0f7a4 14 = .ok (.iconst 1, 1) := by decide +kernel
theorem dJ6_stringSize_0f7a4_15 : decode cJ6_stringSize_0f7a4 15 = .ok (.istore_n 3, 1) := by decide +kernel
theorem dJ6_stringSize_0f7a4_16 : decode cJ6_stringSize_0f7a4 16 = .ok (.iload_n 3, 1) := by decide +kernel
theorem dJ6_stringSize_0f7a4_17 : decode cJ6_stringSize_0f7a4 17 = .ok (.bipush 10, 2) := by decide +kernel
theorem dJ6_stringSize_0f7a4_19 : decode cJ6_stringSize_0f7a4 19 = .ok (.if_icmp .ge 23, 3) := by decide +kernel
theorem dJ6_stringSize_0f7a4_22 : decode cJ6_stringSize_0f7a4 22 = .ok (.iload_n 0, 1) := by decide +kernel
theorem dJ6_stringSize_0f7a4_23 : decode cJ6_stringSize_0f7a4 23 = .ok (.iload_n 2, 1) := by decide +kernel
theorem dJ6_stringSize_0f7a4_24 : decode cJ6_stringSize_0f7a4 24 = .ok (.if_icmp .le 7, 3) := by decide +kernel
theorem dJ6_stringSize_0f7a4_27 : decode cJ6_stringSize_0f7a4 27 = .ok (.iload_n 3, 1) := by decide +kernel
theorem dJ6_stringSize_0f7a4_28 : decode cJ6_stringSize_0f7a4 28 = .ok (.iload_n 1, 1) := by decide +kernel
theorem dJ6_stringSize_0f7a4_29 : decode cJ6_stringSize_0f7a4 29 = .ok (.iadd, 1) := by decide +kernel
theorem dJ6_stringSize_0f7a4_30 : decode cJ6_stringSize_0f7a4 30 = .ok (.ireturn, 1) := by decide +kernel
theorem dJ6_stringSize_0f7a4_31 : decode cJ6_stringSize_0f7a4 31 = .ok (.bipush 10, 2) := by decide +kernel
theorem dJ6_stringSize_0f7a4_33 : decode cJ6_stringSize_0f7a4 33 = .ok (.iload_n 2, 1) := by decide +kernel
theorem dJ6_stringSize_0f7a4_34 : decode cJ6_stringSize_0f7a4 34 = .ok (.imul, 1) := by decide +kernel
theorem dJ6_stringSize_0f7a4_35 : decode cJ6_stringSize_0f7a4 35 = .ok (.istore_n 2, 1) := by decide +kernel
theorem dJ6_stringSize_0f7a4_36 : decode cJ6_stringSize_0f7a4 36 = .ok (.iinc 3 1, 3) := by decide +kernel
theorem dJ6_stringSize_0f7a4_39 : decode cJ6_stringSize_0f7a4 39 = .ok (.goto (-23), 3) := by decide +kernel
theorem dJ6_stringSize_0f7a4_42 : decode cJ6_stringSize_0f7a4 42 = .ok (.bipush 10, 2) := by decide +kernel
theorem dJ6_stringSize_0f7a4_44 : decode cJ6_stringSize_0f7a4 44 = .ok (.iload_n 1, 1) := by decide +kernel
theorem dJ6_stringSize_0f7a4_45 : decode cJ6_stringSize_0f7a4 45 = .ok (.iadd, 1) := by decide +kernel
theorem dJ6_stringSize_0f7a4_46 : decode cJ6_stringSize_0f7a4 46 = .ok (.ireturn, 1) := by decide +kernel
theorem dJ7_copyOf_9075b_0 : decode cJ7_copyOf_9075b 0 = .ok (.iload_n 1, 1) := by decide +kernel
theorem dJ7_copyOf_9075b_1 : decode cJ7_copyOf_9075b 1 = .ok (.aload_n 0, 1) := by decide +kernel
theorem dJ7_copyOf_9075b_2 : decode cJ7_copyOf_9075b 2 = .ok (.arraylength, 1) := by decide +kernel
theorem dJ7_copyOf_9075b_3 : decode cJ7_copyOf_9075b 3 = .ok (.if_icmp .ne 11, 3) := by decide +kernel
theorem dJ7_copyOf_9075b_6 : decode cJ7_copyOf_9075b 6 = .ok (.aload_n 0, 1) := by decide +kernel
theorem dJ7_copyOf_9075b_14 : decode cJ7_copyOf_9075b 14 = .ok (.iload_n 1, 1) := by decide +kernel
theorem dJ7_copyOf_9075b_15 : decode cJ7_copyOf_9075b 15 = .ok (.newarray .byte, 2) := by decide +kernel
theorem dJ7_copyOf_9075b_17 : decode cJ7_copyOf_9075b 17 = .ok (.astore_n 2, 1) := by decide +kernel
theorem dJ7_copyOf_9075b_18 : decode cJ7_copyOf_9075b 18 = .ok (.aload_n 0, 1) := by decide +kernel
theorem dJ7_copyOf_9075b_19 : decode cJ7_copyOf_9075b 19 = .ok (.iconst 0, 1) := by decide +kernel
theorem dJ7_copyOf_9075b_20 : decode cJ7_copyOf_9075b 20 = .ok (.aload_n 2, 1) := by decide +kernel
theorem dJ7_copyOf_9075b_21 : decode cJ7_copyOf_9075b 21 = .ok (.iconst 0, 1) := by decide +kernel
theorem dJ7_copyOf_9075b_22 : decode cJ7_copyOf_9075b 22 = .ok (.aload_n 0, 1) := by decide +kernel
theorem dJ7_copyOf_9075b_23 : decode cJ7_copyOf_9075b 23 = .ok (.arraylength, 1) := by decide +kernel
theorem dJ7_copyOf_9075b_24 : decode cJ7_copyOf_9075b 24 = .ok (.iload_n 1, 1) := by decide +kernel
theorem dJ7_copyOf_9075b_25 : decode cJ7_copyOf_9075b 25 = .ok (.invokestatic 304, 3) := by decide +kernel
theorem dJ7_copyOf_9075b_28 : decode cJ7_copyOf_9075b 28 = .ok (.invokestatic 150, 3) := by decide +kernel
theorem dJ7_copyOf_9075b_31 : decode cJ7_copyOf_9075b 31 = .ok (.aload_n 2, 1) := by decide +kernel
theorem dJ7_copyOf_9075b_32 : decode cJ7_copyOf_9075b 32 = .ok (.areturn, 1) := by decide +kernel
theorem dJ8_hugeLength_7cf53_0 : decode cJ8_hugeLength_7cf53 0 = .ok (.iload_n 0, 1) := by decide +kernel
theorem dJ8_hugeLength_7cf53_1 : decode cJ8_hugeLength_7cf53 1 = .ok (.iload_n 1, 1) := by decide +kernel
theorem dJ8_hugeLength_7cf53_2 : decode cJ8_hugeLength_7cf53 2 = .ok (.iadd, 1) := by decide +kernel
theorem dJ8_hugeLength_7cf53_3 : decode cJ8_hugeLength_7cf53 3 = .ok (.istore_n 2, 1) := by decide +kernel
theorem dJ8_hugeLength_7cf53_4 : decode cJ8_hugeLength_7cf53 4 = .ok (.iload_n 2, 1) := by decide +kernel
theorem dJ8_hugeLength_7cf53_5 : decode cJ8_hugeLength_7cf53 5 = .ok (.ifCond .ge 44, 3) := by decide +kernel
theorem dJ8_hugeLength_7cf53_49 : decode cJ8_hugeLength_7cf53 49 = .ok (.iload_n 2, 1) := by decide +kernel
theorem dJ8_hugeLength_7cf53_50 : decode cJ8_hugeLength_7cf53 50 = .ok (.ldc 200, 2) := by decide +kernel
theorem dJ8_hugeLength_7cf53_52 : decode cJ8_hugeLength_7cf53 52 = .ok (.if_icmp .gt 6, 3) := by decide +kernel
theorem dJ8_hugeLength_7cf53_55 : decode cJ8_hugeLength_7cf53 55 = .ok (.ldc 200, 2) := by decide +kernel
theorem dJ8_hugeLength_7cf53_57 : decode cJ8_hugeLength_7cf53 57 = .ok (.ireturn, 1) := by decide +kernel
theorem dJ8_hugeLength_7cf53_58 : decode cJ8_hugeLength_7cf53 58 = .ok (.iload_n 2, 1) := by decide +kernel
theorem dJ8_hugeLength_7cf53_59 : decode cJ8_hugeLength_7cf53 59 = .ok (.ireturn, 1) := by decide +kernel
theorem dJ8_newLength_cabcc_0 : decode cJ8_newLength_cabcc 0 = .ok (.iload_n 0, 1) := by decide +kernel
theorem dJ8_newLength_cabcc_1 : decode cJ8_newLength_cabcc 1 = .ok (.iload_n 1, 1) := by decide +kernel
theorem dJ8_newLength_cabcc_2 : decode cJ8_newLength_cabcc 2 = .ok (.iload_n 2, 1) := by decide +kernel
theorem dJ8_newLength_cabcc_3 : decode cJ8_newLength_cabcc 3 = .ok (.invokestatic 194, 3) := by decide +kernel
theorem dJ8_newLength_cabcc_6 : decode cJ8_newLength_cabcc 6 = .ok (.iadd, 1) := by decide +kernel
theorem dJ8_newLength_cabcc_7 : decode cJ8_newLength_cabcc 7 = .ok (.istore_n 3, 1) := by decide +kernel
theorem dJ8_newLength_cabcc_8 : decode cJ8_newLength_cabcc 8 = .ok (.iconst 0, 1) := by decide +kernel
theorem dJ8_newLength_cabcc_9 : decode cJ8_newLength_cabcc 9 = .ok (.iload_n 3, 1) := by decide +kernel
theorem dJ8_newLength_cabcc_10 : decode cJ8_newLength_cabcc 10 = .ok (.if_icmp .ge 11, 3) := by decide +kernel
theorem dJ8_newLength_cabcc_13 : decode cJ8_newLength_cabcc 13 = .ok (.iload_n 3, 1) := by decide +kernel
theorem dJ8_newLength_cabcc_14 : decode cJ8_newLength_cabcc 14 = .ok (.ldc 200, 2) := by decide +kernel
theorem dJ8_newLength_cabcc_16 : decode cJ8_newLength_cabcc 16 = .ok (.if_icmp .gt 5, 3) := by decide +kernel
theorem dJ8_newLength_cabcc_19 : decode cJ8_newLength_cabcc 19 = .ok (.iload_n 3, 1) := by decide +kernel
theorem dJ8_newLength_cabcc_20 : decode cJ8_newLength_cabcc 20 = .ok (.ireturn, 1) := by decide +kernel
theorem dJ8_newLength_cabcc_21 : decode cJ8_newLength_cabcc 21 = .ok (.iload_n 0, 1) := by decide +kernel
theorem dJ8_newLength_cabcc_22 : decode cJ8_newLength_cabcc 22 = .ok (.iload_n 1, 1) := by decide +kernel
theorem dJ8_newLength_cabcc_23 : decode cJ8_newLength_cabcc 23 = .ok (.invokestatic 201, 3) := by decide +kernel
theorem dJ8_newLength_cabcc_26 : decode cJ8_newLength_cabcc 26 = .ok (.ireturn, 1) := by decide +kernel
theorem qw1177 : Cond.fieldLink RJ0 38 "java/lang/String" "COMPACT_STRINGS" "Z" ∈ gw := mq_4 (i := 147) rfl rfl
theorem qw1178 : Cond.fieldLink RJ0 15 "java/lang/String" "coder" "B" ∈ gw := mq_7 (i := 83) rfl rfl
theorem qw1179 : Cond.fieldLink RJ0 9 "java/lang/String" "value" "[B" ∈ gw := mq_7 (i := 82) rfl rfl
theorem qw1180 : Cond.code yJ0_coder_7d493 cJ0_coder_7d493 1 (Option.some Jvm.ClassFile.FieldType.byte) ∈ gw := mq_4 (i := 156) rfl rfl
theorem qw1181 : Cond.methodLink RJ0 335 yJ0_coder_7d493 ∈ gw := mq_4 (i := 153) rfl rfl
theorem qw1182 : Cond.instanceMethod yJ0_coder_7d493 ∈ gw := mq_4 (i := 154) rfl rfl
theorem qw1183 : Cond.selects RJ0 yJ0_coder_7d493 yJ0_coder_7d493 ∈ gw := mq_4 (i := 155) rfl rfl
theorem qw1184 : Cond.initialized RJ0 ∈ gw := mq_1 (i := 4) rfl rfl
theorem qw1185 : Cond.code yJ3_checkIndex_8e157 cJ3_checkIndex_8e157 3 (Option.some Jvm.ClassFile.FieldType.int) ∈ gw := mq_11 (i := 39) rfl rfl
theorem qw1186 : Cond.methodLink RJ0 1059 yJ3_checkIndex_8e157 ∈ gw := mq_11 (i := 37) rfl rfl
theorem qw1187 : Cond.static yJ3_checkIndex_8e157 ∈ gw := mq_11 (i := 38) rfl rfl
theorem qw1188 : Cond.initialized RJ3 ∈ gw := mq_1 (i := 12) rfl rfl
theorem qw1189 : Cond.fieldLink RJ0 1053 "jdk/internal/util/Preconditions" "SIOOBE_FORMATTER" "Ljava/util/function/BiFunction;" ∈ gw := mq_4 (i := 190) rfl rfl
theorem qw1190 : Cond.code yJ0_checkIndex_df160 cJ0_checkIndex_df160 2 (Option.none : Option Jvm.ClassFile.FieldType) ∈ gw := mq_11 (i := 36) rfl rfl
theorem qw1191 : Cond.methodLink RJ1 9 yJ0_checkIndex_df160 ∈ gw := mq_11 (i := 34) rfl rfl
theorem qw1192 : Cond.static yJ0_checkIndex_df160 ∈ gw := mq_11 (i := 35) rfl rfl
theorem qw1193 : Cond.code yJ0_isLatin1_aae02 cJ0_isLatin1_aae02 1 (Option.some Jvm.ClassFile.FieldType.boolean) ∈ gw := mq_4 (i := 146) rfl rfl
theorem qw1194 : Cond.methodLink RJ0 492 yJ0_isLatin1_aae02 ∈ gw := mq_4 (i := 143) rfl rfl
theorem qw1195 : Cond.instanceMethod yJ0_isLatin1_aae02 ∈ gw := mq_4 (i := 144) rfl rfl
theorem qw1196 : Cond.selects RJ0 yJ0_isLatin1_aae02 yJ0_isLatin1_aae02 ∈ gw := mq_4 (i := 145) rfl rfl
theorem qw1197 : Cond.code yJ1_charAt_3b067 cJ1_charAt_3b067 2 (Option.some Jvm.ClassFile.FieldType.char) ∈ gw := mq_11 (i := 33) rfl rfl
theorem qw1198 : Cond.methodLink RJ0 495 yJ1_charAt_3b067 ∈ gw := mq_11 (i := 31) rfl rfl
theorem qw1199 : Cond.static yJ1_charAt_3b067 ∈ gw := mq_11 (i := 32) rfl rfl
theorem qw1200 : Cond.initialized RJ1 ∈ gw := mq_1 (i := 13) rfl rfl
theorem qw1201 : Cond.methodLink RJ0 212 ⟨"java/lang/System", "arraycopy", "(Ljava/lang/Object;ILjava/lang/Object;II)V"⟩ ∈ gw := mq_7 (i := 5) rfl rfl
theorem qw1202 : Cond.fieldLink RJ5 18 "java/lang/String" "COMPACT_STRINGS" "Z" ∈ gw := mq_6 (i := 143) rfl rfl
theorem qw1203 : Cond.fieldLink RJ5 22 "java/lang/AbstractStringBuilder" "coder" "B" ∈ gw := mq_6 (i := 152) rfl rfl
theorem qw1204 : Cond.methodLink RJ8 194 yJ9_max_7cf53 ∈ gw := mq_6 (i := 187) rfl rfl
theorem qw1205 : Cond.constant RJ8 200 (2147483639) ∈ gw := mq_6 (i := 188) rfl rfl
theorem qw1206 : Cond.code yJ8_hugeLength_7cf53 cJ8_hugeLength_7cf53 3 (Option.some Jvm.ClassFile.FieldType.int) ∈ gw := mq_6 (i := 191) rfl rfl
theorem qw1207 : Cond.methodLink RJ8 201 yJ8_hugeLength_7cf53 ∈ gw := mq_6 (i := 189) rfl rfl
theorem qw1208 : Cond.static yJ8_hugeLength_7cf53 ∈ gw := mq_6 (i := 190) rfl rfl
theorem qw1209 : Cond.initialized RJ8 ∈ gw := mq_1 (i := 8) rfl rfl
theorem qw1210 : Cond.fieldLink RJ5 15 "java/lang/AbstractStringBuilder" "value" "[B" ∈ gw := mq_6 (i := 151) rfl rfl
theorem qw1211 : Cond.code yJ8_newLength_cabcc cJ8_newLength_cabcc 4 (Option.some Jvm.ClassFile.FieldType.int) ∈ gw := mq_6 (i := 186) rfl rfl
theorem qw1212 : Cond.methodLink RJ5 114 yJ8_newLength_cabcc ∈ gw := mq_6 (i := 184) rfl rfl
theorem qw1213 : Cond.static yJ8_newLength_cabcc ∈ gw := mq_6 (i := 185) rfl rfl
theorem qw1214 : Cond.constant RJ5 39 (2147483647) ∈ gw := mq_6 (i := 192) rfl rfl
theorem qw1215 : Cond.code yJ5_newCapacity_0f7a4 cJ5_newCapacity_0f7a4 6 (Option.some Jvm.ClassFile.FieldType.int) ∈ gw := mq_6 (i := 183) rfl rfl
theorem qw1216 : Cond.methodLink RJ5 104 yJ5_newCapacity_0f7a4 ∈ gw := mq_6 (i := 180) rfl rfl
theorem qw1217 : Cond.sameMethod RJ5 RJ5 "newCapacity" "(I)I" ∈ gw := mq_11 (i := 98) rfl rfl
theorem qw1218 : Cond.instanceMethod yJ5_newCapacity_0f7a4 ∈ gw := mq_6 (i := 182) rfl rfl
theorem qw1219 : Cond.initialized RJ5 ∈ gw := mq_1 (i := 2) rfl rfl
theorem qw1220 : Cond.arrayClass Jvm.ClassFile.FieldType.byte ∈ gw := mq_5 (i := 55) rfl rfl
theorem qw1221 : Cond.code yJ7_copyOf_9075b cJ7_copyOf_9075b 3 (Option.some (Jvm.ClassFile.FieldType.array Jvm.ClassFile.FieldType.byte)) ∈ gw := mq_6 (i := 195) rfl rfl
theorem qw1222 : Cond.methodLink RJ5 108 yJ7_copyOf_9075b ∈ gw := mq_6 (i := 193) rfl rfl
theorem qw1223 : Cond.static yJ7_copyOf_9075b ∈ gw := mq_6 (i := 194) rfl rfl
theorem qw1224 : Cond.methodLink RJ5 40 yJ0_coder_7d493 ∈ gw := mq_6 (i := 221) rfl rfl
theorem qw1225 : Cond.code yJ5_inflateIfNeededFor_a7421 cJ5_inflateIfNeededFor_a7421 2 (Option.none : Option Jvm.ClassFile.FieldType) ∈ gw := mq_6 (i := 220) rfl rfl
theorem qw1226 : Cond.methodLink RJ5 397 yJ5_inflateIfNeededFor_a7421 ∈ gw := mq_6 (i := 217) rfl rfl
theorem qw1227 : Cond.sameMethod RJ5 RJ5 "inflateIfNeededFor" "(Ljava/lang/String;)V" ∈ gw := mq_11 (i := 100) rfl rfl
theorem qw1228 : Cond.instanceMethod yJ5_inflateIfNeededFor_a7421 ∈ gw := mq_6 (i := 219) rfl rfl
theorem qw1229 : Cond.code yJ0_getBytes_840e7 cJ0_getBytes_840e7 4 (Option.none : Option Jvm.ClassFile.FieldType) ∈ gw := mq_7 (i := 4) rfl rfl
theorem qw1230 : Cond.methodLink RJ5 399 yJ0_getBytes_840e7 ∈ gw := mq_7 (i := 1) rfl rfl
theorem qw1231 : Cond.instanceMethod yJ0_getBytes_840e7 ∈ gw := mq_7 (i := 2) rfl rfl
theorem qw1232 : Cond.selects RJ0 yJ0_getBytes_840e7 yJ0_getBytes_840e7 ∈ gw := mq_7 (i := 3) rfl rfl
theorem qw1233 : Cond.code yJ0_length_8abf5 cJ0_length_8abf5 1 (Option.some Jvm.ClassFile.FieldType.int) ∈ gw := mq_4 (i := 152) rfl rfl
theorem qw1234 : Cond.methodLink RJ5 32 yJ0_length_8abf5 ∈ gw := mq_6 (i := 212) rfl rfl
theorem qw1235 : Cond.instanceMethod yJ0_length_8abf5 ∈ gw := mq_4 (i := 150) rfl rfl
theorem qw1236 : Cond.selects RJ0 yJ0_length_8abf5 yJ0_length_8abf5 ∈ gw := mq_4 (i := 151) rfl rfl
theorem qw1237 : Cond.fieldLink RJ5 79 "java/lang/AbstractStringBuilder" "count" "I" ∈ gw := mq_6 (i := 154) rfl rfl
theorem qw1238 : Cond.code yJ5_ensureCapacityInternal_d00df cJ5_ensureCapacityInternal_d00df 3 (Option.none : Option Jvm.ClassFile.FieldType) ∈ gw := mq_6 (i := 179) rfl rfl
theorem qw1239 : Cond.methodLink RJ5 100 yJ5_ensureCapacityInternal_d00df ∈ gw := mq_6 (i := 176) rfl rfl
theorem qw1240 : Cond.sameMethod RJ5 RJ5 "ensureCapacityInternal" "(I)V" ∈ gw := mq_11 (i := 97) rfl rfl
theorem qw1241 : Cond.instanceMethod yJ5_ensureCapacityInternal_d00df ∈ gw := mq_6 (i := 178) rfl rfl
theorem qw1242 : Cond.code yJ5_putStringAt_47b60 cJ5_putStringAt_47b60 3 (Option.none : Option Jvm.ClassFile.FieldType) ∈ gw := mq_6 (i := 216) rfl rfl
theorem qw1243 : Cond.methodLink RJ5 208 yJ5_putStringAt_47b60 ∈ gw := mq_6 (i := 213) rfl rfl
theorem qw1244 : Cond.sameMethod RJ5 RJ5 "putStringAt" "(ILjava/lang/String;)V" ∈ gw := mq_11 (i := 99) rfl rfl
theorem qw1245 : Cond.instanceMethod yJ5_putStringAt_47b60 ∈ gw := mq_6 (i := 215) rfl rfl
theorem qw1246 : Cond.fieldLink RJ6 83 "java/lang/Integer" "DigitOnes" "[B" ∈ gw := mq_7 (i := 20) rfl rfl
theorem qw1247 : Cond.fieldLink RJ6 87 "java/lang/Integer" "DigitTens" "[B" ∈ gw := mq_7 (i := 22) rfl rfl
theorem qw1248 : Cond.code yJ6_stringSize_0f7a4 cJ6_stringSize_0f7a4 4 (Option.some Jvm.ClassFile.FieldType.int) ∈ gw := mq_7 (i := 16) rfl rfl
theorem qw1249 : Cond.methodLink RJ5 245 yJ6_stringSize_0f7a4 ∈ gw := mq_7 (i := 14) rfl rfl
theorem qw1250 : Cond.static yJ6_stringSize_0f7a4 ∈ gw := mq_7 (i := 15) rfl rfl
theorem qw1251 : Cond.initialized RJ6 ∈ gw := mq_1 (i := 15) rfl rfl
theorem qw1252 : Cond.code yJ5_isLatin1_aae02 cJ5_isLatin1_aae02 1 (Option.some Jvm.ClassFile.FieldType.boolean) ∈ gw := mq_6 (i := 205) rfl rfl
theorem qw1253 : Cond.methodLink RJ5 83 yJ5_isLatin1_aae02 ∈ gw := mq_6 (i := 201) rfl rfl
theorem qw1254 : Cond.sameMethod RJ5 RJ5 "isLatin1" "()Z" ∈ gw := mq_6 (i := 203) rfl rfl
theorem qw1255 : Cond.selects RJ4 yJ5_isLatin1_aae02 yJ5_isLatin1_aae02 ∈ gw := mq_6 (i := 204) rfl rfl
theorem qw1256 : Cond.instanceMethod yJ5_isLatin1_aae02 ∈ gw := mq_6 (i := 202) rfl rfl
theorem qw1257 : Cond.code yJ6_getChars_ba4f3 cJ6_getChars_ba4f3 7 (Option.some Jvm.ClassFile.FieldType.int) ∈ gw := mq_7 (i := 19) rfl rfl
theorem qw1258 : Cond.methodLink RJ5 248 yJ6_getChars_ba4f3 ∈ gw := mq_7 (i := 17) rfl rfl
theorem qw1259 : Cond.static yJ6_getChars_ba4f3 ∈ gw := mq_7 (i := 18) rfl rfl
theorem qw1260 : Cond.code yJ5_append_cf1ce cJ5_append_cf1ce 3 (Option.some (Jvm.ClassFile.FieldType.object "java/lang/AbstractStringBuilder")) ∈ gw := mq_6 (i := 171) rfl rfl
theorem qw1261 : Cond.methodLink RJ4 29 yJ5_append_cf1ce ∈ gw := mq_6 (i := 169) rfl rfl
theorem qw1262 : Cond.sameMethod RJ5 RJ5 "append" "(Ljava/lang/String;)Ljava/lang/AbstractStringBuilder;" ∈ gw := mq_11 (i := 95) rfl rfl
theorem qw1263 : Cond.superclass RJ4 RJ5 ∈ gw := mq_6 (i := 163) rfl rfl
theorem qw1264 : Cond.instanceMethod yJ5_append_cf1ce ∈ gw := mq_6 (i := 170) rfl rfl
theorem qw1265 : Cond.code yJ5_append_c97b9 cJ5_append_c97b9 4 (Option.some (Jvm.ClassFile.FieldType.object "java/lang/AbstractStringBuilder")) ∈ gw := mq_7 (i := 13) rfl rfl
theorem qw1266 : Cond.methodLink RJ4 53 yJ5_append_c97b9 ∈ gw := mq_7 (i := 11) rfl rfl
theorem qw1267 : Cond.sameMethod RJ5 RJ5 "append" "(I)Ljava/lang/AbstractStringBuilder;" ∈ gw := mq_11 (i := 102) rfl rfl
theorem qw1268 : Cond.instanceMethod yJ5_append_c97b9 ∈ gw := mq_7 (i := 12) rfl rfl
theorem qw1269 : Cond.code yJ1_canEncode_9a6ad cJ1_canEncode_9a6ad 1 (Option.some Jvm.ClassFile.FieldType.boolean) ∈ gw := mq_4 (i := 162) rfl rfl
theorem qw1270 : Cond.methodLink RJ1 88 yJ1_canEncode_9a6ad ∈ gw := mq_4 (i := 160) rfl rfl
theorem qw1271 : Cond.static yJ1_canEncode_9a6ad ∈ gw := mq_4 (i := 161) rfl rfl
theorem qw1272 : Cond.methodLink RJ1 92 yJ9_max_7cf53 ∈ gw := mq_4 (i := 163) rfl rfl
theorem qw1273 : Cond.methodLink RJ1 38 yJ9_min_7cf53 ∈ gw := mq_4 (i := 166) rfl rfl
theorem qw1274 : Cond.code yJ1_indexOfChar_4cfef cJ1_indexOfChar_4cfef 6 (Option.some Jvm.ClassFile.FieldType.int) ∈ gw := mq_4 (i := 171) rfl rfl
theorem qw1275 : Cond.methodLink RJ1 95 yJ1_indexOfChar_4cfef ∈ gw := mq_4 (i := 169) rfl rfl
theorem qw1276 : Cond.static yJ1_indexOfChar_4cfef ∈ gw := mq_4 (i := 170) rfl rfl
theorem qw1277 : Cond.methodLink RJ0 505 yJ0_length_8abf5 ∈ gw := mq_4 (i := 149) rfl rfl
theorem qw1278 : Cond.code yJ1_indexOf_4cfef cJ1_indexOf_4cfef 4 (Option.some Jvm.ClassFile.FieldType.int) ∈ gw := mq_4 (i := 159) rfl rfl
theorem qw1279 : Cond.methodLink RJ0 637 yJ1_indexOf_4cfef ∈ gw := mq_4 (i := 157) rfl rfl
theorem qw1280 : Cond.static yJ1_indexOf_4cfef ∈ gw := mq_4 (i := 158) rfl rfl
theorem qw1281 : Cond.code yJ0_indexOf_7cf53 cJ0_indexOf_7cf53 3 (Option.some Jvm.ClassFile.FieldType.int) ∈ gw := mq_4 (i := 142) rfl rfl
theorem qw1282 : Cond.methodLink RJ0 633 yJ0_indexOf_7cf53 ∈ gw := mq_4 (i := 139) rfl rfl
theorem qw1283 : Cond.instanceMethod yJ0_indexOf_7cf53 ∈ gw := mq_4 (i := 140) rfl rfl
theorem qw1284 : Cond.selects RJ0 yJ0_indexOf_7cf53 yJ0_indexOf_7cf53 ∈ gw := mq_4 (i := 141) rfl rfl
def fJ0_coder_7d493_J14 (y0_14 : Int32) : Option Int32 := (if y0_14 = (y0_14 : Int32).toInt8.toInt32 then some y0_14 else none)
def fJ0_coder_7d493  : Option Int32 := (if (1 : Int32) = 0 then (fJ0_coder_7d493_J14 1) else (fJ0_coder_7d493_J14 0))
set_option maxHeartbeats 16000000 in
set_option maxRecDepth 100000 in
theorem kJ0_coder_7d493 {zs : ZS} (l : Launch) (dC : Nat → ClassId) (dI : Nat → Nat → Nat) (p0s : Nat) (p0v : Nat) (p0m : Nat) (p0f : RI) (sz : Nat) (o : Int32) (hrun : fJ0_coder_7d493 = some o) : Met l yJ0_coder_7d493 (wz yJ0_coder_7d493 cJ0_coder_7d493 1 (Option.some Jvm.ClassFile.FieldType.byte)) ({ frames := 0, cells := 0, slots := 0, locals := 0 } : Room) (va_Pc [.ref p0s] (PRE (zA zs (sq9 p0s p0v p0m p0f)) dC dI (List.flatten ([] : List va_W)) (List.flatten ([] : List (List (ClassId × FieldType)))) sz)) (va_Qi (fun (r : Int32) (_ : Unit) => r = o) (fun _ t => POST dC dI (List.flatten ([] : List va_W)) (List.flatten ([] : List (List (ClassId × FieldType)))) (va_A (List.flatten ([] : List va_W)) sz) t) (va_A (List.flatten ([] : List va_W)) sz)) 0 0 (va_A (List.flatten ([] : List va_W)) sz) := by
  refine Met.ofW (cc := cJ0_coder_7d493) (maxL := 1) (ret := (Option.some Jvm.ClassFile.FieldType.byte)) (by decide) rfl ?_
  intro p e s m args below meth c s₁ B hml hv
  obtain ⟨rfl, hsz, hP, hK, hD0, hE⟩ := hv
  have hx := B.exec
  have hb := B.bytes
  have hr := B.returns
  have hts0 := atoms_spec (ws := wz yJ0_coder_7d493 cJ0_coder_7d493 1 (Option.some Jvm.ClassFile.FieldType.byte)) B.pre
  have hts : ∀ w ∈ gw, w.before _ s = true := fun w h => hts0 w (List.mem_cons_of_mem _ h)
  have hown : s.vm.findClass RJ0 = some m.cls := findClass_of_methodNamed B.named
  have hlocks := B.notSynchronized
  subst hsz
  have hD := hD0.self (sz := s.heap.size)
  refine gQ9 ?_
  intro Q hQ
  generalize hAe : va_A (List.flatten ([] : List va_W)) s.heap.size = A at hD hE hQ
  have hA : ∀ q : Nat, s.heap.size ≤ q → A q := fun q h => by rw [← hAe]; exact Or.inr h
  have hro := ENV.ex hE
  have hro_p0 := hro.2
  replace hro := hro.1
  have hS : va_S A s.heap s.heap [] := va_S.rf
  have hP : va_P (dC, dI) cls (List.flatten ([] : List va_W)) s.heap := hP
  have hl := lv_entry ([.ref p0s]) (n := 1) (Nat.le_of_ble_eq_true rfl)
  rw [lg_entry_eq]
  generalize (lg_sl ([.ref p0s]) ++ List.replicate (1 - (lg_sl ([.ref p0s])).length) Slot.unset).toArray = ls at hl ⊢
  have hl : lv_has ls 1 [(0, .ref p0s)] := hl
  obtain ⟨H, hHe⟩ : ∃ H, H = s.heap := ⟨_, rfl⟩
  obtain ⟨locs, hle⟩ : ∃ locs : List Loc, locs = [] := ⟨_, rfl⟩
  rw [← hHe] at hP
  have hS : va_S A s.heap H locs := by rw [hHe, hle]; exact hS
  show W p l e ({ frames := 0, cells := 0, slots := 0, locals := 0 } : Room) s m ([.ref p0s] : List Value).toArray below meth c s.heap [] 0 0 Q (F0 m 0 ls [])
  rw [← hle]
  refine wH9 hHe ?_
  unfold fJ0_coder_7d493 at hrun
  refine va_gets hx hb (ENV.cs hE) hS hown (hts _ qw1177) (fun _ h9 => h9) dJ0_coder_7d493_0 ?_
  have J14 : ∀ (y0_14 : Int32) (H : Heap) (locs : List Loc) (ls : Array Slot), (fJ0_coder_7d493_J14 y0_14) = some o → va_P (dC, dI) cls (List.flatten ([] : List va_W)) H → va_D A (List.flatten ([] : List va_W)) → va_K (dC, dI) cls (List.flatten ([] : List (List (ClassId × FieldType)))) s → va_S A s.heap H locs → lv_has ls 1 [] → W p l e ({ frames := 0, cells := 0, slots := 0, locals := 0 } : Room) s m ([.ref p0s] : List Value).toArray below meth c H locs 0 0 Q (F0 m 14 ls [.int y0_14]) := by
    intro y0_14 H locs ls hrun hP hD hK hS hl 
    unfold fJ0_coder_7d493_J14 at hrun
    obtain ⟨hz9, hrun⟩ := chk9 hrun
    have ho9 : y0_14 = o := Option.some.inj hrun
    have hP9 : va_P (dC, dI) cls (List.flatten ([] : List va_W)) H := by first | exact hP | (rw [← ho9]; exact hP)
    have hD9 : va_D A (List.flatten ([] : List va_W)) := by first | exact hD | (rw [← ho9]; exact hD)
    subst hQ
    exact W.zret (v := y0_14) hx hb hr (by9 hz9) (fun t ht hW => ⟨⟨y0_14, (), rfl, (by rw [← ho9]), ⟨by rw [ht]; exact hP9, va_K.moved hW.alike hK, hD9⟩⟩, hS.F ht⟩) hS.2.2 dJ0_coder_7d493_14
  rcases br9 hrun with ⟨hc1, hrun⟩ | ⟨hc1, hrun⟩
  · refine lv_if_eq (tgt := 13) hx hb dJ0_coder_7d493_3 (by decide) (fun _ => ?_) (fun c => absurd hc1 c)
    refine lv_iconst (v := 1) hx hb dJ0_coder_7d493_13 (by decide) ?_
    exact J14 1 _ _ _ hrun hP hD hK hS (lv_sub hl [] rfl)
  · refine lv_if_eq (tgt := 13) hx hb dJ0_coder_7d493_3 (by decide) (fun c => absurd c hc1) (fun _ => ?_)
    refine lv_aload_n hx hb dJ0_coder_7d493_6 rfl (lv_at hl 0 rfl) ?_
    refine vk_getf hx hb hro_p0.2.1 hS hown (hts _ qw1178) (fun _ h9 => h9) dJ0_coder_7d493_7 ?_
    refine lv_goto (tgt := 14) hx hb dJ0_coder_7d493_10 (by decide) ?_
    exact J14 0 _ _ _ hrun hP hD hK hS (lv_sub hl [] rfl)
def fJ0_isLatin1_aae02_J18 (y0_18 : Int32) : Option Int32 := (if y0_18 = 0 ∨ y0_18 = 1 then some y0_18 else none)
def fJ0_isLatin1_aae02_J17  : Option Int32 := (fJ0_isLatin1_aae02_J18 0)
def fJ0_isLatin1_aae02  : Option Int32 := (if (1 : Int32) = 0 then (fJ0_isLatin1_aae02_J17) else (if (0 : Int32) = 0 then (fJ0_isLatin1_aae02_J18 1) else (fJ0_isLatin1_aae02_J17)))
set_option maxHeartbeats 16000000 in
set_option maxRecDepth 100000 in
theorem kJ0_isLatin1_aae02 {zs : ZS} (l : Launch) (dC : Nat → ClassId) (dI : Nat → Nat → Nat) (p0s : Nat) (p0v : Nat) (p0m : Nat) (p0f : RI) (sz : Nat) (o : Int32) (hrun : fJ0_isLatin1_aae02 = some o) : Met l yJ0_isLatin1_aae02 (wz yJ0_isLatin1_aae02 cJ0_isLatin1_aae02 1 (Option.some Jvm.ClassFile.FieldType.boolean)) ({ frames := 0, cells := 0, slots := 0, locals := 0 } : Room) (va_Pc [.ref p0s] (PRE (zA zs (sq9 p0s p0v p0m p0f)) dC dI (List.flatten ([] : List va_W)) (List.flatten ([] : List (List (ClassId × FieldType)))) sz)) (va_Qi (fun (r : Int32) (_ : Unit) => r = o) (fun _ t => POST dC dI (List.flatten ([] : List va_W)) (List.flatten ([] : List (List (ClassId × FieldType)))) (va_A (List.flatten ([] : List va_W)) sz) t) (va_A (List.flatten ([] : List va_W)) sz)) 0 0 (va_A (List.flatten ([] : List va_W)) sz) := by
  refine Met.ofW (cc := cJ0_isLatin1_aae02) (maxL := 1) (ret := (Option.some Jvm.ClassFile.FieldType.boolean)) (by decide) rfl ?_
  intro p e s m args below meth c s₁ B hml hv
  obtain ⟨rfl, hsz, hP, hK, hD0, hE⟩ := hv
  have hx := B.exec
  have hb := B.bytes
  have hr := B.returns
  have hts0 := atoms_spec (ws := wz yJ0_isLatin1_aae02 cJ0_isLatin1_aae02 1 (Option.some Jvm.ClassFile.FieldType.boolean)) B.pre
  have hts : ∀ w ∈ gw, w.before _ s = true := fun w h => hts0 w (List.mem_cons_of_mem _ h)
  have hown : s.vm.findClass RJ0 = some m.cls := findClass_of_methodNamed B.named
  have hlocks := B.notSynchronized
  subst hsz
  have hD := hD0.self (sz := s.heap.size)
  refine gQ9 ?_
  intro Q hQ
  generalize hAe : va_A (List.flatten ([] : List va_W)) s.heap.size = A at hD hE hQ
  have hA : ∀ q : Nat, s.heap.size ≤ q → A q := fun q h => by rw [← hAe]; exact Or.inr h
  have hro := ENV.ex hE
  have hro_p0 := hro.2
  replace hro := hro.1
  have hS : va_S A s.heap s.heap [] := va_S.rf
  have hP : va_P (dC, dI) cls (List.flatten ([] : List va_W)) s.heap := hP
  have hl := lv_entry ([.ref p0s]) (n := 1) (Nat.le_of_ble_eq_true rfl)
  rw [lg_entry_eq]
  generalize (lg_sl ([.ref p0s]) ++ List.replicate (1 - (lg_sl ([.ref p0s])).length) Slot.unset).toArray = ls at hl ⊢
  have hl : lv_has ls 1 [(0, .ref p0s)] := hl
  obtain ⟨H, hHe⟩ : ∃ H, H = s.heap := ⟨_, rfl⟩
  obtain ⟨locs, hle⟩ : ∃ locs : List Loc, locs = [] := ⟨_, rfl⟩
  rw [← hHe] at hP
  have hS : va_S A s.heap H locs := by rw [hHe, hle]; exact hS
  show W p l e ({ frames := 0, cells := 0, slots := 0, locals := 0 } : Room) s m ([.ref p0s] : List Value).toArray below meth c s.heap [] 0 0 Q (F0 m 0 ls [])
  rw [← hle]
  refine wH9 hHe ?_
  unfold fJ0_isLatin1_aae02 at hrun
  refine va_gets hx hb (ENV.cs hE) hS hown (hts _ qw1177) (fun _ h9 => h9) dJ0_isLatin1_aae02_0 ?_
  have J18 : ∀ (y0_18 : Int32) (H : Heap) (locs : List Loc) (ls : Array Slot), (fJ0_isLatin1_aae02_J18 y0_18) = some o → va_P (dC, dI) cls (List.flatten ([] : List va_W)) H → va_D A (List.flatten ([] : List va_W)) → va_K (dC, dI) cls (List.flatten ([] : List (List (ClassId × FieldType)))) s → va_S A s.heap H locs → lv_has ls 1 [] → W p l e ({ frames := 0, cells := 0, slots := 0, locals := 0 } : Room) s m ([.ref p0s] : List Value).toArray below meth c H locs 0 0 Q (F0 m 18 ls [.int y0_18]) := by
    intro y0_18 H locs ls hrun hP hD hK hS hl 
    unfold fJ0_isLatin1_aae02_J18 at hrun
    obtain ⟨hz9, hrun⟩ := chk9 hrun
    have ho9 : y0_18 = o := Option.some.inj hrun
    have hP9 : va_P (dC, dI) cls (List.flatten ([] : List va_W)) H := by first | exact hP | (rw [← ho9]; exact hP)
    have hD9 : va_D A (List.flatten ([] : List va_W)) := by first | exact hD | (rw [← ho9]; exact hD)
    subst hQ
    exact W.zret (v := y0_18) hx hb hr (bz9 hz9) (fun t ht hW => ⟨⟨y0_18, (), rfl, (by rw [← ho9]), ⟨by rw [ht]; exact hP9, va_K.moved hW.alike hK, hD9⟩⟩, hS.F ht⟩) hS.2.2 dJ0_isLatin1_aae02_18
  have J17 : ∀ (H : Heap) (locs : List Loc) (ls : Array Slot), (fJ0_isLatin1_aae02_J17) = some o → va_P (dC, dI) cls (List.flatten ([] : List va_W)) H → va_D A (List.flatten ([] : List va_W)) → va_K (dC, dI) cls (List.flatten ([] : List (List (ClassId × FieldType)))) s → va_S A s.heap H locs → lv_has ls 1 [] → W p l e ({ frames := 0, cells := 0, slots := 0, locals := 0 } : Room) s m ([.ref p0s] : List Value).toArray below meth c H locs 0 0 Q (F0 m 17 ls []) := by
    intro  H locs ls hrun hP hD hK hS hl 
    unfold fJ0_isLatin1_aae02_J17 at hrun
    refine lv_iconst (v := 0) hx hb dJ0_isLatin1_aae02_17 (by decide) ?_
    exact J18 0 _ _ _ hrun hP hD hK hS (lv_sub hl [] rfl)
  rcases br9 hrun with ⟨hc1, hrun⟩ | ⟨hc1, hrun⟩
  · refine lv_if_eq (tgt := 17) hx hb dJ0_isLatin1_aae02_3 (by decide) (fun _ => ?_) (fun c => absurd hc1 c)
    exact J17 _ _ _ hrun hP hD hK hS (lv_sub hl [] rfl)
  · refine lv_if_eq (tgt := 17) hx hb dJ0_isLatin1_aae02_3 (by decide) (fun c => absurd c hc1) (fun _ => ?_)
    refine lv_aload_n hx hb dJ0_isLatin1_aae02_6 rfl (lv_at hl 0 rfl) ?_
    refine vk_getf hx hb hro_p0.2.1 hS hown (hts _ qw1178) (fun _ h9 => h9) dJ0_isLatin1_aae02_7 ?_
    rcases br9 hrun with ⟨hc2, hrun⟩ | ⟨hc2, hrun⟩
    · refine lv_if_ne (tgt := 17) hx hb dJ0_isLatin1_aae02_10 (by decide) (fun c => absurd hc2 c) (fun _ => ?_)
      refine lv_iconst (v := 1) hx hb dJ0_isLatin1_aae02_13 (by decide) ?_
      refine lv_goto (tgt := 18) hx hb dJ0_isLatin1_aae02_14 (by decide) ?_
      exact J18 1 _ _ _ hrun hP hD hK hS (lv_sub hl [] rfl)
    · refine lv_if_ne (tgt := 17) hx hb dJ0_isLatin1_aae02_10 (by decide) (fun _ => ?_) (fun c => absurd c hc2)
      exact J17 _ _ _ hrun hP hD hK hS (lv_sub hl [] rfl)
def fJ0_length_8abf5 (p0m : Nat) : Option Int32 := (fJ0_coder_7d493.bind fun (o_1 : Int32) => some ((Int32.ofNat p0m) >>> (o_1 &&& 31)))
set_option maxHeartbeats 16000000 in
set_option maxRecDepth 100000 in
theorem kJ0_length_8abf5 {zs : ZS} (l : Launch) (dC : Nat → ClassId) (dI : Nat → Nat → Nat) (p0s : Nat) (p0v : Nat) (p0m : Nat) (p0f : RI) (sz : Nat) (o : Int32) (hrun : fJ0_length_8abf5 p0m = some o) : Met l yJ0_length_8abf5 (wz yJ0_length_8abf5 cJ0_length_8abf5 1 (Option.some Jvm.ClassFile.FieldType.int)) ({ frames := 1, cells := 0, slots := 0, locals := 20 } : Room) (va_Pc [.ref p0s] (PRE (zA zs (sq9 p0s p0v p0m p0f)) dC dI (List.flatten ([] : List va_W)) (List.flatten ([] : List (List (ClassId × FieldType)))) sz)) (va_Qi (fun (r : Int32) (_ : Unit) => r = o) (fun _ t => POST dC dI (List.flatten ([] : List va_W)) (List.flatten ([] : List (List (ClassId × FieldType)))) (va_A (List.flatten ([] : List va_W)) sz) t) (va_A (List.flatten ([] : List va_W)) sz)) 0 0 (va_A (List.flatten ([] : List va_W)) sz) := by
  refine Met.ofW (cc := cJ0_length_8abf5) (maxL := 1) (ret := (Option.some Jvm.ClassFile.FieldType.int)) (by decide) rfl ?_
  intro p e s m args below meth c s₁ B hml hv
  obtain ⟨rfl, hsz, hP, hK, hD0, hE⟩ := hv
  have hx := B.exec
  have hb := B.bytes
  have hr := B.returns
  have hts0 := atoms_spec (ws := wz yJ0_length_8abf5 cJ0_length_8abf5 1 (Option.some Jvm.ClassFile.FieldType.int)) B.pre
  have hts : ∀ w ∈ gw, w.before _ s = true := fun w h => hts0 w (List.mem_cons_of_mem _ h)
  have hown : s.vm.findClass RJ0 = some m.cls := findClass_of_methodNamed B.named
  have hlocks := B.notSynchronized
  subst hsz
  have hD := hD0.self (sz := s.heap.size)
  refine gQ9 ?_
  intro Q hQ
  generalize hAe : va_A (List.flatten ([] : List va_W)) s.heap.size = A at hD hE hQ
  have hA : ∀ q : Nat, s.heap.size ≤ q → A q := fun q h => by rw [← hAe]; exact Or.inr h
  have hro := ENV.ex hE
  have hro_p0 := hro.2
  replace hro := hro.1
  have hS : va_S A s.heap s.heap [] := va_S.rf
  have hP : va_P (dC, dI) cls (List.flatten ([] : List va_W)) s.heap := hP
  have hl := lv_entry ([.ref p0s]) (n := 1) (Nat.le_of_ble_eq_true rfl)
  rw [lg_entry_eq]
  generalize (lg_sl ([.ref p0s]) ++ List.replicate (1 - (lg_sl ([.ref p0s])).length) Slot.unset).toArray = ls at hl ⊢
  have hl : lv_has ls 1 [(0, .ref p0s)] := hl
  obtain ⟨H, hHe⟩ : ∃ H, H = s.heap := ⟨_, rfl⟩
  obtain ⟨locs, hle⟩ : ∃ locs : List Loc, locs = [] := ⟨_, rfl⟩
  rw [← hHe] at hP
  have hS : va_S A s.heap H locs := by rw [hHe, hle]; exact hS
  show W p l e ({ frames := 1, cells := 0, slots := 0, locals := 20 } : Room) s m ([.ref p0s] : List Value).toArray below meth c s.heap [] 0 0 Q (F0 m 0 ls [])
  rw [← hle]
  refine wH9 hHe ?_
  unfold fJ0_length_8abf5 at hrun
  refine lv_aload_n hx hb dJ0_length_8abf5_0 rfl (lv_at hl 0 rfl) ?_
  refine vk_getf hx hb hro_p0.2.2.1 hS hown (hts _ qw1179) (fun _ h9 => h9) dJ0_length_8abf5_1 ?_
  refine va_tlen hx hb hro_p0.2.2.2.1 hS (v := (Int32.ofNat p0m)) rfl dJ0_length_8abf5_4 ?_
  refine lv_aload_n hx hb dJ0_length_8abf5_5 rfl (lv_at hl 0 rfl) ?_
  obtain ⟨o_1, hc_1, hrun⟩ := bnd9 hrun
  have hPx : va_P (dC, dI) cls ((List.flatten ([] : List va_W)) ++ (List.flatten ([] : List va_W))) H := vP_fa (vP_perm hP (bP (List.Perm.refl _)))
  have hDx : va_D A ((List.flatten ([] : List va_W)) ++ (List.flatten ([] : List va_W))) := vD_fa (vD_perm hD (bP (List.Perm.refl _)))
  have hKx : va_K (dC, dI) cls ((List.flatten ([] : List (List (ClassId × FieldType)))) ++ (List.flatten ([] : List (List (ClassId × FieldType))))) s := vK_fa (vK_perm hK (bP (List.Perm.refl _)))
  have hPc := vP_l hPx
  have hDc := vD_l hDx
  have hKc := vK_l hKx
  have hFc := vfree hDx hS hA
  refine va_calli (va_runV (As := []) (rest := [.int (Int32.ofNat p0m)]) ⟨hx, hb, hml, hown, hts⟩ (kJ0_coder_7d493 l dC dI (p0s := p0s) (p0v := p0v) (p0m := p0m) (p0f := p0f) (sz := _) (o := o_1) (hrun := hc_1)) (cwV 0 hts (gi_V qw1181 qw1182 qw1183 qw1184 (gi_z qw1180)) rfl rfl rfl (by decide +kernel) ⟨Nat.le_of_ble_eq_true rfl, Nat.le_of_ble_eq_true rfl⟩) ⟨PRE.blind, vk_rcv hro_p0 hS, PRE.of (ENV.add hE sq9_m hro_p0) hS hFc hPc hKc hDc⟩ rfl rfl hl.1 rfl (lv_room (Nat.le_of_ble_eq_true rfl)) dJ0_length_8abf5_6 ⟨(Nat.le_of_ble_eq_true rfl), (Nat.le_of_ble_eq_true rfl)⟩) hS (fun q _ h => hFc q h) hFc (fun r2 u t H locs ht hvm hw hB hz1 hk1 hS => ?_)
  obtain ⟨b1, b2, b3⟩ := hB
  rw [ht] at b1
  obtain ⟨hP, hD, hK⟩ := JOINC (wc := (List.flatten ([] : List va_W))) (wr := (List.flatten ([] : List va_W))) (w1 := (List.flatten ([] : List va_W))) (t1 := (List.flatten ([] : List (List (ClassId × FieldType))))) hPx hDx hKx hk1 hFc b1 (va_K.moved hvm.symm b2) b3
  have hP : va_P (dC, dI) cls (List.flatten ([] : List va_W)) H := vP_perm (vP_fb hP) (bP (List.Perm.refl _))
  have hD : va_D A (List.flatten ([] : List va_W)) := vD_perm (vD_fb hD) (bP (List.Perm.refl _))
  have hK : va_K (dC, dI) cls (List.flatten ([] : List (List (ClassId × FieldType)))) s := vK_perm (vK_fb hK) (bP (List.Perm.refl _))
  obtain rfl : o_1 = r2 := hw.symm
  refine lv_ishr hx hb dJ0_length_8abf5_9 ?_
  have ho9 : ((Int32.ofNat p0m) >>> (o_1 &&& 31)) = o := Option.some.inj hrun
  have hP9 : va_P (dC, dI) cls (List.flatten ([] : List va_W)) H := by first | exact hP | (rw [← ho9]; exact hP)
  have hD9 : va_D A (List.flatten ([] : List va_W)) := by first | exact hD | (rw [← ho9]; exact hD)
  subst hQ
  exact W.iret (v := ((Int32.ofNat p0m) >>> (o_1 &&& 31))) hx hb hr (fun t ht hW => ⟨⟨((Int32.ofNat p0m) >>> (o_1 &&& 31)), (), rfl, (by rw [← ho9]), ⟨by rw [ht]; exact hP9, va_K.moved hW.alike hK, hD9⟩⟩, hS.F ht⟩) hS.2.2 dJ0_length_8abf5_10
def fJ3_checkIndex_8e157_J9  : Option Int32 := none
def fJ3_checkIndex_8e157 (p0 : Int32) (p1 : Int32) : Option Int32 := (if p0 < 0 then (fJ3_checkIndex_8e157_J9) else (if p0 < p1 then some p0 else (fJ3_checkIndex_8e157_J9)))
set_option maxHeartbeats 16000000 in
set_option maxRecDepth 100000 in
theorem kJ3_checkIndex_8e157 {zs : ZS} (l : Launch) (dC : Nat → ClassId) (dI : Nat → Nat → Nat) (p0 : Int32) (p1 : Int32) (p2a : Nat) (sz : Nat) (o : Int32) (hrun : fJ3_checkIndex_8e157 p0 p1 = some o) : Met l yJ3_checkIndex_8e157 (wz yJ3_checkIndex_8e157 cJ3_checkIndex_8e157 3 (Option.some Jvm.ClassFile.FieldType.int)) ({ frames := 0, cells := 0, slots := 0, locals := 0 } : Room) (va_Pc [.int p0, .int p1, .ref p2a] (PRE zs dC dI (List.flatten ([] : List va_W)) (List.flatten ([] : List (List (ClassId × FieldType)))) sz)) (va_Qi (fun (r : Int32) (_ : Unit) => r = o) (fun _ t => POST dC dI (List.flatten ([] : List va_W)) (List.flatten ([] : List (List (ClassId × FieldType)))) (va_A (List.flatten ([] : List va_W)) sz) t) (va_A (List.flatten ([] : List va_W)) sz)) 0 0 (va_A (List.flatten ([] : List va_W)) sz) := by
  refine Met.ofW (cc := cJ3_checkIndex_8e157) (maxL := 3) (ret := (Option.some Jvm.ClassFile.FieldType.int)) (by decide) rfl ?_
  intro p e s m args below meth c s₁ B hml hv
  obtain ⟨rfl, hsz, hP, hK, hD0, hE⟩ := hv
  have hx := B.exec
  have hb := B.bytes
  have hr := B.returns
  have hts0 := atoms_spec (ws := wz yJ3_checkIndex_8e157 cJ3_checkIndex_8e157 3 (Option.some Jvm.ClassFile.FieldType.int)) B.pre
  have hts : ∀ w ∈ gw, w.before _ s = true := fun w h => hts0 w (List.mem_cons_of_mem _ h)
  have hown : s.vm.findClass RJ3 = some m.cls := findClass_of_methodNamed B.named
  have hlocks := B.notSynchronized
  subst hsz
  have hD := hD0.self (sz := s.heap.size)
  refine gQ9 ?_
  intro Q hQ
  generalize hAe : va_A (List.flatten ([] : List va_W)) s.heap.size = A at hD hE hQ
  have hA : ∀ q : Nat, s.heap.size ≤ q → A q := fun q h => by rw [← hAe]; exact Or.inr h
  have hS : va_S A s.heap s.heap [] := va_S.rf
  have hP : va_P (dC, dI) cls (List.flatten ([] : List va_W)) s.heap := hP
  have hl := lv_entry ([.int p0, .int p1, .ref p2a]) (n := 3) (Nat.le_of_ble_eq_true rfl)
  rw [lg_entry_eq]
  generalize (lg_sl ([.int p0, .int p1, .ref p2a]) ++ List.replicate (3 - (lg_sl ([.int p0, .int p1, .ref p2a])).length) Slot.unset).toArray = ls at hl ⊢
  have hl : lv_has ls 3 [(0, .int p0), (1, .int p1), (2, .ref p2a)] := hl
  obtain ⟨H, hHe⟩ : ∃ H, H = s.heap := ⟨_, rfl⟩
  obtain ⟨locs, hle⟩ : ∃ locs : List Loc, locs = [] := ⟨_, rfl⟩
  rw [← hHe] at hP
  have hS : va_S A s.heap H locs := by rw [hHe, hle]; exact hS
  show W p l e ({ frames := 0, cells := 0, slots := 0, locals := 0 } : Room) s m ([.int p0, .int p1, .ref p2a] : List Value).toArray below meth c s.heap [] 0 0 Q (F0 m 0 ls [])
  rw [← hle]
  refine wH9 hHe ?_
  unfold fJ3_checkIndex_8e157 at hrun
  refine lv_iload_n hx hb dJ3_checkIndex_8e157_0 rfl (lv_at hl 0 rfl) ?_
  have J9 : ∀ (H : Heap) (locs : List Loc) (ls : Array Slot), (fJ3_checkIndex_8e157_J9) = some o → va_P (dC, dI) cls (List.flatten ([] : List va_W)) H → va_D A (List.flatten ([] : List va_W)) → va_K (dC, dI) cls (List.flatten ([] : List (List (ClassId × FieldType)))) s → va_S A s.heap H locs → lv_has ls 3 [(0, .int p0), (1, .int p1), (2, .ref p2a)] → W p l e ({ frames := 0, cells := 0, slots := 0, locals := 0 } : Room) s m ([.int p0, .int p1, .ref p2a] : List Value).toArray below meth c H locs 0 0 Q (F0 m 9 ls []) := by
    intro  H locs ls hrun hP hD hK hS hl 
    unfold fJ3_checkIndex_8e157_J9 at hrun
    refine lv_aload_n hx hb dJ3_checkIndex_8e157_9 rfl (lv_at hl 2 rfl) ?_
    refine lv_iload_n hx hb dJ3_checkIndex_8e157_10 rfl (lv_at hl 0 rfl) ?_
    refine lv_iload_n hx hb dJ3_checkIndex_8e157_11 rfl (lv_at hl 1 rfl) ?_
    cases hrun
  rcases br9 hrun with ⟨hc1, hrun⟩ | ⟨hc1, hrun⟩
  · refine lv_if_lt (tgt := 9) hx hb dJ3_checkIndex_8e157_1 (by decide) (fun _ => ?_) (fun c => absurd hc1 c)
    exact J9 _ _ _ hrun hP hD hK hS (lv_sub hl [0, 1, 2] rfl)
  · refine lv_if_lt (tgt := 9) hx hb dJ3_checkIndex_8e157_1 (by decide) (fun c => absurd c hc1) (fun _ => ?_)
    refine lv_iload_n hx hb dJ3_checkIndex_8e157_4 rfl (lv_at hl 0 rfl) ?_
    refine lv_iload_n hx hb dJ3_checkIndex_8e157_5 rfl (lv_at hl 1 rfl) ?_
    rcases br9 hrun with ⟨hc2, hrun⟩ | ⟨hc2, hrun⟩
    · refine lv_icmp_lt (tgt := 16) hx hb dJ3_checkIndex_8e157_6 (by decide) (fun _ => ?_) (fun c => absurd hc2 c)
      refine lv_iload_n hx hb dJ3_checkIndex_8e157_16 rfl (lv_at hl 0 rfl) ?_
      have ho9 : p0 = o := Option.some.inj hrun
      have hP9 : va_P (dC, dI) cls (List.flatten ([] : List va_W)) H := by first | exact hP | (rw [← ho9]; exact hP)
      have hD9 : va_D A (List.flatten ([] : List va_W)) := by first | exact hD | (rw [← ho9]; exact hD)
      subst hQ
      exact W.iret (v := p0) hx hb hr (fun t ht hW => ⟨⟨p0, (), rfl, (by rw [← ho9]), ⟨by rw [ht]; exact hP9, va_K.moved hW.alike hK, hD9⟩⟩, hS.F ht⟩) hS.2.2 dJ3_checkIndex_8e157_17
    · refine lv_icmp_lt (tgt := 16) hx hb dJ3_checkIndex_8e157_6 (by decide) (fun c => absurd c hc2) (fun _ => ?_)
      exact J9 _ _ _ hrun hP hD hK hS (lv_sub hl [0, 1, 2] rfl)
set_option maxHeartbeats 16000000 in
set_option maxRecDepth 100000 in
theorem kJ3_checkIndex_8e157_a2_null_0 {zs : ZS} (l : Launch) (dC : Nat → ClassId) (dI : Nat → Nat → Nat) (p0 : Int32) (p1 : Int32) (sz : Nat) (o : Int32) (hrun : fJ3_checkIndex_8e157 p0 p1 = some o) : Met l yJ3_checkIndex_8e157 (wz yJ3_checkIndex_8e157 cJ3_checkIndex_8e157 3 (Option.some Jvm.ClassFile.FieldType.int)) ({ frames := 0, cells := 0, slots := 0, locals := 0 } : Room) (va_Pc [.int p0, .int p1, .null] (PRE zs dC dI (List.flatten ([] : List va_W)) (List.flatten ([] : List (List (ClassId × FieldType)))) sz)) (va_Qi (fun (r : Int32) (_ : Unit) => r = o) (fun _ t => POST dC dI (List.flatten ([] : List va_W)) (List.flatten ([] : List (List (ClassId × FieldType)))) (va_A (List.flatten ([] : List va_W)) sz) t) (va_A (List.flatten ([] : List va_W)) sz)) 0 0 (va_A (List.flatten ([] : List va_W)) sz) := by
  refine Met.ofW (cc := cJ3_checkIndex_8e157) (maxL := 3) (ret := (Option.some Jvm.ClassFile.FieldType.int)) (by decide) rfl ?_
  intro p e s m args below meth c s₁ B hml hv
  obtain ⟨rfl, hsz, hP, hK, hD0, hE⟩ := hv
  have hx := B.exec
  have hb := B.bytes
  have hr := B.returns
  have hts0 := atoms_spec (ws := wz yJ3_checkIndex_8e157 cJ3_checkIndex_8e157 3 (Option.some Jvm.ClassFile.FieldType.int)) B.pre
  have hts : ∀ w ∈ gw, w.before _ s = true := fun w h => hts0 w (List.mem_cons_of_mem _ h)
  have hown : s.vm.findClass RJ3 = some m.cls := findClass_of_methodNamed B.named
  have hlocks := B.notSynchronized
  subst hsz
  have hD := hD0.self (sz := s.heap.size)
  refine gQ9 ?_
  intro Q hQ
  generalize hAe : va_A (List.flatten ([] : List va_W)) s.heap.size = A at hD hE hQ
  have hA : ∀ q : Nat, s.heap.size ≤ q → A q := fun q h => by rw [← hAe]; exact Or.inr h
  have hS : va_S A s.heap s.heap [] := va_S.rf
  have hP : va_P (dC, dI) cls (List.flatten ([] : List va_W)) s.heap := hP
  have hl := lv_entry ([.int p0, .int p1, .null]) (n := 3) (Nat.le_of_ble_eq_true rfl)
  rw [lg_entry_eq]
  generalize (lg_sl ([.int p0, .int p1, .null]) ++ List.replicate (3 - (lg_sl ([.int p0, .int p1, .null])).length) Slot.unset).toArray = ls at hl ⊢
  have hl : lv_has ls 3 [(0, .int p0), (1, .int p1), (2, .null)] := hl
  obtain ⟨H, hHe⟩ : ∃ H, H = s.heap := ⟨_, rfl⟩
  obtain ⟨locs, hle⟩ : ∃ locs : List Loc, locs = [] := ⟨_, rfl⟩
  rw [← hHe] at hP
  have hS : va_S A s.heap H locs := by rw [hHe, hle]; exact hS
  show W p l e ({ frames := 0, cells := 0, slots := 0, locals := 0 } : Room) s m ([.int p0, .int p1, .null] : List Value).toArray below meth c s.heap [] 0 0 Q (F0 m 0 ls [])
  rw [← hle]
  refine wH9 hHe ?_
  unfold fJ3_checkIndex_8e157 at hrun
  refine lv_iload_n hx hb dJ3_checkIndex_8e157_0 rfl (lv_at hl 0 rfl) ?_
  have J9 : ∀ (H : Heap) (locs : List Loc) (ls : Array Slot), (fJ3_checkIndex_8e157_J9) = some o → va_P (dC, dI) cls (List.flatten ([] : List va_W)) H → va_D A (List.flatten ([] : List va_W)) → va_K (dC, dI) cls (List.flatten ([] : List (List (ClassId × FieldType)))) s → va_S A s.heap H locs → lv_has ls 3 [(0, .int p0), (1, .int p1), (2, .null)] → W p l e ({ frames := 0, cells := 0, slots := 0, locals := 0 } : Room) s m ([.int p0, .int p1, .null] : List Value).toArray below meth c H locs 0 0 Q (F0 m 9 ls []) := by
    intro  H locs ls hrun hP hD hK hS hl 
    unfold fJ3_checkIndex_8e157_J9 at hrun
    refine lv_aload_nN hx hb dJ3_checkIndex_8e157_9 rfl (lv_at hl 2 rfl) ?_
    refine lv_iload_n hx hb dJ3_checkIndex_8e157_10 rfl (lv_at hl 0 rfl) ?_
    refine lv_iload_n hx hb dJ3_checkIndex_8e157_11 rfl (lv_at hl 1 rfl) ?_
    cases hrun
  rcases br9 hrun with ⟨hc1, hrun⟩ | ⟨hc1, hrun⟩
  · refine lv_if_lt (tgt := 9) hx hb dJ3_checkIndex_8e157_1 (by decide) (fun _ => ?_) (fun c => absurd hc1 c)
    exact J9 _ _ _ hrun hP hD hK hS (lv_sub hl [0, 1, 2] rfl)
  · refine lv_if_lt (tgt := 9) hx hb dJ3_checkIndex_8e157_1 (by decide) (fun c => absurd c hc1) (fun _ => ?_)
    refine lv_iload_n hx hb dJ3_checkIndex_8e157_4 rfl (lv_at hl 0 rfl) ?_
    refine lv_iload_n hx hb dJ3_checkIndex_8e157_5 rfl (lv_at hl 1 rfl) ?_
    rcases br9 hrun with ⟨hc2, hrun⟩ | ⟨hc2, hrun⟩
    · refine lv_icmp_lt (tgt := 16) hx hb dJ3_checkIndex_8e157_6 (by decide) (fun _ => ?_) (fun c => absurd hc2 c)
      refine lv_iload_n hx hb dJ3_checkIndex_8e157_16 rfl (lv_at hl 0 rfl) ?_
      have ho9 : p0 = o := Option.some.inj hrun
      have hP9 : va_P (dC, dI) cls (List.flatten ([] : List va_W)) H := by first | exact hP | (rw [← ho9]; exact hP)
      have hD9 : va_D A (List.flatten ([] : List va_W)) := by first | exact hD | (rw [← ho9]; exact hD)
      subst hQ
      exact W.iret (v := p0) hx hb hr (fun t ht hW => ⟨⟨p0, (), rfl, (by rw [← ho9]), ⟨by rw [ht]; exact hP9, va_K.moved hW.alike hK, hD9⟩⟩, hS.F ht⟩) hS.2.2 dJ3_checkIndex_8e157_17
    · refine lv_icmp_lt (tgt := 16) hx hb dJ3_checkIndex_8e157_6 (by decide) (fun c => absurd c hc2) (fun _ => ?_)
      exact J9 _ _ _ hrun hP hD hK hS (lv_sub hl [0, 1, 2] rfl)
def fJ0_checkIndex_df160 (p0 : Int32) (p1 : Int32) : Option Unit := ((fJ3_checkIndex_8e157 p0 p1).bind fun (o_1 : Int32) => some ())
set_option maxHeartbeats 16000000 in
set_option maxRecDepth 100000 in
theorem kJ0_checkIndex_df160 {zs : ZS} (l : Launch) (dC : Nat → ClassId) (dI : Nat → Nat → Nat) (p0 : Int32) (p1 : Int32) (sz : Nat) (o : Unit) (hrun : fJ0_checkIndex_df160 p0 p1 = some o) : Met l yJ0_checkIndex_df160 (wz yJ0_checkIndex_df160 cJ0_checkIndex_df160 2 (Option.none : Option Jvm.ClassFile.FieldType)) ({ frames := 1, cells := 0, slots := 0, locals := 22 } : Room) (va_Pc [.int p0, .int p1] (PRE zs dC dI (List.flatten ([] : List va_W)) (List.flatten ([] : List (List (ClassId × FieldType)))) sz)) (va_Qv (fun (_ : Unit) => True) (fun _ t => POST dC dI (List.flatten ([] : List va_W)) (List.flatten ([] : List (List (ClassId × FieldType)))) (va_A (List.flatten ([] : List va_W)) sz) t) (va_A (List.flatten ([] : List va_W)) sz)) 0 0 (va_A (List.flatten ([] : List va_W)) sz) := by
  refine Met.ofW (cc := cJ0_checkIndex_df160) (maxL := 2) (ret := (Option.none : Option Jvm.ClassFile.FieldType)) (by decide) rfl ?_
  intro p e s m args below meth c s₁ B hml hv
  obtain ⟨rfl, hsz, hP, hK, hD0, hE⟩ := hv
  have hx := B.exec
  have hb := B.bytes
  have hr := B.returns
  have hts0 := atoms_spec (ws := wz yJ0_checkIndex_df160 cJ0_checkIndex_df160 2 (Option.none : Option Jvm.ClassFile.FieldType)) B.pre
  have hts : ∀ w ∈ gw, w.before _ s = true := fun w h => hts0 w (List.mem_cons_of_mem _ h)
  have hown : s.vm.findClass RJ0 = some m.cls := findClass_of_methodNamed B.named
  have hlocks := B.notSynchronized
  subst hsz
  have hD := hD0.self (sz := s.heap.size)
  refine gQ9 ?_
  intro Q hQ
  generalize hAe : va_A (List.flatten ([] : List va_W)) s.heap.size = A at hD hE hQ
  have hA : ∀ q : Nat, s.heap.size ≤ q → A q := fun q h => by rw [← hAe]; exact Or.inr h
  have hS : va_S A s.heap s.heap [] := va_S.rf
  have hP : va_P (dC, dI) cls (List.flatten ([] : List va_W)) s.heap := hP
  have hl := lv_entry ([.int p0, .int p1]) (n := 2) (Nat.le_of_ble_eq_true rfl)
  rw [lg_entry_eq]
  generalize (lg_sl ([.int p0, .int p1]) ++ List.replicate (2 - (lg_sl ([.int p0, .int p1])).length) Slot.unset).toArray = ls at hl ⊢
  have hl : lv_has ls 2 [(0, .int p0), (1, .int p1)] := hl
  obtain ⟨H, hHe⟩ : ∃ H, H = s.heap := ⟨_, rfl⟩
  obtain ⟨locs, hle⟩ : ∃ locs : List Loc, locs = [] := ⟨_, rfl⟩
  rw [← hHe] at hP
  have hS : va_S A s.heap H locs := by rw [hHe, hle]; exact hS
  show W p l e ({ frames := 1, cells := 0, slots := 0, locals := 22 } : Room) s m ([.int p0, .int p1] : List Value).toArray below meth c s.heap [] 0 0 Q (F0 m 0 ls [])
  rw [← hle]
  refine wH9 hHe ?_
  unfold fJ0_checkIndex_df160 at hrun
  refine lv_iload_n hx hb dJ0_checkIndex_df160_0 rfl (lv_at hl 0 rfl) ?_
  refine lv_iload_n hx hb dJ0_checkIndex_df160_1 rfl (lv_at hl 1 rfl) ?_
  rcases ENV.fm hE with hz9 | ⟨t9, hz9⟩
  · refine va_gets hx hb hz9 hS hown (hts _ qw1189) (fun _ h9 => h9) dJ0_checkIndex_df160_2 ?_
    obtain ⟨o_1, hc_1, hrun⟩ := bnd9 hrun
    have hPx : va_P (dC, dI) cls ((List.flatten ([] : List va_W)) ++ (List.flatten ([] : List va_W))) H := vP_fa (vP_perm hP (bP (List.Perm.refl _)))
    have hDx : va_D A ((List.flatten ([] : List va_W)) ++ (List.flatten ([] : List va_W))) := vD_fa (vD_perm hD (bP (List.Perm.refl _)))
    have hKx : va_K (dC, dI) cls ((List.flatten ([] : List (List (ClassId × FieldType)))) ++ (List.flatten ([] : List (List (ClassId × FieldType))))) s := vK_fa (vK_perm hK (bP (List.Perm.refl _)))
    have hPc := vP_l hPx
    have hDc := vD_l hDx
    have hKc := vK_l hKx
    have hFc := vfree hDx hS hA
    refine va_calli (va_runS (As := [.int p0, .int p1, .null]) (rest := []) ⟨hx, hb, hml, hown, hts⟩ (kJ3_checkIndex_8e157_a2_null_0 l dC dI (p0 := p0) (p1 := p1) (sz := _) (o := o_1) (hrun := hc_1)) (va_cwS 3 hts (gi_S qw1186 qw1187 qw1188 (gi_z qw1185)) rfl rfl rfl (by decide +kernel) ⟨Nat.le_of_ble_eq_true rfl, Nat.le_of_ble_eq_true rfl⟩) ⟨PRE.blind, PRE.of hE hS hFc hPc hKc hDc⟩ rfl rfl hl.1 rfl (lv_room (Nat.le_of_ble_eq_true rfl)) dJ0_checkIndex_df160_5 ⟨(Nat.le_of_ble_eq_true rfl), (Nat.le_of_ble_eq_true rfl)⟩) hS (fun q _ h => hFc q h) hFc (fun r2 u t H locs ht hvm hw hB hz1 hk1 hS => ?_)
    obtain ⟨b1, b2, b3⟩ := hB
    rw [ht] at b1
    obtain ⟨hP, hD, hK⟩ := JOINC (wc := (List.flatten ([] : List va_W))) (wr := (List.flatten ([] : List va_W))) (w1 := (List.flatten ([] : List va_W))) (t1 := (List.flatten ([] : List (List (ClassId × FieldType))))) hPx hDx hKx hk1 hFc b1 (va_K.moved hvm.symm b2) b3
    have hP : va_P (dC, dI) cls (List.flatten ([] : List va_W)) H := vP_perm (vP_fb hP) (bP (List.Perm.refl _))
    have hD : va_D A (List.flatten ([] : List va_W)) := vD_perm (vD_fb hD) (bP (List.Perm.refl _))
    have hK : va_K (dC, dI) cls (List.flatten ([] : List (List (ClassId × FieldType)))) s := vK_perm (vK_fb hK) (bP (List.Perm.refl _))
    obtain rfl : o_1 = r2 := hw.symm
    refine lv_pop hx hb dJ0_checkIndex_df160_8 rfl ?_
    have ho9 : () = o := Option.some.inj hrun
    have hP9 : va_P (dC, dI) cls (List.flatten ([] : List va_W)) H := by first | exact hP | (rw [← ho9]; exact hP)
    have hD9 : va_D A (List.flatten ([] : List va_W)) := by first | exact hD | (rw [← ho9]; exact hD)
    subst hQ
    exact W.vret hx hb hr (fun t ht hW => ⟨⟨(), rfl, trivial, ⟨by rw [ht]; exact hP9, va_K.moved hW.alike hK, hD9⟩⟩, hS.F ht⟩) hS.2.2 dJ0_checkIndex_df160_9
  · refine va_gets hx hb hz9 hS hown (hts _ qw1189) (fun _ h9 => h9) dJ0_checkIndex_df160_2 ?_
    obtain ⟨o_1, hc_1, hrun⟩ := bnd9 hrun
    have hPx : va_P (dC, dI) cls ((List.flatten ([] : List va_W)) ++ (List.flatten ([] : List va_W))) H := vP_fa (vP_perm hP (bP (List.Perm.refl _)))
    have hDx : va_D A ((List.flatten ([] : List va_W)) ++ (List.flatten ([] : List va_W))) := vD_fa (vD_perm hD (bP (List.Perm.refl _)))
    have hKx : va_K (dC, dI) cls ((List.flatten ([] : List (List (ClassId × FieldType)))) ++ (List.flatten ([] : List (List (ClassId × FieldType))))) s := vK_fa (vK_perm hK (bP (List.Perm.refl _)))
    have hPc := vP_l hPx
    have hDc := vD_l hDx
    have hKc := vK_l hKx
    have hFc := vfree hDx hS hA
    refine va_calli (va_runS (As := [.int p0, .int p1, .ref t9]) (rest := []) ⟨hx, hb, hml, hown, hts⟩ (kJ3_checkIndex_8e157 l dC dI (p0 := p0) (p1 := p1) (p2a := t9) (sz := _) (o := o_1) (hrun := hc_1)) (va_cwS 3 hts (gi_S qw1186 qw1187 qw1188 (gi_z qw1185)) rfl rfl rfl (by decide +kernel) ⟨Nat.le_of_ble_eq_true rfl, Nat.le_of_ble_eq_true rfl⟩) ⟨PRE.blind, PRE.of hE hS hFc hPc hKc hDc⟩ rfl rfl hl.1 rfl (lv_room (Nat.le_of_ble_eq_true rfl)) dJ0_checkIndex_df160_5 ⟨(Nat.le_of_ble_eq_true rfl), (Nat.le_of_ble_eq_true rfl)⟩) hS (fun q _ h => hFc q h) hFc (fun r2 u t H locs ht hvm hw hB hz1 hk1 hS => ?_)
    obtain ⟨b1, b2, b3⟩ := hB
    rw [ht] at b1
    obtain ⟨hP, hD, hK⟩ := JOINC (wc := (List.flatten ([] : List va_W))) (wr := (List.flatten ([] : List va_W))) (w1 := (List.flatten ([] : List va_W))) (t1 := (List.flatten ([] : List (List (ClassId × FieldType))))) hPx hDx hKx hk1 hFc b1 (va_K.moved hvm.symm b2) b3
    have hP : va_P (dC, dI) cls (List.flatten ([] : List va_W)) H := vP_perm (vP_fb hP) (bP (List.Perm.refl _))
    have hD : va_D A (List.flatten ([] : List va_W)) := vD_perm (vD_fb hD) (bP (List.Perm.refl _))
    have hK : va_K (dC, dI) cls (List.flatten ([] : List (List (ClassId × FieldType)))) s := vK_perm (vK_fb hK) (bP (List.Perm.refl _))
    obtain rfl : o_1 = r2 := hw.symm
    refine lv_pop hx hb dJ0_checkIndex_df160_8 rfl ?_
    have ho9 : () = o := Option.some.inj hrun
    have hP9 : va_P (dC, dI) cls (List.flatten ([] : List va_W)) H := by first | exact hP | (rw [← ho9]; exact hP)
    have hD9 : va_D A (List.flatten ([] : List va_W)) := by first | exact hD | (rw [← ho9]; exact hD)
    subst hQ
    exact W.vret hx hb hr (fun t ht hW => ⟨⟨(), rfl, trivial, ⟨by rw [ht]; exact hP9, va_K.moved hW.alike hK, hD9⟩⟩, hS.F ht⟩) hS.2.2 dJ0_checkIndex_df160_9
def fJ1_charAt_3b067 (p0m : Nat) (p0f : RI) (p1 : Int32) : Option Int32 := ((fJ0_checkIndex_df160 p1 (Int32.ofNat p0m)).bind fun (o_1 : Unit) => (if ixb p1 p0m = true then (if (((((p0f (nn p1)) &&& 255) : Int32).toUInt32 % 65536).toInt32) = ((((((p0f (nn p1)) &&& 255) : Int32).toUInt32 % 65536).toInt32) : Int32).toUInt32.toUInt16.toUInt32.toInt32 then some (((((p0f (nn p1)) &&& 255) : Int32).toUInt32 % 65536).toInt32) else none) else none))
set_option maxHeartbeats 16000000 in
set_option maxRecDepth 100000 in
theorem kJ1_charAt_3b067 {zs : ZS} (l : Launch) (dC : Nat → ClassId) (dI : Nat → Nat → Nat) (p0v : Nat) (p0m : Nat) (p0f : RI) (p1 : Int32) (sz : Nat) (o : Int32) (hrun : fJ1_charAt_3b067 p0m p0f p1 = some o) : Met l yJ1_charAt_3b067 (wz yJ1_charAt_3b067 cJ1_charAt_3b067 2 (Option.some Jvm.ClassFile.FieldType.char)) ({ frames := 2, cells := 0, slots := 0, locals := 43 } : Room) (va_Pc [.ref p0v, .int p1] (PRE (zA zs (bq9 p0v p0m p0f)) dC dI (List.flatten ([] : List va_W)) (List.flatten ([] : List (List (ClassId × FieldType)))) sz)) (va_Qi (fun (r : Int32) (_ : Unit) => r = o) (fun _ t => POST dC dI (List.flatten ([] : List va_W)) (List.flatten ([] : List (List (ClassId × FieldType)))) (va_A (List.flatten ([] : List va_W)) sz) t) (va_A (List.flatten ([] : List va_W)) sz)) 0 0 (va_A (List.flatten ([] : List va_W)) sz) := by
  refine Met.ofW (cc := cJ1_charAt_3b067) (maxL := 2) (ret := (Option.some Jvm.ClassFile.FieldType.char)) (by decide) rfl ?_
  intro p e s m args below meth c s₁ B hml hv
  obtain ⟨rfl, hsz, hP, hK, hD0, hE⟩ := hv
  have hx := B.exec
  have hb := B.bytes
  have hr := B.returns
  have hts0 := atoms_spec (ws := wz yJ1_charAt_3b067 cJ1_charAt_3b067 2 (Option.some Jvm.ClassFile.FieldType.char)) B.pre
  have hts : ∀ w ∈ gw, w.before _ s = true := fun w h => hts0 w (List.mem_cons_of_mem _ h)
  have hown : s.vm.findClass RJ1 = some m.cls := findClass_of_methodNamed B.named
  have hlocks := B.notSynchronized
  subst hsz
  have hD := hD0.self (sz := s.heap.size)
  refine gQ9 ?_
  intro Q hQ
  generalize hAe : va_A (List.flatten ([] : List va_W)) s.heap.size = A at hD hE hQ
  have hA : ∀ q : Nat, s.heap.size ≤ q → A q := fun q h => by rw [← hAe]; exact Or.inr h
  have hro := ENV.ex hE
  have hro_p0 := hro.2
  replace hro := hro.1
  have hS : va_S A s.heap s.heap [] := va_S.rf
  have hP : va_P (dC, dI) cls (List.flatten ([] : List va_W)) s.heap := hP
  have hl := lv_entry ([.ref p0v, .int p1]) (n := 2) (Nat.le_of_ble_eq_true rfl)
  rw [lg_entry_eq]
  generalize (lg_sl ([.ref p0v, .int p1]) ++ List.replicate (2 - (lg_sl ([.ref p0v, .int p1])).length) Slot.unset).toArray = ls at hl ⊢
  have hl : lv_has ls 2 [(0, .ref p0v), (1, .int p1)] := hl
  obtain ⟨H, hHe⟩ : ∃ H, H = s.heap := ⟨_, rfl⟩
  obtain ⟨locs, hle⟩ : ∃ locs : List Loc, locs = [] := ⟨_, rfl⟩
  rw [← hHe] at hP
  have hS : va_S A s.heap H locs := by rw [hHe, hle]; exact hS
  show W p l e ({ frames := 2, cells := 0, slots := 0, locals := 43 } : Room) s m ([.ref p0v, .int p1] : List Value).toArray below meth c s.heap [] 0 0 Q (F0 m 0 ls [])
  rw [← hle]
  refine wH9 hHe ?_
  unfold fJ1_charAt_3b067 at hrun
  refine lv_iload_n hx hb dJ1_charAt_3b067_0 rfl (lv_at hl 1 rfl) ?_
  refine lv_aload_n hx hb dJ1_charAt_3b067_1 rfl (lv_at hl 0 rfl) ?_
  refine va_tlen hx hb hro_p0.1 hS (v := (Int32.ofNat p0m)) rfl dJ1_charAt_3b067_2 ?_
  obtain ⟨o_1, hc_1, hrun⟩ := bnd9 hrun
  have hPx : va_P (dC, dI) cls ((List.flatten ([] : List va_W)) ++ (List.flatten ([] : List va_W))) H := vP_fa (vP_perm hP (bP (List.Perm.refl _)))
  have hDx : va_D A ((List.flatten ([] : List va_W)) ++ (List.flatten ([] : List va_W))) := vD_fa (vD_perm hD (bP (List.Perm.refl _)))
  have hKx : va_K (dC, dI) cls ((List.flatten ([] : List (List (ClassId × FieldType)))) ++ (List.flatten ([] : List (List (ClassId × FieldType))))) s := vK_fa (vK_perm hK (bP (List.Perm.refl _)))
  have hPc := vP_l hPx
  have hDc := vD_l hDx
  have hKc := vK_l hKx
  have hFc := vfree hDx hS hA
  refine va_callv (va_runS (As := [.int p1, .int (Int32.ofNat p0m)]) (rest := []) ⟨hx, hb, hml, hown, hts⟩ (kJ0_checkIndex_df160 l dC dI (p0 := p1) (p1 := (Int32.ofNat p0m)) (sz := _) (o := o_1) (hrun := hc_1)) (va_cwS 2 hts (gi_S qw1191 qw1192 qw1184 (gi_z qw1190)) rfl rfl rfl (by decide +kernel) ⟨Nat.le_of_ble_eq_true rfl, Nat.le_of_ble_eq_true rfl⟩) ⟨PRE.blind, PRE.of hE hS hFc hPc hKc hDc⟩ rfl rfl hl.1 rfl (lv_room (Nat.le_of_ble_eq_true rfl)) dJ1_charAt_3b067_3 ⟨(Nat.le_of_ble_eq_true rfl), (Nat.le_of_ble_eq_true rfl)⟩) hS (fun q _ h => hFc q h) hFc (fun u t H locs ht hvm hw hB hz1 hk1 hS => ?_)
  obtain ⟨b1, b2, b3⟩ := hB
  rw [ht] at b1
  obtain ⟨hP, hD, hK⟩ := JOINC (wc := (List.flatten ([] : List va_W))) (wr := (List.flatten ([] : List va_W))) (w1 := (List.flatten ([] : List va_W))) (t1 := (List.flatten ([] : List (List (ClassId × FieldType))))) hPx hDx hKx hk1 hFc b1 (va_K.moved hvm.symm b2) b3
  have hP : va_P (dC, dI) cls (List.flatten ([] : List va_W)) H := vP_perm (vP_fb hP) (bP (List.Perm.refl _))
  have hD : va_D A (List.flatten ([] : List va_W)) := vD_perm (vD_fb hD) (bP (List.Perm.refl _))
  have hK : va_K (dC, dI) cls (List.flatten ([] : List (List (ClassId × FieldType)))) s := vK_perm (vK_fb hK) (bP (List.Perm.refl _))
  refine lv_aload_n hx hb dJ1_charAt_3b067_6 rfl (lv_at hl 0 rfl) ?_
  refine lv_iload_n hx hb dJ1_charAt_3b067_7 rfl (lv_at hl 1 rfl) ?_
  obtain ⟨hq2, hrun⟩ := chk9 hrun
  refine va_tb hx hb hro_p0.1 hS (ixb_in hq2) (v := .int (p0f (nn p1))) rfl dJ1_charAt_3b067_8 ?_
  refine lv_sipush (v := 255) hx hb dJ1_charAt_3b067_9 (by decide) ?_
  refine lv_iand hx hb dJ1_charAt_3b067_12 ?_
  refine lv_i2c hx hb dJ1_charAt_3b067_13 rfl ?_
  obtain ⟨hz9, hrun⟩ := chk9 hrun
  have ho9 : (((((p0f (nn p1)) &&& 255) : Int32).toUInt32 % 65536).toInt32) = o := Option.some.inj hrun
  have hP9 : va_P (dC, dI) cls (List.flatten ([] : List va_W)) H := by first | exact hP | (rw [← ho9]; exact hP)
  have hD9 : va_D A (List.flatten ([] : List va_W)) := by first | exact hD | (rw [← ho9]; exact hD)
  subst hQ
  exact W.zret (v := (((((p0f (nn p1)) &&& 255) : Int32).toUInt32 % 65536).toInt32)) hx hb hr (cz9 hz9) (fun t ht hW => ⟨⟨(((((p0f (nn p1)) &&& 255) : Int32).toUInt32 % 65536).toInt32), (), rfl, (by rw [← ho9]), ⟨by rw [ht]; exact hP9, va_K.moved hW.alike hK, hD9⟩⟩, hS.F ht⟩) hS.2.2 dJ1_charAt_3b067_14
def fJ0_charAt_5068e (p0m : Nat) (p0f : RI) (p1 : Int32) : Option Int32 := (fJ0_isLatin1_aae02.bind fun (o_1 : Int32) => (if o_1 = 0 then none else ((fJ1_charAt_3b067 p0m p0f p1).bind fun (o_4 : Int32) => (if o_4 = (o_4 : Int32).toUInt32.toUInt16.toUInt32.toInt32 then some o_4 else none))))
set_option maxHeartbeats 16000000 in
set_option maxRecDepth 100000 in
theorem kJ0_charAt_5068e {zs : ZS} (l : Launch) (dC : Nat → ClassId) (dI : Nat → Nat → Nat) (p0s : Nat) (p0v : Nat) (p0m : Nat) (p0f : RI) (p1 : Int32) (sz : Nat) (o : Int32) (hrun : fJ0_charAt_5068e p0m p0f p1 = some o) : Met l yJ0_charAt_5068e (wz yJ0_charAt_5068e cJ0_charAt_5068e 2 (Option.some Jvm.ClassFile.FieldType.char)) ({ frames := 3, cells := 0, slots := 0, locals := 64 } : Room) (va_Pc [.ref p0s, .int p1] (PRE (zA zs (sq9 p0s p0v p0m p0f)) dC dI (List.flatten ([] : List va_W)) (List.flatten ([] : List (List (ClassId × FieldType)))) sz)) (va_Qi (fun (r : Int32) (_ : Unit) => r = o) (fun _ t => POST dC dI (List.flatten ([] : List va_W)) (List.flatten ([] : List (List (ClassId × FieldType)))) (va_A (List.flatten ([] : List va_W)) sz) t) (va_A (List.flatten ([] : List va_W)) sz)) 0 0 (va_A (List.flatten ([] : List va_W)) sz) := by
  refine Met.ofW (cc := cJ0_charAt_5068e) (maxL := 2) (ret := (Option.some Jvm.ClassFile.FieldType.char)) (by decide) rfl ?_
  intro p e s m args below meth c s₁ B hml hv
  obtain ⟨rfl, hsz, hP, hK, hD0, hE⟩ := hv
  have hx := B.exec
  have hb := B.bytes
  have hr := B.returns
  have hts0 := atoms_spec (ws := wz yJ0_charAt_5068e cJ0_charAt_5068e 2 (Option.some Jvm.ClassFile.FieldType.char)) B.pre
  have hts : ∀ w ∈ gw, w.before _ s = true := fun w h => hts0 w (List.mem_cons_of_mem _ h)
  have hown : s.vm.findClass RJ0 = some m.cls := findClass_of_methodNamed B.named
  have hlocks := B.notSynchronized
  subst hsz
  have hD := hD0.self (sz := s.heap.size)
  refine gQ9 ?_
  intro Q hQ
  generalize hAe : va_A (List.flatten ([] : List va_W)) s.heap.size = A at hD hE hQ
  have hA : ∀ q : Nat, s.heap.size ≤ q → A q := fun q h => by rw [← hAe]; exact Or.inr h
  have hro := ENV.ex hE
  have hro_p0 := hro.2
  replace hro := hro.1
  have hS : va_S A s.heap s.heap [] := va_S.rf
  have hP : va_P (dC, dI) cls (List.flatten ([] : List va_W)) s.heap := hP
  have hl := lv_entry ([.ref p0s, .int p1]) (n := 2) (Nat.le_of_ble_eq_true rfl)
  rw [lg_entry_eq]
  generalize (lg_sl ([.ref p0s, .int p1]) ++ List.replicate (2 - (lg_sl ([.ref p0s, .int p1])).length) Slot.unset).toArray = ls at hl ⊢
  have hl : lv_has ls 2 [(0, .ref p0s), (1, .int p1)] := hl
  obtain ⟨H, hHe⟩ : ∃ H, H = s.heap := ⟨_, rfl⟩
  obtain ⟨locs, hle⟩ : ∃ locs : List Loc, locs = [] := ⟨_, rfl⟩
  rw [← hHe] at hP
  have hS : va_S A s.heap H locs := by rw [hHe, hle]; exact hS
  show W p l e ({ frames := 3, cells := 0, slots := 0, locals := 64 } : Room) s m ([.ref p0s, .int p1] : List Value).toArray below meth c s.heap [] 0 0 Q (F0 m 0 ls [])
  rw [← hle]
  refine wH9 hHe ?_
  unfold fJ0_charAt_5068e at hrun
  refine lv_aload_n hx hb dJ0_charAt_5068e_0 rfl (lv_at hl 0 rfl) ?_
  obtain ⟨o_1, hc_1, hrun⟩ := bnd9 hrun
  have hPx : va_P (dC, dI) cls ((List.flatten ([] : List va_W)) ++ (List.flatten ([] : List va_W))) H := vP_fa (vP_perm hP (bP (List.Perm.refl _)))
  have hDx : va_D A ((List.flatten ([] : List va_W)) ++ (List.flatten ([] : List va_W))) := vD_fa (vD_perm hD (bP (List.Perm.refl _)))
  have hKx : va_K (dC, dI) cls ((List.flatten ([] : List (List (ClassId × FieldType)))) ++ (List.flatten ([] : List (List (ClassId × FieldType))))) s := vK_fa (vK_perm hK (bP (List.Perm.refl _)))
  have hPc := vP_l hPx
  have hDc := vD_l hDx
  have hKc := vK_l hKx
  have hFc := vfree hDx hS hA
  refine va_calli (va_runV (As := []) (rest := []) ⟨hx, hb, hml, hown, hts⟩ (kJ0_isLatin1_aae02 l dC dI (p0s := p0s) (p0v := p0v) (p0m := p0m) (p0f := p0f) (sz := _) (o := o_1) (hrun := hc_1)) (cwV 0 hts (gi_V qw1194 qw1195 qw1196 qw1184 (gi_z qw1193)) rfl rfl rfl (by decide +kernel) ⟨Nat.le_of_ble_eq_true rfl, Nat.le_of_ble_eq_true rfl⟩) ⟨PRE.blind, vk_rcv hro_p0 hS, PRE.of (ENV.add hE sq9_m hro_p0) hS hFc hPc hKc hDc⟩ rfl rfl hl.1 rfl (lv_room (Nat.le_of_ble_eq_true rfl)) dJ0_charAt_5068e_1 ⟨(Nat.le_of_ble_eq_true rfl), (Nat.le_of_ble_eq_true rfl)⟩) hS (fun q _ h => hFc q h) hFc (fun r2 u t H locs ht hvm hw hB hz1 hk1 hS => ?_)
  obtain ⟨b1, b2, b3⟩ := hB
  rw [ht] at b1
  obtain ⟨hP, hD, hK⟩ := JOINC (wc := (List.flatten ([] : List va_W))) (wr := (List.flatten ([] : List va_W))) (w1 := (List.flatten ([] : List va_W))) (t1 := (List.flatten ([] : List (List (ClassId × FieldType))))) hPx hDx hKx hk1 hFc b1 (va_K.moved hvm.symm b2) b3
  have hP : va_P (dC, dI) cls (List.flatten ([] : List va_W)) H := vP_perm (vP_fb hP) (bP (List.Perm.refl _))
  have hD : va_D A (List.flatten ([] : List va_W)) := vD_perm (vD_fb hD) (bP (List.Perm.refl _))
  have hK : va_K (dC, dI) cls (List.flatten ([] : List (List (ClassId × FieldType)))) s := vK_perm (vK_fb hK) (bP (List.Perm.refl _))
  obtain rfl : o_1 = r2 := hw.symm
  rcases br9 hrun with ⟨hc3, hrun⟩ | ⟨hc3, hrun⟩
  · refine lv_if_eq (tgt := 16) hx hb dJ0_charAt_5068e_4 (by decide) (fun _ => ?_) (fun c => absurd hc3 c)
    refine lv_aload_n hx hb dJ0_charAt_5068e_16 rfl (lv_at hl 0 rfl) ?_
    refine vk_getf hx hb hro_p0.2.2.1 hS hown (hts _ qw1179) (fun _ h9 => h9) dJ0_charAt_5068e_17 ?_
    refine lv_iload_n hx hb dJ0_charAt_5068e_20 rfl (lv_at hl 1 rfl) ?_
    cases hrun
  · refine lv_if_eq (tgt := 16) hx hb dJ0_charAt_5068e_4 (by decide) (fun c => absurd c hc3) (fun _ => ?_)
    refine lv_aload_n hx hb dJ0_charAt_5068e_7 rfl (lv_at hl 0 rfl) ?_
    refine vk_getf hx hb hro_p0.2.2.1 hS hown (hts _ qw1179) (fun _ h9 => h9) dJ0_charAt_5068e_8 ?_
    refine lv_iload_n hx hb dJ0_charAt_5068e_11 rfl (lv_at hl 1 rfl) ?_
    obtain ⟨o_4, hc_4, hrun⟩ := bnd9 hrun
    have hPx : va_P (dC, dI) cls ((List.flatten ([] : List va_W)) ++ (List.flatten ([] : List va_W))) H := vP_fa (vP_perm hP (bP (List.Perm.refl _)))
    have hDx : va_D A ((List.flatten ([] : List va_W)) ++ (List.flatten ([] : List va_W))) := vD_fa (vD_perm hD (bP (List.Perm.refl _)))
    have hKx : va_K (dC, dI) cls ((List.flatten ([] : List (List (ClassId × FieldType)))) ++ (List.flatten ([] : List (List (ClassId × FieldType))))) s := vK_fa (vK_perm hK (bP (List.Perm.refl _)))
    have hPc := vP_l hPx
    have hDc := vD_l hDx
    have hKc := vK_l hKx
    have hFc := vfree hDx hS hA
    refine va_calli (va_runS (As := [.ref p0v, .int p1]) (rest := []) ⟨hx, hb, hml, hown, hts⟩ (kJ1_charAt_3b067 l dC dI (p0v := p0v) (p0m := p0m) (p0f := p0f) (p1 := p1) (sz := _) (o := o_4) (hrun := hc_4)) (va_cwS 2 hts (gi_S qw1198 qw1199 qw1200 (gi_z qw1197)) rfl rfl rfl (by decide +kernel) ⟨Nat.le_of_ble_eq_true rfl, Nat.le_of_ble_eq_true rfl⟩) ⟨PRE.blind, PRE.of (ENV.add hE bq9_m (sq9_b hro_p0)) hS hFc hPc hKc hDc⟩ rfl rfl hl.1 rfl (lv_room (Nat.le_of_ble_eq_true rfl)) dJ0_charAt_5068e_12 ⟨(Nat.le_of_ble_eq_true rfl), (Nat.le_of_ble_eq_true rfl)⟩) hS (fun q _ h => hFc q h) hFc (fun r5 u t H locs ht hvm hw hB hz1 hk1 hS => ?_)
    obtain ⟨b1, b2, b3⟩ := hB
    rw [ht] at b1
    obtain ⟨hP, hD, hK⟩ := JOINC (wc := (List.flatten ([] : List va_W))) (wr := (List.flatten ([] : List va_W))) (w1 := (List.flatten ([] : List va_W))) (t1 := (List.flatten ([] : List (List (ClassId × FieldType))))) hPx hDx hKx hk1 hFc b1 (va_K.moved hvm.symm b2) b3
    have hP : va_P (dC, dI) cls (List.flatten ([] : List va_W)) H := vP_perm (vP_fb hP) (bP (List.Perm.refl _))
    have hD : va_D A (List.flatten ([] : List va_W)) := vD_perm (vD_fb hD) (bP (List.Perm.refl _))
    have hK : va_K (dC, dI) cls (List.flatten ([] : List (List (ClassId × FieldType)))) s := vK_perm (vK_fb hK) (bP (List.Perm.refl _))
    obtain rfl : o_4 = r5 := hw.symm
    obtain ⟨hz9, hrun⟩ := chk9 hrun
    have ho9 : o_4 = o := Option.some.inj hrun
    have hP9 : va_P (dC, dI) cls (List.flatten ([] : List va_W)) H := by first | exact hP | (rw [← ho9]; exact hP)
    have hD9 : va_D A (List.flatten ([] : List va_W)) := by first | exact hD | (rw [← ho9]; exact hD)
    subst hQ
    exact W.zret (v := o_4) hx hb hr (cz9 hz9) (fun t ht hW => ⟨⟨o_4, (), rfl, (by rw [← ho9]), ⟨by rw [ht]; exact hP9, va_K.moved hW.alike hK, hD9⟩⟩, hS.F ht⟩) hS.2.2 dJ0_charAt_5068e_15
def fJ0_getBytes_840e7_J43 (p1f_43 : RI) : Option RI := some p1f_43
def fJ0_getBytes_840e7 (p0m : Nat) (p0f : RI) (p1n : Nat) (p1f : RI) (p2 : Int32) (p3 : Int32) : Option RI := (fJ0_coder_7d493.bind fun (o_1 : Int32) => (if o_1 = p3 then (if cpk 0 (p2 <<< (p3 &&& 31)) (Int32.ofNat p0m) p0m p1n = true then (lt9 (va_cpy p0f p1f (nn 0) (nn (p2 <<< (p3 &&& 31))) (nn (Int32.ofNat p0m))) fun (f5 : RI) => (fJ0_getBytes_840e7_J43 f5)) else none) else none))
set_option maxHeartbeats 16000000 in
set_option maxRecDepth 100000 in
theorem kJ0_getBytes_840e7 {zs : ZS} (l : Launch) (dC : Nat → ClassId) (dI : Nat → Nat → Nat) (p0s : Nat) (p0v : Nat) (p0m : Nat) (p0f : RI) (p1a : Nat) (p1k : ClassId) (p1n : Nat) (p1f : RI) (p2 : Int32) (p3 : Int32) (sz : Nat) (o : RI) (hrun : fJ0_getBytes_840e7 p0m p0f p1n p1f p2 p3 = some o) : Met l yJ0_getBytes_840e7 (wz yJ0_getBytes_840e7 cJ0_getBytes_840e7 4 (Option.none : Option Jvm.ClassFile.FieldType)) ({ frames := 1, cells := 0, slots := 0, locals := 40 } : Room) (va_Pc [.ref p0s, .ref p1a, .int p2, .int p3] (PRE (zA zs (sq9 p0s p0v p0m p0f)) dC dI (List.flatten ([[(p1a, .inl (p1k, p1n, .inl p1f))]] : List va_W)) (List.flatten ([[(p1k, .byte)]] : List (List (ClassId × FieldType)))) sz)) (va_Qv (fun (_ : Unit) => True) (fun _ t => POST dC dI (List.flatten ([[(p1a, .inl (p1k, p1n, .inl o))]] : List va_W)) (List.flatten ([[(p1k, .byte)]] : List (List (ClassId × FieldType)))) (va_A (List.flatten ([[(p1a, .inl (p1k, p1n, .inl p1f))]] : List va_W)) sz) t) (va_A (List.flatten ([[(p1a, .inl (p1k, p1n, .inl p1f))]] : List va_W)) sz)) 0 0 (va_A (List.flatten ([[(p1a, .inl (p1k, p1n, .inl p1f))]] : List va_W)) sz) := by
  refine Met.ofW (cc := cJ0_getBytes_840e7) (maxL := 4) (ret := (Option.none : Option Jvm.ClassFile.FieldType)) (by decide) rfl ?_
  intro p e s m args below meth c s₁ B hml hv
  obtain ⟨rfl, hsz, hP, hK, hD0, hE⟩ := hv
  have hx := B.exec
  have hb := B.bytes
  have hr := B.returns
  have hts0 := atoms_spec (ws := wz yJ0_getBytes_840e7 cJ0_getBytes_840e7 4 (Option.none : Option Jvm.ClassFile.FieldType)) B.pre
  have hts : ∀ w ∈ gw, w.before _ s = true := fun w h => hts0 w (List.mem_cons_of_mem _ h)
  have hown : s.vm.findClass RJ0 = some m.cls := findClass_of_methodNamed B.named
  have hlocks := B.notSynchronized
  subst hsz
  have hD := hD0.self (sz := s.heap.size)
  refine gQ9 ?_
  intro Q hQ
  generalize hAe : va_A (List.flatten ([[(p1a, .inl (p1k, p1n, .inl p1f))]] : List va_W)) s.heap.size = A at hD hE hQ
  have hA : ∀ q : Nat, s.heap.size ≤ q → A q := fun q h => by rw [← hAe]; exact Or.inr h
  have hro := ENV.ex hE
  have hro_p0 := hro.2
  replace hro := hro.1
  have hS : va_S A s.heap s.heap [] := va_S.rf
  have hP : va_P (dC, dI) cls (List.flatten ([[(p1a, .inl (p1k, p1n, .inl p1f))]] : List va_W)) s.heap := hP
  have hl := lv_entry ([.ref p0s, .ref p1a, .int p2, .int p3]) (n := 4) (Nat.le_of_ble_eq_true rfl)
  rw [lg_entry_eq]
  generalize (lg_sl ([.ref p0s, .ref p1a, .int p2, .int p3]) ++ List.replicate (4 - (lg_sl ([.ref p0s, .ref p1a, .int p2, .int p3])).length) Slot.unset).toArray = ls at hl ⊢
  have hl : lv_has ls 4 [(0, .ref p0s), (1, .ref p1a), (2, .int p2), (3, .int p3)] := hl
  obtain ⟨H, hHe⟩ : ∃ H, H = s.heap := ⟨_, rfl⟩
  obtain ⟨locs, hle⟩ : ∃ locs : List Loc, locs = [] := ⟨_, rfl⟩
  rw [← hHe] at hP
  have hS : va_S A s.heap H locs := by rw [hHe, hle]; exact hS
  show W p l e ({ frames := 1, cells := 0, slots := 0, locals := 40 } : Room) s m ([.ref p0s, .ref p1a, .int p2, .int p3] : List Value).toArray below meth c s.heap [] 0 0 Q (F0 m 0 ls [])
  rw [← hle]
  refine wH9 hHe ?_
  unfold fJ0_getBytes_840e7 at hrun
  refine lv_aload_n hx hb dJ0_getBytes_840e7_0 rfl (lv_at hl 0 rfl) ?_
  obtain ⟨o_1, hc_1, hrun⟩ := bnd9 hrun
  have hPx : va_P (dC, dI) cls ((List.flatten ([] : List va_W)) ++ (List.flatten ([[(p1a, .inl (p1k, p1n, .inl p1f))]] : List va_W))) H := vP_fa (vP_perm hP (bP (List.Perm.refl _)))
  have hDx : va_D A ((List.flatten ([] : List va_W)) ++ (List.flatten ([[(p1a, .inl (p1k, p1n, .inl p1f))]] : List va_W))) := vD_fa (vD_perm hD (bP (List.Perm.refl _)))
  have hKx : va_K (dC, dI) cls ((List.flatten ([] : List (List (ClassId × FieldType)))) ++ (List.flatten ([[(p1k, .byte)]] : List (List (ClassId × FieldType))))) s := vK_fa (vK_perm hK (bP (List.Perm.refl _)))
  have hPc := vP_l hPx
  have hDc := vD_l hDx
  have hKc := vK_l hKx
  have hFc := vfree hDx hS hA
  refine va_calli (va_runV (As := []) (rest := []) ⟨hx, hb, hml, hown, hts⟩ (kJ0_coder_7d493 l dC dI (p0s := p0s) (p0v := p0v) (p0m := p0m) (p0f := p0f) (sz := _) (o := o_1) (hrun := hc_1)) (cwV 0 hts (gi_V qw1181 qw1182 qw1183 qw1184 (gi_z qw1180)) rfl rfl rfl (by decide +kernel) ⟨Nat.le_of_ble_eq_true rfl, Nat.le_of_ble_eq_true rfl⟩) ⟨PRE.blind, vk_rcv hro_p0 hS, PRE.of (ENV.add hE sq9_m hro_p0) hS hFc hPc hKc hDc⟩ rfl rfl hl.1 rfl (lv_room (Nat.le_of_ble_eq_true rfl)) dJ0_getBytes_840e7_1 ⟨(Nat.le_of_ble_eq_true rfl), (Nat.le_of_ble_eq_true rfl)⟩) hS (fun q _ h => hFc q h) hFc (fun r2 u t H locs ht hvm hw hB hz1 hk1 hS => ?_)
  obtain ⟨b1, b2, b3⟩ := hB
  rw [ht] at b1
  obtain ⟨hP, hD, hK⟩ := JOINC (wc := (List.flatten ([] : List va_W))) (wr := (List.flatten ([[(p1a, .inl (p1k, p1n, .inl p1f))]] : List va_W))) (w1 := (List.flatten ([] : List va_W))) (t1 := (List.flatten ([] : List (List (ClassId × FieldType))))) hPx hDx hKx hk1 hFc b1 (va_K.moved hvm.symm b2) b3
  have hP : va_P (dC, dI) cls (List.flatten ([[(p1a, .inl (p1k, p1n, .inl p1f))]] : List va_W)) H := vP_perm (vP_fb hP) (bP (List.Perm.refl _))
  have hD : va_D A (List.flatten ([[(p1a, .inl (p1k, p1n, .inl p1f))]] : List va_W)) := vD_perm (vD_fb hD) (bP (List.Perm.refl _))
  have hK : va_K (dC, dI) cls (List.flatten ([[(p1k, .byte)]] : List (List (ClassId × FieldType)))) s := vK_perm (vK_fb hK) (bP (List.Perm.refl _))
  obtain rfl : o_1 = r2 := hw.symm
  refine lv_iload_n hx hb dJ0_getBytes_840e7_4 rfl (lv_at hl 3 rfl) ?_
  have J43 : ∀ (p1f_43 : RI) (H : Heap) (locs : List Loc) (ls : Array Slot), (fJ0_getBytes_840e7_J43 p1f_43) = some o → va_P (dC, dI) cls (List.flatten ([[(p1a, .inl (p1k, p1n, .inl p1f_43))]] : List va_W)) H → va_D A (List.flatten ([[(p1a, .inl (p1k, p1n, .inl p1f_43))]] : List va_W)) → va_K (dC, dI) cls (List.flatten ([[(p1k, .byte)]] : List (List (ClassId × FieldType)))) s → va_S A s.heap H locs → lv_has ls 4 [] → W p l e ({ frames := 1, cells := 0, slots := 0, locals := 40 } : Room) s m ([.ref p0s, .ref p1a, .int p2, .int p3] : List Value).toArray below meth c H locs 0 0 Q (F0 m 43 ls []) := by
    intro p1f_43 H locs ls hrun hP hD hK hS hl 
    unfold fJ0_getBytes_840e7_J43 at hrun
    have ho9 : p1f_43 = o := Option.some.inj hrun
    have hP9 : va_P (dC, dI) cls (List.flatten ([[(p1a, .inl (p1k, p1n, .inl o))]] : List va_W)) H := by first | exact hP | (rw [← ho9]; exact hP)
    have hD9 : va_D A (List.flatten ([[(p1a, .inl (p1k, p1n, .inl o))]] : List va_W)) := by first | exact hD | (rw [← ho9]; exact hD)
    subst hQ
    exact W.vret hx hb hr (fun t ht hW => ⟨⟨(), rfl, trivial, ⟨by rw [ht]; exact hP9, va_K.moved hW.alike hK, hD9⟩⟩, hS.F ht⟩) hS.2.2 dJ0_getBytes_840e7_43
  rcases br9 hrun with ⟨hc3, hrun⟩ | ⟨hc3, hrun⟩
  · refine lv_icmp_ne (tgt := 28) hx hb dJ0_getBytes_840e7_5 (by decide) (fun c => absurd hc3 c) (fun _ => ?_)
    refine lv_aload_n hx hb dJ0_getBytes_840e7_8 rfl (lv_at hl 0 rfl) ?_
    refine vk_getf hx hb hro_p0.2.2.1 hS hown (hts _ qw1179) (fun _ h9 => h9) dJ0_getBytes_840e7_9 ?_
    refine lv_iconst (v := 0) hx hb dJ0_getBytes_840e7_12 (by decide) ?_
    refine lv_aload_n hx hb dJ0_getBytes_840e7_13 rfl (lv_at hl 1 rfl) ?_
    refine lv_iload_n hx hb dJ0_getBytes_840e7_14 rfl (lv_at hl 2 rfl) ?_
    refine lv_iload_n hx hb dJ0_getBytes_840e7_15 rfl (lv_at hl 3 rfl) ?_
    refine lv_ishl hx hb dJ0_getBytes_840e7_16 ?_
    refine lv_aload_n hx hb dJ0_getBytes_840e7_17 rfl (lv_at hl 0 rfl) ?_
    refine vk_getf hx hb hro_p0.2.2.1 hS hown (hts _ qw1179) (fun _ h9 => h9) dJ0_getBytes_840e7_18 ?_
    refine va_tlen hx hb hro_p0.2.2.2.1 hS (v := (Int32.ofNat p0m)) rfl dJ0_getBytes_840e7_21 ?_
    obtain ⟨hq4, hrun⟩ := chk9 hrun
    refine vk_copyt (sp := 0) (dp := (p2 <<< (p3 &&& 31))) (n := (Int32.ofNat p0m)) hx hb (hml.trans hl.1.symm) hown (hts _ qw1201) (hts _ qw103) (hts _ qw104) (hts _ qw105) hK hP hD hS hro_p0.2.2.2.1 0 0 rfl rfl (cpk_1 hq4) (cpk_2 hq4) (cpk_3 hq4) (cpk_4 hq4) (cpk_5 hq4) (fun i h9 => hro_p0.2.2.2.2.2 _ (Nat.lt_of_lt_of_le (Nat.add_lt_add_left h9 _) (cpk_4 hq4))) (Nat.le_of_ble_eq_true rfl) (Nat.le_of_ble_eq_true rfl) dJ0_getBytes_840e7_22 (fun H locs hP hD hS => ?_)
    have hP : va_P (dC, dI) cls (List.flatten ([[(p1a, .inl (p1k, p1n, .inl (va_cpy p0f p1f (nn 0) (nn (p2 <<< (p3 &&& 31))) (nn (Int32.ofNat p0m)))))]] : List va_W)) H := hP
    have hD : va_D A (List.flatten ([[(p1a, .inl (p1k, p1n, .inl (va_cpy p0f p1f (nn 0) (nn (p2 <<< (p3 &&& 31))) (nn (Int32.ofNat p0m)))))]] : List va_W)) := hD
    obtain ⟨f5, ef5, hrun⟩ := let9 hrun
    rw [← ef5] at hP hD
    refine lv_goto (tgt := 43) hx hb dJ0_getBytes_840e7_25 (by decide) ?_
    exact J43 f5 _ _ _ hrun hP hD hK hS (lv_sub hl [] rfl)
  · refine lv_icmp_ne (tgt := 28) hx hb dJ0_getBytes_840e7_5 (by decide) (fun _ => ?_) (fun c => absurd c hc3)
    refine lv_aload_n hx hb dJ0_getBytes_840e7_28 rfl (lv_at hl 0 rfl) ?_
    refine vk_getf hx hb hro_p0.2.2.1 hS hown (hts _ qw1179) (fun _ h9 => h9) dJ0_getBytes_840e7_29 ?_
    refine lv_iconst (v := 0) hx hb dJ0_getBytes_840e7_32 (by decide) ?_
    refine lv_aload_n hx hb dJ0_getBytes_840e7_33 rfl (lv_at hl 1 rfl) ?_
    refine lv_iload_n hx hb dJ0_getBytes_840e7_34 rfl (lv_at hl 2 rfl) ?_
    refine lv_aload_n hx hb dJ0_getBytes_840e7_35 rfl (lv_at hl 0 rfl) ?_
    refine vk_getf hx hb hro_p0.2.2.1 hS hown (hts _ qw1179) (fun _ h9 => h9) dJ0_getBytes_840e7_36 ?_
    refine va_tlen hx hb hro_p0.2.2.2.1 hS (v := (Int32.ofNat p0m)) rfl dJ0_getBytes_840e7_39 ?_
    cases hrun
def fJ5_isLatin1_aae02_J18 (y0_18 : Int32) : Option Int32 := (if y0_18 = 0 ∨ y0_18 = 1 then some y0_18 else none)
def fJ5_isLatin1_aae02_J17  : Option Int32 := (fJ5_isLatin1_aae02_J18 0)
def fJ5_isLatin1_aae02 (p0w : ST) : Option Int32 := (if (1 : Int32) = 0 then (fJ5_isLatin1_aae02_J17) else (if (p0w 0 1) = 0 then (fJ5_isLatin1_aae02_J18 1) else (fJ5_isLatin1_aae02_J17)))
set_option maxHeartbeats 16000000 in
set_option maxRecDepth 100000 in
theorem kJ5_isLatin1_aae02 {zs : ZS} (l : Launch) (dC : Nat → ClassId) (dI : Nat → Nat → Nat) (p0a : Nat → Nat) (p0k : Nat → ClassId) (p0n : Nat → Nat) (p0w : ST) (sz : Nat) (o : Int32) (hrun : fJ5_isLatin1_aae02 p0w = some o) : Met l yJ5_isLatin1_aae02 (wz yJ5_isLatin1_aae02 cJ5_isLatin1_aae02 1 (Option.some Jvm.ClassFile.FieldType.boolean)) ({ frames := 0, cells := 0, slots := 0, locals := 0 } : Room) (va_Pc [.ref (p0a 0)] (PRE zs dC dI (List.flatten ([(oJ4 (p0a 0) p0a p0k p0n p0w)] : List va_W)) (List.flatten ([(tJ4 p0k)] : List (List (ClassId × FieldType)))) sz)) (va_Qi (fun (r : Int32) (_ : Unit) => r = o) (fun _ t => POST dC dI (List.flatten ([(oJ4 (p0a 0) p0a p0k p0n p0w)] : List va_W)) (List.flatten ([(tJ4 p0k)] : List (List (ClassId × FieldType)))) (va_A (List.flatten ([(oJ4 (p0a 0) p0a p0k p0n p0w)] : List va_W)) sz) t) (va_A (List.flatten ([(oJ4 (p0a 0) p0a p0k p0n p0w)] : List va_W)) sz)) 0 0 (va_A (List.flatten ([(oJ4 (p0a 0) p0a p0k p0n p0w)] : List va_W)) sz) := by
  refine Met.ofW (cc := cJ5_isLatin1_aae02) (maxL := 1) (ret := (Option.some Jvm.ClassFile.FieldType.boolean)) (by decide) rfl ?_
  intro p e s m args below meth c s₁ B hml hv
  obtain ⟨rfl, hsz, hP, hK, hD0, hE⟩ := hv
  have hx := B.exec
  have hb := B.bytes
  have hr := B.returns
  have hts0 := atoms_spec (ws := wz yJ5_isLatin1_aae02 cJ5_isLatin1_aae02 1 (Option.some Jvm.ClassFile.FieldType.boolean)) B.pre
  have hts : ∀ w ∈ gw, w.before _ s = true := fun w h => hts0 w (List.mem_cons_of_mem _ h)
  have hown : s.vm.findClass RJ5 = some m.cls := findClass_of_methodNamed B.named
  have hlocks := B.notSynchronized
  subst hsz
  have hD := hD0.self (sz := s.heap.size)
  refine gQ9 ?_
  intro Q hQ
  generalize hAe : va_A (List.flatten ([(oJ4 (p0a 0) p0a p0k p0n p0w)] : List va_W)) s.heap.size = A at hD hE hQ
  have hA : ∀ q : Nat, s.heap.size ≤ q → A q := fun q h => by rw [← hAe]; exact Or.inr h
  have hS : va_S A s.heap s.heap [] := va_S.rf
  have hP : va_P (dC, dI) cls (List.flatten ([(oJ4 (p0a 0) p0a p0k p0n p0w)] : List va_W)) s.heap := hP
  have hl := lv_entry ([.ref (p0a 0)]) (n := 1) (Nat.le_of_ble_eq_true rfl)
  rw [lg_entry_eq]
  generalize (lg_sl ([.ref (p0a 0)]) ++ List.replicate (1 - (lg_sl ([.ref (p0a 0)])).length) Slot.unset).toArray = ls at hl ⊢
  have hl : lv_has ls 1 [(0, .ref (p0a 0))] := hl
  obtain ⟨H, hHe⟩ : ∃ H, H = s.heap := ⟨_, rfl⟩
  obtain ⟨locs, hle⟩ : ∃ locs : List Loc, locs = [] := ⟨_, rfl⟩
  rw [← hHe] at hP
  have hS : va_S A s.heap H locs := by rw [hHe, hle]; exact hS
  show W p l e ({ frames := 0, cells := 0, slots := 0, locals := 0 } : Room) s m ([.ref (p0a 0)] : List Value).toArray below meth c s.heap [] 0 0 Q (F0 m 0 ls [])
  rw [← hle]
  refine wH9 hHe ?_
  unfold fJ5_isLatin1_aae02 at hrun
  refine va_gets hx hb (ENV.cs hE) hS hown (hts _ qw1202) (fun _ h9 => h9) dJ5_isLatin1_aae02_0 ?_
  have J18 : ∀ (y0_18 : Int32) (H : Heap) (locs : List Loc) (ls : Array Slot), (fJ5_isLatin1_aae02_J18 y0_18) = some o → va_P (dC, dI) cls (List.flatten ([(oJ4 (p0a 0) p0a p0k p0n p0w)] : List va_W)) H → va_D A (List.flatten ([(oJ4 (p0a 0) p0a p0k p0n p0w)] : List va_W)) → va_K (dC, dI) cls (List.flatten ([(tJ4 p0k)] : List (List (ClassId × FieldType)))) s → va_S A s.heap H locs → lv_has ls 1 [] → W p l e ({ frames := 0, cells := 0, slots := 0, locals := 0 } : Room) s m ([.ref (p0a 0)] : List Value).toArray below meth c H locs 0 0 Q (F0 m 18 ls [.int y0_18]) := by
    intro y0_18 H locs ls hrun hP hD hK hS hl 
    unfold fJ5_isLatin1_aae02_J18 at hrun
    obtain ⟨hz9, hrun⟩ := chk9 hrun
    have ho9 : y0_18 = o := Option.some.inj hrun
    have hP9 : va_P (dC, dI) cls (List.flatten ([(oJ4 (p0a 0) p0a p0k p0n p0w)] : List va_W)) H := by first | exact hP | (rw [← ho9]; exact hP)
    have hD9 : va_D A (List.flatten ([(oJ4 (p0a 0) p0a p0k p0n p0w)] : List va_W)) := by first | exact hD | (rw [← ho9]; exact hD)
    subst hQ
    exact W.zret (v := y0_18) hx hb hr (bz9 hz9) (fun t ht hW => ⟨⟨y0_18, (), rfl, (by rw [← ho9]), ⟨by rw [ht]; exact hP9, va_K.moved hW.alike hK, hD9⟩⟩, hS.F ht⟩) hS.2.2 dJ5_isLatin1_aae02_18
  have J17 : ∀ (H : Heap) (locs : List Loc) (ls : Array Slot), (fJ5_isLatin1_aae02_J17) = some o → va_P (dC, dI) cls (List.flatten ([(oJ4 (p0a 0) p0a p0k p0n p0w)] : List va_W)) H → va_D A (List.flatten ([(oJ4 (p0a 0) p0a p0k p0n p0w)] : List va_W)) → va_K (dC, dI) cls (List.flatten ([(tJ4 p0k)] : List (List (ClassId × FieldType)))) s → va_S A s.heap H locs → lv_has ls 1 [] → W p l e ({ frames := 0, cells := 0, slots := 0, locals := 0 } : Room) s m ([.ref (p0a 0)] : List Value).toArray below meth c H locs 0 0 Q (F0 m 17 ls []) := by
    intro  H locs ls hrun hP hD hK hS hl 
    unfold fJ5_isLatin1_aae02_J17 at hrun
    refine lv_iconst (v := 0) hx hb dJ5_isLatin1_aae02_17 (by decide) ?_
    exact J18 0 _ _ _ hrun hP hD hK hS (lv_sub hl [] rfl)
  rcases br9 hrun with ⟨hc1, hrun⟩ | ⟨hc1, hrun⟩
  · refine lv_if_eq (tgt := 17) hx hb dJ5_isLatin1_aae02_3 (by decide) (fun _ => ?_) (fun c => absurd hc1 c)
    exact J17 _ _ _ hrun hP hD hK hS (lv_sub hl [] rfl)
  · refine lv_if_eq (tgt := 17) hx hb dJ5_isLatin1_aae02_3 (by decide) (fun c => absurd c hc1) (fun _ => ?_)
    refine lv_aload_n hx hb dJ5_isLatin1_aae02_6 rfl (lv_at hl 0 rfl) ?_
    refine va_get (D := (dC, dI)) (ci := 12) (v := .int (p0w 0 1)) (C := RJ4) (T := TJ4) (N := 4) hx hb hts i_J4 hown hK hP 0 rfl rfl 1 (by decide) (hts _ qw1203) (fun _ h9 => h9) rfl dJ5_isLatin1_aae02_7 ?_
    rcases br9 hrun with ⟨hc2, hrun⟩ | ⟨hc2, hrun⟩
    · refine lv_if_ne (tgt := 17) hx hb dJ5_isLatin1_aae02_10 (by decide) (fun c => absurd hc2 c) (fun _ => ?_)
      refine lv_iconst (v := 1) hx hb dJ5_isLatin1_aae02_13 (by decide) ?_
      refine lv_goto (tgt := 18) hx hb dJ5_isLatin1_aae02_14 (by decide) ?_
      exact J18 1 _ _ _ hrun hP hD hK hS (lv_sub hl [] rfl)
    · refine lv_if_ne (tgt := 17) hx hb dJ5_isLatin1_aae02_10 (by decide) (fun _ => ?_) (fun c => absurd c hc2)
      exact J17 _ _ _ hrun hP hD hK hS (lv_sub hl [] rfl)
def fJ8_hugeLength_7cf53 (p0 : Int32) (p1 : Int32) : Option Int32 := (if 0 ≤ (p0 + p1) then (if 2147483639 < (p0 + p1) then some (p0 + p1) else some 2147483639) else none)
set_option maxHeartbeats 16000000 in
set_option maxRecDepth 100000 in
theorem kJ8_hugeLength_7cf53 {zs : ZS} (l : Launch) (dC : Nat → ClassId) (dI : Nat → Nat → Nat) (p0 : Int32) (p1 : Int32) (sz : Nat) (o : Int32) (hrun : fJ8_hugeLength_7cf53 p0 p1 = some o) : Met l yJ8_hugeLength_7cf53 (wz yJ8_hugeLength_7cf53 cJ8_hugeLength_7cf53 3 (Option.some Jvm.ClassFile.FieldType.int)) ({ frames := 0, cells := 0, slots := 0, locals := 0 } : Room) (va_Pc [.int p0, .int p1] (PRE zs dC dI (List.flatten ([] : List va_W)) (List.flatten ([] : List (List (ClassId × FieldType)))) sz)) (va_Qi (fun (r : Int32) (_ : Unit) => r = o) (fun _ t => POST dC dI (List.flatten ([] : List va_W)) (List.flatten ([] : List (List (ClassId × FieldType)))) (va_A (List.flatten ([] : List va_W)) sz) t) (va_A (List.flatten ([] : List va_W)) sz)) 0 0 (va_A (List.flatten ([] : List va_W)) sz) := by
  refine Met.ofW (cc := cJ8_hugeLength_7cf53) (maxL := 3) (ret := (Option.some Jvm.ClassFile.FieldType.int)) (by decide) rfl ?_
  intro p e s m args below meth c s₁ B hml hv
  obtain ⟨rfl, hsz, hP, hK, hD0, hE⟩ := hv
  have hx := B.exec
  have hb := B.bytes
  have hr := B.returns
  have hts0 := atoms_spec (ws := wz yJ8_hugeLength_7cf53 cJ8_hugeLength_7cf53 3 (Option.some Jvm.ClassFile.FieldType.int)) B.pre
  have hts : ∀ w ∈ gw, w.before _ s = true := fun w h => hts0 w (List.mem_cons_of_mem _ h)
  have hown : s.vm.findClass RJ8 = some m.cls := findClass_of_methodNamed B.named
  have hlocks := B.notSynchronized
  subst hsz
  have hD := hD0.self (sz := s.heap.size)
  refine gQ9 ?_
  intro Q hQ
  generalize hAe : va_A (List.flatten ([] : List va_W)) s.heap.size = A at hD hE hQ
  have hA : ∀ q : Nat, s.heap.size ≤ q → A q := fun q h => by rw [← hAe]; exact Or.inr h
  have hS : va_S A s.heap s.heap [] := va_S.rf
  have hP : va_P (dC, dI) cls (List.flatten ([] : List va_W)) s.heap := hP
  have hl := lv_entry ([.int p0, .int p1]) (n := 3) (Nat.le_of_ble_eq_true rfl)
  rw [lg_entry_eq]
  generalize (lg_sl ([.int p0, .int p1]) ++ List.replicate (3 - (lg_sl ([.int p0, .int p1])).length) Slot.unset).toArray = ls at hl ⊢
  have hl : lv_has ls 3 [(0, .int p0), (1, .int p1)] := hl
  obtain ⟨H, hHe⟩ : ∃ H, H = s.heap := ⟨_, rfl⟩
  obtain ⟨locs, hle⟩ : ∃ locs : List Loc, locs = [] := ⟨_, rfl⟩
  rw [← hHe] at hP
  have hS : va_S A s.heap H locs := by rw [hHe, hle]; exact hS
  show W p l e ({ frames := 0, cells := 0, slots := 0, locals := 0 } : Room) s m ([.int p0, .int p1] : List Value).toArray below meth c s.heap [] 0 0 Q (F0 m 0 ls [])
  rw [← hle]
  refine wH9 hHe ?_
  unfold fJ8_hugeLength_7cf53 at hrun
  refine lv_iload_n hx hb dJ8_hugeLength_7cf53_0 rfl (lv_at hl 0 rfl) ?_
  refine lv_iload_n hx hb dJ8_hugeLength_7cf53_1 rfl (lv_at hl 1 rfl) ?_
  refine lv_iadd hx hb dJ8_hugeLength_7cf53_2 ?_
  refine lv_istore_n (lv' := [(2, .int (p0 + p1)), (0, .int p0), (1, .int p1)]) hx hb dJ8_hugeLength_7cf53_3 rfl hl (by decide) rfl (fun ls hl => ?_)
  refine lv_iload_n hx hb dJ8_hugeLength_7cf53_4 rfl (lv_at hl 0 rfl) ?_
  rcases br9 hrun with ⟨hc1, hrun⟩ | ⟨hc1, hrun⟩
  · refine lv_if_ge (tgt := 49) hx hb dJ8_hugeLength_7cf53_5 (by decide) (fun _ => ?_) (fun c => absurd hc1 c)
    refine lv_iload_n hx hb dJ8_hugeLength_7cf53_49 rfl (lv_at hl 0 rfl) ?_
    refine lv_ldc (v := 2147483639) hx hb hown (hts _ qw1205) dJ8_hugeLength_7cf53_50 ?_
    rcases br9 hrun with ⟨hc2, hrun⟩ | ⟨hc2, hrun⟩
    · refine lv_icmp_gt (tgt := 58) hx hb dJ8_hugeLength_7cf53_52 (by decide) (fun _ => ?_) (fun c => absurd hc2 c)
      refine lv_iload_n hx hb dJ8_hugeLength_7cf53_58 rfl (lv_at hl 0 rfl) ?_
      have ho9 : (p0 + p1) = o := Option.some.inj hrun
      have hP9 : va_P (dC, dI) cls (List.flatten ([] : List va_W)) H := by first | exact hP | (rw [← ho9]; exact hP)
      have hD9 : va_D A (List.flatten ([] : List va_W)) := by first | exact hD | (rw [← ho9]; exact hD)
      subst hQ
      exact W.iret (v := (p0 + p1)) hx hb hr (fun t ht hW => ⟨⟨(p0 + p1), (), rfl, (by rw [← ho9]), ⟨by rw [ht]; exact hP9, va_K.moved hW.alike hK, hD9⟩⟩, hS.F ht⟩) hS.2.2 dJ8_hugeLength_7cf53_59
    · refine lv_icmp_gt (tgt := 58) hx hb dJ8_hugeLength_7cf53_52 (by decide) (fun c => absurd c hc2) (fun _ => ?_)
      refine lv_ldc (v := 2147483639) hx hb hown (hts _ qw1205) dJ8_hugeLength_7cf53_55 ?_
      have ho9 : 2147483639 = o := Option.some.inj hrun
      have hP9 : va_P (dC, dI) cls (List.flatten ([] : List va_W)) H := by first | exact hP | (rw [← ho9]; exact hP)
      have hD9 : va_D A (List.flatten ([] : List va_W)) := by first | exact hD | (rw [← ho9]; exact hD)
      subst hQ
      exact W.iret (v := 2147483639) hx hb hr (fun t ht hW => ⟨⟨2147483639, (), rfl, (by rw [← ho9]), ⟨by rw [ht]; exact hP9, va_K.moved hW.alike hK, hD9⟩⟩, hS.F ht⟩) hS.2.2 dJ8_hugeLength_7cf53_57
  · refine lv_if_ge (tgt := 49) hx hb dJ8_hugeLength_7cf53_5 (by decide) (fun c => absurd c hc1) (fun _ => ?_)
    cases hrun
def fJ8_newLength_cabcc_J21 (p0 : Int32) (p1 : Int32) : Option Int32 := ((fJ8_hugeLength_7cf53 p0 p1).bind fun (o_1 : Int32) => some o_1)
def fJ8_newLength_cabcc (p0 : Int32) (p1 : Int32) (p2 : Int32) : Option Int32 := (if (p0 + (if p1 < p2 then p2 else p1)) ≤ 0 then (fJ8_newLength_cabcc_J21 p0 p1) else (if 2147483639 < (p0 + (if p1 < p2 then p2 else p1)) then (fJ8_newLength_cabcc_J21 p0 p1) else some (p0 + (if p1 < p2 then p2 else p1))))
set_option maxHeartbeats 16000000 in
set_option maxRecDepth 100000 in
theorem kJ8_newLength_cabcc {zs : ZS} (l : Launch) (dC : Nat → ClassId) (dI : Nat → Nat → Nat) (p0 : Int32) (p1 : Int32) (p2 : Int32) (sz : Nat) (o : Int32) (hrun : fJ8_newLength_cabcc p0 p1 p2 = some o) : Met l yJ8_newLength_cabcc (wz yJ8_newLength_cabcc cJ8_newLength_cabcc 4 (Option.some Jvm.ClassFile.FieldType.int)) ({ frames := 1, cells := 0, slots := 0, locals := 22 } : Room) (va_Pc [.int p0, .int p1, .int p2] (PRE zs dC dI (List.flatten ([] : List va_W)) (List.flatten ([] : List (List (ClassId × FieldType)))) sz)) (va_Qi (fun (r : Int32) (_ : Unit) => r = o) (fun _ t => POST dC dI (List.flatten ([] : List va_W)) (List.flatten ([] : List (List (ClassId × FieldType)))) (va_A (List.flatten ([] : List va_W)) sz) t) (va_A (List.flatten ([] : List va_W)) sz)) 0 0 (va_A (List.flatten ([] : List va_W)) sz) := by
  refine Met.ofW (cc := cJ8_newLength_cabcc) (maxL := 4) (ret := (Option.some Jvm.ClassFile.FieldType.int)) (by decide) rfl ?_
  intro p e s m args below meth c s₁ B hml hv
  obtain ⟨rfl, hsz, hP, hK, hD0, hE⟩ := hv
  have hx := B.exec
  have hb := B.bytes
  have hr := B.returns
  have hts0 := atoms_spec (ws := wz yJ8_newLength_cabcc cJ8_newLength_cabcc 4 (Option.some Jvm.ClassFile.FieldType.int)) B.pre
  have hts : ∀ w ∈ gw, w.before _ s = true := fun w h => hts0 w (List.mem_cons_of_mem _ h)
  have hown : s.vm.findClass RJ8 = some m.cls := findClass_of_methodNamed B.named
  have hlocks := B.notSynchronized
  subst hsz
  have hD := hD0.self (sz := s.heap.size)
  refine gQ9 ?_
  intro Q hQ
  generalize hAe : va_A (List.flatten ([] : List va_W)) s.heap.size = A at hD hE hQ
  have hA : ∀ q : Nat, s.heap.size ≤ q → A q := fun q h => by rw [← hAe]; exact Or.inr h
  have hS : va_S A s.heap s.heap [] := va_S.rf
  have hP : va_P (dC, dI) cls (List.flatten ([] : List va_W)) s.heap := hP
  have hl := lv_entry ([.int p0, .int p1, .int p2]) (n := 4) (Nat.le_of_ble_eq_true rfl)
  rw [lg_entry_eq]
  generalize (lg_sl ([.int p0, .int p1, .int p2]) ++ List.replicate (4 - (lg_sl ([.int p0, .int p1, .int p2])).length) Slot.unset).toArray = ls at hl ⊢
  have hl : lv_has ls 4 [(0, .int p0), (1, .int p1), (2, .int p2)] := hl
  obtain ⟨H, hHe⟩ : ∃ H, H = s.heap := ⟨_, rfl⟩
  obtain ⟨locs, hle⟩ : ∃ locs : List Loc, locs = [] := ⟨_, rfl⟩
  rw [← hHe] at hP
  have hS : va_S A s.heap H locs := by rw [hHe, hle]; exact hS
  show W p l e ({ frames := 1, cells := 0, slots := 0, locals := 22 } : Room) s m ([.int p0, .int p1, .int p2] : List Value).toArray below meth c s.heap [] 0 0 Q (F0 m 0 ls [])
  rw [← hle]
  refine wH9 hHe ?_
  unfold fJ8_newLength_cabcc at hrun
  refine lv_iload_n hx hb dJ8_newLength_cabcc_0 rfl (lv_at hl 0 rfl) ?_
  refine lv_iload_n hx hb dJ8_newLength_cabcc_1 rfl (lv_at hl 1 rfl) ?_
  refine lv_iload_n hx hb dJ8_newLength_cabcc_2 rfl (lv_at hl 2 rfl) ?_
  refine va_mmax hx hb (hml.trans hl.1.symm) hown (hts _ qw1204) (hts _ qw359) (hts _ qw100) (hts _ qw360) (Nat.le_of_ble_eq_true rfl) (Nat.le_of_ble_eq_true rfl) (Nat.le_of_ble_eq_true rfl) (Nat.le_of_ble_eq_true rfl) dJ8_newLength_cabcc_3 ?_
  refine lv_iadd hx hb dJ8_newLength_cabcc_6 ?_
  refine lv_istore_n (lv' := [(3, .int (p0 + (if p1 < p2 then p2 else p1))), (0, .int p0), (1, .int p1), (2, .int p2)]) hx hb dJ8_newLength_cabcc_7 rfl hl (by decide) rfl (fun ls hl => ?_)
  refine lv_iconst (v := 0) hx hb dJ8_newLength_cabcc_8 (by decide) ?_
  refine lv_iload_n hx hb dJ8_newLength_cabcc_9 rfl (lv_at hl 0 rfl) ?_
  have J21 : ∀ (H : Heap) (locs : List Loc) (ls : Array Slot), (fJ8_newLength_cabcc_J21 p0 p1) = some o → va_P (dC, dI) cls (List.flatten ([] : List va_W)) H → va_D A (List.flatten ([] : List va_W)) → va_K (dC, dI) cls (List.flatten ([] : List (List (ClassId × FieldType)))) s → va_S A s.heap H locs → lv_has ls 4 [(0, .int p0), (1, .int p1)] → W p l e ({ frames := 1, cells := 0, slots := 0, locals := 22 } : Room) s m ([.int p0, .int p1, .int p2] : List Value).toArray below meth c H locs 0 0 Q (F0 m 21 ls []) := by
    intro  H locs ls hrun hP hD hK hS hl 
    unfold fJ8_newLength_cabcc_J21 at hrun
    refine lv_iload_n hx hb dJ8_newLength_cabcc_21 rfl (lv_at hl 0 rfl) ?_
    refine lv_iload_n hx hb dJ8_newLength_cabcc_22 rfl (lv_at hl 1 rfl) ?_
    obtain ⟨o_1, hc_1, hrun⟩ := bnd9 hrun
    have hPx : va_P (dC, dI) cls ((List.flatten ([] : List va_W)) ++ (List.flatten ([] : List va_W))) H := vP_fa (vP_perm hP (bP (List.Perm.refl _)))
    have hDx : va_D A ((List.flatten ([] : List va_W)) ++ (List.flatten ([] : List va_W))) := vD_fa (vD_perm hD (bP (List.Perm.refl _)))
    have hKx : va_K (dC, dI) cls ((List.flatten ([] : List (List (ClassId × FieldType)))) ++ (List.flatten ([] : List (List (ClassId × FieldType))))) s := vK_fa (vK_perm hK (bP (List.Perm.refl _)))
    have hPc := vP_l hPx
    have hDc := vD_l hDx
    have hKc := vK_l hKx
    have hFc := vfree hDx hS hA
    refine va_calli (va_runS (As := [.int p0, .int p1]) (rest := []) ⟨hx, hb, hml, hown, hts⟩ (kJ8_hugeLength_7cf53 l dC dI (p0 := p0) (p1 := p1) (sz := _) (o := o_1) (hrun := hc_1)) (va_cwS 2 hts (gi_S qw1207 qw1208 qw1209 (gi_z qw1206)) rfl rfl rfl (by decide +kernel) ⟨Nat.le_of_ble_eq_true rfl, Nat.le_of_ble_eq_true rfl⟩) ⟨PRE.blind, PRE.of hE hS hFc hPc hKc hDc⟩ rfl rfl hl.1 rfl (lv_room (Nat.le_of_ble_eq_true rfl)) dJ8_newLength_cabcc_23 ⟨(Nat.le_of_ble_eq_true rfl), (Nat.le_of_ble_eq_true rfl)⟩) hS (fun q _ h => hFc q h) hFc (fun r2 u t H locs ht hvm hw hB hz1 hk1 hS => ?_)
    obtain ⟨b1, b2, b3⟩ := hB
    rw [ht] at b1
    obtain ⟨hP, hD, hK⟩ := JOINC (wc := (List.flatten ([] : List va_W))) (wr := (List.flatten ([] : List va_W))) (w1 := (List.flatten ([] : List va_W))) (t1 := (List.flatten ([] : List (List (ClassId × FieldType))))) hPx hDx hKx hk1 hFc b1 (va_K.moved hvm.symm b2) b3
    have hP : va_P (dC, dI) cls (List.flatten ([] : List va_W)) H := vP_perm (vP_fb hP) (bP (List.Perm.refl _))
    have hD : va_D A (List.flatten ([] : List va_W)) := vD_perm (vD_fb hD) (bP (List.Perm.refl _))
    have hK : va_K (dC, dI) cls (List.flatten ([] : List (List (ClassId × FieldType)))) s := vK_perm (vK_fb hK) (bP (List.Perm.refl _))
    obtain rfl : o_1 = r2 := hw.symm
    have ho9 : o_1 = o := Option.some.inj hrun
    have hP9 : va_P (dC, dI) cls (List.flatten ([] : List va_W)) H := by first | exact hP | (rw [← ho9]; exact hP)
    have hD9 : va_D A (List.flatten ([] : List va_W)) := by first | exact hD | (rw [← ho9]; exact hD)
    subst hQ
    exact W.iret (v := o_1) hx hb hr (fun t ht hW => ⟨⟨o_1, (), rfl, (by rw [← ho9]), ⟨by rw [ht]; exact hP9, va_K.moved hW.alike hK, hD9⟩⟩, hS.F ht⟩) hS.2.2 dJ8_newLength_cabcc_26
  rcases br9 hrun with ⟨hc3, hrun⟩ | ⟨hc3, hrun⟩
  · refine lv_icmp_ge (tgt := 21) hx hb dJ8_newLength_cabcc_10 (by decide) (fun _ => ?_) (fun c => absurd hc3 c)
    exact J21 _ _ _ hrun hP hD hK hS (lv_sub hl [1, 2] rfl)
  · refine lv_icmp_ge (tgt := 21) hx hb dJ8_newLength_cabcc_10 (by decide) (fun c => absurd c hc3) (fun _ => ?_)
    refine lv_iload_n hx hb dJ8_newLength_cabcc_13 rfl (lv_at hl 0 rfl) ?_
    refine lv_ldc (v := 2147483639) hx hb hown (hts _ qw1205) dJ8_newLength_cabcc_14 ?_
    rcases br9 hrun with ⟨hc4, hrun⟩ | ⟨hc4, hrun⟩
    · refine lv_icmp_gt (tgt := 21) hx hb dJ8_newLength_cabcc_16 (by decide) (fun _ => ?_) (fun c => absurd hc4 c)
      exact J21 _ _ _ hrun hP hD hK hS (lv_sub hl [1, 2] rfl)
    · refine lv_icmp_gt (tgt := 21) hx hb dJ8_newLength_cabcc_16 (by decide) (fun c => absurd c hc4) (fun _ => ?_)
      refine lv_iload_n hx hb dJ8_newLength_cabcc_19 rfl (lv_at hl 0 rfl) ?_
      have ho9 : (p0 + (if p1 < p2 then p2 else p1)) = o := Option.some.inj hrun
      have hP9 : va_P (dC, dI) cls (List.flatten ([] : List va_W)) H := by first | exact hP | (rw [← ho9]; exact hP)
      have hD9 : va_D A (List.flatten ([] : List va_W)) := by first | exact hD | (rw [← ho9]; exact hD)
      subst hQ
      exact W.iret (v := (p0 + (if p1 < p2 then p2 else p1))) hx hb hr (fun t ht hW => ⟨⟨(p0 + (if p1 < p2 then p2 else p1)), (), rfl, (by rw [← ho9]), ⟨by rw [ht]; exact hP9, va_K.moved hW.alike hK, hD9⟩⟩, hS.F ht⟩) hS.2.2 dJ8_newLength_cabcc_20
def fJ5_newCapacity_0f7a4 (p0n : Nat → Nat) (p0w : ST) (p1 : Int32) : Option Int32 := ((fJ8_newLength_cabcc (Int32.ofNat (p0n 1)) ((p1 <<< ((p0w 0 1) &&& 31)) - (Int32.ofNat (p0n 1))) ((Int32.ofNat (p0n 1)) + (2 <<< ((p0w 0 1) &&& 31)))).bind fun (o_1 : Int32) => (if o_1 = 2147483647 then none else some (o_1 >>> ((p0w 0 1) &&& 31))))
set_option maxHeartbeats 16000000 in
set_option maxRecDepth 100000 in
theorem kJ5_newCapacity_0f7a4 {zs : ZS} (l : Launch) (dC : Nat → ClassId) (dI : Nat → Nat → Nat) (p0a : Nat → Nat) (p0k : Nat → ClassId) (p0n : Nat → Nat) (p0w : ST) (p1 : Int32) (sz : Nat) (o : Int32) (hrun : fJ5_newCapacity_0f7a4 p0n p0w p1 = some o) : Met l yJ5_newCapacity_0f7a4 (wz yJ5_newCapacity_0f7a4 cJ5_newCapacity_0f7a4 6 (Option.some Jvm.ClassFile.FieldType.int)) ({ frames := 2, cells := 0, slots := 0, locals := 45 } : Room) (va_Pc [.ref (p0a 0), .int p1] (PRE zs dC dI (List.flatten ([(oJ4 (p0a 0) p0a p0k p0n p0w)] : List va_W)) (List.flatten ([(tJ4 p0k)] : List (List (ClassId × FieldType)))) sz)) (va_Qi (fun (r : Int32) (_ : Unit) => r = o) (fun _ t => POST dC dI (List.flatten ([(oJ4 (p0a 0) p0a p0k p0n p0w)] : List va_W)) (List.flatten ([(tJ4 p0k)] : List (List (ClassId × FieldType)))) (va_A (List.flatten ([(oJ4 (p0a 0) p0a p0k p0n p0w)] : List va_W)) sz) t) (va_A (List.flatten ([(oJ4 (p0a 0) p0a p0k p0n p0w)] : List va_W)) sz)) 0 0 (va_A (List.flatten ([(oJ4 (p0a 0) p0a p0k p0n p0w)] : List va_W)) sz) := by
  refine Met.ofW (cc := cJ5_newCapacity_0f7a4) (maxL := 6) (ret := (Option.some Jvm.ClassFile.FieldType.int)) (by decide) rfl ?_
  intro p e s m args below meth c s₁ B hml hv
  obtain ⟨rfl, hsz, hP, hK, hD0, hE⟩ := hv
  have hx := B.exec
  have hb := B.bytes
  have hr := B.returns
  have hts0 := atoms_spec (ws := wz yJ5_newCapacity_0f7a4 cJ5_newCapacity_0f7a4 6 (Option.some Jvm.ClassFile.FieldType.int)) B.pre
  have hts : ∀ w ∈ gw, w.before _ s = true := fun w h => hts0 w (List.mem_cons_of_mem _ h)
  have hown : s.vm.findClass RJ5 = some m.cls := findClass_of_methodNamed B.named
  have hlocks := B.notSynchronized
  subst hsz
  have hD := hD0.self (sz := s.heap.size)
  refine gQ9 ?_
  intro Q hQ
  generalize hAe : va_A (List.flatten ([(oJ4 (p0a 0) p0a p0k p0n p0w)] : List va_W)) s.heap.size = A at hD hE hQ
  have hA : ∀ q : Nat, s.heap.size ≤ q → A q := fun q h => by rw [← hAe]; exact Or.inr h
  have hS : va_S A s.heap s.heap [] := va_S.rf
  have hP : va_P (dC, dI) cls (List.flatten ([(oJ4 (p0a 0) p0a p0k p0n p0w)] : List va_W)) s.heap := hP
  have hl := lv_entry ([.ref (p0a 0), .int p1]) (n := 6) (Nat.le_of_ble_eq_true rfl)
  rw [lg_entry_eq]
  generalize (lg_sl ([.ref (p0a 0), .int p1]) ++ List.replicate (6 - (lg_sl ([.ref (p0a 0), .int p1])).length) Slot.unset).toArray = ls at hl ⊢
  have hl : lv_has ls 6 [(0, .ref (p0a 0)), (1, .int p1)] := hl
  obtain ⟨H, hHe⟩ : ∃ H, H = s.heap := ⟨_, rfl⟩
  obtain ⟨locs, hle⟩ : ∃ locs : List Loc, locs = [] := ⟨_, rfl⟩
  rw [← hHe] at hP
  have hS : va_S A s.heap H locs := by rw [hHe, hle]; exact hS
  show W p l e ({ frames := 2, cells := 0, slots := 0, locals := 45 } : Room) s m ([.ref (p0a 0), .int p1] : List Value).toArray below meth c s.heap [] 0 0 Q (F0 m 0 ls [])
  rw [← hle]
  refine wH9 hHe ?_
  unfold fJ5_newCapacity_0f7a4 at hrun
  refine lv_aload_n hx hb dJ5_newCapacity_0f7a4_0 rfl (lv_at hl 0 rfl) ?_
  refine va_get (D := (dC, dI)) (ci := 12) (v := .ref (p0a 1)) (C := RJ4) (T := TJ4) (N := 4) hx hb hts i_J4 hown hK hP 0 rfl rfl 0 (by decide) (hts _ qw1210) (fun _ h9 => h9) rfl dJ5_newCapacity_0f7a4_1 ?_
  refine va_alen (v := (Int32.ofNat (p0n 1))) hx hb hK hP 1 0 rfl rfl rfl dJ5_newCapacity_0f7a4_4 ?_
  refine lv_istore_n (lv' := [(2, .int (Int32.ofNat (p0n 1))), (0, .ref (p0a 0)), (1, .int p1)]) hx hb dJ5_newCapacity_0f7a4_5 rfl hl (by decide) rfl (fun ls hl => ?_)
  refine lv_iload_n hx hb dJ5_newCapacity_0f7a4_6 rfl (lv_at hl 2 rfl) ?_
  refine lv_aload_n hx hb dJ5_newCapacity_0f7a4_7 rfl (lv_at hl 1 rfl) ?_
  refine va_get (D := (dC, dI)) (ci := 12) (v := .int (p0w 0 1)) (C := RJ4) (T := TJ4) (N := 4) hx hb hts i_J4 hown hK hP 0 rfl rfl 1 (by decide) (hts _ qw1203) (fun _ h9 => h9) rfl dJ5_newCapacity_0f7a4_8 ?_
  refine lv_ishl hx hb dJ5_newCapacity_0f7a4_11 ?_
  refine lv_istore_n (lv' := [(3, .int (p1 <<< ((p0w 0 1) &&& 31))), (2, .int (Int32.ofNat (p0n 1))), (0, .ref (p0a 0)), (1, .int p1)]) hx hb dJ5_newCapacity_0f7a4_12 rfl hl (by decide) rfl (fun ls hl => ?_)
  refine lv_iload_n hx hb dJ5_newCapacity_0f7a4_13 rfl (lv_at hl 0 rfl) ?_
  refine lv_iload_n hx hb dJ5_newCapacity_0f7a4_14 rfl (lv_at hl 1 rfl) ?_
  refine lv_isub hx hb dJ5_newCapacity_0f7a4_15 ?_
  refine lv_istore (lv' := [(4, .int ((p1 <<< ((p0w 0 1) &&& 31)) - (Int32.ofNat (p0n 1)))), (3, .int (p1 <<< ((p0w 0 1) &&& 31))), (2, .int (Int32.ofNat (p0n 1))), (0, .ref (p0a 0)), (1, .int p1)]) hx hb dJ5_newCapacity_0f7a4_16 hl (by decide) rfl (fun ls hl => ?_)
  refine lv_iload_n hx hb dJ5_newCapacity_0f7a4_18 rfl (lv_at hl 2 rfl) ?_
  refine lv_iload hx hb dJ5_newCapacity_0f7a4_19 (lv_at hl 0 rfl) ?_
  refine lv_iload_n hx hb dJ5_newCapacity_0f7a4_21 rfl (lv_at hl 2 rfl) ?_
  refine lv_iconst (v := 2) hx hb dJ5_newCapacity_0f7a4_22 (by decide) ?_
  refine lv_aload_n hx hb dJ5_newCapacity_0f7a4_23 rfl (lv_at hl 3 rfl) ?_
  refine va_get (D := (dC, dI)) (ci := 12) (v := .int (p0w 0 1)) (C := RJ4) (T := TJ4) (N := 4) hx hb hts i_J4 hown hK hP 0 rfl rfl 1 (by decide) (hts _ qw1203) (fun _ h9 => h9) rfl dJ5_newCapacity_0f7a4_24 ?_
  refine lv_ishl hx hb dJ5_newCapacity_0f7a4_27 ?_
  refine lv_iadd hx hb dJ5_newCapacity_0f7a4_28 ?_
  obtain ⟨o_1, hc_1, hrun⟩ := bnd9 hrun
  have hPx : va_P (dC, dI) cls ((List.flatten ([] : List va_W)) ++ (List.flatten ([(oJ4 (p0a 0) p0a p0k p0n p0w)] : List va_W))) H := vP_fa (vP_perm hP (bP (List.Perm.refl _)))
  have hDx : va_D A ((List.flatten ([] : List va_W)) ++ (List.flatten ([(oJ4 (p0a 0) p0a p0k p0n p0w)] : List va_W))) := vD_fa (vD_perm hD (bP (List.Perm.refl _)))
  have hKx : va_K (dC, dI) cls ((List.flatten ([] : List (List (ClassId × FieldType)))) ++ (List.flatten ([(tJ4 p0k)] : List (List (ClassId × FieldType))))) s := vK_fa (vK_perm hK (bP (List.Perm.refl _)))
  have hPc := vP_l hPx
  have hDc := vD_l hDx
  have hKc := vK_l hKx
  have hFc := vfree hDx hS hA
  refine va_calli (va_runS (As := [.int (Int32.ofNat (p0n 1)), .int ((p1 <<< ((p0w 0 1) &&& 31)) - (Int32.ofNat (p0n 1))), .int ((Int32.ofNat (p0n 1)) + (2 <<< ((p0w 0 1) &&& 31)))]) (rest := []) ⟨hx, hb, hml, hown, hts⟩ (kJ8_newLength_cabcc l dC dI (p0 := (Int32.ofNat (p0n 1))) (p1 := ((p1 <<< ((p0w 0 1) &&& 31)) - (Int32.ofNat (p0n 1)))) (p2 := ((Int32.ofNat (p0n 1)) + (2 <<< ((p0w 0 1) &&& 31)))) (sz := _) (o := o_1) (hrun := hc_1)) (va_cwS 3 hts (gi_S qw1212 qw1213 qw1209 (gi_z qw1211)) rfl rfl rfl (by decide +kernel) ⟨Nat.le_of_ble_eq_true rfl, Nat.le_of_ble_eq_true rfl⟩) ⟨PRE.blind, PRE.of hE hS hFc hPc hKc hDc⟩ rfl rfl hl.1 rfl (lv_room (Nat.le_of_ble_eq_true rfl)) dJ5_newCapacity_0f7a4_29 ⟨(Nat.le_of_ble_eq_true rfl), (Nat.le_of_ble_eq_true rfl)⟩) hS (fun q _ h => hFc q h) hFc (fun r2 u t H locs ht hvm hw hB hz1 hk1 hS => ?_)
  obtain ⟨b1, b2, b3⟩ := hB
  rw [ht] at b1
  obtain ⟨hP, hD, hK⟩ := JOINC (wc := (List.flatten ([] : List va_W))) (wr := (List.flatten ([(oJ4 (p0a 0) p0a p0k p0n p0w)] : List va_W))) (w1 := (List.flatten ([] : List va_W))) (t1 := (List.flatten ([] : List (List (ClassId × FieldType))))) hPx hDx hKx hk1 hFc b1 (va_K.moved hvm.symm b2) b3
  have hP : va_P (dC, dI) cls (List.flatten ([(oJ4 (p0a 0) p0a p0k p0n p0w)] : List va_W)) H := vP_perm (vP_fb hP) (bP (List.Perm.refl _))
  have hD : va_D A (List.flatten ([(oJ4 (p0a 0) p0a p0k p0n p0w)] : List va_W)) := vD_perm (vD_fb hD) (bP (List.Perm.refl _))
  have hK : va_K (dC, dI) cls (List.flatten ([(tJ4 p0k)] : List (List (ClassId × FieldType)))) s := vK_perm (vK_fb hK) (bP (List.Perm.refl _))
  obtain rfl : o_1 = r2 := hw.symm
  refine lv_istore (lv' := [(5, .int o_1), (4, .int ((p1 <<< ((p0w 0 1) &&& 31)) - (Int32.ofNat (p0n 1)))), (3, .int (p1 <<< ((p0w 0 1) &&& 31))), (2, .int (Int32.ofNat (p0n 1))), (0, .ref (p0a 0)), (1, .int p1)]) hx hb dJ5_newCapacity_0f7a4_32 hl (by decide) rfl (fun ls hl => ?_)
  refine lv_iload hx hb dJ5_newCapacity_0f7a4_34 (lv_at hl 0 rfl) ?_
  refine lv_ldc (v := 2147483647) hx hb hown (hts _ qw1214) dJ5_newCapacity_0f7a4_36 ?_
  rcases br9 hrun with ⟨hc3, hrun⟩ | ⟨hc3, hrun⟩
  · refine lv_icmp_ne (tgt := 51) hx hb dJ5_newCapacity_0f7a4_38 (by decide) (fun c => absurd hc3 c) (fun _ => ?_)
    cases hrun
  · refine lv_icmp_ne (tgt := 51) hx hb dJ5_newCapacity_0f7a4_38 (by decide) (fun _ => ?_) (fun c => absurd c hc3)
    refine lv_iload hx hb dJ5_newCapacity_0f7a4_51 (lv_at hl 0 rfl) ?_
    refine lv_aload_n hx hb dJ5_newCapacity_0f7a4_53 rfl (lv_at hl 4 rfl) ?_
    refine va_get (D := (dC, dI)) (ci := 12) (v := .int (p0w 0 1)) (C := RJ4) (T := TJ4) (N := 4) hx hb hts i_J4 hown hK hP 0 rfl rfl 1 (by decide) (hts _ qw1203) (fun _ h9 => h9) rfl dJ5_newCapacity_0f7a4_54 ?_
    refine lv_ishr hx hb dJ5_newCapacity_0f7a4_57 ?_
    have ho9 : (o_1 >>> ((p0w 0 1) &&& 31)) = o := Option.some.inj hrun
    have hP9 : va_P (dC, dI) cls (List.flatten ([(oJ4 (p0a 0) p0a p0k p0n p0w)] : List va_W)) H := by first | exact hP | (rw [← ho9]; exact hP)
    have hD9 : va_D A (List.flatten ([(oJ4 (p0a 0) p0a p0k p0n p0w)] : List va_W)) := by first | exact hD | (rw [← ho9]; exact hD)
    subst hQ
    exact W.iret (v := (o_1 >>> ((p0w 0 1) &&& 31))) hx hb hr (fun t ht hW => ⟨⟨(o_1 >>> ((p0w 0 1) &&& 31)), (), rfl, (by rw [← ho9]), ⟨by rw [ht]; exact hP9, va_K.moved hW.alike hK, hD9⟩⟩, hS.F ht⟩) hS.2.2 dJ5_newCapacity_0f7a4_58
def fJ7_copyOf_9075b (p0n : Nat) (p0f : RI) (p1 : Int32) : Option (Nat × RI) := (if p1 = (Int32.ofNat p0n) then none else (if nck p1 = true then (if cpk 0 0 (if p1 < (Int32.ofNat p0n) then p1 else (Int32.ofNat p0n)) p0n (nn p1) = true then (if fbk p0f (nn 0) (nn (if p1 < (Int32.ofNat p0n) then p1 else (Int32.ofNat p0n))) = true then (lt9 (va_cpy p0f (fun _ => 0) (nn 0) (nn 0) (nn (if p1 < (Int32.ofNat p0n) then p1 else (Int32.ofNat p0n)))) fun (f5 : RI) => some ((nn p1), f5)) else none) else none) else none))
theorem ln_fJ7_copyOf_9075b {p0n : Nat} {p0f : RI} {p1 : Int32} {o : Nat × RI} (hrun : fJ7_copyOf_9075b p0n p0f p1 = some o) : o.1 = nn p1 := by
  unfold fJ7_copyOf_9075b at hrun
  rcases br9 hrun with ⟨hc1, hrun⟩ | ⟨hc1, hrun⟩
  · skip
    cases hrun
  · skip
    obtain ⟨hq2, hrun⟩ := chk9 hrun
    obtain ⟨hq3, hrun⟩ := chk9 hrun
    obtain ⟨hq4, hrun⟩ := chk9 hrun
    obtain ⟨f5, ef5, hrun⟩ := let9 hrun
    obtain rfl := (Option.some.inj hrun)
    exact rfl
set_option maxHeartbeats 16000000 in
set_option maxRecDepth 100000 in
theorem kJ7_copyOf_9075b {zs : ZS} (l : Launch) (dC : Nat → ClassId) (dI : Nat → Nat → Nat) (p0a : Nat) (p0k : ClassId) (p0n : Nat) (p0f : RI) (p1 : Int32) (sz : Nat) (o : Nat × RI) (hrun : fJ7_copyOf_9075b p0n p0f p1 = some o) : Met l yJ7_copyOf_9075b (wz yJ7_copyOf_9075b cJ7_copyOf_9075b 3 (Option.some (Jvm.ClassFile.FieldType.array Jvm.ClassFile.FieldType.byte))) ({ frames := 1, cells := 1, slots := (nn p1), locals := 40 } : Room) (va_Pc [.ref p0a, .int p1] (PRE zs dC dI (List.flatten ([[(p0a, .inl (p0k, p0n, .inl p0f))]] : List va_W)) (List.flatten ([[(p0k, .byte)]] : List (List (ClassId × FieldType)))) sz)) (va_Qr (fun (_ : Unit) => True) (fun _ ra t => ∃ (z9 : ClassId), POST dC dI [(ra, .inl (z9, o.1, .inl o.2))] [(z9, .byte)] (va_A (List.flatten ([[(p0a, .inl (p0k, p0n, .inl p0f))]] : List va_W)) sz) t) (va_A (List.flatten ([[(p0a, .inl (p0k, p0n, .inl p0f))]] : List va_W)) sz)) 1 (nn p1) (va_A (List.flatten ([[(p0a, .inl (p0k, p0n, .inl p0f))]] : List va_W)) sz) := by
  refine Met.ofW (cc := cJ7_copyOf_9075b) (maxL := 3) (ret := (Option.some (Jvm.ClassFile.FieldType.array Jvm.ClassFile.FieldType.byte))) (by decide) rfl ?_
  intro p e s m args below meth c s₁ B hml hv
  obtain ⟨rfl, hsz, hP, hK, hD0, hE⟩ := hv
  have hx := B.exec
  have hb := B.bytes
  have hr := B.returns
  have hts0 := atoms_spec (ws := wz yJ7_copyOf_9075b cJ7_copyOf_9075b 3 (Option.some (Jvm.ClassFile.FieldType.array Jvm.ClassFile.FieldType.byte))) B.pre
  have hts : ∀ w ∈ gw, w.before _ s = true := fun w h => hts0 w (List.mem_cons_of_mem _ h)
  have hown : s.vm.findClass RJ7 = some m.cls := findClass_of_methodNamed B.named
  have hlocks := B.notSynchronized
  subst hsz
  have hD := hD0.self (sz := s.heap.size)
  refine gQ9 ?_
  intro Q hQ
  generalize hAe : va_A (List.flatten ([[(p0a, .inl (p0k, p0n, .inl p0f))]] : List va_W)) s.heap.size = A at hD hE hQ
  have hA : ∀ q : Nat, s.heap.size ≤ q → A q := fun q h => by rw [← hAe]; exact Or.inr h
  have hS : va_S A s.heap s.heap [] := va_S.rf
  have hP : va_P (dC, dI) cls (List.flatten ([[(p0a, .inl (p0k, p0n, .inl p0f))]] : List va_W)) s.heap := hP
  have hl := lv_entry ([.ref p0a, .int p1]) (n := 3) (Nat.le_of_ble_eq_true rfl)
  rw [lg_entry_eq]
  generalize (lg_sl ([.ref p0a, .int p1]) ++ List.replicate (3 - (lg_sl ([.ref p0a, .int p1])).length) Slot.unset).toArray = ls at hl ⊢
  have hl : lv_has ls 3 [(0, .ref p0a), (1, .int p1)] := hl
  obtain ⟨H, hHe⟩ : ∃ H, H = s.heap := ⟨_, rfl⟩
  obtain ⟨locs, hle⟩ : ∃ locs : List Loc, locs = [] := ⟨_, rfl⟩
  rw [← hHe] at hP
  have hS : va_S A s.heap H locs := by rw [hHe, hle]; exact hS
  show W p l e ({ frames := 1, cells := 1, slots := (nn p1), locals := 40 } : Room) s m ([.ref p0a, .int p1] : List Value).toArray below meth c s.heap [] 0 0 Q (F0 m 0 ls [])
  rw [← hle]
  refine wH9 hHe ?_
  unfold fJ7_copyOf_9075b at hrun
  refine lv_iload_n hx hb dJ7_copyOf_9075b_0 rfl (lv_at hl 1 rfl) ?_
  refine lv_aload_n hx hb dJ7_copyOf_9075b_1 rfl (lv_at hl 0 rfl) ?_
  refine va_alen (v := (Int32.ofNat p0n)) hx hb hK hP 0 0 rfl rfl rfl dJ7_copyOf_9075b_2 ?_
  rcases br9 hrun with ⟨hc1, hrun⟩ | ⟨hc1, hrun⟩
  · refine lv_icmp_ne (tgt := 14) hx hb dJ7_copyOf_9075b_3 (by decide) (fun c => absurd hc1 c) (fun _ => ?_)
    refine lv_aload_n hx hb dJ7_copyOf_9075b_6 rfl (lv_at hl 0 rfl) ?_
    cases hrun
  · refine lv_icmp_ne (tgt := 14) hx hb dJ7_copyOf_9075b_3 (by decide) (fun _ => ?_) (fun c => absurd c hc1)
    refine lv_iload_n hx hb dJ7_copyOf_9075b_14 rfl (lv_at hl 1 rfl) ?_
    obtain ⟨hq2, hrun⟩ := chk9 hrun
    refine va_newa (atype := .byte) (ty := .byte) hx hb (hts _ qw1220) rfl hK hP hD hS hA (N' := (nn p1)) (a0 := (nn p1, .inl (fun _ => 0))) (fun _ => rfl) (nck_1 hq2) rfl (nck_1b hq2) (show 0 + 1 ≤ 1 from Nat.le_refl _) (show 0 + nn p1 ≤ nn p1 from Nat.le_of_eq (Nat.zero_add _)) dJ7_copyOf_9075b_15 (fun q1 c1 H hK hP hD hS => ?_)
    have hP : va_P (dC, dI) cls (List.flatten ([[(p0a, .inl (p0k, p0n, .inl p0f))], [(q1, .inl (c1, (nn p1), .inl (fun _ => 0)))]] : List va_W)) H := hP
    have hD : va_D A (List.flatten ([[(p0a, .inl (p0k, p0n, .inl p0f))], [(q1, .inl (c1, (nn p1), .inl (fun _ => 0)))]] : List va_W)) := hD
    have hK : va_K (dC, dI) cls (List.flatten ([[(p0k, .byte)], [(c1, .byte)]] : List (List (ClassId × FieldType)))) s := hK
    refine W.widen (k := 1) (n := (nn p1)) (Nat.le_refl _) (Nat.le_of_eq (Nat.zero_add _)) ?_
    refine lv_astore_n (lv' := [(2, .ref q1), (0, .ref p0a), (1, .int p1)]) hx hb dJ7_copyOf_9075b_17 rfl hl (by decide) rfl (fun ls hl => ?_)
    refine lv_aload_n hx hb dJ7_copyOf_9075b_18 rfl (lv_at hl 1 rfl) ?_
    refine lv_iconst (v := 0) hx hb dJ7_copyOf_9075b_19 (by decide) ?_
    refine lv_aload_n hx hb dJ7_copyOf_9075b_20 rfl (lv_at hl 0 rfl) ?_
    refine lv_iconst (v := 0) hx hb dJ7_copyOf_9075b_21 (by decide) ?_
    refine lv_aload_n hx hb dJ7_copyOf_9075b_22 rfl (lv_at hl 1 rfl) ?_
    refine va_alen (v := (Int32.ofNat p0n)) hx hb hK hP 0 0 rfl rfl rfl dJ7_copyOf_9075b_23 ?_
    refine lv_iload_n hx hb dJ7_copyOf_9075b_24 rfl (lv_at hl 2 rfl) ?_
    refine va_mmin hx hb (hml.trans hl.1.symm) hown (hts _ qw98) (hts _ qw99) (hts _ qw100) (hts _ qw101) (Nat.le_of_ble_eq_true rfl) (Nat.le_of_ble_eq_true rfl) (Nat.le_refl _) (Nat.le_refl _) dJ7_copyOf_9075b_25 ?_
    obtain ⟨hq3, hrun⟩ := chk9 hrun
    obtain ⟨hq4, hrun⟩ := chk9 hrun
    refine va_copyi (ty := .byte) (sp := 0) (dp := 0) (n := (if p1 < (Int32.ofNat p0n) then p1 else (Int32.ofNat p0n))) hx hb (hml.trans hl.1.symm) hown (hts _ qw102) (hts _ qw103) (hts _ qw104) (hts _ qw105) hK hP hD hS 0 1 0 1 rfl rfl rfl rfl rfl (cpk_1 hq3) (cpk_2 hq3) (cpk_3 hq3) (cpk_4 hq3) (cpk_5 hq3) (fbk_i hq4) (Nat.le_of_ble_eq_true rfl) (Nat.le_of_ble_eq_true rfl) dJ7_copyOf_9075b_28 (fun H locs hP hD hS => ?_)
    have hP : va_P (dC, dI) cls (List.flatten ([[(p0a, .inl (p0k, p0n, .inl p0f))], [(q1, .inl (c1, (nn p1), .inl (va_cpy p0f (fun _ => 0) (nn 0) (nn 0) (nn (if p1 < (Int32.ofNat p0n) then p1 else (Int32.ofNat p0n))))))]] : List va_W)) H := hP
    have hD : va_D A (List.flatten ([[(p0a, .inl (p0k, p0n, .inl p0f))], [(q1, .inl (c1, (nn p1), .inl (va_cpy p0f (fun _ => 0) (nn 0) (nn 0) (nn (if p1 < (Int32.ofNat p0n) then p1 else (Int32.ofNat p0n))))))]] : List va_W)) := hD
    obtain ⟨f5, ef5, hrun⟩ := let9 hrun
    rw [← ef5] at hP hD
    refine lv_aload_n hx hb dJ7_copyOf_9075b_31 rfl (lv_at hl 0 rfl) ?_
    have ho9 : ((nn p1), f5) = o := Option.some.inj hrun
    subst ho9
    subst hQ
    have hP9 : va_P (dC, dI) cls (List.flatten ([[(q1, .inl (c1, (nn p1), .inl f5))]] : List va_W)) H := hP.sub [1] rfl
    have hD9 : va_D A (List.flatten ([[(q1, .inl (c1, (nn p1), .inl f5))]] : List va_W)) := hD.sub [1] (by decide) rfl
    have hK9 : va_K (dC, dI) cls (List.flatten ([[(c1, .byte)]] : List (List (ClassId × FieldType)))) s := hK.sub [1] rfl
    exact W.aret (v := .ref q1) (rt := .array .byte) hx hb hr (Or.inr ⟨_, rfl⟩) (Or.inr ⟨_, rfl⟩) (fun t ht hW => ⟨⟨(), q1, rfl, trivial, c1, by rw [ht]; exact hP9, va_K.moved hW.alike hK9, hD9⟩, hS.F ht⟩) hS.2.2 dJ7_copyOf_9075b_32
def fJ5_ensureCapacityInternal_d00df_J38 (p0w_38 : ST) (p0n_38 : Nat → Nat) : Option (ST × (Nat → Nat)) := some (p0w_38, p0n_38)
theorem mo_fJ5_ensureCapacityInternal_d00df_J38 {p0w_38 : ST} {p0n_38 : Nat → Nat} {o9q : ST × (Nat → Nat)} (hrun : fJ5_ensureCapacityInternal_d00df_J38 p0w_38 p0n_38 = some o9q) : glJ4 p0n_38 (o9q.2) := by
  unfold fJ5_ensureCapacityInternal_d00df_J38 at hrun
  obtain rfl := (Option.some.inj hrun)
  exact (glJ4_rf _)
def fJ5_ensureCapacityInternal_d00df_G38_10 (n6 : Nat → Nat) (w7 : ST) : Option (ST × (Nat → Nat)) := (fJ5_ensureCapacityInternal_d00df_J38 w7 n6)
theorem mo_fJ5_ensureCapacityInternal_d00df_G38_10 {n6 : Nat → Nat} {w7 : ST} {o9q : ST × (Nat → Nat)} (hrun : fJ5_ensureCapacityInternal_d00df_G38_10 n6 w7 = some o9q) : glJ4 n6 (o9q.2) := by
  unfold fJ5_ensureCapacityInternal_d00df_G38_10 at hrun
  exact (mo_fJ5_ensureCapacityInternal_d00df_J38 hrun)
def fJ5_ensureCapacityInternal_d00df (p0n : Nat → Nat) (p0w : ST) (p1 : Int32) : Option (ST × (Nat → Nat)) := (if (p1 - ((Int32.ofNat (p0n 1)) >>> ((p0w 0 1) &&& 31))) ≤ 0 then (fJ5_ensureCapacityInternal_d00df_J38 p0w p0n) else ((fJ5_newCapacity_0f7a4 p0n p0w p1).bind fun (o_2 : Int32) => ((fJ7_copyOf_9075b (p0n 1) (p0w 1) (o_2 <<< ((p0w 0 1) &&& 31))).bind fun (o_4 : Nat × RI) => (if grs (p0n 1) (o_4.1) = true then (lt9 (stn p0n 1 (o_4.1)) fun (n6 : Nat → Nat) => (lt9 (srw p0w 1 (o_4.2)) fun (w7 : ST) => (fJ5_ensureCapacityInternal_d00df_G38_10 n6 w7))) else none))))
theorem mo_fJ5_ensureCapacityInternal_d00df {p0n : Nat → Nat} {p0w : ST} {p1 : Int32} {o9q : ST × (Nat → Nat)} (hrun : fJ5_ensureCapacityInternal_d00df p0n p0w p1 = some o9q) : glJ4 p0n (o9q.2) := by
  unfold fJ5_ensureCapacityInternal_d00df at hrun
  rcases br9 hrun with ⟨hc1, hrun⟩ | ⟨hc1, hrun⟩
  · skip
    exact (mo_fJ5_ensureCapacityInternal_d00df_J38 hrun)
  · skip
    obtain ⟨o_2, hc_2, hrun⟩ := bnd9 hrun
    obtain ⟨o_4, hc_4, hrun⟩ := bnd9 hrun
    obtain ⟨hq5, hrun⟩ := chk9 hrun
    obtain ⟨n6, en6, hrun⟩ := let9 hrun
    obtain ⟨w7, ew7, hrun⟩ := let9 hrun
    skip
    exact (glJ4_tr (by rw [en6]; exact glJ4_1 (grs_le hq5) : glJ4 p0n n6) (mo_fJ5_ensureCapacityInternal_d00df_G38_10 hrun))
set_option maxHeartbeats 16000000 in
set_option maxRecDepth 100000 in
theorem kJ5_ensureCapacityInternal_d00df {zs : ZS} (l : Launch) (dC : Nat → ClassId) (dI : Nat → Nat → Nat) (p0a : Nat → Nat) (p0k : Nat → ClassId) (p0n : Nat → Nat) (p0w : ST) (p1 : Int32) (sz : Nat) (o : ST × (Nat → Nat)) (hrun : fJ5_ensureCapacityInternal_d00df p0n p0w p1 = some o) : Met l yJ5_ensureCapacityInternal_d00df (wz yJ5_ensureCapacityInternal_d00df cJ5_ensureCapacityInternal_d00df 3 (Option.none : Option Jvm.ClassFile.FieldType)) ({ frames := 3, cells := (hcJ4 p0n (o.2)), slots := (3 * (gcJ4 p0n (o.2))), locals := 70 } : Room) (va_Pc [.ref (p0a 0), .int p1] (PRE (zA zs (pv9)) dC dI (List.flatten ([(oJ4 (p0a 0) p0a p0k p0n p0w)] : List va_W)) (List.flatten ([(tJ4 p0k)] : List (List (ClassId × FieldType)))) sz)) (va_Qv (fun (_ : Unit) => True) (fun _ t => ∃ (xp0_0_z : Nat), ∃ (zp0_0_z : ClassId), POST dC dI (List.flatten ([(oJ4 (p0a 0) (st1 p0a 1 xp0_0_z) (st1 p0k 1 zp0_0_z) (o.2) (o.1))] : List va_W)) (List.flatten ([(tJ4 (st1 p0k 1 zp0_0_z))] : List (List (ClassId × FieldType)))) (va_A (List.flatten ([(oJ4 (p0a 0) p0a p0k p0n p0w)] : List va_W)) sz) t) (va_A (List.flatten ([(oJ4 (p0a 0) p0a p0k p0n p0w)] : List va_W)) sz)) (hcJ4 p0n (o.2)) (3 * (gcJ4 p0n (o.2))) (va_A (List.flatten ([(oJ4 (p0a 0) p0a p0k p0n p0w)] : List va_W)) sz) := by
  refine Met.ofW (cc := cJ5_ensureCapacityInternal_d00df) (maxL := 3) (ret := (Option.none : Option Jvm.ClassFile.FieldType)) (by decide) rfl ?_
  intro p e s m args below meth c s₁ B hml hv
  obtain ⟨rfl, hsz, hP, hK, hD0, hE⟩ := hv
  have hx := B.exec
  have hb := B.bytes
  have hr := B.returns
  have hts0 := atoms_spec (ws := wz yJ5_ensureCapacityInternal_d00df cJ5_ensureCapacityInternal_d00df 3 (Option.none : Option Jvm.ClassFile.FieldType)) B.pre
  have hts : ∀ w ∈ gw, w.before _ s = true := fun w h => hts0 w (List.mem_cons_of_mem _ h)
  have hown : s.vm.findClass RJ5 = some m.cls := findClass_of_methodNamed B.named
  have hlocks := B.notSynchronized
  subst hsz
  have hD := hD0.self (sz := s.heap.size)
  refine gQ9 ?_
  intro Q hQ
  generalize hAe : va_A (List.flatten ([(oJ4 (p0a 0) p0a p0k p0n p0w)] : List va_W)) s.heap.size = A at hD hE hQ
  have hA : ∀ q : Nat, s.heap.size ≤ q → A q := fun q h => by rw [← hAe]; exact Or.inr h
  have hro := ENV.ex hE
  have hro_pv := hro.2
  replace hro := hro.1
  have hS : va_S A s.heap s.heap [] := va_S.rf
  have hP : va_P (dC, dI) cls (List.flatten ([(oJ4 (p0a 0) p0a p0k p0n p0w)] : List va_W)) s.heap := hP
  have hl := lv_entry ([.ref (p0a 0), .int p1]) (n := 3) (Nat.le_of_ble_eq_true rfl)
  rw [lg_entry_eq]
  generalize (lg_sl ([.ref (p0a 0), .int p1]) ++ List.replicate (3 - (lg_sl ([.ref (p0a 0), .int p1])).length) Slot.unset).toArray = ls at hl ⊢
  have hl : lv_has ls 3 [(0, .ref (p0a 0)), (1, .int p1)] := hl
  obtain ⟨H, hHe⟩ : ∃ H, H = s.heap := ⟨_, rfl⟩
  obtain ⟨locs, hle⟩ : ∃ locs : List Loc, locs = [] := ⟨_, rfl⟩
  rw [← hHe] at hP
  have hS : va_S A s.heap H locs := by rw [hHe, hle]; exact hS
  show W p l e ({ frames := 3, cells := (hcJ4 p0n (o.2)), slots := (3 * (gcJ4 p0n (o.2))), locals := 70 } : Room) s m ([.ref (p0a 0), .int p1] : List Value).toArray below meth c s.heap [] 0 0 Q (F0 m 0 ls [])
  rw [← hle]
  refine wH9 hHe ?_
  have hg_p0 := glJ4_rf p0n
  have hgn_p0 : glJ4 p0n (o.2) := (mo_fJ5_ensureCapacityInternal_d00df hrun)
  refine W.widen (k := (hcJ4 p0n p0n)) (n := (3 * (gcJ4 p0n p0n))) (Nat.zero_le _) (Nat.zero_le _) ?_
  unfold fJ5_ensureCapacityInternal_d00df at hrun
  refine lv_aload_n hx hb dJ5_ensureCapacityInternal_d00df_0 rfl (lv_at hl 0 rfl) ?_
  refine va_get (D := (dC, dI)) (ci := 12) (v := .ref (p0a 1)) (C := RJ4) (T := TJ4) (N := 4) hx hb hts i_J4 hown hK hP 0 rfl rfl 0 (by decide) (hts _ qw1210) (fun _ h9 => h9) rfl dJ5_ensureCapacityInternal_d00df_1 ?_
  refine va_alen (v := (Int32.ofNat (p0n 1))) hx hb hK hP 1 0 rfl rfl rfl dJ5_ensureCapacityInternal_d00df_4 ?_
  refine lv_aload_n hx hb dJ5_ensureCapacityInternal_d00df_5 rfl (lv_at hl 0 rfl) ?_
  refine va_get (D := (dC, dI)) (ci := 12) (v := .int (p0w 0 1)) (C := RJ4) (T := TJ4) (N := 4) hx hb hts i_J4 hown hK hP 0 rfl rfl 1 (by decide) (hts _ qw1203) (fun _ h9 => h9) rfl dJ5_ensureCapacityInternal_d00df_6 ?_
  refine lv_ishr hx hb dJ5_ensureCapacityInternal_d00df_9 ?_
  refine lv_istore_n (lv' := [(2, .int ((Int32.ofNat (p0n 1)) >>> ((p0w 0 1) &&& 31))), (0, .ref (p0a 0)), (1, .int p1)]) hx hb dJ5_ensureCapacityInternal_d00df_10 rfl hl (by decide) rfl (fun ls hl => ?_)
  refine lv_iload_n hx hb dJ5_ensureCapacityInternal_d00df_11 rfl (lv_at hl 2 rfl) ?_
  refine lv_iload_n hx hb dJ5_ensureCapacityInternal_d00df_12 rfl (lv_at hl 0 rfl) ?_
  refine lv_isub hx hb dJ5_ensureCapacityInternal_d00df_13 ?_
  have J38 : ∀ (p0w_38 : ST) (p0n_38 : Nat → Nat) (xp0_0_38 : Nat) (zp0_0_38 : ClassId) (H : Heap) (locs : List Loc) (ls : Array Slot), (fJ5_ensureCapacityInternal_d00df_J38 p0w_38 p0n_38) = some o → va_P (dC, dI) cls (List.flatten ([(oJ4 (p0a 0) (st1 p0a 1 xp0_0_38) (st1 p0k 1 zp0_0_38) p0n_38 p0w_38)] : List va_W)) H → va_D A (List.flatten ([(oJ4 (p0a 0) (st1 p0a 1 xp0_0_38) (st1 p0k 1 zp0_0_38) p0n_38 p0w_38)] : List va_W)) → va_K (dC, dI) cls (List.flatten ([(tJ4 (st1 p0k 1 zp0_0_38))] : List (List (ClassId × FieldType)))) s → va_S A s.heap H locs → lv_has ls 3 [] → glJ4 p0n p0n_38 → W p l e ({ frames := 3, cells := (hcJ4 p0n (o.2)), slots := (3 * (gcJ4 p0n (o.2))), locals := 70 } : Room) s m ([.ref (p0a 0), .int p1] : List Value).toArray below meth c H locs (hcJ4 p0n p0n_38) (3 * (gcJ4 p0n p0n_38)) Q (F0 m 38 ls []) := by
    intro p0w_38 p0n_38 xp0_0_38 zp0_0_38 H locs ls hrun hP hD hK hS hl hg_p0 
    have hgn_p0 : glJ4 p0n_38 (o.2) := (mo_fJ5_ensureCapacityInternal_d00df_J38 hrun)
    unfold fJ5_ensureCapacityInternal_d00df_J38 at hrun
    have ho9 : (p0w_38, p0n_38) = o := Option.some.inj hrun
    subst ho9
    subst hQ
    exact W.vret hx hb hr (fun t ht hW => ⟨⟨(), rfl, trivial, ⟨xp0_0_38, zp0_0_38, by rw [ht]; exact hP, va_K.moved hW.alike hK, hD⟩⟩, hS.F ht⟩) hS.2.2 dJ5_ensureCapacityInternal_d00df_38
  rcases br9 hrun with ⟨hc1, hrun⟩ | ⟨hc1, hrun⟩
  · refine lv_if_le (tgt := 38) hx hb dJ5_ensureCapacityInternal_d00df_14 (by decide) (fun _ => ?_) (fun c => absurd hc1 c)
    exact J38 p0w p0n (p0a 1) (p0k 1) _ _ _ hrun hP hD hK hS (lv_sub hl [] rfl) hg_p0
  · refine lv_if_le (tgt := 38) hx hb dJ5_ensureCapacityInternal_d00df_14 (by decide) (fun c => absurd c hc1) (fun _ => ?_)
    refine lv_aload_n hx hb dJ5_ensureCapacityInternal_d00df_17 rfl (lv_at hl 1 rfl) ?_
    refine lv_aload_n hx hb dJ5_ensureCapacityInternal_d00df_18 rfl (lv_at hl 1 rfl) ?_
    refine va_get (D := (dC, dI)) (ci := 12) (v := .ref (p0a 1)) (C := RJ4) (T := TJ4) (N := 4) hx hb hts i_J4 hown hK hP 0 rfl rfl 0 (by decide) (hts _ qw1210) (fun _ h9 => h9) rfl dJ5_ensureCapacityInternal_d00df_19 ?_
    refine lv_aload_n hx hb dJ5_ensureCapacityInternal_d00df_22 rfl (lv_at hl 1 rfl) ?_
    refine lv_iload_n hx hb dJ5_ensureCapacityInternal_d00df_23 rfl (lv_at hl 2 rfl) ?_
    obtain ⟨o_2, hc_2, hrun⟩ := bnd9 hrun
    have hPx : va_P (dC, dI) cls ((List.flatten ([(oJ4 (p0a 0) p0a p0k p0n p0w)] : List va_W)) ++ (List.flatten ([] : List va_W))) H := vP_fa (vP_perm hP (bP (List.Perm.refl _)))
    have hDx : va_D A ((List.flatten ([(oJ4 (p0a 0) p0a p0k p0n p0w)] : List va_W)) ++ (List.flatten ([] : List va_W))) := vD_fa (vD_perm hD (bP (List.Perm.refl _)))
    have hKx : va_K (dC, dI) cls ((List.flatten ([(tJ4 p0k)] : List (List (ClassId × FieldType)))) ++ (List.flatten ([] : List (List (ClassId × FieldType))))) s := vK_fa (vK_perm hK (bP (List.Perm.refl _)))
    have hPc := vP_l hPx
    have hDc := vD_l hDx
    have hKc := vK_l hKx
    have hFc := vfree hDx hS hA
    refine va_calli (va_runU (As := [.int p1]) (rest := [.ref (p0a 1), .ref (p0a 0)]) ⟨hx, hb, hml, hown, hts⟩ (kJ5_newCapacity_0f7a4 l dC dI (p0a := p0a) (p0k := p0k) (p0n := p0n) (p0w := p0w) (p1 := p1) (sz := _) (o := o_2) (hrun := hc_2)) (sx_cuP (owner := RJ5) 1 hts (gi_UP qw1216 qw1217 qw1218 qw1219 (gi_z qw1215)) (pv9_w hro_pv 1 rfl) rfl rfl rfl rfl (by decide +kernel) ⟨Nat.le_of_ble_eq_true rfl, Nat.le_of_ble_eq_true rfl⟩) ⟨PRE.blind, va_recv hKc hPc (ci := 12) (q0 := 0) rfl rfl, PRE.of hE hS hFc hPc hKc hDc⟩ rfl rfl hl.1 rfl (lv_room (Nat.le_of_ble_eq_true rfl)) dJ5_ensureCapacityInternal_d00df_24 ⟨(show (hcJ4 p0n p0n) + 0 ≤ (hcJ4 p0n (o.2)) from by have q0 := gmJ4 hg_p0 hgn_p0; omega), (show (3 * (gcJ4 p0n p0n)) + 0 ≤ (3 * (gcJ4 p0n (o.2))) from by have q0 := gmJ4 hg_p0 hgn_p0; omega)⟩) hS (fun q _ h => hFc q h) hFc (fun r3 u t H locs ht hvm hw hB hz1 hk1 hS => ?_)
    obtain ⟨b1, b2, b3⟩ := hB
    rw [ht] at b1
    obtain ⟨hP, hD, hK⟩ := JOINC (wc := (List.flatten ([(oJ4 (p0a 0) p0a p0k p0n p0w)] : List va_W))) (wr := (List.flatten ([] : List va_W))) (w1 := (List.flatten ([(oJ4 (p0a 0) p0a p0k p0n p0w)] : List va_W))) (t1 := (List.flatten ([(tJ4 p0k)] : List (List (ClassId × FieldType))))) hPx hDx hKx hk1 hFc b1 (va_K.moved hvm.symm b2) b3
    have hP : va_P (dC, dI) cls (List.flatten ([(oJ4 (p0a 0) p0a p0k p0n p0w)] : List va_W)) H := vP_perm (vP_fb hP) (bP (List.Perm.refl _))
    have hD : va_D A (List.flatten ([(oJ4 (p0a 0) p0a p0k p0n p0w)] : List va_W)) := vD_perm (vD_fb hD) (bP (List.Perm.refl _))
    have hK : va_K (dC, dI) cls (List.flatten ([(tJ4 p0k)] : List (List (ClassId × FieldType)))) s := vK_perm (vK_fb hK) (bP (List.Perm.refl _))
    obtain rfl : o_2 = r3 := hw.symm
    refine lv_aload_n hx hb dJ5_ensureCapacityInternal_d00df_27 rfl (lv_at hl 1 rfl) ?_
    refine va_get (D := (dC, dI)) (ci := 12) (v := .int (p0w 0 1)) (C := RJ4) (T := TJ4) (N := 4) hx hb hts i_J4 hown hK hP 0 rfl rfl 1 (by decide) (hts _ qw1203) (fun _ h9 => h9) rfl dJ5_ensureCapacityInternal_d00df_28 ?_
    refine lv_ishl hx hb dJ5_ensureCapacityInternal_d00df_31 ?_
    obtain ⟨o_4, hc_4, hrun⟩ := bnd9 hrun
    obtain ⟨hq5, hrun⟩ := chk9 hrun
    have hlo_4 := ln_fJ7_copyOf_9075b hc_4
    obtain ⟨n6, en6, hrun⟩ := let9 hrun
    obtain ⟨w7, ew7, hrun⟩ := let9 hrun
    have hst9 : glJ4 p0n n6 := by rw [en6]; exact glJ4_1 (grs_le hq5)
    have hgn_p0 : glJ4 n6 (o.2) := (mo_fJ5_ensureCapacityInternal_d00df_G38_10 hrun)
    have hP2 : va_P (dC, dI) cls (List.flatten ([[((p0a 1), .inl ((p0k 1), (p0n 1), .inl (p0w 1)))], [((p0a 0), .inr (12, [.ref (p0a 1), .int (p0w 0 1), .int (p0w 0 2), .int (p0w 0 3)]))]] : List va_W)) H := vP_perm hP ((bP (List.Perm.refl _)).trans (List.Perm.append_right _ (List.perm_middle (a := (((p0a 1), .inl ((p0k 1), (p0n 1), .inl (p0w 1))) : Nat × va_E)) (l₁ := ([((p0a 0), .inr (12, [.ref (p0a 1), .int (p0w 0 1), .int (p0w 0 2), .int (p0w 0 3)]))] : va_W)) (l₂ := ([] : va_W)))))
    have hD2 : va_D A (List.flatten ([[((p0a 1), .inl ((p0k 1), (p0n 1), .inl (p0w 1)))], [((p0a 0), .inr (12, [.ref (p0a 1), .int (p0w 0 1), .int (p0w 0 2), .int (p0w 0 3)]))]] : List va_W)) := vD_perm hD ((bP (List.Perm.refl _)).trans (List.Perm.append_right _ (List.perm_middle (a := (((p0a 1), .inl ((p0k 1), (p0n 1), .inl (p0w 1))) : Nat × va_E)) (l₁ := ([((p0a 0), .inr (12, [.ref (p0a 1), .int (p0w 0 1), .int (p0w 0 2), .int (p0w 0 3)]))] : va_W)) (l₂ := ([] : va_W)))))
    have hK2 : va_K (dC, dI) cls (List.flatten ([[((p0k 1), .byte)], []] : List (List (ClassId × FieldType)))) s := vK_perm hK ((bP (List.Perm.refl _)).trans (List.Perm.append_right _ (List.perm_middle (a := (((p0k 1), .byte) : ClassId × FieldType)) (l₁ := ([] : List (ClassId × FieldType))) (l₂ := ([] : List (ClassId × FieldType))))))
    have hPx : va_P (dC, dI) cls ((List.flatten ([[((p0a 1), .inl ((p0k 1), (p0n 1), .inl (p0w 1)))]] : List va_W)) ++ (List.flatten ([[((p0a 0), .inr (12, [.ref (p0a 1), .int (p0w 0 1), .int (p0w 0 2), .int (p0w 0 3)]))]] : List va_W))) H := vP_fa (vP_perm hP2 (bP (List.Perm.refl _)))
    have hDx : va_D A ((List.flatten ([[((p0a 1), .inl ((p0k 1), (p0n 1), .inl (p0w 1)))]] : List va_W)) ++ (List.flatten ([[((p0a 0), .inr (12, [.ref (p0a 1), .int (p0w 0 1), .int (p0w 0 2), .int (p0w 0 3)]))]] : List va_W))) := vD_fa (vD_perm hD2 (bP (List.Perm.refl _)))
    have hKx : va_K (dC, dI) cls ((List.flatten ([[((p0k 1), .byte)]] : List (List (ClassId × FieldType)))) ++ (List.flatten ([[]] : List (List (ClassId × FieldType))))) s := vK_fa (vK_perm hK2 (bP (List.Perm.refl _)))
    have hPc := vP_l hPx
    have hDc := vD_l hDx
    have hKc := vK_l hKx
    have hFc := vfree hDx hS hA
    refine va_callr (va_runS (As := [.ref (p0a 1), .int (o_2 <<< ((p0w 0 1) &&& 31))]) (rest := [.ref (p0a 0)]) ⟨hx, hb, hml, hown, hts⟩ (kJ7_copyOf_9075b l dC dI (p0a := (p0a 1)) (p0k := (p0k 1)) (p0n := (p0n 1)) (p0f := (p0w 1)) (p1 := (o_2 <<< ((p0w 0 1) &&& 31))) (sz := _) (o := o_4) (hrun := hc_4)) (va_cwS 2 hts (gi_S qw1222 qw1223 qw109 (gi_z qw1221)) rfl rfl rfl (by decide +kernel) ⟨Nat.le_of_ble_eq_true rfl, Nat.le_of_ble_eq_true rfl⟩) ⟨PRE.blind, PRE.of hE hS hFc hPc hKc hDc⟩ rfl rfl hl.1 rfl (lv_room (Nat.le_of_ble_eq_true rfl)) dJ5_ensureCapacityInternal_d00df_32 ⟨(show (hcJ4 p0n p0n) + 1 ≤ (hcJ4 p0n (o.2)) from by have q0 := gsJ4 hg_p0 hst9 hgn_p0; have q5 := gcJ4_1 (n := p0n) (grs_le hq5); rw [← en6] at q5; have q6 := grs_1 hq5; have q7 := grs_2 hq5; have q9 := grs_3 hq5; have q8 := hlo_4; omega), (show (3 * (gcJ4 p0n p0n)) + (nn (o_2 <<< ((p0w 0 1) &&& 31))) ≤ (3 * (gcJ4 p0n (o.2))) from by have q0 := gsJ4 hg_p0 hst9 hgn_p0; have q5 := gcJ4_1 (n := p0n) (grs_le hq5); rw [← en6] at q5; have q6 := grs_1 hq5; have q7 := grs_2 hq5; have q9 := grs_3 hq5; have q8 := hlo_4; omega)⟩) hS (fun q _ h => hFc q h) hFc (fun u ra9 t H locs ht hvm hw hB hz1 hk1 hS => ?_)
    obtain ⟨z8, hB⟩ := hB
    obtain ⟨b1, b2, b3⟩ := hB
    rw [ht] at b1
    obtain ⟨hP, hD, hK⟩ := JOINC (wc := (List.flatten ([[((p0a 1), .inl ((p0k 1), (p0n 1), .inl (p0w 1)))]] : List va_W))) (wr := (List.flatten ([[((p0a 0), .inr (12, [.ref (p0a 1), .int (p0w 0 1), .int (p0w 0 2), .int (p0w 0 3)]))]] : List va_W))) (w1 := [(ra9, .inl (z8, o_4.1, .inl o_4.2))]) (t1 := [(z8, .byte)]) hPx hDx hKx hk1 hFc b1 (va_K.moved hvm.symm b2) b3
    refine va_put (D := (dC, dI)) (ci := 12) (v := .ref ra9) (ty := .array .byte) (C := RJ4) (T := TJ4) (N := 4) hx hb hts i_J4 tyJ4 tyJ4_ok nmJ4 hown hK hP hD hS 1 rfl rfl 0 (by decide) (hts _ qw1210) (fun _ h9 => h9) rfl (by decide +kernel) rfl rfl (Nat.le_of_ble_eq_true rfl) dJ5_ensureCapacityInternal_d00df_35 (fun H locs hP hD hS => ?_)
    have hP : va_P (dC, dI) cls (List.flatten ([[(ra9, .inl (z8, (n6 1), .inl (w7 1)))], [((p0a 0), .inr (12, [.ref ra9, .int (w7 0 1), .int (w7 0 2), .int (w7 0 3)]))]] : List va_W)) H := by rw [en6, ew7]; exact hP
    have hD : va_D A (List.flatten ([[(ra9, .inl (z8, (n6 1), .inl (w7 1)))], [((p0a 0), .inr (12, [.ref ra9, .int (w7 0 1), .int (w7 0 2), .int (w7 0 3)]))]] : List va_W)) := by rw [en6, ew7]; exact hD
    have hK : va_K (dC, dI) cls (List.flatten ([[(z8, .byte)], []] : List (List (ClassId × FieldType)))) s := hK
    have hP3 : va_P (dC, dI) cls (List.flatten ([(oJ4 (p0a 0) (st1 p0a 1 ra9) (st1 p0k 1 z8) n6 w7)] : List va_W)) H := vP_perm hP ((bP (List.Perm.refl _)).trans (List.Perm.append_right _ (List.perm_middle (a := ((ra9, .inl (z8, (n6 1), .inl (w7 1))) : Nat × va_E)) (l₁ := ([((p0a 0), .inr (12, [.ref ra9, .int (w7 0 1), .int (w7 0 2), .int (w7 0 3)]))] : va_W)) (l₂ := ([] : va_W))).symm))
    have hD3 : va_D A (List.flatten ([(oJ4 (p0a 0) (st1 p0a 1 ra9) (st1 p0k 1 z8) n6 w7)] : List va_W)) := vD_perm hD ((bP (List.Perm.refl _)).trans (List.Perm.append_right _ (List.perm_middle (a := ((ra9, .inl (z8, (n6 1), .inl (w7 1))) : Nat × va_E)) (l₁ := ([((p0a 0), .inr (12, [.ref ra9, .int (w7 0 1), .int (w7 0 2), .int (w7 0 3)]))] : va_W)) (l₂ := ([] : va_W))).symm))
    have hK3 : va_K (dC, dI) cls (List.flatten ([(tJ4 (st1 p0k 1 z8))] : List (List (ClassId × FieldType)))) s := vK_perm hK ((bP (List.Perm.refl _)).trans (List.Perm.append_right _ (List.perm_middle (a := ((z8, .byte) : ClassId × FieldType)) (l₁ := ([] : List (ClassId × FieldType))) (l₂ := ([] : List (ClassId × FieldType)))).symm))
    have hP : va_P (dC, dI) cls (List.flatten ([(oJ4 (p0a 0) (st1 p0a 1 ra9) (st1 p0k 1 z8) n6 w7)] : List va_W)) H := vP_perm hP3 (bP (List.Perm.refl _))
    have hD : va_D A (List.flatten ([(oJ4 (p0a 0) (st1 p0a 1 ra9) (st1 p0k 1 z8) n6 w7)] : List va_W)) := vD_perm hD3 (bP (List.Perm.refl _))
    have hK : va_K (dC, dI) cls (List.flatten ([(tJ4 (st1 p0k 1 z8))] : List (List (ClassId × FieldType)))) s := vK_perm hK3 (bP (List.Perm.refl _))
    refine W.widen (k := (hcJ4 p0n n6)) (n := (3 * (gcJ4 p0n n6))) (by have a0 := gcJ4_add hg_p0 hst9; have q5 := gcJ4_1 (n := p0n) (grs_le hq5); rw [← en6] at q5; have q6 := grs_1 hq5; have q7 := grs_2 hq5; have q9 := grs_3 hq5; have q8 := hlo_4; omega) (by have a0 := gcJ4_add hg_p0 hst9; have q5 := gcJ4_1 (n := p0n) (grs_le hq5); rw [← en6] at q5; have q6 := grs_1 hq5; have q7 := grs_2 hq5; have q9 := grs_3 hq5; have q8 := hlo_4; omega) ?_
    have hg_p0 : glJ4 p0n n6 := glJ4_tr hg_p0 hst9
    unfold fJ5_ensureCapacityInternal_d00df_G38_10 at hrun
    exact J38 w7 n6 ra9 z8 _ _ _ hrun hP hD hK hS (lv_sub hl [] rfl) hg_p0
def fJ5_inflateIfNeededFor_a7421_J21  : Option Unit := some ()
def fJ5_inflateIfNeededFor_a7421 (p0w : ST) : Option Unit := (if (1 : Int32) = 0 then (fJ5_inflateIfNeededFor_a7421_J21) else (fJ0_coder_7d493.bind fun (o_2 : Int32) => (if (p0w 0 1) = o_2 then (fJ5_inflateIfNeededFor_a7421_J21) else none)))
set_option maxHeartbeats 16000000 in
set_option maxRecDepth 100000 in
theorem kJ5_inflateIfNeededFor_a7421 {zs : ZS} (l : Launch) (dC : Nat → ClassId) (dI : Nat → Nat → Nat) (p0a : Nat → Nat) (p0k : Nat → ClassId) (p0n : Nat → Nat) (p0w : ST) (p1s : Nat) (p1v : Nat) (p1m : Nat) (p1f : RI) (sz : Nat) (o : Unit) (hrun : fJ5_inflateIfNeededFor_a7421 p0w = some o) : Met l yJ5_inflateIfNeededFor_a7421 (wz yJ5_inflateIfNeededFor_a7421 cJ5_inflateIfNeededFor_a7421 2 (Option.none : Option Jvm.ClassFile.FieldType)) ({ frames := 1, cells := 0, slots := 0, locals := 20 } : Room) (va_Pc [.ref (p0a 0), .ref p1s] (PRE (zA zs (sq9 p1s p1v p1m p1f)) dC dI (List.flatten ([(oJ4 (p0a 0) p0a p0k p0n p0w)] : List va_W)) (List.flatten ([(tJ4 p0k)] : List (List (ClassId × FieldType)))) sz)) (va_Qv (fun (_ : Unit) => True) (fun _ t => POST dC dI (List.flatten ([(oJ4 (p0a 0) p0a p0k p0n p0w)] : List va_W)) (List.flatten ([(tJ4 p0k)] : List (List (ClassId × FieldType)))) (va_A (List.flatten ([(oJ4 (p0a 0) p0a p0k p0n p0w)] : List va_W)) sz) t) (va_A (List.flatten ([(oJ4 (p0a 0) p0a p0k p0n p0w)] : List va_W)) sz)) 0 0 (va_A (List.flatten ([(oJ4 (p0a 0) p0a p0k p0n p0w)] : List va_W)) sz) := by
  refine Met.ofW (cc := cJ5_inflateIfNeededFor_a7421) (maxL := 2) (ret := (Option.none : Option Jvm.ClassFile.FieldType)) (by decide) rfl ?_
  intro p e s m args below meth c s₁ B hml hv
  obtain ⟨rfl, hsz, hP, hK, hD0, hE⟩ := hv
  have hx := B.exec
  have hb := B.bytes
  have hr := B.returns
  have hts0 := atoms_spec (ws := wz yJ5_inflateIfNeededFor_a7421 cJ5_inflateIfNeededFor_a7421 2 (Option.none : Option Jvm.ClassFile.FieldType)) B.pre
  have hts : ∀ w ∈ gw, w.before _ s = true := fun w h => hts0 w (List.mem_cons_of_mem _ h)
  have hown : s.vm.findClass RJ5 = some m.cls := findClass_of_methodNamed B.named
  have hlocks := B.notSynchronized
  subst hsz
  have hD := hD0.self (sz := s.heap.size)
  refine gQ9 ?_
  intro Q hQ
  generalize hAe : va_A (List.flatten ([(oJ4 (p0a 0) p0a p0k p0n p0w)] : List va_W)) s.heap.size = A at hD hE hQ
  have hA : ∀ q : Nat, s.heap.size ≤ q → A q := fun q h => by rw [← hAe]; exact Or.inr h
  have hro := ENV.ex hE
  have hro_p1 := hro.2
  replace hro := hro.1
  have hS : va_S A s.heap s.heap [] := va_S.rf
  have hP : va_P (dC, dI) cls (List.flatten ([(oJ4 (p0a 0) p0a p0k p0n p0w)] : List va_W)) s.heap := hP
  have hl := lv_entry ([.ref (p0a 0), .ref p1s]) (n := 2) (Nat.le_of_ble_eq_true rfl)
  rw [lg_entry_eq]
  generalize (lg_sl ([.ref (p0a 0), .ref p1s]) ++ List.replicate (2 - (lg_sl ([.ref (p0a 0), .ref p1s])).length) Slot.unset).toArray = ls at hl ⊢
  have hl : lv_has ls 2 [(0, .ref (p0a 0)), (1, .ref p1s)] := hl
  obtain ⟨H, hHe⟩ : ∃ H, H = s.heap := ⟨_, rfl⟩
  obtain ⟨locs, hle⟩ : ∃ locs : List Loc, locs = [] := ⟨_, rfl⟩
  rw [← hHe] at hP
  have hS : va_S A s.heap H locs := by rw [hHe, hle]; exact hS
  show W p l e ({ frames := 1, cells := 0, slots := 0, locals := 20 } : Room) s m ([.ref (p0a 0), .ref p1s] : List Value).toArray below meth c s.heap [] 0 0 Q (F0 m 0 ls [])
  rw [← hle]
  refine wH9 hHe ?_
  unfold fJ5_inflateIfNeededFor_a7421 at hrun
  refine va_gets hx hb (ENV.cs hE) hS hown (hts _ qw1202) (fun _ h9 => h9) dJ5_inflateIfNeededFor_a7421_0 ?_
  have J21 : ∀ (H : Heap) (locs : List Loc) (ls : Array Slot), (fJ5_inflateIfNeededFor_a7421_J21) = some o → va_P (dC, dI) cls (List.flatten ([(oJ4 (p0a 0) p0a p0k p0n p0w)] : List va_W)) H → va_D A (List.flatten ([(oJ4 (p0a 0) p0a p0k p0n p0w)] : List va_W)) → va_K (dC, dI) cls (List.flatten ([(tJ4 p0k)] : List (List (ClassId × FieldType)))) s → va_S A s.heap H locs → lv_has ls 2 [] → W p l e ({ frames := 1, cells := 0, slots := 0, locals := 20 } : Room) s m ([.ref (p0a 0), .ref p1s] : List Value).toArray below meth c H locs 0 0 Q (F0 m 21 ls []) := by
    intro  H locs ls hrun hP hD hK hS hl 
    unfold fJ5_inflateIfNeededFor_a7421_J21 at hrun
    have ho9 : () = o := Option.some.inj hrun
    have hP9 : va_P (dC, dI) cls (List.flatten ([(oJ4 (p0a 0) p0a p0k p0n p0w)] : List va_W)) H := by first | exact hP | (rw [← ho9]; exact hP)
    have hD9 : va_D A (List.flatten ([(oJ4 (p0a 0) p0a p0k p0n p0w)] : List va_W)) := by first | exact hD | (rw [← ho9]; exact hD)
    subst hQ
    exact W.vret hx hb hr (fun t ht hW => ⟨⟨(), rfl, trivial, ⟨by rw [ht]; exact hP9, va_K.moved hW.alike hK, hD9⟩⟩, hS.F ht⟩) hS.2.2 dJ5_inflateIfNeededFor_a7421_21
  rcases br9 hrun with ⟨hc1, hrun⟩ | ⟨hc1, hrun⟩
  · refine lv_if_eq (tgt := 21) hx hb dJ5_inflateIfNeededFor_a7421_3 (by decide) (fun _ => ?_) (fun c => absurd hc1 c)
    exact J21 _ _ _ hrun hP hD hK hS (lv_sub hl [] rfl)
  · refine lv_if_eq (tgt := 21) hx hb dJ5_inflateIfNeededFor_a7421_3 (by decide) (fun c => absurd c hc1) (fun _ => ?_)
    refine lv_aload_n hx hb dJ5_inflateIfNeededFor_a7421_6 rfl (lv_at hl 0 rfl) ?_
    refine va_get (D := (dC, dI)) (ci := 12) (v := .int (p0w 0 1)) (C := RJ4) (T := TJ4) (N := 4) hx hb hts i_J4 hown hK hP 0 rfl rfl 1 (by decide) (hts _ qw1203) (fun _ h9 => h9) rfl dJ5_inflateIfNeededFor_a7421_7 ?_
    refine lv_aload_n hx hb dJ5_inflateIfNeededFor_a7421_10 rfl (lv_at hl 1 rfl) ?_
    obtain ⟨o_2, hc_2, hrun⟩ := bnd9 hrun
    have hPx : va_P (dC, dI) cls ((List.flatten ([] : List va_W)) ++ (List.flatten ([(oJ4 (p0a 0) p0a p0k p0n p0w)] : List va_W))) H := vP_fa (vP_perm hP (bP (List.Perm.refl _)))
    have hDx : va_D A ((List.flatten ([] : List va_W)) ++ (List.flatten ([(oJ4 (p0a 0) p0a p0k p0n p0w)] : List va_W))) := vD_fa (vD_perm hD (bP (List.Perm.refl _)))
    have hKx : va_K (dC, dI) cls ((List.flatten ([] : List (List (ClassId × FieldType)))) ++ (List.flatten ([(tJ4 p0k)] : List (List (ClassId × FieldType))))) s := vK_fa (vK_perm hK (bP (List.Perm.refl _)))
    have hPc := vP_l hPx
    have hDc := vD_l hDx
    have hKc := vK_l hKx
    have hFc := vfree hDx hS hA
    refine va_calli (va_runV (As := []) (rest := [.int (p0w 0 1)]) ⟨hx, hb, hml, hown, hts⟩ (kJ0_coder_7d493 l dC dI (p0s := p1s) (p0v := p1v) (p0m := p1m) (p0f := p1f) (sz := _) (o := o_2) (hrun := hc_2)) (cwV 0 hts (gi_V qw1224 qw1182 qw1183 qw1184 (gi_z qw1180)) rfl rfl rfl (by decide +kernel) ⟨Nat.le_of_ble_eq_true rfl, Nat.le_of_ble_eq_true rfl⟩) ⟨PRE.blind, vk_rcv hro_p1 hS, PRE.of (ENV.add hE sq9_m hro_p1) hS hFc hPc hKc hDc⟩ rfl rfl hl.1 rfl (lv_room (Nat.le_of_ble_eq_true rfl)) dJ5_inflateIfNeededFor_a7421_11 ⟨(Nat.le_of_ble_eq_true rfl), (Nat.le_of_ble_eq_true rfl)⟩) hS (fun q _ h => hFc q h) hFc (fun r3 u t H locs ht hvm hw hB hz1 hk1 hS => ?_)
    obtain ⟨b1, b2, b3⟩ := hB
    rw [ht] at b1
    obtain ⟨hP, hD, hK⟩ := JOINC (wc := (List.flatten ([] : List va_W))) (wr := (List.flatten ([(oJ4 (p0a 0) p0a p0k p0n p0w)] : List va_W))) (w1 := (List.flatten ([] : List va_W))) (t1 := (List.flatten ([] : List (List (ClassId × FieldType))))) hPx hDx hKx hk1 hFc b1 (va_K.moved hvm.symm b2) b3
    have hP : va_P (dC, dI) cls (List.flatten ([(oJ4 (p0a 0) p0a p0k p0n p0w)] : List va_W)) H := vP_perm (vP_fb hP) (bP (List.Perm.refl _))
    have hD : va_D A (List.flatten ([(oJ4 (p0a 0) p0a p0k p0n p0w)] : List va_W)) := vD_perm (vD_fb hD) (bP (List.Perm.refl _))
    have hK : va_K (dC, dI) cls (List.flatten ([(tJ4 p0k)] : List (List (ClassId × FieldType)))) s := vK_perm (vK_fb hK) (bP (List.Perm.refl _))
    obtain rfl : o_2 = r3 := hw.symm
    rcases br9 hrun with ⟨hc4, hrun⟩ | ⟨hc4, hrun⟩
    · refine lv_icmp_eq (tgt := 21) hx hb dJ5_inflateIfNeededFor_a7421_14 (by decide) (fun _ => ?_) (fun c => absurd hc4 c)
      exact J21 _ _ _ hrun hP hD hK hS (lv_sub hl [] rfl)
    · refine lv_icmp_eq (tgt := 21) hx hb dJ5_inflateIfNeededFor_a7421_14 (by decide) (fun c => absurd c hc4) (fun _ => ?_)
      refine lv_aload_n hx hb dJ5_inflateIfNeededFor_a7421_17 rfl (lv_at hl 0 rfl) ?_
      cases hrun
def fJ5_putStringAt_47b60 (p0n : Nat → Nat) (p0w : ST) (p1 : Int32) (p2m : Nat) (p2f : RI) : Option ST := ((fJ5_inflateIfNeededFor_a7421 p0w).bind fun (o_1 : Unit) => ((fJ0_getBytes_840e7 p2m p2f (p0n 1) (p0w 1) p1 (p0w 0 1)).bind fun (o_2 : RI) => some (srw p0w 1 o_2)))
set_option maxHeartbeats 16000000 in
set_option maxRecDepth 100000 in
theorem kJ5_putStringAt_47b60 {zs : ZS} (l : Launch) (dC : Nat → ClassId) (dI : Nat → Nat → Nat) (p0a : Nat → Nat) (p0k : Nat → ClassId) (p0n : Nat → Nat) (p0w : ST) (p1 : Int32) (p2s : Nat) (p2v : Nat) (p2m : Nat) (p2f : RI) (sz : Nat) (o : ST) (hrun : fJ5_putStringAt_47b60 p0n p0w p1 p2m p2f = some o) : Met l yJ5_putStringAt_47b60 (wz yJ5_putStringAt_47b60 cJ5_putStringAt_47b60 3 (Option.none : Option Jvm.ClassFile.FieldType)) ({ frames := 2, cells := 0, slots := 0, locals := 63 } : Room) (va_Pc [.ref (p0a 0), .int p1, .ref p2s] (PRE (zA (zA zs (sq9 p2s p2v p2m p2f)) (pv9)) dC dI (List.flatten ([(oJ4 (p0a 0) p0a p0k p0n p0w)] : List va_W)) (List.flatten ([(tJ4 p0k)] : List (List (ClassId × FieldType)))) sz)) (va_Qv (fun (_ : Unit) => True) (fun _ t => POST dC dI (List.flatten ([(oJ4 (p0a 0) p0a p0k p0n o)] : List va_W)) (List.flatten ([(tJ4 p0k)] : List (List (ClassId × FieldType)))) (va_A (List.flatten ([(oJ4 (p0a 0) p0a p0k p0n p0w)] : List va_W)) sz) t) (va_A (List.flatten ([(oJ4 (p0a 0) p0a p0k p0n p0w)] : List va_W)) sz)) 0 0 (va_A (List.flatten ([(oJ4 (p0a 0) p0a p0k p0n p0w)] : List va_W)) sz) := by
  refine Met.ofW (cc := cJ5_putStringAt_47b60) (maxL := 3) (ret := (Option.none : Option Jvm.ClassFile.FieldType)) (by decide) rfl ?_
  intro p e s m args below meth c s₁ B hml hv
  obtain ⟨rfl, hsz, hP, hK, hD0, hE⟩ := hv
  have hx := B.exec
  have hb := B.bytes
  have hr := B.returns
  have hts0 := atoms_spec (ws := wz yJ5_putStringAt_47b60 cJ5_putStringAt_47b60 3 (Option.none : Option Jvm.ClassFile.FieldType)) B.pre
  have hts : ∀ w ∈ gw, w.before _ s = true := fun w h => hts0 w (List.mem_cons_of_mem _ h)
  have hown : s.vm.findClass RJ5 = some m.cls := findClass_of_methodNamed B.named
  have hlocks := B.notSynchronized
  subst hsz
  have hD := hD0.self (sz := s.heap.size)
  refine gQ9 ?_
  intro Q hQ
  generalize hAe : va_A (List.flatten ([(oJ4 (p0a 0) p0a p0k p0n p0w)] : List va_W)) s.heap.size = A at hD hE hQ
  have hA : ∀ q : Nat, s.heap.size ≤ q → A q := fun q h => by rw [← hAe]; exact Or.inr h
  have hro := ENV.ex hE
  have hro_pv := hro.2
  replace hro := hro.1
  have hro_p2 := hro.2
  replace hro := hro.1
  have hS : va_S A s.heap s.heap [] := va_S.rf
  have hP : va_P (dC, dI) cls (List.flatten ([(oJ4 (p0a 0) p0a p0k p0n p0w)] : List va_W)) s.heap := hP
  have hl := lv_entry ([.ref (p0a 0), .int p1, .ref p2s]) (n := 3) (Nat.le_of_ble_eq_true rfl)
  rw [lg_entry_eq]
  generalize (lg_sl ([.ref (p0a 0), .int p1, .ref p2s]) ++ List.replicate (3 - (lg_sl ([.ref (p0a 0), .int p1, .ref p2s])).length) Slot.unset).toArray = ls at hl ⊢
  have hl : lv_has ls 3 [(0, .ref (p0a 0)), (1, .int p1), (2, .ref p2s)] := hl
  obtain ⟨H, hHe⟩ : ∃ H, H = s.heap := ⟨_, rfl⟩
  obtain ⟨locs, hle⟩ : ∃ locs : List Loc, locs = [] := ⟨_, rfl⟩
  rw [← hHe] at hP
  have hS : va_S A s.heap H locs := by rw [hHe, hle]; exact hS
  show W p l e ({ frames := 2, cells := 0, slots := 0, locals := 63 } : Room) s m ([.ref (p0a 0), .int p1, .ref p2s] : List Value).toArray below meth c s.heap [] 0 0 Q (F0 m 0 ls [])
  rw [← hle]
  refine wH9 hHe ?_
  unfold fJ5_putStringAt_47b60 at hrun
  refine lv_aload_n hx hb dJ5_putStringAt_47b60_0 rfl (lv_at hl 0 rfl) ?_
  refine lv_aload_n hx hb dJ5_putStringAt_47b60_1 rfl (lv_at hl 2 rfl) ?_
  obtain ⟨o_1, hc_1, hrun⟩ := bnd9 hrun
  have hPx : va_P (dC, dI) cls ((List.flatten ([(oJ4 (p0a 0) p0a p0k p0n p0w)] : List va_W)) ++ (List.flatten ([] : List va_W))) H := vP_fa (vP_perm hP (bP (List.Perm.refl _)))
  have hDx : va_D A ((List.flatten ([(oJ4 (p0a 0) p0a p0k p0n p0w)] : List va_W)) ++ (List.flatten ([] : List va_W))) := vD_fa (vD_perm hD (bP (List.Perm.refl _)))
  have hKx : va_K (dC, dI) cls ((List.flatten ([(tJ4 p0k)] : List (List (ClassId × FieldType)))) ++ (List.flatten ([] : List (List (ClassId × FieldType))))) s := vK_fa (vK_perm hK (bP (List.Perm.refl _)))
  have hPc := vP_l hPx
  have hDc := vD_l hDx
  have hKc := vK_l hKx
  have hFc := vfree hDx hS hA
  refine va_callv (va_runU (As := [.ref p2s]) (rest := []) ⟨hx, hb, hml, hown, hts⟩ (kJ5_inflateIfNeededFor_a7421 l dC dI (p0a := p0a) (p0k := p0k) (p0n := p0n) (p0w := p0w) (p1s := p2s) (p1v := p2v) (p1m := p2m) (p1f := p2f) (sz := _) (o := o_1) (hrun := hc_1)) (sx_cuP (owner := RJ5) 1 hts (gi_UP qw1226 qw1227 qw1228 qw1219 (gi_z qw1225)) (pv9_w hro_pv 3 rfl) rfl rfl rfl rfl (by decide +kernel) ⟨Nat.le_of_ble_eq_true rfl, Nat.le_of_ble_eq_true rfl⟩) ⟨PRE.blind, va_recv hKc hPc (ci := 12) (q0 := 0) rfl rfl, PRE.of (ENV.add hE sq9_m hro_p2) hS hFc hPc hKc hDc⟩ rfl rfl hl.1 rfl (lv_room (Nat.le_of_ble_eq_true rfl)) dJ5_putStringAt_47b60_2 ⟨(Nat.le_of_ble_eq_true rfl), (Nat.le_of_ble_eq_true rfl)⟩) hS (fun q _ h => hFc q h) hFc (fun u t H locs ht hvm hw hB hz1 hk1 hS => ?_)
  obtain ⟨b1, b2, b3⟩ := hB
  rw [ht] at b1
  obtain ⟨hP, hD, hK⟩ := JOINC (wc := (List.flatten ([(oJ4 (p0a 0) p0a p0k p0n p0w)] : List va_W))) (wr := (List.flatten ([] : List va_W))) (w1 := (List.flatten ([(oJ4 (p0a 0) p0a p0k p0n p0w)] : List va_W))) (t1 := (List.flatten ([(tJ4 p0k)] : List (List (ClassId × FieldType))))) hPx hDx hKx hk1 hFc b1 (va_K.moved hvm.symm b2) b3
  have hP : va_P (dC, dI) cls (List.flatten ([(oJ4 (p0a 0) p0a p0k p0n p0w)] : List va_W)) H := vP_perm (vP_fb hP) (bP (List.Perm.refl _))
  have hD : va_D A (List.flatten ([(oJ4 (p0a 0) p0a p0k p0n p0w)] : List va_W)) := vD_perm (vD_fb hD) (bP (List.Perm.refl _))
  have hK : va_K (dC, dI) cls (List.flatten ([(tJ4 p0k)] : List (List (ClassId × FieldType)))) s := vK_perm (vK_fb hK) (bP (List.Perm.refl _))
  refine lv_aload_n hx hb dJ5_putStringAt_47b60_5 rfl (lv_at hl 2 rfl) ?_
  refine lv_aload_n hx hb dJ5_putStringAt_47b60_6 rfl (lv_at hl 0 rfl) ?_
  refine va_get (D := (dC, dI)) (ci := 12) (v := .ref (p0a 1)) (C := RJ4) (T := TJ4) (N := 4) hx hb hts i_J4 hown hK hP 0 rfl rfl 0 (by decide) (hts _ qw1210) (fun _ h9 => h9) rfl dJ5_putStringAt_47b60_7 ?_
  refine lv_iload_n hx hb dJ5_putStringAt_47b60_10 rfl (lv_at hl 1 rfl) ?_
  refine lv_aload_n hx hb dJ5_putStringAt_47b60_11 rfl (lv_at hl 0 rfl) ?_
  refine va_get (D := (dC, dI)) (ci := 12) (v := .int (p0w 0 1)) (C := RJ4) (T := TJ4) (N := 4) hx hb hts i_J4 hown hK hP 0 rfl rfl 1 (by decide) (hts _ qw1203) (fun _ h9 => h9) rfl dJ5_putStringAt_47b60_12 ?_
  obtain ⟨o_2, hc_2, hrun⟩ := bnd9 hrun
  have hP2 : va_P (dC, dI) cls (List.flatten ([[((p0a 1), .inl ((p0k 1), (p0n 1), .inl (p0w 1)))], [((p0a 0), .inr (12, [.ref (p0a 1), .int (p0w 0 1), .int (p0w 0 2), .int (p0w 0 3)]))]] : List va_W)) H := vP_perm hP ((bP (List.Perm.refl _)).trans (List.Perm.append_right _ (List.perm_middle (a := (((p0a 1), .inl ((p0k 1), (p0n 1), .inl (p0w 1))) : Nat × va_E)) (l₁ := ([((p0a 0), .inr (12, [.ref (p0a 1), .int (p0w 0 1), .int (p0w 0 2), .int (p0w 0 3)]))] : va_W)) (l₂ := ([] : va_W)))))
  have hD2 : va_D A (List.flatten ([[((p0a 1), .inl ((p0k 1), (p0n 1), .inl (p0w 1)))], [((p0a 0), .inr (12, [.ref (p0a 1), .int (p0w 0 1), .int (p0w 0 2), .int (p0w 0 3)]))]] : List va_W)) := vD_perm hD ((bP (List.Perm.refl _)).trans (List.Perm.append_right _ (List.perm_middle (a := (((p0a 1), .inl ((p0k 1), (p0n 1), .inl (p0w 1))) : Nat × va_E)) (l₁ := ([((p0a 0), .inr (12, [.ref (p0a 1), .int (p0w 0 1), .int (p0w 0 2), .int (p0w 0 3)]))] : va_W)) (l₂ := ([] : va_W)))))
  have hK2 : va_K (dC, dI) cls (List.flatten ([[((p0k 1), .byte)], []] : List (List (ClassId × FieldType)))) s := vK_perm hK ((bP (List.Perm.refl _)).trans (List.Perm.append_right _ (List.perm_middle (a := (((p0k 1), .byte) : ClassId × FieldType)) (l₁ := ([] : List (ClassId × FieldType))) (l₂ := ([] : List (ClassId × FieldType))))))
  have hPx : va_P (dC, dI) cls ((List.flatten ([[((p0a 1), .inl ((p0k 1), (p0n 1), .inl (p0w 1)))]] : List va_W)) ++ (List.flatten ([[((p0a 0), .inr (12, [.ref (p0a 1), .int (p0w 0 1), .int (p0w 0 2), .int (p0w 0 3)]))]] : List va_W))) H := vP_fa (vP_perm hP2 (bP (List.Perm.refl _)))
  have hDx : va_D A ((List.flatten ([[((p0a 1), .inl ((p0k 1), (p0n 1), .inl (p0w 1)))]] : List va_W)) ++ (List.flatten ([[((p0a 0), .inr (12, [.ref (p0a 1), .int (p0w 0 1), .int (p0w 0 2), .int (p0w 0 3)]))]] : List va_W))) := vD_fa (vD_perm hD2 (bP (List.Perm.refl _)))
  have hKx : va_K (dC, dI) cls ((List.flatten ([[((p0k 1), .byte)]] : List (List (ClassId × FieldType)))) ++ (List.flatten ([[]] : List (List (ClassId × FieldType))))) s := vK_fa (vK_perm hK2 (bP (List.Perm.refl _)))
  have hPc := vP_l hPx
  have hDc := vD_l hDx
  have hKc := vK_l hKx
  have hFc := vfree hDx hS hA
  refine va_callv (va_runV (As := [.ref (p0a 1), .int p1, .int (p0w 0 1)]) (rest := []) ⟨hx, hb, hml, hown, hts⟩ (kJ0_getBytes_840e7 l dC dI (p0s := p2s) (p0v := p2v) (p0m := p2m) (p0f := p2f) (p1a := (p0a 1)) (p1k := (p0k 1)) (p1n := (p0n 1)) (p1f := (p0w 1)) (p2 := p1) (p3 := (p0w 0 1)) (sz := _) (o := o_2) (hrun := hc_2)) (cwV 3 hts (gi_V qw1230 qw1231 qw1232 qw1184 (gi_z qw1229)) rfl rfl rfl (by decide +kernel) ⟨Nat.le_of_ble_eq_true rfl, Nat.le_of_ble_eq_true rfl⟩) ⟨PRE.blind, vk_rcv hro_p2 hS, PRE.of (ENV.add hE sq9_m hro_p2) hS hFc hPc hKc hDc⟩ rfl rfl hl.1 rfl (lv_room (Nat.le_of_ble_eq_true rfl)) dJ5_putStringAt_47b60_15 ⟨(Nat.le_of_ble_eq_true rfl), (Nat.le_of_ble_eq_true rfl)⟩) hS (fun q _ h => hFc q h) hFc (fun u t H locs ht hvm hw hB hz1 hk1 hS => ?_)
  obtain ⟨b1, b2, b3⟩ := hB
  rw [ht] at b1
  obtain ⟨hP, hD, hK⟩ := JOINC (wc := (List.flatten ([[((p0a 1), .inl ((p0k 1), (p0n 1), .inl (p0w 1)))]] : List va_W))) (wr := (List.flatten ([[((p0a 0), .inr (12, [.ref (p0a 1), .int (p0w 0 1), .int (p0w 0 2), .int (p0w 0 3)]))]] : List va_W))) (w1 := (List.flatten ([[((p0a 1), .inl ((p0k 1), (p0n 1), .inl ((srw p0w 1 o_2) 1)))]] : List va_W))) (t1 := (List.flatten ([[((p0k 1), .byte)]] : List (List (ClassId × FieldType))))) hPx hDx hKx hk1 hFc b1 (va_K.moved hvm.symm b2) b3
  have hP3 : va_P (dC, dI) cls (List.flatten ([(oJ4 (p0a 0) p0a p0k p0n (srw p0w 1 o_2))] : List va_W)) H := vP_perm (vP_fb hP) ((bP (List.Perm.refl _)).trans (List.Perm.append_right _ (List.perm_middle (a := (((p0a 1), .inl ((p0k 1), (p0n 1), .inl ((srw p0w 1 o_2) 1))) : Nat × va_E)) (l₁ := ([((p0a 0), .inr (12, [.ref (p0a 1), .int ((srw p0w 1 o_2) 0 1), .int ((srw p0w 1 o_2) 0 2), .int ((srw p0w 1 o_2) 0 3)]))] : va_W)) (l₂ := ([] : va_W))).symm))
  have hD3 : va_D A (List.flatten ([(oJ4 (p0a 0) p0a p0k p0n (srw p0w 1 o_2))] : List va_W)) := vD_perm (vD_fb hD) ((bP (List.Perm.refl _)).trans (List.Perm.append_right _ (List.perm_middle (a := (((p0a 1), .inl ((p0k 1), (p0n 1), .inl ((srw p0w 1 o_2) 1))) : Nat × va_E)) (l₁ := ([((p0a 0), .inr (12, [.ref (p0a 1), .int ((srw p0w 1 o_2) 0 1), .int ((srw p0w 1 o_2) 0 2), .int ((srw p0w 1 o_2) 0 3)]))] : va_W)) (l₂ := ([] : va_W))).symm))
  have hK3 : va_K (dC, dI) cls (List.flatten ([(tJ4 p0k)] : List (List (ClassId × FieldType)))) s := vK_perm (vK_fb hK) ((bP (List.Perm.refl _)).trans (List.Perm.append_right _ (List.perm_middle (a := (((p0k 1), .byte) : ClassId × FieldType)) (l₁ := ([] : List (ClassId × FieldType))) (l₂ := ([] : List (ClassId × FieldType)))).symm))
  have hP : va_P (dC, dI) cls (List.flatten ([(oJ4 (p0a 0) p0a p0k p0n (srw p0w 1 o_2))] : List va_W)) H := vP_perm hP3 (bP (List.Perm.refl _))
  have hD : va_D A (List.flatten ([(oJ4 (p0a 0) p0a p0k p0n (srw p0w 1 o_2))] : List va_W)) := vD_perm hD3 (bP (List.Perm.refl _))
  have hK : va_K (dC, dI) cls (List.flatten ([(tJ4 p0k)] : List (List (ClassId × FieldType)))) s := vK_perm hK3 (bP (List.Perm.refl _))
  have ho9 : (srw p0w 1 o_2) = o := Option.some.inj hrun
  have hP9 : va_P (dC, dI) cls (List.flatten ([(oJ4 (p0a 0) p0a p0k p0n o)] : List va_W)) H := by first | exact hP | (rw [← ho9]; exact hP)
  have hD9 : va_D A (List.flatten ([(oJ4 (p0a 0) p0a p0k p0n o)] : List va_W)) := by first | exact hD | (rw [← ho9]; exact hD)
  subst hQ
  exact W.vret hx hb hr (fun t ht hW => ⟨⟨(), rfl, trivial, ⟨by rw [ht]; exact hP9, va_K.moved hW.alike hK, hD9⟩⟩, hS.F ht⟩) hS.2.2 dJ5_putStringAt_47b60_18
def fJ5_append_cf1ce_G24_6 (p1m : Nat) (p1f : RI) (o_1 : Int32) (o_3 : ST × (Nat → Nat)) : Option (ST × (Nat → Nat)) := ((fJ5_putStringAt_47b60 (o_3.2) (o_3.1) ((o_3.1) 0 3) p1m p1f).bind fun (o_7 : ST) => (lt9 (upw o_7 0 3 ((o_7 0 3) + o_1)) fun (w8 : ST) => some (w8, (o_3.2))))
theorem mo_fJ5_append_cf1ce_G24_6 {p1m : Nat} {p1f : RI} {o_1 : Int32} {o_3 : ST × (Nat → Nat)} {o9q : ST × (Nat → Nat)} (hrun : fJ5_append_cf1ce_G24_6 p1m p1f o_1 o_3 = some o9q) : glJ4 (o_3.2) (o9q.2) := by
  unfold fJ5_append_cf1ce_G24_6 at hrun
  obtain ⟨o_7, hc_7, hrun⟩ := bnd9 hrun
  obtain ⟨w8, ew8, hrun⟩ := let9 hrun
  obtain rfl := (Option.some.inj hrun)
  exact (glJ4_rf _)
def fJ5_append_cf1ce (p0n : Nat → Nat) (p0w : ST) (p1m : Nat) (p1f : RI) : Option (ST × (Nat → Nat)) := ((fJ0_length_8abf5 p1m).bind fun (o_1 : Int32) => ((fJ5_ensureCapacityInternal_d00df p0n p0w ((p0w 0 3) + o_1)).bind fun (o_3 : ST × (Nat → Nat)) => (fJ5_append_cf1ce_G24_6 p1m p1f o_1 o_3)))
theorem mo_fJ5_append_cf1ce {p0n : Nat → Nat} {p0w : ST} {p1m : Nat} {p1f : RI} {o9q : ST × (Nat → Nat)} (hrun : fJ5_append_cf1ce p0n p0w p1m p1f = some o9q) : glJ4 p0n (o9q.2) := by
  unfold fJ5_append_cf1ce at hrun
  obtain ⟨o_1, hc_1, hrun⟩ := bnd9 hrun
  obtain ⟨o_3, hc_3, hrun⟩ := bnd9 hrun
  exact (glJ4_tr (mo_fJ5_ensureCapacityInternal_d00df hc_3) (mo_fJ5_append_cf1ce_G24_6 hrun))
set_option maxHeartbeats 16000000 in
set_option maxRecDepth 100000 in
theorem kJ5_append_cf1ce {zs : ZS} (l : Launch) (dC : Nat → ClassId) (dI : Nat → Nat → Nat) (p0a : Nat → Nat) (p0k : Nat → ClassId) (p0n : Nat → Nat) (p0w : ST) (p1s : Nat) (p1v : Nat) (p1m : Nat) (p1f : RI) (sz : Nat) (o : ST × (Nat → Nat)) (hrun : fJ5_append_cf1ce p0n p0w p1m p1f = some o) : Met l yJ5_append_cf1ce (wz yJ5_append_cf1ce cJ5_append_cf1ce 3 (Option.some (Jvm.ClassFile.FieldType.object "java/lang/AbstractStringBuilder"))) ({ frames := 4, cells := (hcJ4 p0n (o.2)), slots := (3 * (gcJ4 p0n (o.2))), locals := 92 } : Room) (va_Pc [.ref (p0a 0), .ref p1s] (PRE (zA (zA zs (sq9 p1s p1v p1m p1f)) (pv9)) dC dI (List.flatten ([(oJ4 (p0a 0) p0a p0k p0n p0w)] : List va_W)) (List.flatten ([(tJ4 p0k)] : List (List (ClassId × FieldType)))) sz)) (va_Qr (fun (_ : Unit) => True) (fun _ ra t => ra = (p0a 0) ∧ ∃ (xp0_0_z : Nat), ∃ (zp0_0_z : ClassId), POST dC dI (List.flatten ([(oJ4 (p0a 0) (st1 p0a 1 xp0_0_z) (st1 p0k 1 zp0_0_z) (o.2) (o.1))] : List va_W)) (List.flatten ([(tJ4 (st1 p0k 1 zp0_0_z))] : List (List (ClassId × FieldType)))) (va_A (List.flatten ([(oJ4 (p0a 0) p0a p0k p0n p0w)] : List va_W)) sz) t) (va_A (List.flatten ([(oJ4 (p0a 0) p0a p0k p0n p0w)] : List va_W)) sz)) (hcJ4 p0n (o.2)) (3 * (gcJ4 p0n (o.2))) (va_A (List.flatten ([(oJ4 (p0a 0) p0a p0k p0n p0w)] : List va_W)) sz) := by
  refine Met.ofW (cc := cJ5_append_cf1ce) (maxL := 3) (ret := (Option.some (Jvm.ClassFile.FieldType.object "java/lang/AbstractStringBuilder"))) (by decide) rfl ?_
  intro p e s m args below meth c s₁ B hml hv
  obtain ⟨rfl, hsz, hP, hK, hD0, hE⟩ := hv
  have hx := B.exec
  have hb := B.bytes
  have hr := B.returns
  have hts0 := atoms_spec (ws := wz yJ5_append_cf1ce cJ5_append_cf1ce 3 (Option.some (Jvm.ClassFile.FieldType.object "java/lang/AbstractStringBuilder"))) B.pre
  have hts : ∀ w ∈ gw, w.before _ s = true := fun w h => hts0 w (List.mem_cons_of_mem _ h)
  have hown : s.vm.findClass RJ5 = some m.cls := findClass_of_methodNamed B.named
  have hlocks := B.notSynchronized
  subst hsz
  have hD := hD0.self (sz := s.heap.size)
  refine gQ9 ?_
  intro Q hQ
  generalize hAe : va_A (List.flatten ([(oJ4 (p0a 0) p0a p0k p0n p0w)] : List va_W)) s.heap.size = A at hD hE hQ
  have hA : ∀ q : Nat, s.heap.size ≤ q → A q := fun q h => by rw [← hAe]; exact Or.inr h
  have hro := ENV.ex hE
  have hro_pv := hro.2
  replace hro := hro.1
  have hro_p1 := hro.2
  replace hro := hro.1
  have hS : va_S A s.heap s.heap [] := va_S.rf
  have hP : va_P (dC, dI) cls (List.flatten ([(oJ4 (p0a 0) p0a p0k p0n p0w)] : List va_W)) s.heap := hP
  have hl := lv_entry ([.ref (p0a 0), .ref p1s]) (n := 3) (Nat.le_of_ble_eq_true rfl)
  rw [lg_entry_eq]
  generalize (lg_sl ([.ref (p0a 0), .ref p1s]) ++ List.replicate (3 - (lg_sl ([.ref (p0a 0), .ref p1s])).length) Slot.unset).toArray = ls at hl ⊢
  have hl : lv_has ls 3 [(0, .ref (p0a 0)), (1, .ref p1s)] := hl
  obtain ⟨H, hHe⟩ : ∃ H, H = s.heap := ⟨_, rfl⟩
  obtain ⟨locs, hle⟩ : ∃ locs : List Loc, locs = [] := ⟨_, rfl⟩
  rw [← hHe] at hP
  have hS : va_S A s.heap H locs := by rw [hHe, hle]; exact hS
  show W p l e ({ frames := 4, cells := (hcJ4 p0n (o.2)), slots := (3 * (gcJ4 p0n (o.2))), locals := 92 } : Room) s m ([.ref (p0a 0), .ref p1s] : List Value).toArray below meth c s.heap [] 0 0 Q (F0 m 0 ls [])
  rw [← hle]
  refine wH9 hHe ?_
  have hg_p0 := glJ4_rf p0n
  have hgn_p0 : glJ4 p0n (o.2) := (mo_fJ5_append_cf1ce hrun)
  refine W.widen (k := (hcJ4 p0n p0n)) (n := (3 * (gcJ4 p0n p0n))) (Nat.zero_le _) (Nat.zero_le _) ?_
  unfold fJ5_append_cf1ce at hrun
  refine lv_aload_n hx hb dJ5_append_cf1ce_0 rfl (lv_at hl 1 rfl) ?_
  refine lv_ifnonnull (tgt := 9) hx hb dJ5_append_cf1ce_1 (by decide) ?_
  refine lv_aload_n hx hb dJ5_append_cf1ce_9 rfl (lv_at hl 1 rfl) ?_
  obtain ⟨o_1, hc_1, hrun⟩ := bnd9 hrun
  have hPx : va_P (dC, dI) cls ((List.flatten ([] : List va_W)) ++ (List.flatten ([(oJ4 (p0a 0) p0a p0k p0n p0w)] : List va_W))) H := vP_fa (vP_perm hP (bP (List.Perm.refl _)))
  have hDx : va_D A ((List.flatten ([] : List va_W)) ++ (List.flatten ([(oJ4 (p0a 0) p0a p0k p0n p0w)] : List va_W))) := vD_fa (vD_perm hD (bP (List.Perm.refl _)))
  have hKx : va_K (dC, dI) cls ((List.flatten ([] : List (List (ClassId × FieldType)))) ++ (List.flatten ([(tJ4 p0k)] : List (List (ClassId × FieldType))))) s := vK_fa (vK_perm hK (bP (List.Perm.refl _)))
  have hPc := vP_l hPx
  have hDc := vD_l hDx
  have hKc := vK_l hKx
  have hFc := vfree hDx hS hA
  refine va_calli (va_runV (As := []) (rest := []) ⟨hx, hb, hml, hown, hts⟩ (kJ0_length_8abf5 l dC dI (p0s := p1s) (p0v := p1v) (p0m := p1m) (p0f := p1f) (sz := _) (o := o_1) (hrun := hc_1)) (cwV 0 hts (gi_V qw1234 qw1235 qw1236 qw1184 (gi_z qw1233)) rfl rfl rfl (by decide +kernel) ⟨Nat.le_of_ble_eq_true rfl, Nat.le_of_ble_eq_true rfl⟩) ⟨PRE.blind, vk_rcv hro_p1 hS, PRE.of (ENV.add hE sq9_m hro_p1) hS hFc hPc hKc hDc⟩ rfl rfl hl.1 rfl (lv_room (Nat.le_of_ble_eq_true rfl)) dJ5_append_cf1ce_10 ⟨(show (hcJ4 p0n p0n) + 0 ≤ (hcJ4 p0n (o.2)) from by have q0 := gmJ4 hg_p0 hgn_p0; omega), (show (3 * (gcJ4 p0n p0n)) + 0 ≤ (3 * (gcJ4 p0n (o.2))) from by have q0 := gmJ4 hg_p0 hgn_p0; omega)⟩) hS (fun q _ h => hFc q h) hFc (fun r2 u t H locs ht hvm hw hB hz1 hk1 hS => ?_)
  obtain ⟨b1, b2, b3⟩ := hB
  rw [ht] at b1
  obtain ⟨hP, hD, hK⟩ := JOINC (wc := (List.flatten ([] : List va_W))) (wr := (List.flatten ([(oJ4 (p0a 0) p0a p0k p0n p0w)] : List va_W))) (w1 := (List.flatten ([] : List va_W))) (t1 := (List.flatten ([] : List (List (ClassId × FieldType))))) hPx hDx hKx hk1 hFc b1 (va_K.moved hvm.symm b2) b3
  have hP : va_P (dC, dI) cls (List.flatten ([(oJ4 (p0a 0) p0a p0k p0n p0w)] : List va_W)) H := vP_perm (vP_fb hP) (bP (List.Perm.refl _))
  have hD : va_D A (List.flatten ([(oJ4 (p0a 0) p0a p0k p0n p0w)] : List va_W)) := vD_perm (vD_fb hD) (bP (List.Perm.refl _))
  have hK : va_K (dC, dI) cls (List.flatten ([(tJ4 p0k)] : List (List (ClassId × FieldType)))) s := vK_perm (vK_fb hK) (bP (List.Perm.refl _))
  obtain rfl : o_1 = r2 := hw.symm
  refine lv_istore_n (lv' := [(2, .int o_1), (0, .ref (p0a 0)), (1, .ref p1s)]) hx hb dJ5_append_cf1ce_13 rfl hl (by decide) rfl (fun ls hl => ?_)
  refine lv_aload_n hx hb dJ5_append_cf1ce_14 rfl (lv_at hl 1 rfl) ?_
  refine lv_aload_n hx hb dJ5_append_cf1ce_15 rfl (lv_at hl 1 rfl) ?_
  refine va_get (D := (dC, dI)) (ci := 12) (v := .int (p0w 0 3)) (C := RJ4) (T := TJ4) (N := 4) hx hb hts i_J4 hown hK hP 0 rfl rfl 3 (by decide) (hts _ qw1237) (fun _ h9 => h9) rfl dJ5_append_cf1ce_16 ?_
  refine lv_iload_n hx hb dJ5_append_cf1ce_19 rfl (lv_at hl 0 rfl) ?_
  refine lv_iadd hx hb dJ5_append_cf1ce_20 ?_
  obtain ⟨o_3, hc_3, hrun⟩ := bnd9 hrun
  have hPx : va_P (dC, dI) cls ((List.flatten ([(oJ4 (p0a 0) p0a p0k p0n p0w)] : List va_W)) ++ (List.flatten ([] : List va_W))) H := vP_fa (vP_perm hP (bP (List.Perm.refl _)))
  have hDx : va_D A ((List.flatten ([(oJ4 (p0a 0) p0a p0k p0n p0w)] : List va_W)) ++ (List.flatten ([] : List va_W))) := vD_fa (vD_perm hD (bP (List.Perm.refl _)))
  have hKx : va_K (dC, dI) cls ((List.flatten ([(tJ4 p0k)] : List (List (ClassId × FieldType)))) ++ (List.flatten ([] : List (List (ClassId × FieldType))))) s := vK_fa (vK_perm hK (bP (List.Perm.refl _)))
  have hPc := vP_l hPx
  have hDc := vD_l hDx
  have hKc := vK_l hKx
  have hFc := vfree hDx hS hA
  have hgn_p0 : glJ4 (o_3.2) (o.2) := (mo_fJ5_append_cf1ce_G24_6 hrun)
  refine va_callv (va_runU (As := [.int ((p0w 0 3) + o_1)]) (rest := []) ⟨hx, hb, hml, hown, hts⟩ (kJ5_ensureCapacityInternal_d00df l dC dI (p0a := p0a) (p0k := p0k) (p0n := p0n) (p0w := p0w) (p1 := ((p0w 0 3) + o_1)) (sz := _) (o := o_3) (hrun := hc_3)) (sx_cuP (owner := RJ5) 1 hts (gi_UP qw1239 qw1240 qw1241 qw1219 (gi_z qw1238)) (pv9_w hro_pv 0 rfl) rfl rfl rfl rfl (by decide +kernel) ⟨Nat.le_of_ble_eq_true rfl, Nat.le_of_ble_eq_true rfl⟩) ⟨PRE.blind, va_recv hKc hPc (ci := 12) (q0 := 0) rfl rfl, PRE.of (ENV.add hE pv9_m hro_pv) hS hFc hPc hKc hDc⟩ rfl rfl hl.1 rfl (lv_room (Nat.le_of_ble_eq_true rfl)) dJ5_append_cf1ce_21 ⟨(show (hcJ4 p0n p0n) + (hcJ4 p0n (o_3.2)) ≤ (hcJ4 p0n (o.2)) from by have q0 := gsJ4 hg_p0 (mo_fJ5_ensureCapacityInternal_d00df hc_3) hgn_p0; omega), (show (3 * (gcJ4 p0n p0n)) + (3 * (gcJ4 p0n (o_3.2))) ≤ (3 * (gcJ4 p0n (o.2))) from by have q0 := gsJ4 hg_p0 (mo_fJ5_ensureCapacityInternal_d00df hc_3) hgn_p0; omega)⟩) hS (fun q _ h => hFc q h) hFc (fun u t H locs ht hvm hw hB hz1 hk1 hS => ?_)
  obtain ⟨x4, z5, hB⟩ := hB
  obtain ⟨b1, b2, b3⟩ := hB
  rw [ht] at b1
  obtain ⟨hP, hD, hK⟩ := JOINC (wc := (List.flatten ([(oJ4 (p0a 0) p0a p0k p0n p0w)] : List va_W))) (wr := (List.flatten ([] : List va_W))) (w1 := (List.flatten ([(oJ4 (p0a 0) (st1 p0a 1 x4) (st1 p0k 1 z5) (o_3.2) (o_3.1))] : List va_W))) (t1 := (List.flatten ([(tJ4 (st1 p0k 1 z5))] : List (List (ClassId × FieldType))))) hPx hDx hKx hk1 hFc b1 (va_K.moved hvm.symm b2) b3
  have hP : va_P (dC, dI) cls (List.flatten ([(oJ4 (p0a 0) (st1 p0a 1 x4) (st1 p0k 1 z5) (o_3.2) (o_3.1))] : List va_W)) H := vP_perm (vP_fb hP) (bP (List.Perm.refl _))
  have hD : va_D A (List.flatten ([(oJ4 (p0a 0) (st1 p0a 1 x4) (st1 p0k 1 z5) (o_3.2) (o_3.1))] : List va_W)) := vD_perm (vD_fb hD) (bP (List.Perm.refl _))
  have hK : va_K (dC, dI) cls (List.flatten ([(tJ4 (st1 p0k 1 z5))] : List (List (ClassId × FieldType)))) s := vK_perm (vK_fb hK) (bP (List.Perm.refl _))
  refine W.widen (k := (hcJ4 p0n (o_3.2))) (n := (3 * (gcJ4 p0n (o_3.2)))) (by have a0 := gcJ4_add hg_p0 (mo_fJ5_ensureCapacityInternal_d00df hc_3); omega) (by have a0 := gcJ4_add hg_p0 (mo_fJ5_ensureCapacityInternal_d00df hc_3); omega) ?_
  have hg_p0 : glJ4 p0n (o_3.2) := glJ4_tr hg_p0 (mo_fJ5_ensureCapacityInternal_d00df hc_3)
  unfold fJ5_append_cf1ce_G24_6 at hrun
  refine lv_aload_n hx hb dJ5_append_cf1ce_24 rfl (lv_at hl 1 rfl) ?_
  refine lv_aload_n hx hb dJ5_append_cf1ce_25 rfl (lv_at hl 1 rfl) ?_
  refine va_get (D := (dC, dI)) (ci := 12) (v := .int ((o_3.1) 0 3)) (C := RJ4) (T := TJ4) (N := 4) hx hb hts i_J4 hown hK hP 0 rfl rfl 3 (by decide) (hts _ qw1237) (fun _ h9 => h9) rfl dJ5_append_cf1ce_26 ?_
  refine lv_aload_n hx hb dJ5_append_cf1ce_29 rfl (lv_at hl 2 rfl) ?_
  obtain ⟨o_7, hc_7, hrun⟩ := bnd9 hrun
  have hPx : va_P (dC, dI) cls ((List.flatten ([(oJ4 (p0a 0) (st1 p0a 1 x4) (st1 p0k 1 z5) (o_3.2) (o_3.1))] : List va_W)) ++ (List.flatten ([] : List va_W))) H := vP_fa (vP_perm hP (bP (List.Perm.refl _)))
  have hDx : va_D A ((List.flatten ([(oJ4 (p0a 0) (st1 p0a 1 x4) (st1 p0k 1 z5) (o_3.2) (o_3.1))] : List va_W)) ++ (List.flatten ([] : List va_W))) := vD_fa (vD_perm hD (bP (List.Perm.refl _)))
  have hKx : va_K (dC, dI) cls ((List.flatten ([(tJ4 (st1 p0k 1 z5))] : List (List (ClassId × FieldType)))) ++ (List.flatten ([] : List (List (ClassId × FieldType))))) s := vK_fa (vK_perm hK (bP (List.Perm.refl _)))
  have hPc := vP_l hPx
  have hDc := vD_l hDx
  have hKc := vK_l hKx
  have hFc := vfree hDx hS hA
  refine va_callv (va_runU (As := [.int ((o_3.1) 0 3), .ref p1s]) (rest := []) ⟨hx, hb, hml, hown, hts⟩ (kJ5_putStringAt_47b60 l dC dI (p0a := (st0 (p0a 0) (st1 p0a 1 x4))) (p0k := (st1 p0k 1 z5)) (p0n := (o_3.2)) (p0w := (o_3.1)) (p1 := ((o_3.1) 0 3)) (p2s := p1s) (p2v := p1v) (p2m := p1m) (p2f := p1f) (sz := _) (o := o_7) (hrun := hc_7)) (sx_cuP (owner := RJ5) 2 hts (gi_UP qw1243 qw1244 qw1245 qw1219 (gi_z qw1242)) (pv9_w hro_pv 2 rfl) rfl rfl rfl rfl (by decide +kernel) ⟨Nat.le_of_ble_eq_true rfl, Nat.le_of_ble_eq_true rfl⟩) ⟨PRE.blind, va_recv hKc hPc (ci := 12) (q0 := 0) rfl rfl, PRE.of (ENV.add (ENV.add hE sq9_m hro_p1) pv9_m hro_pv) hS hFc hPc hKc hDc⟩ rfl rfl hl.1 rfl (lv_room (Nat.le_of_ble_eq_true rfl)) dJ5_append_cf1ce_30 ⟨(show (hcJ4 p0n (o_3.2)) + 0 ≤ (hcJ4 p0n (o.2)) from by have q0 := gmJ4 hg_p0 hgn_p0; omega), (show (3 * (gcJ4 p0n (o_3.2))) + 0 ≤ (3 * (gcJ4 p0n (o.2))) from by have q0 := gmJ4 hg_p0 hgn_p0; omega)⟩) hS (fun q _ h => hFc q h) hFc (fun u t H locs ht hvm hw hB hz1 hk1 hS => ?_)
  obtain ⟨b1, b2, b3⟩ := hB
  rw [ht] at b1
  obtain ⟨hP, hD, hK⟩ := JOINC (wc := (List.flatten ([(oJ4 (p0a 0) (st1 p0a 1 x4) (st1 p0k 1 z5) (o_3.2) (o_3.1))] : List va_W))) (wr := (List.flatten ([] : List va_W))) (w1 := (List.flatten ([(oJ4 (p0a 0) (st1 p0a 1 x4) (st1 p0k 1 z5) (o_3.2) o_7)] : List va_W))) (t1 := (List.flatten ([(tJ4 (st1 p0k 1 z5))] : List (List (ClassId × FieldType))))) hPx hDx hKx hk1 hFc b1 (va_K.moved hvm.symm b2) b3
  have hP : va_P (dC, dI) cls (List.flatten ([(oJ4 (p0a 0) (st1 p0a 1 x4) (st1 p0k 1 z5) (o_3.2) o_7)] : List va_W)) H := vP_perm (vP_fb hP) (bP (List.Perm.refl _))
  have hD : va_D A (List.flatten ([(oJ4 (p0a 0) (st1 p0a 1 x4) (st1 p0k 1 z5) (o_3.2) o_7)] : List va_W)) := vD_perm (vD_fb hD) (bP (List.Perm.refl _))
  have hK : va_K (dC, dI) cls (List.flatten ([(tJ4 (st1 p0k 1 z5))] : List (List (ClassId × FieldType)))) s := vK_perm (vK_fb hK) (bP (List.Perm.refl _))
  refine lv_aload_n hx hb dJ5_append_cf1ce_33 rfl (lv_at hl 1 rfl) ?_
  refine lv_dup hx hb dJ5_append_cf1ce_34 rfl ?_
  refine va_get (D := (dC, dI)) (ci := 12) (v := .int (o_7 0 3)) (C := RJ4) (T := TJ4) (N := 4) hx hb hts i_J4 hown hK hP 0 rfl rfl 3 (by decide) (hts _ qw1237) (fun _ h9 => h9) rfl dJ5_append_cf1ce_35 ?_
  refine lv_iload_n hx hb dJ5_append_cf1ce_38 rfl (lv_at hl 0 rfl) ?_
  refine lv_iadd hx hb dJ5_append_cf1ce_39 ?_
  refine va_put (D := (dC, dI)) (ci := 12) (v := .int ((o_7 0 3) + o_1)) (ty := .int) (C := RJ4) (T := TJ4) (N := 4) hx hb hts i_J4 tyJ4 tyJ4_ok nmJ4 hown hK hP hD hS 0 rfl rfl 3 (by decide) (hts _ qw1237) (fun _ h9 => h9) rfl (by decide +kernel) rfl rfl (Nat.le_of_ble_eq_true rfl) dJ5_append_cf1ce_40 (fun H locs hP hD hS => ?_)
  have hP : va_P (dC, dI) cls (List.flatten ([(oJ4 (p0a 0) (st1 p0a 1 x4) (st1 p0k 1 z5) (o_3.2) (upw o_7 0 3 ((o_7 0 3) + o_1)))] : List va_W)) H := hP
  have hD : va_D A (List.flatten ([(oJ4 (p0a 0) (st1 p0a 1 x4) (st1 p0k 1 z5) (o_3.2) (upw o_7 0 3 ((o_7 0 3) + o_1)))] : List va_W)) := hD
  obtain ⟨w8, ew8, hrun⟩ := let9 hrun
  rw [← ew8] at hP hD
  refine lv_aload_n hx hb dJ5_append_cf1ce_43 rfl (lv_at hl 1 rfl) ?_
  have ho9 : (w8, (o_3.2)) = o := Option.some.inj hrun
  subst ho9
  subst hQ
  exact W.aret (v := .ref (p0a 0)) (rt := .object "java/lang/AbstractStringBuilder") hx hb hr (Or.inl ⟨_, rfl⟩) (Or.inr ⟨_, rfl⟩) (fun t ht hW => ⟨⟨(), (p0a 0), rfl, trivial, rfl, ⟨x4, z5, by rw [ht]; exact hP, va_K.moved hW.alike hK, hD⟩⟩, hS.F ht⟩) hS.2.2 dJ5_append_cf1ce_44
def fJ6_stringSize_0f7a4_L16 (v0_11 : Int32) (v1_11 : Int32) : Nat → Int32 → Int32 → Option (Sum Int32 Unit)
  | 0 => fun _ _ => none
  | n_16 + 1 => fun v2_16 v3_16 => (if 10 ≤ v3_16 then some (Sum.inr ()) else (if v0_11 ≤ v2_16 then ((fJ6_stringSize_0f7a4_L16 v0_11 v1_11 n_16) (10 * v2_16) (v3_16 + 1)) else some (Sum.inl (v3_16 + v1_11))))
def fJ6_stringSize_0f7a4_J11 (v0_11 : Int32) (v1_11 : Int32) : Option Int32 := ((fJ6_stringSize_0f7a4_L16 v0_11 v1_11 NF (-10) 1).bind fun (o16 : (Sum Int32 Unit)) => Sum.elim (fun r => some r) (fun (t16 : Unit) => some (10 + v1_11)) o16)
def fJ6_stringSize_0f7a4 (p0 : Int32) : Option Int32 := (if p0 < 0 then (fJ6_stringSize_0f7a4_J11 p0 1) else (fJ6_stringSize_0f7a4_J11 (-p0) 0))
set_option maxHeartbeats 16000000 in
set_option maxRecDepth 100000 in
theorem kJ6_stringSize_0f7a4 {zs : ZS} (l : Launch) (dC : Nat → ClassId) (dI : Nat → Nat → Nat) (p0 : Int32) (sz : Nat) (o : Int32) (hrun : fJ6_stringSize_0f7a4 p0 = some o) : Met l yJ6_stringSize_0f7a4 (wz yJ6_stringSize_0f7a4 cJ6_stringSize_0f7a4 4 (Option.some Jvm.ClassFile.FieldType.int)) ({ frames := 0, cells := 0, slots := 0, locals := 0 } : Room) (va_Pc [.int p0] (PRE zs dC dI (List.flatten ([] : List va_W)) (List.flatten ([] : List (List (ClassId × FieldType)))) sz)) (va_Qi (fun (r : Int32) (_ : Unit) => r = o) (fun _ t => POST dC dI (List.flatten ([] : List va_W)) (List.flatten ([] : List (List (ClassId × FieldType)))) (va_A (List.flatten ([] : List va_W)) sz) t) (va_A (List.flatten ([] : List va_W)) sz)) 0 0 (va_A (List.flatten ([] : List va_W)) sz) := by
  refine Met.ofW (cc := cJ6_stringSize_0f7a4) (maxL := 4) (ret := (Option.some Jvm.ClassFile.FieldType.int)) (by decide) rfl ?_
  intro p e s m args below meth c s₁ B hml hv
  obtain ⟨rfl, hsz, hP, hK, hD0, hE⟩ := hv
  have hx := B.exec
  have hb := B.bytes
  have hr := B.returns
  have hts0 := atoms_spec (ws := wz yJ6_stringSize_0f7a4 cJ6_stringSize_0f7a4 4 (Option.some Jvm.ClassFile.FieldType.int)) B.pre
  have hts : ∀ w ∈ gw, w.before _ s = true := fun w h => hts0 w (List.mem_cons_of_mem _ h)
  have hown : s.vm.findClass RJ6 = some m.cls := findClass_of_methodNamed B.named
  have hlocks := B.notSynchronized
  subst hsz
  have hD := hD0.self (sz := s.heap.size)
  refine gQ9 ?_
  intro Q hQ
  generalize hAe : va_A (List.flatten ([] : List va_W)) s.heap.size = A at hD hE hQ
  have hA : ∀ q : Nat, s.heap.size ≤ q → A q := fun q h => by rw [← hAe]; exact Or.inr h
  have hS : va_S A s.heap s.heap [] := va_S.rf
  have hP : va_P (dC, dI) cls (List.flatten ([] : List va_W)) s.heap := hP
  have hl := lv_entry ([.int p0]) (n := 4) (Nat.le_of_ble_eq_true rfl)
  rw [lg_entry_eq]
  generalize (lg_sl ([.int p0]) ++ List.replicate (4 - (lg_sl ([.int p0])).length) Slot.unset).toArray = ls at hl ⊢
  have hl : lv_has ls 4 [(0, .int p0)] := hl
  obtain ⟨H, hHe⟩ : ∃ H, H = s.heap := ⟨_, rfl⟩
  obtain ⟨locs, hle⟩ : ∃ locs : List Loc, locs = [] := ⟨_, rfl⟩
  rw [← hHe] at hP
  have hS : va_S A s.heap H locs := by rw [hHe, hle]; exact hS
  show W p l e ({ frames := 0, cells := 0, slots := 0, locals := 0 } : Room) s m ([.int p0] : List Value).toArray below meth c s.heap [] 0 0 Q (F0 m 0 ls [])
  rw [← hle]
  refine wH9 hHe ?_
  unfold fJ6_stringSize_0f7a4 at hrun
  refine lv_iconst (v := 1) hx hb dJ6_stringSize_0f7a4_0 (by decide) ?_
  refine lv_istore_n (lv' := [(1, .int 1), (0, .int p0)]) hx hb dJ6_stringSize_0f7a4_1 rfl hl (by decide) rfl (fun ls hl => ?_)
  refine lv_iload_n hx hb dJ6_stringSize_0f7a4_2 rfl (lv_at hl 1 rfl) ?_
  have J11 : ∀ (v0_11 : Int32) (v1_11 : Int32) (H : Heap) (locs : List Loc) (ls : Array Slot), (fJ6_stringSize_0f7a4_J11 v0_11 v1_11) = some o → va_P (dC, dI) cls (List.flatten ([] : List va_W)) H → va_D A (List.flatten ([] : List va_W)) → va_K (dC, dI) cls (List.flatten ([] : List (List (ClassId × FieldType)))) s → va_S A s.heap H locs → lv_has ls 4 [(0, .int v0_11), (1, .int v1_11)] → W p l e ({ frames := 0, cells := 0, slots := 0, locals := 0 } : Room) s m ([.int p0] : List Value).toArray below meth c H locs 0 0 Q (F0 m 11 ls []) := by
    intro v0_11 v1_11 H locs ls hrun hP hD hK hS hl 
    unfold fJ6_stringSize_0f7a4_J11 at hrun
    refine lv_bipush (v := (-10)) hx hb dJ6_stringSize_0f7a4_11 (by decide) ?_
    refine lv_istore_n (lv' := [(2, .int (-10)), (0, .int v0_11), (1, .int v1_11)]) hx hb dJ6_stringSize_0f7a4_13 rfl hl (by decide) rfl (fun ls hl => ?_)
    refine lv_iconst (v := 1) hx hb dJ6_stringSize_0f7a4_14 (by decide) ?_
    refine lv_istore_n (lv' := [(3, .int 1), (2, .int (-10)), (0, .int v0_11), (1, .int v1_11)]) hx hb dJ6_stringSize_0f7a4_15 rfl hl (by decide) rfl (fun ls hl => ?_)
    have L16 : ∀ (n_16 : Nat) (v2_16 : Int32) (v3_16 : Int32) (o16 : (Sum Int32 Unit)) (H : Heap) (locs : List Loc) (ls : Array Slot), (fJ6_stringSize_0f7a4_L16 v0_11 v1_11 n_16) v2_16 v3_16 = some o16 → va_P (dC, dI) cls (List.flatten ([] : List va_W)) H → va_D A (List.flatten ([] : List va_W)) → va_K (dC, dI) cls (List.flatten ([] : List (List (ClassId × FieldType)))) s → va_S A s.heap H locs → lv_has ls 4 [(0, .int v0_11), (1, .int v1_11), (2, .int v2_16), (3, .int v3_16)] → (∀ r, o16 = Sum.inl r → r = o) → (∀ (t16 : Unit), o16 = Sum.inr t16 → ∀ (H : Heap) (locs : List Loc) (ls : Array Slot), va_P (dC, dI) cls (List.flatten ([] : List va_W)) H → va_D A (List.flatten ([] : List va_W)) → va_K (dC, dI) cls (List.flatten ([] : List (List (ClassId × FieldType)))) s → va_S A s.heap H locs → lv_has ls 4 [(1, .int v1_11)] → W p l e ({ frames := 0, cells := 0, slots := 0, locals := 0 } : Room) s m ([.int p0] : List Value).toArray below meth c H locs 0 0 Q (F0 m 42 ls [])) → W p l e ({ frames := 0, cells := 0, slots := 0, locals := 0 } : Room) s m ([.int p0] : List Value).toArray below meth c H locs 0 0 Q (F0 m 16 ls []) := by
      intro n_16
      induction n_16 with
      | zero => intro v2_16 v3_16 o16 H locs ls hrun; exact (no9 rfl hrun).elim
      | succ n_16 IH16 =>
        intro v2_16 v3_16 o16 H locs ls hrun hP hD hK hS hl hr16 hk16
        unfold fJ6_stringSize_0f7a4_L16 at hrun
        refine lv_iload_n hx hb dJ6_stringSize_0f7a4_16 rfl (lv_at hl 3 rfl) ?_
        refine lv_bipush (v := 10) hx hb dJ6_stringSize_0f7a4_17 (by decide) ?_
        rcases br9 hrun with ⟨hc1, hrun⟩ | ⟨hc1, hrun⟩
        · refine lv_icmp_ge (tgt := 42) hx hb dJ6_stringSize_0f7a4_19 (by decide) (fun _ => ?_) (fun c => absurd hc1 c)
          obtain rfl := (Option.some.inj hrun)
          exact hk16 _ rfl _ _ _ hP hD hK hS (lv_sub hl [1] rfl)
        · refine lv_icmp_ge (tgt := 42) hx hb dJ6_stringSize_0f7a4_19 (by decide) (fun c => absurd c hc1) (fun _ => ?_)
          refine lv_iload_n hx hb dJ6_stringSize_0f7a4_22 rfl (lv_at hl 0 rfl) ?_
          refine lv_iload_n hx hb dJ6_stringSize_0f7a4_23 rfl (lv_at hl 2 rfl) ?_
          rcases br9 hrun with ⟨hc2, hrun⟩ | ⟨hc2, hrun⟩
          · refine lv_icmp_le (tgt := 31) hx hb dJ6_stringSize_0f7a4_24 (by decide) (fun _ => ?_) (fun c => absurd hc2 c)
            refine lv_bipush (v := 10) hx hb dJ6_stringSize_0f7a4_31 (by decide) ?_
            refine lv_iload_n hx hb dJ6_stringSize_0f7a4_33 rfl (lv_at hl 2 rfl) ?_
            refine lv_imul hx hb dJ6_stringSize_0f7a4_34 ?_
            refine lv_istore_n (lv' := [(2, .int (10 * v2_16)), (0, .int v0_11), (1, .int v1_11), (3, .int v3_16)]) hx hb dJ6_stringSize_0f7a4_35 rfl hl (by decide) rfl (fun ls hl => ?_)
            refine lv_iinc (v := (v3_16 + 1)) (lv' := [(3, .int (v3_16 + 1)), (2, .int (10 * v2_16)), (0, .int v0_11), (1, .int v1_11)]) hx hb dJ6_stringSize_0f7a4_36 hl (k := 3) rfl rfl (by decide) rfl (fun ls hl => ?_)
            refine lv_goto (tgt := 16) hx hb dJ6_stringSize_0f7a4_39 (by decide) ?_
            exact IH16 (10 * v2_16) (v3_16 + 1) o16 _ _ _ hrun hP hD hK hS (lv_sub hl [2, 3, 1, 0] rfl) hr16 hk16
          · refine lv_icmp_le (tgt := 31) hx hb dJ6_stringSize_0f7a4_24 (by decide) (fun c => absurd c hc2) (fun _ => ?_)
            refine lv_iload_n hx hb dJ6_stringSize_0f7a4_27 rfl (lv_at hl 3 rfl) ?_
            refine lv_iload_n hx hb dJ6_stringSize_0f7a4_28 rfl (lv_at hl 1 rfl) ?_
            refine lv_iadd hx hb dJ6_stringSize_0f7a4_29 ?_
            have ho9 : (v3_16 + v1_11) = o := hr16 _ (Option.some.inj hrun).symm
            have hP9 : va_P (dC, dI) cls (List.flatten ([] : List va_W)) H := by first | exact hP | (rw [← ho9]; exact hP)
            have hD9 : va_D A (List.flatten ([] : List va_W)) := by first | exact hD | (rw [← ho9]; exact hD)
            subst hQ
            exact W.iret (v := (v3_16 + v1_11)) hx hb hr (fun t ht hW => ⟨⟨(v3_16 + v1_11), (), rfl, (by rw [← ho9]), ⟨by rw [ht]; exact hP9, va_K.moved hW.alike hK, hD9⟩⟩, hS.F ht⟩) hS.2.2 dJ6_stringSize_0f7a4_30
    obtain ⟨o16, hc16, hrun⟩ := bnd9 hrun
    refine L16 NF (-10) 1 o16 _ _ _ hc16 hP hD hK hS (lv_sub hl [2, 3, 1, 0] rfl) (fun r e9 => by subst e9; exact Option.some.inj hrun) ?_
    intro t16 e9
    subst e9
    replace hrun := el9 hrun
    intro H locs ls hP hD hK hS hl
    have hl := hl
    refine lv_bipush (v := 10) hx hb dJ6_stringSize_0f7a4_42 (by decide) ?_
    refine lv_iload_n hx hb dJ6_stringSize_0f7a4_44 rfl (lv_at hl 0 rfl) ?_
    refine lv_iadd hx hb dJ6_stringSize_0f7a4_45 ?_
    have ho9 : (10 + v1_11) = o := Option.some.inj hrun
    have hP9 : va_P (dC, dI) cls (List.flatten ([] : List va_W)) H := by first | exact hP | (rw [← ho9]; exact hP)
    have hD9 : va_D A (List.flatten ([] : List va_W)) := by first | exact hD | (rw [← ho9]; exact hD)
    subst hQ
    exact W.iret (v := (10 + v1_11)) hx hb hr (fun t ht hW => ⟨⟨(10 + v1_11), (), rfl, (by rw [← ho9]), ⟨by rw [ht]; exact hP9, va_K.moved hW.alike hK, hD9⟩⟩, hS.F ht⟩) hS.2.2 dJ6_stringSize_0f7a4_46
  rcases br9 hrun with ⟨hc3, hrun⟩ | ⟨hc3, hrun⟩
  · refine lv_if_lt (tgt := 11) hx hb dJ6_stringSize_0f7a4_3 (by decide) (fun _ => ?_) (fun c => absurd hc3 c)
    exact J11 p0 1 _ _ _ hrun hP hD hK hS (lv_sub hl [1, 0] rfl)
  · refine lv_if_lt (tgt := 11) hx hb dJ6_stringSize_0f7a4_3 (by decide) (fun c => absurd c hc3) (fun _ => ?_)
    refine lv_iconst (v := 0) hx hb dJ6_stringSize_0f7a4_6 (by decide) ?_
    refine lv_istore_n (lv' := [(1, .int 0), (0, .int p0)]) hx hb dJ6_stringSize_0f7a4_7 rfl hl (by decide) rfl (fun ls hl => ?_)
    refine lv_iload_n hx hb dJ6_stringSize_0f7a4_8 rfl (lv_at hl 1 rfl) ?_
    refine lv_ineg hx hb dJ6_stringSize_0f7a4_9 ?_
    refine lv_istore_n (lv' := [(0, .int (-p0)), (1, .int 0)]) hx hb dJ6_stringSize_0f7a4_10 rfl hl (by decide) rfl (fun ls hl => ?_)
    exact J11 (-p0) 0 _ _ _ hrun hP hD hK hS (lv_sub hl [0, 1] rfl)
def fJ6_getChars_ba4f3_L22 (p2n : Nat) : Nat → Int32 → Int32 → RI → Option (Int32 × Int32 × RI)
  | 0 => fun _ _ _ => none
  | n_22 + 1 => fun v0_22 v5_22 p2f_22 => (if (-100) < v0_22 then some (v0_22, v5_22, p2f_22) else (if ixb (((v0_22 / 100) * 100) - v0_22) 100 = true then (if ixb (v5_22 + (-1)) p2n = true then (lt9 (upd p2f_22 (nn (v5_22 + (-1))) (vp_nar .byte (dgO (nn (((v0_22 / 100) * 100) - v0_22))))) fun (f5 : RI) => (if ixb (((v0_22 / 100) * 100) - v0_22) 100 = true then (if ixb ((v5_22 + (-1)) + (-1)) p2n = true then (lt9 (upd f5 (nn ((v5_22 + (-1)) + (-1))) (vp_nar .byte (dgT (nn (((v0_22 / 100) * 100) - v0_22))))) fun (f8 : RI) => ((fJ6_getChars_ba4f3_L22 p2n n_22) (v0_22 / 100) ((v5_22 + (-1)) + (-1)) f8)) else none) else none)) else none) else none))
def fJ6_getChars_ba4f3_J118 (v5_118 : Int32) (p2f_118 : RI) : Option (Int32 × RI) := some (v5_118, p2f_118)
def fJ6_getChars_ba4f3_J104 (p2n : Nat) (y0_12 : Int32) (v5_104 : Int32) (p2f_104 : RI) : Option (Int32 × RI) := (if y0_12 = 0 then (fJ6_getChars_ba4f3_J118 v5_104 p2f_104) else (if ixb (v5_104 + (-1)) p2n = true then (lt9 (upd p2f_104 (nn (v5_104 + (-1))) (vp_nar .byte 45)) fun (f14 : RI) => (fJ6_getChars_ba4f3_J118 (v5_104 + (-1)) f14)) else none))
def fJ6_getChars_ba4f3_L22b (p2n : Nat) : Nat → Int32 → Int32 → RI → Option (Int32 × Int32 × RI)
  | 0 => fun _ _ _ => none
  | n_22 + 1 => fun v0_22 v5_22 p2f_22 => (if (-100) < v0_22 then some (v0_22, v5_22, p2f_22) else (if ixb (((v0_22 / 100) * 100) - v0_22) 100 = true then (if ixb (v5_22 + (-1)) p2n = true then (lt9 (upd p2f_22 (nn (v5_22 + (-1))) (vp_nar .byte (dgO (nn (((v0_22 / 100) * 100) - v0_22))))) fun (f22 : RI) => (if ixb (((v0_22 / 100) * 100) - v0_22) 100 = true then (if ixb ((v5_22 + (-1)) + (-1)) p2n = true then (lt9 (upd f22 (nn ((v5_22 + (-1)) + (-1))) (vp_nar .byte (dgT (nn (((v0_22 / 100) * 100) - v0_22))))) fun (f25 : RI) => ((fJ6_getChars_ba4f3_L22b p2n n_22) (v0_22 / 100) ((v5_22 + (-1)) + (-1)) f25)) else none) else none)) else none) else none))
def fJ6_getChars_ba4f3_J118b (v5_118 : Int32) (p2f_118 : RI) : Option (Int32 × RI) := some (v5_118, p2f_118)
def fJ6_getChars_ba4f3_J104b (p2n : Nat) (y0_12 : Int32) (v5_104 : Int32) (p2f_104 : RI) : Option (Int32 × RI) := (if y0_12 = 0 then (fJ6_getChars_ba4f3_J118b v5_104 p2f_104) else (if ixb (v5_104 + (-1)) p2n = true then (lt9 (upd p2f_104 (nn (v5_104 + (-1))) (vp_nar .byte 45)) fun (f31 : RI) => (fJ6_getChars_ba4f3_J118b (v5_104 + (-1)) f31)) else none))
def fJ6_getChars_ba4f3_J12 (p0 : Int32) (p1 : Int32) (p2n : Nat) (p2f : RI) (y0_12 : Int32) : Option (Int32 × RI) := (if y0_12 = 0 then ((fJ6_getChars_ba4f3_L22 p2n NF (-p0) p1 p2f).bind fun (o22 : Int32 × Int32 × RI) => (if ixb (-(o22.1)) 100 = true then (if ixb ((o22.2.1) + (-1)) p2n = true then (lt9 (upd (o22.2.2) (nn ((o22.2.1) + (-1))) (vp_nar .byte (dgO (nn (-(o22.1)))))) fun (f11 : RI) => (if (-9) ≤ (o22.1) then (fJ6_getChars_ba4f3_J104 p2n y0_12 ((o22.2.1) + (-1)) f11) else (if ixb (-(o22.1)) 100 = true then (if ixb (((o22.2.1) + (-1)) + (-1)) p2n = true then (lt9 (upd f11 (nn (((o22.2.1) + (-1)) + (-1))) (vp_nar .byte (dgT (nn (-(o22.1)))))) fun (f18 : RI) => (fJ6_getChars_ba4f3_J104 p2n y0_12 (((o22.2.1) + (-1)) + (-1)) f18)) else none) else none))) else none) else none)) else ((fJ6_getChars_ba4f3_L22b p2n NF p0 p1 p2f).bind fun (o22 : Int32 × Int32 × RI) => (if ixb (-(o22.1)) 100 = true then (if ixb ((o22.2.1) + (-1)) p2n = true then (lt9 (upd (o22.2.2) (nn ((o22.2.1) + (-1))) (vp_nar .byte (dgO (nn (-(o22.1)))))) fun (f28 : RI) => (if (-9) ≤ (o22.1) then (fJ6_getChars_ba4f3_J104b p2n y0_12 ((o22.2.1) + (-1)) f28) else (if ixb (-(o22.1)) 100 = true then (if ixb (((o22.2.1) + (-1)) + (-1)) p2n = true then (lt9 (upd f28 (nn (((o22.2.1) + (-1)) + (-1))) (vp_nar .byte (dgT (nn (-(o22.1)))))) fun (f35 : RI) => (fJ6_getChars_ba4f3_J104b p2n y0_12 (((o22.2.1) + (-1)) + (-1)) f35)) else none) else none))) else none) else none)))
def fJ6_getChars_ba4f3 (p0 : Int32) (p1 : Int32) (p2n : Nat) (p2f : RI) : Option (Int32 × RI) := (if 0 ≤ p0 then (fJ6_getChars_ba4f3_J12 p0 p1 p2n p2f 0) else (fJ6_getChars_ba4f3_J12 p0 p1 p2n p2f 1))
set_option maxHeartbeats 16000000 in
set_option maxRecDepth 100000 in
theorem kJ6_getChars_ba4f3 {zs : ZS} (l : Launch) (dC : Nat → ClassId) (dI : Nat → Nat → Nat) (p0 : Int32) (p1 : Int32) (p2a : Nat) (p2k : ClassId) (p2n : Nat) (p2f : RI) (dOv : Nat) (dTv : Nat) (sz : Nat) (o : Int32 × RI) (hrun : fJ6_getChars_ba4f3 p0 p1 p2n p2f = some o) : Met l yJ6_getChars_ba4f3 (wz yJ6_getChars_ba4f3 cJ6_getChars_ba4f3 7 (Option.some Jvm.ClassFile.FieldType.int)) ({ frames := 0, cells := 0, slots := 0, locals := 0 } : Room) (va_Pc [.int p0, .int p1, .ref p2a] (PRE (zA zs (dg9 dOv dTv)) dC dI (List.flatten ([[(p2a, .inl (p2k, p2n, .inl p2f))]] : List va_W)) (List.flatten ([[(p2k, .byte)]] : List (List (ClassId × FieldType)))) sz)) (va_Qi (fun (r : Int32) (_ : Unit) => r = (o.1)) (fun _ t => POST dC dI (List.flatten ([[(p2a, .inl (p2k, p2n, .inl (o.2)))]] : List va_W)) (List.flatten ([[(p2k, .byte)]] : List (List (ClassId × FieldType)))) (va_A (List.flatten ([[(p2a, .inl (p2k, p2n, .inl p2f))]] : List va_W)) sz) t) (va_A (List.flatten ([[(p2a, .inl (p2k, p2n, .inl p2f))]] : List va_W)) sz)) 0 0 (va_A (List.flatten ([[(p2a, .inl (p2k, p2n, .inl p2f))]] : List va_W)) sz) := by
  refine Met.ofW (cc := cJ6_getChars_ba4f3) (maxL := 7) (ret := (Option.some Jvm.ClassFile.FieldType.int)) (by decide) rfl ?_
  intro p e s m args below meth c s₁ B hml hv
  obtain ⟨rfl, hsz, hP, hK, hD0, hE⟩ := hv
  have hx := B.exec
  have hb := B.bytes
  have hr := B.returns
  have hts0 := atoms_spec (ws := wz yJ6_getChars_ba4f3 cJ6_getChars_ba4f3 7 (Option.some Jvm.ClassFile.FieldType.int)) B.pre
  have hts : ∀ w ∈ gw, w.before _ s = true := fun w h => hts0 w (List.mem_cons_of_mem _ h)
  have hown : s.vm.findClass RJ6 = some m.cls := findClass_of_methodNamed B.named
  have hlocks := B.notSynchronized
  subst hsz
  have hD := hD0.self (sz := s.heap.size)
  refine gQ9 ?_
  intro Q hQ
  generalize hAe : va_A (List.flatten ([[(p2a, .inl (p2k, p2n, .inl p2f))]] : List va_W)) s.heap.size = A at hD hE hQ
  have hA : ∀ q : Nat, s.heap.size ≤ q → A q := fun q h => by rw [← hAe]; exact Or.inr h
  have hro := ENV.ex hE
  have hro_dg := hro.2
  replace hro := hro.1
  have hS : va_S A s.heap s.heap [] := va_S.rf
  have hP : va_P (dC, dI) cls (List.flatten ([[(p2a, .inl (p2k, p2n, .inl p2f))]] : List va_W)) s.heap := hP
  have hl := lv_entry ([.int p0, .int p1, .ref p2a]) (n := 7) (Nat.le_of_ble_eq_true rfl)
  rw [lg_entry_eq]
  generalize (lg_sl ([.int p0, .int p1, .ref p2a]) ++ List.replicate (7 - (lg_sl ([.int p0, .int p1, .ref p2a])).length) Slot.unset).toArray = ls at hl ⊢
  have hl : lv_has ls 7 [(0, .int p0), (1, .int p1), (2, .ref p2a)] := hl
  obtain ⟨H, hHe⟩ : ∃ H, H = s.heap := ⟨_, rfl⟩
  obtain ⟨locs, hle⟩ : ∃ locs : List Loc, locs = [] := ⟨_, rfl⟩
  rw [← hHe] at hP
  have hS : va_S A s.heap H locs := by rw [hHe, hle]; exact hS
  show W p l e ({ frames := 0, cells := 0, slots := 0, locals := 0 } : Room) s m ([.int p0, .int p1, .ref p2a] : List Value).toArray below meth c s.heap [] 0 0 Q (F0 m 0 ls [])
  rw [← hle]
  refine wH9 hHe ?_
  unfold fJ6_getChars_ba4f3 at hrun
  refine lv_iload_n hx hb dJ6_getChars_ba4f3_0 rfl (lv_at hl 1 rfl) ?_
  refine lv_istore (lv' := [(5, .int p1), (0, .int p0), (1, .int p1), (2, .ref p2a)]) hx hb dJ6_getChars_ba4f3_1 hl (by decide) rfl (fun ls hl => ?_)
  refine lv_iload_n hx hb dJ6_getChars_ba4f3_3 rfl (lv_at hl 1 rfl) ?_
  have J12 : ∀ (y0_12 : Int32) (H : Heap) (locs : List Loc) (ls : Array Slot), (fJ6_getChars_ba4f3_J12 p0 p1 p2n p2f y0_12) = some o → va_P (dC, dI) cls (List.flatten ([[(p2a, .inl (p2k, p2n, .inl p2f))]] : List va_W)) H → va_D A (List.flatten ([[(p2a, .inl (p2k, p2n, .inl p2f))]] : List va_W)) → va_K (dC, dI) cls (List.flatten ([[(p2k, .byte)]] : List (List (ClassId × FieldType)))) s → va_S A s.heap H locs → lv_has ls 7 [(0, .int p0), (2, .ref p2a), (5, .int p1)] → W p l e ({ frames := 0, cells := 0, slots := 0, locals := 0 } : Room) s m ([.int p0, .int p1, .ref p2a] : List Value).toArray below meth c H locs 0 0 Q (F0 m 12 ls [.int y0_12]) := by
    intro y0_12 H locs ls hrun hP hD hK hS hl 
    unfold fJ6_getChars_ba4f3_J12 at hrun
    refine lv_istore (lv' := [(6, .int y0_12), (0, .int p0), (2, .ref p2a), (5, .int p1)]) hx hb dJ6_getChars_ba4f3_12 hl (by decide) rfl (fun ls hl => ?_)
    refine lv_iload hx hb dJ6_getChars_ba4f3_14 (lv_at hl 0 rfl) ?_
    rcases br9 hrun with ⟨hc1, hrun⟩ | ⟨hc1, hrun⟩
    · refine lv_if_ne (tgt := 22) hx hb dJ6_getChars_ba4f3_16 (by decide) (fun c => absurd hc1 c) (fun _ => ?_)
      refine lv_iload_n hx hb dJ6_getChars_ba4f3_19 rfl (lv_at hl 1 rfl) ?_
      refine lv_ineg hx hb dJ6_getChars_ba4f3_20 ?_
      refine lv_istore_n (lv' := [(0, .int (-p0)), (6, .int y0_12), (2, .ref p2a), (5, .int p1)]) hx hb dJ6_getChars_ba4f3_21 rfl hl (by decide) rfl (fun ls hl => ?_)
      have L22 : ∀ (n_22 : Nat) (v0_22 : Int32) (v5_22 : Int32) (p2f_22 : RI) (o22 : Int32 × Int32 × RI) (H : Heap) (locs : List Loc) (ls : Array Slot), (fJ6_getChars_ba4f3_L22 p2n n_22) v0_22 v5_22 p2f_22 = some o22 → va_P (dC, dI) cls (List.flatten ([[(p2a, .inl (p2k, p2n, .inl p2f_22))]] : List va_W)) H → va_D A (List.flatten ([[(p2a, .inl (p2k, p2n, .inl p2f_22))]] : List va_W)) → va_K (dC, dI) cls (List.flatten ([[(p2k, .byte)]] : List (List (ClassId × FieldType)))) s → va_S A s.heap H locs → lv_has ls 7 [(0, .int v0_22), (2, .ref p2a), (5, .int v5_22), (6, .int y0_12)] → (∀ (H : Heap) (locs : List Loc) (ls : Array Slot), va_P (dC, dI) cls (List.flatten ([[(p2a, .inl (p2k, p2n, .inl (o22.2.2)))]] : List va_W)) H → va_D A (List.flatten ([[(p2a, .inl (p2k, p2n, .inl (o22.2.2)))]] : List va_W)) → va_K (dC, dI) cls (List.flatten ([[(p2k, .byte)]] : List (List (ClassId × FieldType)))) s → va_S A s.heap H locs → lv_has ls 7 [(0, .int (o22.1)), (2, .ref p2a), (5, .int (o22.2.1)), (6, .int y0_12)] → W p l e ({ frames := 0, cells := 0, slots := 0, locals := 0 } : Room) s m ([.int p0, .int p1, .ref p2a] : List Value).toArray below meth c H locs 0 0 Q (F0 m 72 ls [])) → W p l e ({ frames := 0, cells := 0, slots := 0, locals := 0 } : Room) s m ([.int p0, .int p1, .ref p2a] : List Value).toArray below meth c H locs 0 0 Q (F0 m 22 ls []) := by
        intro n_22
        induction n_22 with
        | zero => intro v0_22 v5_22 p2f_22 o22 H locs ls hrun; exact (no9 rfl hrun).elim
        | succ n_22 IH22 =>
          intro v0_22 v5_22 p2f_22 o22 H locs ls hrun hP hD hK hS hl hk22
          unfold fJ6_getChars_ba4f3_L22 at hrun
          refine lv_iload_n hx hb dJ6_getChars_ba4f3_22 rfl (lv_at hl 0 rfl) ?_
          refine lv_bipush (v := (-100)) hx hb dJ6_getChars_ba4f3_23 (by decide) ?_
          rcases br9 hrun with ⟨hc2, hrun⟩ | ⟨hc2, hrun⟩
          · refine lv_icmp_gt (tgt := 72) hx hb dJ6_getChars_ba4f3_25 (by decide) (fun _ => ?_) (fun c => absurd hc2 c)
            obtain rfl := (Option.some.inj hrun)
            exact hk22 _ _ _ hP hD hK hS (lv_sub hl [0, 1, 2, 3] rfl)
          · refine lv_icmp_gt (tgt := 72) hx hb dJ6_getChars_ba4f3_25 (by decide) (fun c => absurd c hc2) (fun _ => ?_)
            refine lv_iload_n hx hb dJ6_getChars_ba4f3_28 rfl (lv_at hl 0 rfl) ?_
            refine lv_bipush (v := 100) hx hb dJ6_getChars_ba4f3_29 (by decide) ?_
            refine lv_idiv hx hb dJ6_getChars_ba4f3_31 (by decide) ?_
            refine lv_istore_n (lv' := [(3, .int (v0_22 / 100)), (0, .int v0_22), (2, .ref p2a), (5, .int v5_22), (6, .int y0_12)]) hx hb dJ6_getChars_ba4f3_32 rfl hl (by decide) rfl (fun ls hl => ?_)
            refine lv_iload_n hx hb dJ6_getChars_ba4f3_33 rfl (lv_at hl 0 rfl) ?_
            refine lv_bipush (v := 100) hx hb dJ6_getChars_ba4f3_34 (by decide) ?_
            refine lv_imul hx hb dJ6_getChars_ba4f3_36 ?_
            refine lv_iload_n hx hb dJ6_getChars_ba4f3_37 rfl (lv_at hl 1 rfl) ?_
            refine lv_isub hx hb dJ6_getChars_ba4f3_38 ?_
            refine lv_istore (lv' := [(4, .int (((v0_22 / 100) * 100) - v0_22)), (3, .int (v0_22 / 100)), (0, .int v0_22), (2, .ref p2a), (5, .int v5_22), (6, .int y0_12)]) hx hb dJ6_getChars_ba4f3_39 hl (by decide) rfl (fun ls hl => ?_)
            refine lv_iload_n hx hb dJ6_getChars_ba4f3_41 rfl (lv_at hl 1 rfl) ?_
            refine lv_istore_n (lv' := [(0, .int (v0_22 / 100)), (4, .int (((v0_22 / 100) * 100) - v0_22)), (3, .int (v0_22 / 100)), (2, .ref p2a), (5, .int v5_22), (6, .int y0_12)]) hx hb dJ6_getChars_ba4f3_42 rfl hl (by decide) rfl (fun ls hl => ?_)
            refine lv_aload_n hx hb dJ6_getChars_ba4f3_43 rfl (lv_at hl 3 rfl) ?_
            refine lv_iinc (v := (v5_22 + (-1))) (lv' := [(5, .int (v5_22 + (-1))), (0, .int (v0_22 / 100)), (4, .int (((v0_22 / 100) * 100) - v0_22)), (3, .int (v0_22 / 100)), (2, .ref p2a), (6, .int y0_12)]) hx hb dJ6_getChars_ba4f3_44 hl (k := 4) rfl rfl (by decide) rfl (fun ls hl => ?_)
            refine lv_iload hx hb dJ6_getChars_ba4f3_47 (lv_at hl 0 rfl) ?_
            refine va_gets hx hb hro_dg.1.1 hS hown (hts _ qw1246) (fun _ h9 => h9) dJ6_getChars_ba4f3_49 ?_
            refine lv_iload hx hb dJ6_getChars_ba4f3_52 (lv_at hl 2 rfl) ?_
            obtain ⟨hq3, hrun⟩ := chk9 hrun
            refine va_tb hx hb hro_dg.1.2.1 hS (ixb_in hq3) (v := .int (dgO (nn (((v0_22 / 100) * 100) - v0_22)))) rfl dJ6_getChars_ba4f3_54 ?_
            obtain ⟨hq4, hrun⟩ := chk9 hrun
            refine va_bast hx hb hK hP hD hS 0 0 rfl rfl (ixb_in hq4) dJ6_getChars_ba4f3_55 (fun H locs hP hD hS => ?_)
            have hP : va_P (dC, dI) cls (List.flatten ([[(p2a, .inl (p2k, p2n, .inl (upd p2f_22 (nn (v5_22 + (-1))) (vp_nar .byte (dgO (nn (((v0_22 / 100) * 100) - v0_22)))))))]] : List va_W)) H := hP
            have hD : va_D A (List.flatten ([[(p2a, .inl (p2k, p2n, .inl (upd p2f_22 (nn (v5_22 + (-1))) (vp_nar .byte (dgO (nn (((v0_22 / 100) * 100) - v0_22)))))))]] : List va_W)) := hD
            obtain ⟨f5, ef5, hrun⟩ := let9 hrun
            rw [← ef5] at hP hD
            refine lv_aload_n hx hb dJ6_getChars_ba4f3_56 rfl (lv_at hl 4 rfl) ?_
            refine lv_iinc (v := ((v5_22 + (-1)) + (-1))) (lv' := [(5, .int ((v5_22 + (-1)) + (-1))), (0, .int (v0_22 / 100)), (4, .int (((v0_22 / 100) * 100) - v0_22)), (3, .int (v0_22 / 100)), (2, .ref p2a), (6, .int y0_12)]) hx hb dJ6_getChars_ba4f3_57 hl (k := 0) rfl rfl (by decide) rfl (fun ls hl => ?_)
            refine lv_iload hx hb dJ6_getChars_ba4f3_60 (lv_at hl 0 rfl) ?_
            refine va_gets hx hb hro_dg.2.1 hS hown (hts _ qw1247) (fun _ h9 => h9) dJ6_getChars_ba4f3_62 ?_
            refine lv_iload hx hb dJ6_getChars_ba4f3_65 (lv_at hl 2 rfl) ?_
            obtain ⟨hq6, hrun⟩ := chk9 hrun
            refine va_tb hx hb hro_dg.2.2.1 hS (ixb_in hq6) (v := .int (dgT (nn (((v0_22 / 100) * 100) - v0_22)))) rfl dJ6_getChars_ba4f3_67 ?_
            obtain ⟨hq7, hrun⟩ := chk9 hrun
            refine va_bast hx hb hK hP hD hS 0 0 rfl rfl (ixb_in hq7) dJ6_getChars_ba4f3_68 (fun H locs hP hD hS => ?_)
            have hP : va_P (dC, dI) cls (List.flatten ([[(p2a, .inl (p2k, p2n, .inl (upd f5 (nn ((v5_22 + (-1)) + (-1))) (vp_nar .byte (dgT (nn (((v0_22 / 100) * 100) - v0_22)))))))]] : List va_W)) H := hP
            have hD : va_D A (List.flatten ([[(p2a, .inl (p2k, p2n, .inl (upd f5 (nn ((v5_22 + (-1)) + (-1))) (vp_nar .byte (dgT (nn (((v0_22 / 100) * 100) - v0_22)))))))]] : List va_W)) := hD
            obtain ⟨f8, ef8, hrun⟩ := let9 hrun
            rw [← ef8] at hP hD
            refine lv_goto (tgt := 22) hx hb dJ6_getChars_ba4f3_69 (by decide) ?_
            exact IH22 (v0_22 / 100) ((v5_22 + (-1)) + (-1)) f8 o22 _ _ _ hrun hP hD hK hS (lv_sub hl [1, 4, 0, 5] rfl) hk22
      obtain ⟨o22, hc22, hrun⟩ := bnd9 hrun
      refine L22 NF (-p0) p1 p2f o22 _ _ _ hc22 hP hD hK hS (lv_sub hl [0, 2, 3, 1] rfl) ?_
      intro H locs ls hP hD hK hS hl
      have hl := hl
      refine lv_aload_n hx hb dJ6_getChars_ba4f3_72 rfl (lv_at hl 1 rfl) ?_
      refine lv_iinc (v := ((o22.2.1) + (-1))) (lv' := [(5, .int ((o22.2.1) + (-1))), (0, .int (o22.1)), (2, .ref p2a), (6, .int y0_12)]) hx hb dJ6_getChars_ba4f3_73 hl (k := 2) rfl rfl (by decide) rfl (fun ls hl => ?_)
      refine lv_iload hx hb dJ6_getChars_ba4f3_76 (lv_at hl 0 rfl) ?_
      refine va_gets hx hb hro_dg.1.1 hS hown (hts _ qw1246) (fun _ h9 => h9) dJ6_getChars_ba4f3_78 ?_
      refine lv_iload_n hx hb dJ6_getChars_ba4f3_81 rfl (lv_at hl 1 rfl) ?_
      refine lv_ineg hx hb dJ6_getChars_ba4f3_82 ?_
      obtain ⟨hq9, hrun⟩ := chk9 hrun
      refine va_tb hx hb hro_dg.1.2.1 hS (ixb_in hq9) (v := .int (dgO (nn (-(o22.1))))) rfl dJ6_getChars_ba4f3_83 ?_
      obtain ⟨hq10, hrun⟩ := chk9 hrun
      refine va_bast hx hb hK hP hD hS 0 0 rfl rfl (ixb_in hq10) dJ6_getChars_ba4f3_84 (fun H locs hP hD hS => ?_)
      have hP : va_P (dC, dI) cls (List.flatten ([[(p2a, .inl (p2k, p2n, .inl (upd (o22.2.2) (nn ((o22.2.1) + (-1))) (vp_nar .byte (dgO (nn (-(o22.1))))))))]] : List va_W)) H := hP
      have hD : va_D A (List.flatten ([[(p2a, .inl (p2k, p2n, .inl (upd (o22.2.2) (nn ((o22.2.1) + (-1))) (vp_nar .byte (dgO (nn (-(o22.1))))))))]] : List va_W)) := hD
      obtain ⟨f11, ef11, hrun⟩ := let9 hrun
      rw [← ef11] at hP hD
      refine lv_iload_n hx hb dJ6_getChars_ba4f3_85 rfl (lv_at hl 1 rfl) ?_
      refine lv_bipush (v := (-9)) hx hb dJ6_getChars_ba4f3_86 (by decide) ?_
      have J104 : ∀ (v5_104 : Int32) (p2f_104 : RI) (H : Heap) (locs : List Loc) (ls : Array Slot), (fJ6_getChars_ba4f3_J104 p2n y0_12 v5_104 p2f_104) = some o → va_P (dC, dI) cls (List.flatten ([[(p2a, .inl (p2k, p2n, .inl p2f_104))]] : List va_W)) H → va_D A (List.flatten ([[(p2a, .inl (p2k, p2n, .inl p2f_104))]] : List va_W)) → va_K (dC, dI) cls (List.flatten ([[(p2k, .byte)]] : List (List (ClassId × FieldType)))) s → va_S A s.heap H locs → lv_has ls 7 [(2, .ref p2a), (5, .int v5_104), (6, .int y0_12)] → W p l e ({ frames := 0, cells := 0, slots := 0, locals := 0 } : Room) s m ([.int p0, .int p1, .ref p2a] : List Value).toArray below meth c H locs 0 0 Q (F0 m 104 ls []) := by
        intro v5_104 p2f_104 H locs ls hrun hP hD hK hS hl 
        unfold fJ6_getChars_ba4f3_J104 at hrun
        refine lv_iload hx hb dJ6_getChars_ba4f3_104 (lv_at hl 2 rfl) ?_
        have J118 : ∀ (v5_118 : Int32) (p2f_118 : RI) (H : Heap) (locs : List Loc) (ls : Array Slot), (fJ6_getChars_ba4f3_J118 v5_118 p2f_118) = some o → va_P (dC, dI) cls (List.flatten ([[(p2a, .inl (p2k, p2n, .inl p2f_118))]] : List va_W)) H → va_D A (List.flatten ([[(p2a, .inl (p2k, p2n, .inl p2f_118))]] : List va_W)) → va_K (dC, dI) cls (List.flatten ([[(p2k, .byte)]] : List (List (ClassId × FieldType)))) s → va_S A s.heap H locs → lv_has ls 7 [(5, .int v5_118)] → W p l e ({ frames := 0, cells := 0, slots := 0, locals := 0 } : Room) s m ([.int p0, .int p1, .ref p2a] : List Value).toArray below meth c H locs 0 0 Q (F0 m 118 ls []) := by
          intro v5_118 p2f_118 H locs ls hrun hP hD hK hS hl 
          unfold fJ6_getChars_ba4f3_J118 at hrun
          refine lv_iload hx hb dJ6_getChars_ba4f3_118 (lv_at hl 0 rfl) ?_
          have ho9 : (v5_118, p2f_118) = o := Option.some.inj hrun
          have hP9 : va_P (dC, dI) cls (List.flatten ([[(p2a, .inl (p2k, p2n, .inl (o.2)))]] : List va_W)) H := by first | exact hP | (rw [← ho9]; exact hP)
          have hD9 : va_D A (List.flatten ([[(p2a, .inl (p2k, p2n, .inl (o.2)))]] : List va_W)) := by first | exact hD | (rw [← ho9]; exact hD)
          subst hQ
          exact W.iret (v := v5_118) hx hb hr (fun t ht hW => ⟨⟨v5_118, (), rfl, (by rw [← ho9]), ⟨by rw [ht]; exact hP9, va_K.moved hW.alike hK, hD9⟩⟩, hS.F ht⟩) hS.2.2 dJ6_getChars_ba4f3_120
        rcases br9 hrun with ⟨hc12, hrun⟩ | ⟨hc12, hrun⟩
        · refine lv_if_eq (tgt := 118) hx hb dJ6_getChars_ba4f3_106 (by decide) (fun _ => ?_) (fun c => absurd hc12 c)
          exact J118 v5_104 p2f_104 _ _ _ hrun hP hD hK hS (lv_sub hl [1] rfl)
        · refine lv_if_eq (tgt := 118) hx hb dJ6_getChars_ba4f3_106 (by decide) (fun c => absurd c hc12) (fun _ => ?_)
          refine lv_aload_n hx hb dJ6_getChars_ba4f3_109 rfl (lv_at hl 0 rfl) ?_
          refine lv_iinc (v := (v5_104 + (-1))) (lv' := [(5, .int (v5_104 + (-1))), (2, .ref p2a), (6, .int y0_12)]) hx hb dJ6_getChars_ba4f3_110 hl (k := 1) rfl rfl (by decide) rfl (fun ls hl => ?_)
          refine lv_iload hx hb dJ6_getChars_ba4f3_113 (lv_at hl 0 rfl) ?_
          refine lv_bipush (v := 45) hx hb dJ6_getChars_ba4f3_115 (by decide) ?_
          obtain ⟨hq13, hrun⟩ := chk9 hrun
          refine va_bast hx hb hK hP hD hS 0 0 rfl rfl (ixb_in hq13) dJ6_getChars_ba4f3_117 (fun H locs hP hD hS => ?_)
          have hP : va_P (dC, dI) cls (List.flatten ([[(p2a, .inl (p2k, p2n, .inl (upd p2f_104 (nn (v5_104 + (-1))) (vp_nar .byte 45))))]] : List va_W)) H := hP
          have hD : va_D A (List.flatten ([[(p2a, .inl (p2k, p2n, .inl (upd p2f_104 (nn (v5_104 + (-1))) (vp_nar .byte 45))))]] : List va_W)) := hD
          obtain ⟨f14, ef14, hrun⟩ := let9 hrun
          rw [← ef14] at hP hD
          exact J118 (v5_104 + (-1)) f14 _ _ _ hrun hP hD hK hS (lv_sub hl [0] rfl)
      rcases br9 hrun with ⟨hc15, hrun⟩ | ⟨hc15, hrun⟩
      · refine lv_icmp_ge (tgt := 104) hx hb dJ6_getChars_ba4f3_88 (by decide) (fun _ => ?_) (fun c => absurd hc15 c)
        exact J104 ((o22.2.1) + (-1)) f11 _ _ _ hrun hP hD hK hS (lv_sub hl [2, 0, 3] rfl)
      · refine lv_icmp_ge (tgt := 104) hx hb dJ6_getChars_ba4f3_88 (by decide) (fun c => absurd c hc15) (fun _ => ?_)
        refine lv_aload_n hx hb dJ6_getChars_ba4f3_91 rfl (lv_at hl 2 rfl) ?_
        refine lv_iinc (v := (((o22.2.1) + (-1)) + (-1))) (lv' := [(5, .int (((o22.2.1) + (-1)) + (-1))), (0, .int (o22.1)), (2, .ref p2a), (6, .int y0_12)]) hx hb dJ6_getChars_ba4f3_92 hl (k := 0) rfl rfl (by decide) rfl (fun ls hl => ?_)
        refine lv_iload hx hb dJ6_getChars_ba4f3_95 (lv_at hl 0 rfl) ?_
        refine va_gets hx hb hro_dg.2.1 hS hown (hts _ qw1247) (fun _ h9 => h9) dJ6_getChars_ba4f3_97 ?_
        refine lv_iload_n hx hb dJ6_getChars_ba4f3_100 rfl (lv_at hl 1 rfl) ?_
        refine lv_ineg hx hb dJ6_getChars_ba4f3_101 ?_
        obtain ⟨hq16, hrun⟩ := chk9 hrun
        refine va_tb hx hb hro_dg.2.2.1 hS (ixb_in hq16) (v := .int (dgT (nn (-(o22.1))))) rfl dJ6_getChars_ba4f3_102 ?_
        obtain ⟨hq17, hrun⟩ := chk9 hrun
        refine va_bast hx hb hK hP hD hS 0 0 rfl rfl (ixb_in hq17) dJ6_getChars_ba4f3_103 (fun H locs hP hD hS => ?_)
        have hP : va_P (dC, dI) cls (List.flatten ([[(p2a, .inl (p2k, p2n, .inl (upd f11 (nn (((o22.2.1) + (-1)) + (-1))) (vp_nar .byte (dgT (nn (-(o22.1))))))))]] : List va_W)) H := hP
        have hD : va_D A (List.flatten ([[(p2a, .inl (p2k, p2n, .inl (upd f11 (nn (((o22.2.1) + (-1)) + (-1))) (vp_nar .byte (dgT (nn (-(o22.1))))))))]] : List va_W)) := hD
        obtain ⟨f18, ef18, hrun⟩ := let9 hrun
        rw [← ef18] at hP hD
        exact J104 (((o22.2.1) + (-1)) + (-1)) f18 _ _ _ hrun hP hD hK hS (lv_sub hl [2, 0, 3] rfl)
    · refine lv_if_ne (tgt := 22) hx hb dJ6_getChars_ba4f3_16 (by decide) (fun _ => ?_) (fun c => absurd c hc1)
      have L22 : ∀ (n_22 : Nat) (v0_22 : Int32) (v5_22 : Int32) (p2f_22 : RI) (o22 : Int32 × Int32 × RI) (H : Heap) (locs : List Loc) (ls : Array Slot), (fJ6_getChars_ba4f3_L22b p2n n_22) v0_22 v5_22 p2f_22 = some o22 → va_P (dC, dI) cls (List.flatten ([[(p2a, .inl (p2k, p2n, .inl p2f_22))]] : List va_W)) H → va_D A (List.flatten ([[(p2a, .inl (p2k, p2n, .inl p2f_22))]] : List va_W)) → va_K (dC, dI) cls (List.flatten ([[(p2k, .byte)]] : List (List (ClassId × FieldType)))) s → va_S A s.heap H locs → lv_has ls 7 [(0, .int v0_22), (2, .ref p2a), (5, .int v5_22), (6, .int y0_12)] → (∀ (H : Heap) (locs : List Loc) (ls : Array Slot), va_P (dC, dI) cls (List.flatten ([[(p2a, .inl (p2k, p2n, .inl (o22.2.2)))]] : List va_W)) H → va_D A (List.flatten ([[(p2a, .inl (p2k, p2n, .inl (o22.2.2)))]] : List va_W)) → va_K (dC, dI) cls (List.flatten ([[(p2k, .byte)]] : List (List (ClassId × FieldType)))) s → va_S A s.heap H locs → lv_has ls 7 [(0, .int (o22.1)), (2, .ref p2a), (5, .int (o22.2.1)), (6, .int y0_12)] → W p l e ({ frames := 0, cells := 0, slots := 0, locals := 0 } : Room) s m ([.int p0, .int p1, .ref p2a] : List Value).toArray below meth c H locs 0 0 Q (F0 m 72 ls [])) → W p l e ({ frames := 0, cells := 0, slots := 0, locals := 0 } : Room) s m ([.int p0, .int p1, .ref p2a] : List Value).toArray below meth c H locs 0 0 Q (F0 m 22 ls []) := by
        intro n_22
        induction n_22 with
        | zero => intro v0_22 v5_22 p2f_22 o22 H locs ls hrun; exact (no9 rfl hrun).elim
        | succ n_22 IH22 =>
          intro v0_22 v5_22 p2f_22 o22 H locs ls hrun hP hD hK hS hl hk22
          unfold fJ6_getChars_ba4f3_L22b at hrun
          refine lv_iload_n hx hb dJ6_getChars_ba4f3_22 rfl (lv_at hl 0 rfl) ?_
          refine lv_bipush (v := (-100)) hx hb dJ6_getChars_ba4f3_23 (by decide) ?_
          rcases br9 hrun with ⟨hc19, hrun⟩ | ⟨hc19, hrun⟩
          · refine lv_icmp_gt (tgt := 72) hx hb dJ6_getChars_ba4f3_25 (by decide) (fun _ => ?_) (fun c => absurd hc19 c)
            obtain rfl := (Option.some.inj hrun)
            exact hk22 _ _ _ hP hD hK hS (lv_sub hl [0, 1, 2, 3] rfl)
          · refine lv_icmp_gt (tgt := 72) hx hb dJ6_getChars_ba4f3_25 (by decide) (fun c => absurd c hc19) (fun _ => ?_)
            refine lv_iload_n hx hb dJ6_getChars_ba4f3_28 rfl (lv_at hl 0 rfl) ?_
            refine lv_bipush (v := 100) hx hb dJ6_getChars_ba4f3_29 (by decide) ?_
            refine lv_idiv hx hb dJ6_getChars_ba4f3_31 (by decide) ?_
            refine lv_istore_n (lv' := [(3, .int (v0_22 / 100)), (0, .int v0_22), (2, .ref p2a), (5, .int v5_22), (6, .int y0_12)]) hx hb dJ6_getChars_ba4f3_32 rfl hl (by decide) rfl (fun ls hl => ?_)
            refine lv_iload_n hx hb dJ6_getChars_ba4f3_33 rfl (lv_at hl 0 rfl) ?_
            refine lv_bipush (v := 100) hx hb dJ6_getChars_ba4f3_34 (by decide) ?_
            refine lv_imul hx hb dJ6_getChars_ba4f3_36 ?_
            refine lv_iload_n hx hb dJ6_getChars_ba4f3_37 rfl (lv_at hl 1 rfl) ?_
            refine lv_isub hx hb dJ6_getChars_ba4f3_38 ?_
            refine lv_istore (lv' := [(4, .int (((v0_22 / 100) * 100) - v0_22)), (3, .int (v0_22 / 100)), (0, .int v0_22), (2, .ref p2a), (5, .int v5_22), (6, .int y0_12)]) hx hb dJ6_getChars_ba4f3_39 hl (by decide) rfl (fun ls hl => ?_)
            refine lv_iload_n hx hb dJ6_getChars_ba4f3_41 rfl (lv_at hl 1 rfl) ?_
            refine lv_istore_n (lv' := [(0, .int (v0_22 / 100)), (4, .int (((v0_22 / 100) * 100) - v0_22)), (3, .int (v0_22 / 100)), (2, .ref p2a), (5, .int v5_22), (6, .int y0_12)]) hx hb dJ6_getChars_ba4f3_42 rfl hl (by decide) rfl (fun ls hl => ?_)
            refine lv_aload_n hx hb dJ6_getChars_ba4f3_43 rfl (lv_at hl 3 rfl) ?_
            refine lv_iinc (v := (v5_22 + (-1))) (lv' := [(5, .int (v5_22 + (-1))), (0, .int (v0_22 / 100)), (4, .int (((v0_22 / 100) * 100) - v0_22)), (3, .int (v0_22 / 100)), (2, .ref p2a), (6, .int y0_12)]) hx hb dJ6_getChars_ba4f3_44 hl (k := 4) rfl rfl (by decide) rfl (fun ls hl => ?_)
            refine lv_iload hx hb dJ6_getChars_ba4f3_47 (lv_at hl 0 rfl) ?_
            refine va_gets hx hb hro_dg.1.1 hS hown (hts _ qw1246) (fun _ h9 => h9) dJ6_getChars_ba4f3_49 ?_
            refine lv_iload hx hb dJ6_getChars_ba4f3_52 (lv_at hl 2 rfl) ?_
            obtain ⟨hq20, hrun⟩ := chk9 hrun
            refine va_tb hx hb hro_dg.1.2.1 hS (ixb_in hq20) (v := .int (dgO (nn (((v0_22 / 100) * 100) - v0_22)))) rfl dJ6_getChars_ba4f3_54 ?_
            obtain ⟨hq21, hrun⟩ := chk9 hrun
            refine va_bast hx hb hK hP hD hS 0 0 rfl rfl (ixb_in hq21) dJ6_getChars_ba4f3_55 (fun H locs hP hD hS => ?_)
            have hP : va_P (dC, dI) cls (List.flatten ([[(p2a, .inl (p2k, p2n, .inl (upd p2f_22 (nn (v5_22 + (-1))) (vp_nar .byte (dgO (nn (((v0_22 / 100) * 100) - v0_22)))))))]] : List va_W)) H := hP
            have hD : va_D A (List.flatten ([[(p2a, .inl (p2k, p2n, .inl (upd p2f_22 (nn (v5_22 + (-1))) (vp_nar .byte (dgO (nn (((v0_22 / 100) * 100) - v0_22)))))))]] : List va_W)) := hD
            obtain ⟨f22, ef22, hrun⟩ := let9 hrun
            rw [← ef22] at hP hD
            refine lv_aload_n hx hb dJ6_getChars_ba4f3_56 rfl (lv_at hl 4 rfl) ?_
            refine lv_iinc (v := ((v5_22 + (-1)) + (-1))) (lv' := [(5, .int ((v5_22 + (-1)) + (-1))), (0, .int (v0_22 / 100)), (4, .int (((v0_22 / 100) * 100) - v0_22)), (3, .int (v0_22 / 100)), (2, .ref p2a), (6, .int y0_12)]) hx hb dJ6_getChars_ba4f3_57 hl (k := 0) rfl rfl (by decide) rfl (fun ls hl => ?_)
            refine lv_iload hx hb dJ6_getChars_ba4f3_60 (lv_at hl 0 rfl) ?_
            refine va_gets hx hb hro_dg.2.1 hS hown (hts _ qw1247) (fun _ h9 => h9) dJ6_getChars_ba4f3_62 ?_
            refine lv_iload hx hb dJ6_getChars_ba4f3_65 (lv_at hl 2 rfl) ?_
            obtain ⟨hq23, hrun⟩ := chk9 hrun
            refine va_tb hx hb hro_dg.2.2.1 hS (ixb_in hq23) (v := .int (dgT (nn (((v0_22 / 100) * 100) - v0_22)))) rfl dJ6_getChars_ba4f3_67 ?_
            obtain ⟨hq24, hrun⟩ := chk9 hrun
            refine va_bast hx hb hK hP hD hS 0 0 rfl rfl (ixb_in hq24) dJ6_getChars_ba4f3_68 (fun H locs hP hD hS => ?_)
            have hP : va_P (dC, dI) cls (List.flatten ([[(p2a, .inl (p2k, p2n, .inl (upd f22 (nn ((v5_22 + (-1)) + (-1))) (vp_nar .byte (dgT (nn (((v0_22 / 100) * 100) - v0_22)))))))]] : List va_W)) H := hP
            have hD : va_D A (List.flatten ([[(p2a, .inl (p2k, p2n, .inl (upd f22 (nn ((v5_22 + (-1)) + (-1))) (vp_nar .byte (dgT (nn (((v0_22 / 100) * 100) - v0_22)))))))]] : List va_W)) := hD
            obtain ⟨f25, ef25, hrun⟩ := let9 hrun
            rw [← ef25] at hP hD
            refine lv_goto (tgt := 22) hx hb dJ6_getChars_ba4f3_69 (by decide) ?_
            exact IH22 (v0_22 / 100) ((v5_22 + (-1)) + (-1)) f25 o22 _ _ _ hrun hP hD hK hS (lv_sub hl [1, 4, 0, 5] rfl) hk22
      obtain ⟨o22, hc22, hrun⟩ := bnd9 hrun
      refine L22 NF p0 p1 p2f o22 _ _ _ hc22 hP hD hK hS (lv_sub hl [1, 2, 3, 0] rfl) ?_
      intro H locs ls hP hD hK hS hl
      have hl := hl
      refine lv_aload_n hx hb dJ6_getChars_ba4f3_72 rfl (lv_at hl 1 rfl) ?_
      refine lv_iinc (v := ((o22.2.1) + (-1))) (lv' := [(5, .int ((o22.2.1) + (-1))), (0, .int (o22.1)), (2, .ref p2a), (6, .int y0_12)]) hx hb dJ6_getChars_ba4f3_73 hl (k := 2) rfl rfl (by decide) rfl (fun ls hl => ?_)
      refine lv_iload hx hb dJ6_getChars_ba4f3_76 (lv_at hl 0 rfl) ?_
      refine va_gets hx hb hro_dg.1.1 hS hown (hts _ qw1246) (fun _ h9 => h9) dJ6_getChars_ba4f3_78 ?_
      refine lv_iload_n hx hb dJ6_getChars_ba4f3_81 rfl (lv_at hl 1 rfl) ?_
      refine lv_ineg hx hb dJ6_getChars_ba4f3_82 ?_
      obtain ⟨hq26, hrun⟩ := chk9 hrun
      refine va_tb hx hb hro_dg.1.2.1 hS (ixb_in hq26) (v := .int (dgO (nn (-(o22.1))))) rfl dJ6_getChars_ba4f3_83 ?_
      obtain ⟨hq27, hrun⟩ := chk9 hrun
      refine va_bast hx hb hK hP hD hS 0 0 rfl rfl (ixb_in hq27) dJ6_getChars_ba4f3_84 (fun H locs hP hD hS => ?_)
      have hP : va_P (dC, dI) cls (List.flatten ([[(p2a, .inl (p2k, p2n, .inl (upd (o22.2.2) (nn ((o22.2.1) + (-1))) (vp_nar .byte (dgO (nn (-(o22.1))))))))]] : List va_W)) H := hP
      have hD : va_D A (List.flatten ([[(p2a, .inl (p2k, p2n, .inl (upd (o22.2.2) (nn ((o22.2.1) + (-1))) (vp_nar .byte (dgO (nn (-(o22.1))))))))]] : List va_W)) := hD
      obtain ⟨f28, ef28, hrun⟩ := let9 hrun
      rw [← ef28] at hP hD
      refine lv_iload_n hx hb dJ6_getChars_ba4f3_85 rfl (lv_at hl 1 rfl) ?_
      refine lv_bipush (v := (-9)) hx hb dJ6_getChars_ba4f3_86 (by decide) ?_
      have J104 : ∀ (v5_104 : Int32) (p2f_104 : RI) (H : Heap) (locs : List Loc) (ls : Array Slot), (fJ6_getChars_ba4f3_J104b p2n y0_12 v5_104 p2f_104) = some o → va_P (dC, dI) cls (List.flatten ([[(p2a, .inl (p2k, p2n, .inl p2f_104))]] : List va_W)) H → va_D A (List.flatten ([[(p2a, .inl (p2k, p2n, .inl p2f_104))]] : List va_W)) → va_K (dC, dI) cls (List.flatten ([[(p2k, .byte)]] : List (List (ClassId × FieldType)))) s → va_S A s.heap H locs → lv_has ls 7 [(2, .ref p2a), (5, .int v5_104), (6, .int y0_12)] → W p l e ({ frames := 0, cells := 0, slots := 0, locals := 0 } : Room) s m ([.int p0, .int p1, .ref p2a] : List Value).toArray below meth c H locs 0 0 Q (F0 m 104 ls []) := by
        intro v5_104 p2f_104 H locs ls hrun hP hD hK hS hl 
        unfold fJ6_getChars_ba4f3_J104b at hrun
        refine lv_iload hx hb dJ6_getChars_ba4f3_104 (lv_at hl 2 rfl) ?_
        have J118 : ∀ (v5_118 : Int32) (p2f_118 : RI) (H : Heap) (locs : List Loc) (ls : Array Slot), (fJ6_getChars_ba4f3_J118b v5_118 p2f_118) = some o → va_P (dC, dI) cls (List.flatten ([[(p2a, .inl (p2k, p2n, .inl p2f_118))]] : List va_W)) H → va_D A (List.flatten ([[(p2a, .inl (p2k, p2n, .inl p2f_118))]] : List va_W)) → va_K (dC, dI) cls (List.flatten ([[(p2k, .byte)]] : List (List (ClassId × FieldType)))) s → va_S A s.heap H locs → lv_has ls 7 [(5, .int v5_118)] → W p l e ({ frames := 0, cells := 0, slots := 0, locals := 0 } : Room) s m ([.int p0, .int p1, .ref p2a] : List Value).toArray below meth c H locs 0 0 Q (F0 m 118 ls []) := by
          intro v5_118 p2f_118 H locs ls hrun hP hD hK hS hl 
          unfold fJ6_getChars_ba4f3_J118b at hrun
          refine lv_iload hx hb dJ6_getChars_ba4f3_118 (lv_at hl 0 rfl) ?_
          have ho9 : (v5_118, p2f_118) = o := Option.some.inj hrun
          have hP9 : va_P (dC, dI) cls (List.flatten ([[(p2a, .inl (p2k, p2n, .inl (o.2)))]] : List va_W)) H := by first | exact hP | (rw [← ho9]; exact hP)
          have hD9 : va_D A (List.flatten ([[(p2a, .inl (p2k, p2n, .inl (o.2)))]] : List va_W)) := by first | exact hD | (rw [← ho9]; exact hD)
          subst hQ
          exact W.iret (v := v5_118) hx hb hr (fun t ht hW => ⟨⟨v5_118, (), rfl, (by rw [← ho9]), ⟨by rw [ht]; exact hP9, va_K.moved hW.alike hK, hD9⟩⟩, hS.F ht⟩) hS.2.2 dJ6_getChars_ba4f3_120
        rcases br9 hrun with ⟨hc29, hrun⟩ | ⟨hc29, hrun⟩
        · refine lv_if_eq (tgt := 118) hx hb dJ6_getChars_ba4f3_106 (by decide) (fun _ => ?_) (fun c => absurd hc29 c)
          exact J118 v5_104 p2f_104 _ _ _ hrun hP hD hK hS (lv_sub hl [1] rfl)
        · refine lv_if_eq (tgt := 118) hx hb dJ6_getChars_ba4f3_106 (by decide) (fun c => absurd c hc29) (fun _ => ?_)
          refine lv_aload_n hx hb dJ6_getChars_ba4f3_109 rfl (lv_at hl 0 rfl) ?_
          refine lv_iinc (v := (v5_104 + (-1))) (lv' := [(5, .int (v5_104 + (-1))), (2, .ref p2a), (6, .int y0_12)]) hx hb dJ6_getChars_ba4f3_110 hl (k := 1) rfl rfl (by decide) rfl (fun ls hl => ?_)
          refine lv_iload hx hb dJ6_getChars_ba4f3_113 (lv_at hl 0 rfl) ?_
          refine lv_bipush (v := 45) hx hb dJ6_getChars_ba4f3_115 (by decide) ?_
          obtain ⟨hq30, hrun⟩ := chk9 hrun
          refine va_bast hx hb hK hP hD hS 0 0 rfl rfl (ixb_in hq30) dJ6_getChars_ba4f3_117 (fun H locs hP hD hS => ?_)
          have hP : va_P (dC, dI) cls (List.flatten ([[(p2a, .inl (p2k, p2n, .inl (upd p2f_104 (nn (v5_104 + (-1))) (vp_nar .byte 45))))]] : List va_W)) H := hP
          have hD : va_D A (List.flatten ([[(p2a, .inl (p2k, p2n, .inl (upd p2f_104 (nn (v5_104 + (-1))) (vp_nar .byte 45))))]] : List va_W)) := hD
          obtain ⟨f31, ef31, hrun⟩ := let9 hrun
          rw [← ef31] at hP hD
          exact J118 (v5_104 + (-1)) f31 _ _ _ hrun hP hD hK hS (lv_sub hl [0] rfl)
      rcases br9 hrun with ⟨hc32, hrun⟩ | ⟨hc32, hrun⟩
      · refine lv_icmp_ge (tgt := 104) hx hb dJ6_getChars_ba4f3_88 (by decide) (fun _ => ?_) (fun c => absurd hc32 c)
        exact J104 ((o22.2.1) + (-1)) f28 _ _ _ hrun hP hD hK hS (lv_sub hl [2, 0, 3] rfl)
      · refine lv_icmp_ge (tgt := 104) hx hb dJ6_getChars_ba4f3_88 (by decide) (fun c => absurd c hc32) (fun _ => ?_)
        refine lv_aload_n hx hb dJ6_getChars_ba4f3_91 rfl (lv_at hl 2 rfl) ?_
        refine lv_iinc (v := (((o22.2.1) + (-1)) + (-1))) (lv' := [(5, .int (((o22.2.1) + (-1)) + (-1))), (0, .int (o22.1)), (2, .ref p2a), (6, .int y0_12)]) hx hb dJ6_getChars_ba4f3_92 hl (k := 0) rfl rfl (by decide) rfl (fun ls hl => ?_)
        refine lv_iload hx hb dJ6_getChars_ba4f3_95 (lv_at hl 0 rfl) ?_
        refine va_gets hx hb hro_dg.2.1 hS hown (hts _ qw1247) (fun _ h9 => h9) dJ6_getChars_ba4f3_97 ?_
        refine lv_iload_n hx hb dJ6_getChars_ba4f3_100 rfl (lv_at hl 1 rfl) ?_
        refine lv_ineg hx hb dJ6_getChars_ba4f3_101 ?_
        obtain ⟨hq33, hrun⟩ := chk9 hrun
        refine va_tb hx hb hro_dg.2.2.1 hS (ixb_in hq33) (v := .int (dgT (nn (-(o22.1))))) rfl dJ6_getChars_ba4f3_102 ?_
        obtain ⟨hq34, hrun⟩ := chk9 hrun
        refine va_bast hx hb hK hP hD hS 0 0 rfl rfl (ixb_in hq34) dJ6_getChars_ba4f3_103 (fun H locs hP hD hS => ?_)
        have hP : va_P (dC, dI) cls (List.flatten ([[(p2a, .inl (p2k, p2n, .inl (upd f28 (nn (((o22.2.1) + (-1)) + (-1))) (vp_nar .byte (dgT (nn (-(o22.1))))))))]] : List va_W)) H := hP
        have hD : va_D A (List.flatten ([[(p2a, .inl (p2k, p2n, .inl (upd f28 (nn (((o22.2.1) + (-1)) + (-1))) (vp_nar .byte (dgT (nn (-(o22.1))))))))]] : List va_W)) := hD
        obtain ⟨f35, ef35, hrun⟩ := let9 hrun
        rw [← ef35] at hP hD
        exact J104 (((o22.2.1) + (-1)) + (-1)) f35 _ _ _ hrun hP hD hK hS (lv_sub hl [2, 0, 3] rfl)
  rcases br9 hrun with ⟨hc36, hrun⟩ | ⟨hc36, hrun⟩
  · refine lv_if_ge (tgt := 11) hx hb dJ6_getChars_ba4f3_4 (by decide) (fun _ => ?_) (fun c => absurd hc36 c)
    refine lv_iconst (v := 0) hx hb dJ6_getChars_ba4f3_11 (by decide) ?_
    exact J12 0 _ _ _ hrun hP hD hK hS (lv_sub hl [1, 3, 0] rfl)
  · refine lv_if_ge (tgt := 11) hx hb dJ6_getChars_ba4f3_4 (by decide) (fun c => absurd c hc36) (fun _ => ?_)
    refine lv_iconst (v := 1) hx hb dJ6_getChars_ba4f3_7 (by decide) ?_
    refine lv_goto (tgt := 12) hx hb dJ6_getChars_ba4f3_8 (by decide) ?_
    exact J12 1 _ _ _ hrun hP hD hK hS (lv_sub hl [1, 3, 0] rfl)
def fJ5_append_c97b9_J48 (p0w : ST) (o_1 : Int32) (o_3 : ST × (Nat → Nat)) (p0w_48 : ST) : Option (ST × (Nat → Nat)) := (lt9 (upw p0w_48 0 3 ((p0w 0 3) + o_1)) fun (w9 : ST) => some (w9, (o_3.2)))
theorem mo_fJ5_append_c97b9_J48 {p0w : ST} {o_1 : Int32} {o_3 : ST × (Nat → Nat)} {p0w_48 : ST} {o9q : ST × (Nat → Nat)} (hrun : fJ5_append_c97b9_J48 p0w o_1 o_3 p0w_48 = some o9q) : glJ4 (o_3.2) (o9q.2) := by
  unfold fJ5_append_c97b9_J48 at hrun
  obtain ⟨w9, ew9, hrun⟩ := let9 hrun
  obtain rfl := (Option.some.inj hrun)
  exact (glJ4_rf _)
def fJ5_append_c97b9_G17_6 (p0w : ST) (p1 : Int32) (o_1 : Int32) (o_3 : ST × (Nat → Nat)) : Option (ST × (Nat → Nat)) := ((fJ5_isLatin1_aae02 (o_3.1)).bind fun (o_7 : Int32) => (if o_7 = 0 then none else ((fJ6_getChars_ba4f3 p1 ((p0w 0 3) + o_1) ((o_3.2) 1) ((o_3.1) 1)).bind fun (o_11 : Int32 × RI) => (fJ5_append_c97b9_J48 p0w o_1 o_3 (srw (o_3.1) 1 (o_11.2))))))
theorem mo_fJ5_append_c97b9_G17_6 {p0w : ST} {p1 : Int32} {o_1 : Int32} {o_3 : ST × (Nat → Nat)} {o9q : ST × (Nat → Nat)} (hrun : fJ5_append_c97b9_G17_6 p0w p1 o_1 o_3 = some o9q) : glJ4 (o_3.2) (o9q.2) := by
  unfold fJ5_append_c97b9_G17_6 at hrun
  obtain ⟨o_7, hc_7, hrun⟩ := bnd9 hrun
  rcases br9 hrun with ⟨hc10, hrun⟩ | ⟨hc10, hrun⟩
  · skip
    cases hrun
  · skip
    obtain ⟨o_11, hc_11, hrun⟩ := bnd9 hrun
    exact (mo_fJ5_append_c97b9_J48 hrun)
def fJ5_append_c97b9 (p0n : Nat → Nat) (p0w : ST) (p1 : Int32) : Option (ST × (Nat → Nat)) := ((fJ6_stringSize_0f7a4 p1).bind fun (o_1 : Int32) => ((fJ5_ensureCapacityInternal_d00df p0n p0w ((p0w 0 3) + o_1)).bind fun (o_3 : ST × (Nat → Nat)) => (fJ5_append_c97b9_G17_6 p0w p1 o_1 o_3)))
theorem mo_fJ5_append_c97b9 {p0n : Nat → Nat} {p0w : ST} {p1 : Int32} {o9q : ST × (Nat → Nat)} (hrun : fJ5_append_c97b9 p0n p0w p1 = some o9q) : glJ4 p0n (o9q.2) := by
  unfold fJ5_append_c97b9 at hrun
  obtain ⟨o_1, hc_1, hrun⟩ := bnd9 hrun
  obtain ⟨o_3, hc_3, hrun⟩ := bnd9 hrun
  exact (glJ4_tr (mo_fJ5_ensureCapacityInternal_d00df hc_3) (mo_fJ5_append_c97b9_G17_6 hrun))
set_option maxHeartbeats 16000000 in
set_option maxRecDepth 100000 in
theorem kJ5_append_c97b9 {zs : ZS} (l : Launch) (dC : Nat → ClassId) (dI : Nat → Nat → Nat) (p0a : Nat → Nat) (p0k : Nat → ClassId) (p0n : Nat → Nat) (p0w : ST) (p1 : Int32) (dOv : Nat) (dTv : Nat) (sz : Nat) (o : ST × (Nat → Nat)) (hrun : fJ5_append_c97b9 p0n p0w p1 = some o) : Met l yJ5_append_c97b9 (wz yJ5_append_c97b9 cJ5_append_c97b9 4 (Option.some (Jvm.ClassFile.FieldType.object "java/lang/AbstractStringBuilder"))) ({ frames := 4, cells := (hcJ4 p0n (o.2)), slots := (3 * (gcJ4 p0n (o.2))), locals := 92 } : Room) (va_Pc [.ref (p0a 0), .int p1] (PRE (zA (zA zs (pv9)) (dg9 dOv dTv)) dC dI (List.flatten ([(oJ4 (p0a 0) p0a p0k p0n p0w)] : List va_W)) (List.flatten ([(tJ4 p0k)] : List (List (ClassId × FieldType)))) sz)) (va_Qr (fun (_ : Unit) => True) (fun _ ra t => ra = (p0a 0) ∧ ∃ (xp0_0_z : Nat), ∃ (zp0_0_z : ClassId), POST dC dI (List.flatten ([(oJ4 (p0a 0) (st1 p0a 1 xp0_0_z) (st1 p0k 1 zp0_0_z) (o.2) (o.1))] : List va_W)) (List.flatten ([(tJ4 (st1 p0k 1 zp0_0_z))] : List (List (ClassId × FieldType)))) (va_A (List.flatten ([(oJ4 (p0a 0) p0a p0k p0n p0w)] : List va_W)) sz) t) (va_A (List.flatten ([(oJ4 (p0a 0) p0a p0k p0n p0w)] : List va_W)) sz)) (hcJ4 p0n (o.2)) (3 * (gcJ4 p0n (o.2))) (va_A (List.flatten ([(oJ4 (p0a 0) p0a p0k p0n p0w)] : List va_W)) sz) := by
  refine Met.ofW (cc := cJ5_append_c97b9) (maxL := 4) (ret := (Option.some (Jvm.ClassFile.FieldType.object "java/lang/AbstractStringBuilder"))) (by decide) rfl ?_
  intro p e s m args below meth c s₁ B hml hv
  obtain ⟨rfl, hsz, hP, hK, hD0, hE⟩ := hv
  have hx := B.exec
  have hb := B.bytes
  have hr := B.returns
  have hts0 := atoms_spec (ws := wz yJ5_append_c97b9 cJ5_append_c97b9 4 (Option.some (Jvm.ClassFile.FieldType.object "java/lang/AbstractStringBuilder"))) B.pre
  have hts : ∀ w ∈ gw, w.before _ s = true := fun w h => hts0 w (List.mem_cons_of_mem _ h)
  have hown : s.vm.findClass RJ5 = some m.cls := findClass_of_methodNamed B.named
  have hlocks := B.notSynchronized
  subst hsz
  have hD := hD0.self (sz := s.heap.size)
  refine gQ9 ?_
  intro Q hQ
  generalize hAe : va_A (List.flatten ([(oJ4 (p0a 0) p0a p0k p0n p0w)] : List va_W)) s.heap.size = A at hD hE hQ
  have hA : ∀ q : Nat, s.heap.size ≤ q → A q := fun q h => by rw [← hAe]; exact Or.inr h
  have hro := ENV.ex hE
  have hro_dg := hro.2
  replace hro := hro.1
  have hro_pv := hro.2
  replace hro := hro.1
  have hS : va_S A s.heap s.heap [] := va_S.rf
  have hP : va_P (dC, dI) cls (List.flatten ([(oJ4 (p0a 0) p0a p0k p0n p0w)] : List va_W)) s.heap := hP
  have hl := lv_entry ([.ref (p0a 0), .int p1]) (n := 4) (Nat.le_of_ble_eq_true rfl)
  rw [lg_entry_eq]
  generalize (lg_sl ([.ref (p0a 0), .int p1]) ++ List.replicate (4 - (lg_sl ([.ref (p0a 0), .int p1])).length) Slot.unset).toArray = ls at hl ⊢
  have hl : lv_has ls 4 [(0, .ref (p0a 0)), (1, .int p1)] := hl
  obtain ⟨H, hHe⟩ : ∃ H, H = s.heap := ⟨_, rfl⟩
  obtain ⟨locs, hle⟩ : ∃ locs : List Loc, locs = [] := ⟨_, rfl⟩
  rw [← hHe] at hP
  have hS : va_S A s.heap H locs := by rw [hHe, hle]; exact hS
  show W p l e ({ frames := 4, cells := (hcJ4 p0n (o.2)), slots := (3 * (gcJ4 p0n (o.2))), locals := 92 } : Room) s m ([.ref (p0a 0), .int p1] : List Value).toArray below meth c s.heap [] 0 0 Q (F0 m 0 ls [])
  rw [← hle]
  refine wH9 hHe ?_
  have hg_p0 := glJ4_rf p0n
  have hgn_p0 : glJ4 p0n (o.2) := (mo_fJ5_append_c97b9 hrun)
  refine W.widen (k := (hcJ4 p0n p0n)) (n := (3 * (gcJ4 p0n p0n))) (Nat.zero_le _) (Nat.zero_le _) ?_
  unfold fJ5_append_c97b9 at hrun
  refine lv_aload_n hx hb dJ5_append_c97b9_0 rfl (lv_at hl 0 rfl) ?_
  refine va_get (D := (dC, dI)) (ci := 12) (v := .int (p0w 0 3)) (C := RJ4) (T := TJ4) (N := 4) hx hb hts i_J4 hown hK hP 0 rfl rfl 3 (by decide) (hts _ qw1237) (fun _ h9 => h9) rfl dJ5_append_c97b9_1 ?_
  refine lv_istore_n (lv' := [(2, .int (p0w 0 3)), (0, .ref (p0a 0)), (1, .int p1)]) hx hb dJ5_append_c97b9_4 rfl hl (by decide) rfl (fun ls hl => ?_)
  refine lv_iload_n hx hb dJ5_append_c97b9_5 rfl (lv_at hl 0 rfl) ?_
  refine lv_iload_n hx hb dJ5_append_c97b9_6 rfl (lv_at hl 2 rfl) ?_
  obtain ⟨o_1, hc_1, hrun⟩ := bnd9 hrun
  have hPx : va_P (dC, dI) cls ((List.flatten ([] : List va_W)) ++ (List.flatten ([(oJ4 (p0a 0) p0a p0k p0n p0w)] : List va_W))) H := vP_fa (vP_perm hP (bP (List.Perm.refl _)))
  have hDx : va_D A ((List.flatten ([] : List va_W)) ++ (List.flatten ([(oJ4 (p0a 0) p0a p0k p0n p0w)] : List va_W))) := vD_fa (vD_perm hD (bP (List.Perm.refl _)))
  have hKx : va_K (dC, dI) cls ((List.flatten ([] : List (List (ClassId × FieldType)))) ++ (List.flatten ([(tJ4 p0k)] : List (List (ClassId × FieldType))))) s := vK_fa (vK_perm hK (bP (List.Perm.refl _)))
  have hPc := vP_l hPx
  have hDc := vD_l hDx
  have hKc := vK_l hKx
  have hFc := vfree hDx hS hA
  refine va_calli (va_runS (As := [.int p1]) (rest := [.int (p0w 0 3)]) ⟨hx, hb, hml, hown, hts⟩ (kJ6_stringSize_0f7a4 l dC dI (p0 := p1) (sz := _) (o := o_1) (hrun := hc_1)) (va_cwS 1 hts (gi_S qw1249 qw1250 qw1251 (gi_z qw1248)) rfl rfl rfl (by decide +kernel) ⟨Nat.le_of_ble_eq_true rfl, Nat.le_of_ble_eq_true rfl⟩) ⟨PRE.blind, PRE.of hE hS hFc hPc hKc hDc⟩ rfl rfl hl.1 rfl (lv_room (Nat.le_of_ble_eq_true rfl)) dJ5_append_c97b9_7 ⟨(show (hcJ4 p0n p0n) + 0 ≤ (hcJ4 p0n (o.2)) from by have q0 := gmJ4 hg_p0 hgn_p0; omega), (show (3 * (gcJ4 p0n p0n)) + 0 ≤ (3 * (gcJ4 p0n (o.2))) from by have q0 := gmJ4 hg_p0 hgn_p0; omega)⟩) hS (fun q _ h => hFc q h) hFc (fun r2 u t H locs ht hvm hw hB hz1 hk1 hS => ?_)
  obtain ⟨b1, b2, b3⟩ := hB
  rw [ht] at b1
  obtain ⟨hP, hD, hK⟩ := JOINC (wc := (List.flatten ([] : List va_W))) (wr := (List.flatten ([(oJ4 (p0a 0) p0a p0k p0n p0w)] : List va_W))) (w1 := (List.flatten ([] : List va_W))) (t1 := (List.flatten ([] : List (List (ClassId × FieldType))))) hPx hDx hKx hk1 hFc b1 (va_K.moved hvm.symm b2) b3
  have hP : va_P (dC, dI) cls (List.flatten ([(oJ4 (p0a 0) p0a p0k p0n p0w)] : List va_W)) H := vP_perm (vP_fb hP) (bP (List.Perm.refl _))
  have hD : va_D A (List.flatten ([(oJ4 (p0a 0) p0a p0k p0n p0w)] : List va_W)) := vD_perm (vD_fb hD) (bP (List.Perm.refl _))
  have hK : va_K (dC, dI) cls (List.flatten ([(tJ4 p0k)] : List (List (ClassId × FieldType)))) s := vK_perm (vK_fb hK) (bP (List.Perm.refl _))
  obtain rfl : o_1 = r2 := hw.symm
  refine lv_iadd hx hb dJ5_append_c97b9_10 ?_
  refine lv_istore_n (lv' := [(3, .int ((p0w 0 3) + o_1)), (2, .int (p0w 0 3)), (0, .ref (p0a 0)), (1, .int p1)]) hx hb dJ5_append_c97b9_11 rfl hl (by decide) rfl (fun ls hl => ?_)
  refine lv_aload_n hx hb dJ5_append_c97b9_12 rfl (lv_at hl 2 rfl) ?_
  refine lv_iload_n hx hb dJ5_append_c97b9_13 rfl (lv_at hl 0 rfl) ?_
  obtain ⟨o_3, hc_3, hrun⟩ := bnd9 hrun
  have hPx : va_P (dC, dI) cls ((List.flatten ([(oJ4 (p0a 0) p0a p0k p0n p0w)] : List va_W)) ++ (List.flatten ([] : List va_W))) H := vP_fa (vP_perm hP (bP (List.Perm.refl _)))
  have hDx : va_D A ((List.flatten ([(oJ4 (p0a 0) p0a p0k p0n p0w)] : List va_W)) ++ (List.flatten ([] : List va_W))) := vD_fa (vD_perm hD (bP (List.Perm.refl _)))
  have hKx : va_K (dC, dI) cls ((List.flatten ([(tJ4 p0k)] : List (List (ClassId × FieldType)))) ++ (List.flatten ([] : List (List (ClassId × FieldType))))) s := vK_fa (vK_perm hK (bP (List.Perm.refl _)))
  have hPc := vP_l hPx
  have hDc := vD_l hDx
  have hKc := vK_l hKx
  have hFc := vfree hDx hS hA
  have hgn_p0 : glJ4 (o_3.2) (o.2) := (mo_fJ5_append_c97b9_G17_6 hrun)
  refine va_callv (va_runU (As := [.int ((p0w 0 3) + o_1)]) (rest := []) ⟨hx, hb, hml, hown, hts⟩ (kJ5_ensureCapacityInternal_d00df l dC dI (p0a := p0a) (p0k := p0k) (p0n := p0n) (p0w := p0w) (p1 := ((p0w 0 3) + o_1)) (sz := _) (o := o_3) (hrun := hc_3)) (sx_cuP (owner := RJ5) 1 hts (gi_UP qw1239 qw1240 qw1241 qw1219 (gi_z qw1238)) (pv9_w hro_pv 0 rfl) rfl rfl rfl rfl (by decide +kernel) ⟨Nat.le_of_ble_eq_true rfl, Nat.le_of_ble_eq_true rfl⟩) ⟨PRE.blind, va_recv hKc hPc (ci := 12) (q0 := 0) rfl rfl, PRE.of (ENV.add hE pv9_m hro_pv) hS hFc hPc hKc hDc⟩ rfl rfl hl.1 rfl (lv_room (Nat.le_of_ble_eq_true rfl)) dJ5_append_c97b9_14 ⟨(show (hcJ4 p0n p0n) + (hcJ4 p0n (o_3.2)) ≤ (hcJ4 p0n (o.2)) from by have q0 := gsJ4 hg_p0 (mo_fJ5_ensureCapacityInternal_d00df hc_3) hgn_p0; omega), (show (3 * (gcJ4 p0n p0n)) + (3 * (gcJ4 p0n (o_3.2))) ≤ (3 * (gcJ4 p0n (o.2))) from by have q0 := gsJ4 hg_p0 (mo_fJ5_ensureCapacityInternal_d00df hc_3) hgn_p0; omega)⟩) hS (fun q _ h => hFc q h) hFc (fun u t H locs ht hvm hw hB hz1 hk1 hS => ?_)
  obtain ⟨x4, z5, hB⟩ := hB
  obtain ⟨b1, b2, b3⟩ := hB
  rw [ht] at b1
  obtain ⟨hP, hD, hK⟩ := JOINC (wc := (List.flatten ([(oJ4 (p0a 0) p0a p0k p0n p0w)] : List va_W))) (wr := (List.flatten ([] : List va_W))) (w1 := (List.flatten ([(oJ4 (p0a 0) (st1 p0a 1 x4) (st1 p0k 1 z5) (o_3.2) (o_3.1))] : List va_W))) (t1 := (List.flatten ([(tJ4 (st1 p0k 1 z5))] : List (List (ClassId × FieldType))))) hPx hDx hKx hk1 hFc b1 (va_K.moved hvm.symm b2) b3
  have hP : va_P (dC, dI) cls (List.flatten ([(oJ4 (p0a 0) (st1 p0a 1 x4) (st1 p0k 1 z5) (o_3.2) (o_3.1))] : List va_W)) H := vP_perm (vP_fb hP) (bP (List.Perm.refl _))
  have hD : va_D A (List.flatten ([(oJ4 (p0a 0) (st1 p0a 1 x4) (st1 p0k 1 z5) (o_3.2) (o_3.1))] : List va_W)) := vD_perm (vD_fb hD) (bP (List.Perm.refl _))
  have hK : va_K (dC, dI) cls (List.flatten ([(tJ4 (st1 p0k 1 z5))] : List (List (ClassId × FieldType)))) s := vK_perm (vK_fb hK) (bP (List.Perm.refl _))
  refine W.widen (k := (hcJ4 p0n (o_3.2))) (n := (3 * (gcJ4 p0n (o_3.2)))) (by have a0 := gcJ4_add hg_p0 (mo_fJ5_ensureCapacityInternal_d00df hc_3); omega) (by have a0 := gcJ4_add hg_p0 (mo_fJ5_ensureCapacityInternal_d00df hc_3); omega) ?_
  have hg_p0 : glJ4 p0n (o_3.2) := glJ4_tr hg_p0 (mo_fJ5_ensureCapacityInternal_d00df hc_3)
  unfold fJ5_append_c97b9_G17_6 at hrun
  refine lv_aload_n hx hb dJ5_append_c97b9_17 rfl (lv_at hl 2 rfl) ?_
  obtain ⟨o_7, hc_7, hrun⟩ := bnd9 hrun
  have hPx : va_P (dC, dI) cls ((List.flatten ([(oJ4 (p0a 0) (st1 p0a 1 x4) (st1 p0k 1 z5) (o_3.2) (o_3.1))] : List va_W)) ++ (List.flatten ([] : List va_W))) H := vP_fa (vP_perm hP (bP (List.Perm.refl _)))
  have hDx : va_D A ((List.flatten ([(oJ4 (p0a 0) (st1 p0a 1 x4) (st1 p0k 1 z5) (o_3.2) (o_3.1))] : List va_W)) ++ (List.flatten ([] : List va_W))) := vD_fa (vD_perm hD (bP (List.Perm.refl _)))
  have hKx : va_K (dC, dI) cls ((List.flatten ([(tJ4 (st1 p0k 1 z5))] : List (List (ClassId × FieldType)))) ++ (List.flatten ([] : List (List (ClassId × FieldType))))) s := vK_fa (vK_perm hK (bP (List.Perm.refl _)))
  have hPc := vP_l hPx
  have hDc := vD_l hDx
  have hKc := vK_l hKx
  have hFc := vfree hDx hS hA
  refine va_calli (va_runU (As := []) (rest := []) ⟨hx, hb, hml, hown, hts⟩ (kJ5_isLatin1_aae02 l dC dI (p0a := (st0 (p0a 0) (st1 p0a 1 x4))) (p0k := (st1 p0k 1 z5)) (p0n := (o_3.2)) (p0w := (o_3.1)) (sz := _) (o := o_7) (hrun := hc_7)) (va_cwU (owner := RJ5) 0 hts (gi_U qw1253 qw1254 qw1255 qw1256 qw1219 (gi_z qw1252)) rfl rfl rfl rfl (by decide +kernel) ⟨Nat.le_of_ble_eq_true rfl, Nat.le_of_ble_eq_true rfl⟩) ⟨PRE.blind, va_recv hKc hPc (ci := 12) (q0 := 0) rfl rfl, PRE.of hE hS hFc hPc hKc hDc⟩ rfl rfl hl.1 rfl (lv_room (Nat.le_of_ble_eq_true rfl)) dJ5_append_c97b9_18 ⟨(show (hcJ4 p0n (o_3.2)) + 0 ≤ (hcJ4 p0n (o.2)) from by have q0 := gmJ4 hg_p0 hgn_p0; omega), (show (3 * (gcJ4 p0n (o_3.2))) + 0 ≤ (3 * (gcJ4 p0n (o.2))) from by have q0 := gmJ4 hg_p0 hgn_p0; omega)⟩) hS (fun q _ h => hFc q h) hFc (fun r8 u t H locs ht hvm hw hB hz1 hk1 hS => ?_)
  obtain ⟨b1, b2, b3⟩ := hB
  rw [ht] at b1
  obtain ⟨hP, hD, hK⟩ := JOINC (wc := (List.flatten ([(oJ4 (p0a 0) (st1 p0a 1 x4) (st1 p0k 1 z5) (o_3.2) (o_3.1))] : List va_W))) (wr := (List.flatten ([] : List va_W))) (w1 := (List.flatten ([(oJ4 (p0a 0) (st1 p0a 1 x4) (st1 p0k 1 z5) (o_3.2) (o_3.1))] : List va_W))) (t1 := (List.flatten ([(tJ4 (st1 p0k 1 z5))] : List (List (ClassId × FieldType))))) hPx hDx hKx hk1 hFc b1 (va_K.moved hvm.symm b2) b3
  have hP : va_P (dC, dI) cls (List.flatten ([(oJ4 (p0a 0) (st1 p0a 1 x4) (st1 p0k 1 z5) (o_3.2) (o_3.1))] : List va_W)) H := vP_perm (vP_fb hP) (bP (List.Perm.refl _))
  have hD : va_D A (List.flatten ([(oJ4 (p0a 0) (st1 p0a 1 x4) (st1 p0k 1 z5) (o_3.2) (o_3.1))] : List va_W)) := vD_perm (vD_fb hD) (bP (List.Perm.refl _))
  have hK : va_K (dC, dI) cls (List.flatten ([(tJ4 (st1 p0k 1 z5))] : List (List (ClassId × FieldType)))) s := vK_perm (vK_fb hK) (bP (List.Perm.refl _))
  obtain rfl : o_7 = r8 := hw.symm
  have J48 : ∀ (p0w_48 : ST) (H : Heap) (locs : List Loc) (ls : Array Slot), (fJ5_append_c97b9_J48 p0w o_1 o_3 p0w_48) = some o → va_P (dC, dI) cls (List.flatten ([(oJ4 (p0a 0) (st1 p0a 1 x4) (st1 p0k 1 z5) (o_3.2) p0w_48)] : List va_W)) H → va_D A (List.flatten ([(oJ4 (p0a 0) (st1 p0a 1 x4) (st1 p0k 1 z5) (o_3.2) p0w_48)] : List va_W)) → va_K (dC, dI) cls (List.flatten ([(tJ4 (st1 p0k 1 z5))] : List (List (ClassId × FieldType)))) s → va_S A s.heap H locs → lv_has ls 4 [(0, .ref (p0a 0)), (3, .int ((p0w 0 3) + o_1))] → glJ4 p0n (o_3.2) → W p l e ({ frames := 4, cells := (hcJ4 p0n (o.2)), slots := (3 * (gcJ4 p0n (o.2))), locals := 92 } : Room) s m ([.ref (p0a 0), .int p1] : List Value).toArray below meth c H locs (hcJ4 p0n (o_3.2)) (3 * (gcJ4 p0n (o_3.2))) Q (F0 m 48 ls []) := by
    intro p0w_48 H locs ls hrun hP hD hK hS hl hg_p0 
    have hgn_p0 : glJ4 (o_3.2) (o.2) := (mo_fJ5_append_c97b9_J48 hrun)
    unfold fJ5_append_c97b9_J48 at hrun
    refine lv_aload_n hx hb dJ5_append_c97b9_48 rfl (lv_at hl 0 rfl) ?_
    refine lv_iload_n hx hb dJ5_append_c97b9_49 rfl (lv_at hl 1 rfl) ?_
    refine va_put (D := (dC, dI)) (ci := 12) (v := .int ((p0w 0 3) + o_1)) (ty := .int) (C := RJ4) (T := TJ4) (N := 4) hx hb hts i_J4 tyJ4 tyJ4_ok nmJ4 hown hK hP hD hS 0 rfl rfl 3 (by decide) (hts _ qw1237) (fun _ h9 => h9) rfl (by decide +kernel) rfl rfl (Nat.le_of_ble_eq_true rfl) dJ5_append_c97b9_50 (fun H locs hP hD hS => ?_)
    have hP : va_P (dC, dI) cls (List.flatten ([(oJ4 (p0a 0) (st1 p0a 1 x4) (st1 p0k 1 z5) (o_3.2) (upw p0w_48 0 3 ((p0w 0 3) + o_1)))] : List va_W)) H := hP
    have hD : va_D A (List.flatten ([(oJ4 (p0a 0) (st1 p0a 1 x4) (st1 p0k 1 z5) (o_3.2) (upw p0w_48 0 3 ((p0w 0 3) + o_1)))] : List va_W)) := hD
    obtain ⟨w9, ew9, hrun⟩ := let9 hrun
    rw [← ew9] at hP hD
    refine lv_aload_n hx hb dJ5_append_c97b9_53 rfl (lv_at hl 0 rfl) ?_
    have ho9 : (w9, (o_3.2)) = o := Option.some.inj hrun
    subst ho9
    subst hQ
    exact W.aret (v := .ref (p0a 0)) (rt := .object "java/lang/AbstractStringBuilder") hx hb hr (Or.inl ⟨_, rfl⟩) (Or.inr ⟨_, rfl⟩) (fun t ht hW => ⟨⟨(), (p0a 0), rfl, trivial, rfl, ⟨x4, z5, by rw [ht]; exact hP, va_K.moved hW.alike hK, hD⟩⟩, hS.F ht⟩) hS.2.2 dJ5_append_c97b9_54
  rcases br9 hrun with ⟨hc10, hrun⟩ | ⟨hc10, hrun⟩
  · refine lv_if_eq (tgt := 37) hx hb dJ5_append_c97b9_21 (by decide) (fun _ => ?_) (fun c => absurd hc10 c)
    refine lv_iload_n hx hb dJ5_append_c97b9_37 rfl (lv_at hl 3 rfl) ?_
    refine lv_iload_n hx hb dJ5_append_c97b9_38 rfl (lv_at hl 1 rfl) ?_
    refine lv_iload_n hx hb dJ5_append_c97b9_39 rfl (lv_at hl 0 rfl) ?_
    refine lv_aload_n hx hb dJ5_append_c97b9_40 rfl (lv_at hl 2 rfl) ?_
    refine va_get (D := (dC, dI)) (ci := 12) (v := .ref x4) (C := RJ4) (T := TJ4) (N := 4) hx hb hts i_J4 hown hK hP 0 rfl rfl 0 (by decide) (hts _ qw1210) (fun _ h9 => h9) rfl dJ5_append_c97b9_41 ?_
    cases hrun
  · refine lv_if_eq (tgt := 37) hx hb dJ5_append_c97b9_21 (by decide) (fun c => absurd c hc10) (fun _ => ?_)
    refine lv_iload_n hx hb dJ5_append_c97b9_24 rfl (lv_at hl 3 rfl) ?_
    refine lv_iload_n hx hb dJ5_append_c97b9_25 rfl (lv_at hl 0 rfl) ?_
    refine lv_aload_n hx hb dJ5_append_c97b9_26 rfl (lv_at hl 2 rfl) ?_
    refine va_get (D := (dC, dI)) (ci := 12) (v := .ref x4) (C := RJ4) (T := TJ4) (N := 4) hx hb hts i_J4 hown hK hP 0 rfl rfl 0 (by decide) (hts _ qw1210) (fun _ h9 => h9) rfl dJ5_append_c97b9_27 ?_
    obtain ⟨o_11, hc_11, hrun⟩ := bnd9 hrun
    have hP2 : va_P (dC, dI) cls (List.flatten ([[(x4, .inl (z5, ((o_3.2) 1), .inl ((o_3.1) 1)))], [((p0a 0), .inr (12, [.ref x4, .int ((o_3.1) 0 1), .int ((o_3.1) 0 2), .int ((o_3.1) 0 3)]))]] : List va_W)) H := vP_perm hP ((bP (List.Perm.refl _)).trans (List.Perm.append_right _ (List.perm_middle (a := ((x4, .inl (z5, ((o_3.2) 1), .inl ((o_3.1) 1))) : Nat × va_E)) (l₁ := ([((p0a 0), .inr (12, [.ref x4, .int ((o_3.1) 0 1), .int ((o_3.1) 0 2), .int ((o_3.1) 0 3)]))] : va_W)) (l₂ := ([] : va_W)))))
    have hD2 : va_D A (List.flatten ([[(x4, .inl (z5, ((o_3.2) 1), .inl ((o_3.1) 1)))], [((p0a 0), .inr (12, [.ref x4, .int ((o_3.1) 0 1), .int ((o_3.1) 0 2), .int ((o_3.1) 0 3)]))]] : List va_W)) := vD_perm hD ((bP (List.Perm.refl _)).trans (List.Perm.append_right _ (List.perm_middle (a := ((x4, .inl (z5, ((o_3.2) 1), .inl ((o_3.1) 1))) : Nat × va_E)) (l₁ := ([((p0a 0), .inr (12, [.ref x4, .int ((o_3.1) 0 1), .int ((o_3.1) 0 2), .int ((o_3.1) 0 3)]))] : va_W)) (l₂ := ([] : va_W)))))
    have hK2 : va_K (dC, dI) cls (List.flatten ([[(z5, .byte)], []] : List (List (ClassId × FieldType)))) s := vK_perm hK ((bP (List.Perm.refl _)).trans (List.Perm.append_right _ (List.perm_middle (a := ((z5, .byte) : ClassId × FieldType)) (l₁ := ([] : List (ClassId × FieldType))) (l₂ := ([] : List (ClassId × FieldType))))))
    have hPx : va_P (dC, dI) cls ((List.flatten ([[(x4, .inl (z5, ((o_3.2) 1), .inl ((o_3.1) 1)))]] : List va_W)) ++ (List.flatten ([[((p0a 0), .inr (12, [.ref x4, .int ((o_3.1) 0 1), .int ((o_3.1) 0 2), .int ((o_3.1) 0 3)]))]] : List va_W))) H := vP_fa (vP_perm hP2 (bP (List.Perm.refl _)))
    have hDx : va_D A ((List.flatten ([[(x4, .inl (z5, ((o_3.2) 1), .inl ((o_3.1) 1)))]] : List va_W)) ++ (List.flatten ([[((p0a 0), .inr (12, [.ref x4, .int ((o_3.1) 0 1), .int ((o_3.1) 0 2), .int ((o_3.1) 0 3)]))]] : List va_W))) := vD_fa (vD_perm hD2 (bP (List.Perm.refl _)))
    have hKx : va_K (dC, dI) cls ((List.flatten ([[(z5, .byte)]] : List (List (ClassId × FieldType)))) ++ (List.flatten ([[]] : List (List (ClassId × FieldType))))) s := vK_fa (vK_perm hK2 (bP (List.Perm.refl _)))
    have hPc := vP_l hPx
    have hDc := vD_l hDx
    have hKc := vK_l hKx
    have hFc := vfree hDx hS hA
    refine va_calli (va_runS (As := [.int p1, .int ((p0w 0 3) + o_1), .ref x4]) (rest := []) ⟨hx, hb, hml, hown, hts⟩ (kJ6_getChars_ba4f3 l dC dI (p0 := p1) (p1 := ((p0w 0 3) + o_1)) (p2a := x4) (p2k := z5) (p2n := ((o_3.2) 1)) (p2f := ((o_3.1) 1)) (dOv := dOv) (dTv := dTv) (sz := _) (o := o_11) (hrun := hc_11)) (va_cwS 3 hts (gi_S qw1258 qw1259 qw1251 (gi_z qw1257)) rfl rfl rfl (by decide +kernel) ⟨Nat.le_of_ble_eq_true rfl, Nat.le_of_ble_eq_true rfl⟩) ⟨PRE.blind, PRE.of (ENV.add hE dg9_m hro_dg) hS hFc hPc hKc hDc⟩ rfl rfl hl.1 rfl (lv_room (Nat.le_of_ble_eq_true rfl)) dJ5_append_c97b9_30 ⟨(show (hcJ4 p0n (o_3.2)) + 0 ≤ (hcJ4 p0n (o.2)) from by have q0 := gmJ4 hg_p0 hgn_p0; omega), (show (3 * (gcJ4 p0n (o_3.2))) + 0 ≤ (3 * (gcJ4 p0n (o.2))) from by have q0 := gmJ4 hg_p0 hgn_p0; omega)⟩) hS (fun q _ h => hFc q h) hFc (fun r12 u t H locs ht hvm hw hB hz1 hk1 hS => ?_)
    obtain ⟨b1, b2, b3⟩ := hB
    rw [ht] at b1
    obtain ⟨hP, hD, hK⟩ := JOINC (wc := (List.flatten ([[(x4, .inl (z5, ((o_3.2) 1), .inl ((o_3.1) 1)))]] : List va_W))) (wr := (List.flatten ([[((p0a 0), .inr (12, [.ref x4, .int ((o_3.1) 0 1), .int ((o_3.1) 0 2), .int ((o_3.1) 0 3)]))]] : List va_W))) (w1 := (List.flatten ([[(x4, .inl (z5, ((o_3.2) 1), .inl ((srw (o_3.1) 1 (o_11.2)) 1)))]] : List va_W))) (t1 := (List.flatten ([[(z5, .byte)]] : List (List (ClassId × FieldType))))) hPx hDx hKx hk1 hFc b1 (va_K.moved hvm.symm b2) b3
    have hP3 : va_P (dC, dI) cls (List.flatten ([(oJ4 (p0a 0) (st1 p0a 1 x4) (st1 p0k 1 z5) (o_3.2) (srw (o_3.1) 1 (o_11.2)))] : List va_W)) H := vP_perm (vP_fb hP) ((bP (List.Perm.refl _)).trans (List.Perm.append_right _ (List.perm_middle (a := ((x4, .inl (z5, ((o_3.2) 1), .inl ((srw (o_3.1) 1 (o_11.2)) 1))) : Nat × va_E)) (l₁ := ([((p0a 0), .inr (12, [.ref x4, .int ((srw (o_3.1) 1 (o_11.2)) 0 1), .int ((srw (o_3.1) 1 (o_11.2)) 0 2), .int ((srw (o_3.1) 1 (o_11.2)) 0 3)]))] : va_W)) (l₂ := ([] : va_W))).symm))
    have hD3 : va_D A (List.flatten ([(oJ4 (p0a 0) (st1 p0a 1 x4) (st1 p0k 1 z5) (o_3.2) (srw (o_3.1) 1 (o_11.2)))] : List va_W)) := vD_perm (vD_fb hD) ((bP (List.Perm.refl _)).trans (List.Perm.append_right _ (List.perm_middle (a := ((x4, .inl (z5, ((o_3.2) 1), .inl ((srw (o_3.1) 1 (o_11.2)) 1))) : Nat × va_E)) (l₁ := ([((p0a 0), .inr (12, [.ref x4, .int ((srw (o_3.1) 1 (o_11.2)) 0 1), .int ((srw (o_3.1) 1 (o_11.2)) 0 2), .int ((srw (o_3.1) 1 (o_11.2)) 0 3)]))] : va_W)) (l₂ := ([] : va_W))).symm))
    have hK3 : va_K (dC, dI) cls (List.flatten ([(tJ4 (st1 p0k 1 z5))] : List (List (ClassId × FieldType)))) s := vK_perm (vK_fb hK) ((bP (List.Perm.refl _)).trans (List.Perm.append_right _ (List.perm_middle (a := ((z5, .byte) : ClassId × FieldType)) (l₁ := ([] : List (ClassId × FieldType))) (l₂ := ([] : List (ClassId × FieldType)))).symm))
    have hP : va_P (dC, dI) cls (List.flatten ([(oJ4 (p0a 0) (st1 p0a 1 x4) (st1 p0k 1 z5) (o_3.2) (srw (o_3.1) 1 (o_11.2)))] : List va_W)) H := vP_perm hP3 (bP (List.Perm.refl _))
    have hD : va_D A (List.flatten ([(oJ4 (p0a 0) (st1 p0a 1 x4) (st1 p0k 1 z5) (o_3.2) (srw (o_3.1) 1 (o_11.2)))] : List va_W)) := vD_perm hD3 (bP (List.Perm.refl _))
    have hK : va_K (dC, dI) cls (List.flatten ([(tJ4 (st1 p0k 1 z5))] : List (List (ClassId × FieldType)))) s := vK_perm hK3 (bP (List.Perm.refl _))
    obtain rfl : r12 = (o_11.1) := hw
    refine lv_pop hx hb dJ5_append_c97b9_33 rfl ?_
    refine lv_goto (tgt := 48) hx hb dJ5_append_c97b9_34 (by decide) ?_
    exact J48 (srw (o_3.1) 1 (o_11.2)) _ _ _ hrun hP hD hK hS (lv_sub hl [2, 0] rfl) hg_p0
def fJ4_append_15ec4_G5_5 (o_1 : ST × (Nat → Nat)) : Option (ST × (Nat → Nat)) := some ((o_1.1), (o_1.2))
theorem mo_fJ4_append_15ec4_G5_5 {o_1 : ST × (Nat → Nat)} {o9q : ST × (Nat → Nat)} (hrun : fJ4_append_15ec4_G5_5 o_1 = some o9q) : glJ4 (o_1.2) (o9q.2) := by
  unfold fJ4_append_15ec4_G5_5 at hrun
  obtain rfl := (Option.some.inj hrun)
  exact (glJ4_rf _)
def fJ4_append_15ec4 (p0n : Nat → Nat) (p0w : ST) (p1m : Nat) (p1f : RI) : Option (ST × (Nat → Nat)) := ((fJ5_append_cf1ce p0n p0w p1m p1f).bind fun (o_1 : ST × (Nat → Nat)) => (fJ4_append_15ec4_G5_5 o_1))
theorem mo_fJ4_append_15ec4 {p0n : Nat → Nat} {p0w : ST} {p1m : Nat} {p1f : RI} {o9q : ST × (Nat → Nat)} (hrun : fJ4_append_15ec4 p0n p0w p1m p1f = some o9q) : glJ4 p0n (o9q.2) := by
  unfold fJ4_append_15ec4 at hrun
  obtain ⟨o_1, hc_1, hrun⟩ := bnd9 hrun
  exact (glJ4_tr (mo_fJ5_append_cf1ce hc_1) (mo_fJ4_append_15ec4_G5_5 hrun))
set_option maxHeartbeats 16000000 in
set_option maxRecDepth 100000 in
theorem kJ4_append_15ec4 {zs : ZS} (l : Launch) (dC : Nat → ClassId) (dI : Nat → Nat → Nat) (p0a : Nat → Nat) (p0k : Nat → ClassId) (p0n : Nat → Nat) (p0w : ST) (p1s : Nat) (p1v : Nat) (p1m : Nat) (p1f : RI) (sz : Nat) (o : ST × (Nat → Nat)) (hrun : fJ4_append_15ec4 p0n p0w p1m p1f = some o) : Met l yJ4_append_15ec4 (wz yJ4_append_15ec4 cJ4_append_15ec4 2 (Option.some (Jvm.ClassFile.FieldType.object "java/lang/StringBuilder"))) ({ frames := 5, cells := (hcJ4 p0n (o.2)), slots := (3 * (gcJ4 p0n (o.2))), locals := 114 } : Room) (va_Pc [.ref (p0a 0), .ref p1s] (PRE (zA (zA zs (sq9 p1s p1v p1m p1f)) (pv9)) dC dI (List.flatten ([(oJ4 (p0a 0) p0a p0k p0n p0w)] : List va_W)) (List.flatten ([(tJ4 p0k)] : List (List (ClassId × FieldType)))) sz)) (va_Qr (fun (_ : Unit) => True) (fun _ ra t => ra = (p0a 0) ∧ ∃ (xp0_0_z : Nat), ∃ (zp0_0_z : ClassId), POST dC dI (List.flatten ([(oJ4 (p0a 0) (st1 p0a 1 xp0_0_z) (st1 p0k 1 zp0_0_z) (o.2) (o.1))] : List va_W)) (List.flatten ([(tJ4 (st1 p0k 1 zp0_0_z))] : List (List (ClassId × FieldType)))) (va_A (List.flatten ([(oJ4 (p0a 0) p0a p0k p0n p0w)] : List va_W)) sz) t) (va_A (List.flatten ([(oJ4 (p0a 0) p0a p0k p0n p0w)] : List va_W)) sz)) (hcJ4 p0n (o.2)) (3 * (gcJ4 p0n (o.2))) (va_A (List.flatten ([(oJ4 (p0a 0) p0a p0k p0n p0w)] : List va_W)) sz) := by
  refine Met.ofW (cc := cJ4_append_15ec4) (maxL := 2) (ret := (Option.some (Jvm.ClassFile.FieldType.object "java/lang/StringBuilder"))) (by decide) rfl ?_
  intro p e s m args below meth c s₁ B hml hv
  obtain ⟨rfl, hsz, hP, hK, hD0, hE⟩ := hv
  have hx := B.exec
  have hb := B.bytes
  have hr := B.returns
  have hts0 := atoms_spec (ws := wz yJ4_append_15ec4 cJ4_append_15ec4 2 (Option.some (Jvm.ClassFile.FieldType.object "java/lang/StringBuilder"))) B.pre
  have hts : ∀ w ∈ gw, w.before _ s = true := fun w h => hts0 w (List.mem_cons_of_mem _ h)
  have hown : s.vm.findClass RJ4 = some m.cls := findClass_of_methodNamed B.named
  have hlocks := B.notSynchronized
  subst hsz
  have hD := hD0.self (sz := s.heap.size)
  refine gQ9 ?_
  intro Q hQ
  generalize hAe : va_A (List.flatten ([(oJ4 (p0a 0) p0a p0k p0n p0w)] : List va_W)) s.heap.size = A at hD hE hQ
  have hA : ∀ q : Nat, s.heap.size ≤ q → A q := fun q h => by rw [← hAe]; exact Or.inr h
  have hro := ENV.ex hE
  have hro_pv := hro.2
  replace hro := hro.1
  have hro_p1 := hro.2
  replace hro := hro.1
  have hS : va_S A s.heap s.heap [] := va_S.rf
  have hP : va_P (dC, dI) cls (List.flatten ([(oJ4 (p0a 0) p0a p0k p0n p0w)] : List va_W)) s.heap := hP
  have hl := lv_entry ([.ref (p0a 0), .ref p1s]) (n := 2) (Nat.le_of_ble_eq_true rfl)
  rw [lg_entry_eq]
  generalize (lg_sl ([.ref (p0a 0), .ref p1s]) ++ List.replicate (2 - (lg_sl ([.ref (p0a 0), .ref p1s])).length) Slot.unset).toArray = ls at hl ⊢
  have hl : lv_has ls 2 [(0, .ref (p0a 0)), (1, .ref p1s)] := hl
  obtain ⟨H, hHe⟩ : ∃ H, H = s.heap := ⟨_, rfl⟩
  obtain ⟨locs, hle⟩ : ∃ locs : List Loc, locs = [] := ⟨_, rfl⟩
  rw [← hHe] at hP
  have hS : va_S A s.heap H locs := by rw [hHe, hle]; exact hS
  show W p l e ({ frames := 5, cells := (hcJ4 p0n (o.2)), slots := (3 * (gcJ4 p0n (o.2))), locals := 114 } : Room) s m ([.ref (p0a 0), .ref p1s] : List Value).toArray below meth c s.heap [] 0 0 Q (F0 m 0 ls [])
  rw [← hle]
  refine wH9 hHe ?_
  have hg_p0 := glJ4_rf p0n
  have hgn_p0 : glJ4 p0n (o.2) := (mo_fJ4_append_15ec4 hrun)
  refine W.widen (k := (hcJ4 p0n p0n)) (n := (3 * (gcJ4 p0n p0n))) (Nat.zero_le _) (Nat.zero_le _) ?_
  unfold fJ4_append_15ec4 at hrun
  refine lv_aload_n hx hb dJ4_append_15ec4_0 rfl (lv_at hl 0 rfl) ?_
  refine lv_aload_n hx hb dJ4_append_15ec4_1 rfl (lv_at hl 1 rfl) ?_
  obtain ⟨o_1, hc_1, hrun⟩ := bnd9 hrun
  have hPx : va_P (dC, dI) cls ((List.flatten ([(oJ4 (p0a 0) p0a p0k p0n p0w)] : List va_W)) ++ (List.flatten ([] : List va_W))) H := vP_fa (vP_perm hP (bP (List.Perm.refl _)))
  have hDx : va_D A ((List.flatten ([(oJ4 (p0a 0) p0a p0k p0n p0w)] : List va_W)) ++ (List.flatten ([] : List va_W))) := vD_fa (vD_perm hD (bP (List.Perm.refl _)))
  have hKx : va_K (dC, dI) cls ((List.flatten ([(tJ4 p0k)] : List (List (ClassId × FieldType)))) ++ (List.flatten ([] : List (List (ClassId × FieldType))))) s := vK_fa (vK_perm hK (bP (List.Perm.refl _)))
  have hPc := vP_l hPx
  have hDc := vD_l hDx
  have hKc := vK_l hKx
  have hFc := vfree hDx hS hA
  have hgn_p0 : glJ4 (o_1.2) (o.2) := (mo_fJ4_append_15ec4_G5_5 hrun)
  refine va_callr (va_runSU ((hK.1 12 _ rfl).2) (As := [.ref p1s]) (rest := []) ⟨hx, hb, hml, hown, hts⟩ (kJ5_append_cf1ce l dC dI (p0a := p0a) (p0k := p0k) (p0n := p0n) (p0w := p0w) (p1s := p1s) (p1v := p1v) (p1m := p1m) (p1f := p1f) (sz := _) (o := o_1) (hrun := hc_1)) (va_cwSU 1 hts (gi_SU qw1261 qw1262 qw1263 qw1264 qw1219 (gi_z qw1260)) rfl rfl rfl (by decide +kernel) ⟨Nat.le_of_ble_eq_true rfl, Nat.le_of_ble_eq_true rfl⟩) ⟨PRE.blind, va_recv hKc hPc (ci := 12) (q0 := 0) rfl rfl, PRE.of (ENV.add (ENV.add hE sq9_m hro_p1) pv9_m hro_pv) hS hFc hPc hKc hDc⟩ rfl rfl hl.1 rfl (lv_room (Nat.le_of_ble_eq_true rfl)) dJ4_append_15ec4_2 ⟨(show (hcJ4 p0n p0n) + (hcJ4 p0n (o_1.2)) ≤ (hcJ4 p0n (o.2)) from by have q0 := gsJ4 hg_p0 (mo_fJ5_append_cf1ce hc_1) hgn_p0; omega), (show (3 * (gcJ4 p0n p0n)) + (3 * (gcJ4 p0n (o_1.2))) ≤ (3 * (gcJ4 p0n (o.2))) from by have q0 := gsJ4 hg_p0 (mo_fJ5_append_cf1ce hc_1) hgn_p0; omega)⟩) hS (fun q _ h => hFc q h) hFc (fun u r2 t H locs ht hvm hw hB hz1 hk1 hS => ?_)
  obtain ⟨hra9, hB⟩ := hB
  obtain ⟨x3, z4, hB⟩ := hB
  obtain ⟨b1, b2, b3⟩ := hB
  rw [ht] at b1
  obtain ⟨hP, hD, hK⟩ := JOINC (wc := (List.flatten ([(oJ4 (p0a 0) p0a p0k p0n p0w)] : List va_W))) (wr := (List.flatten ([] : List va_W))) (w1 := (List.flatten ([(oJ4 (p0a 0) (st1 p0a 1 x3) (st1 p0k 1 z4) (o_1.2) (o_1.1))] : List va_W))) (t1 := (List.flatten ([(tJ4 (st1 p0k 1 z4))] : List (List (ClassId × FieldType))))) hPx hDx hKx hk1 hFc b1 (va_K.moved hvm.symm b2) b3
  have hP : va_P (dC, dI) cls (List.flatten ([(oJ4 (p0a 0) (st1 p0a 1 x3) (st1 p0k 1 z4) (o_1.2) (o_1.1))] : List va_W)) H := vP_perm (vP_fb hP) (bP (List.Perm.refl _))
  have hD : va_D A (List.flatten ([(oJ4 (p0a 0) (st1 p0a 1 x3) (st1 p0k 1 z4) (o_1.2) (o_1.1))] : List va_W)) := vD_perm (vD_fb hD) (bP (List.Perm.refl _))
  have hK : va_K (dC, dI) cls (List.flatten ([(tJ4 (st1 p0k 1 z4))] : List (List (ClassId × FieldType)))) s := vK_perm (vK_fb hK) (bP (List.Perm.refl _))
  subst hra9
  refine W.widen (k := (hcJ4 p0n (o_1.2))) (n := (3 * (gcJ4 p0n (o_1.2)))) (by have a0 := gcJ4_add hg_p0 (mo_fJ5_append_cf1ce hc_1); omega) (by have a0 := gcJ4_add hg_p0 (mo_fJ5_append_cf1ce hc_1); omega) ?_
  have hg_p0 : glJ4 p0n (o_1.2) := glJ4_tr hg_p0 (mo_fJ5_append_cf1ce hc_1)
  unfold fJ4_append_15ec4_G5_5 at hrun
  refine lv_pop hx hb dJ4_append_15ec4_5 rfl ?_
  refine lv_aload_n hx hb dJ4_append_15ec4_6 rfl (lv_at hl 0 rfl) ?_
  have ho9 : ((o_1.1), (o_1.2)) = o := Option.some.inj hrun
  subst ho9
  subst hQ
  exact W.aret (v := .ref (p0a 0)) (rt := .object "java/lang/StringBuilder") hx hb hr (Or.inl ⟨_, rfl⟩) (Or.inr ⟨_, rfl⟩) (fun t ht hW => ⟨⟨(), (p0a 0), rfl, trivial, rfl, ⟨x3, z4, by rw [ht]; exact hP, va_K.moved hW.alike hK, hD⟩⟩, hS.F ht⟩) hS.2.2 dJ4_append_15ec4_7
def fJ4_append_bf812_G5_5 (o_1 : ST × (Nat → Nat)) : Option (ST × (Nat → Nat)) := some ((o_1.1), (o_1.2))
theorem mo_fJ4_append_bf812_G5_5 {o_1 : ST × (Nat → Nat)} {o9q : ST × (Nat → Nat)} (hrun : fJ4_append_bf812_G5_5 o_1 = some o9q) : glJ4 (o_1.2) (o9q.2) := by
  unfold fJ4_append_bf812_G5_5 at hrun
  obtain rfl := (Option.some.inj hrun)
  exact (glJ4_rf _)
def fJ4_append_bf812 (p0n : Nat → Nat) (p0w : ST) (p1 : Int32) : Option (ST × (Nat → Nat)) := ((fJ5_append_c97b9 p0n p0w p1).bind fun (o_1 : ST × (Nat → Nat)) => (fJ4_append_bf812_G5_5 o_1))
theorem mo_fJ4_append_bf812 {p0n : Nat → Nat} {p0w : ST} {p1 : Int32} {o9q : ST × (Nat → Nat)} (hrun : fJ4_append_bf812 p0n p0w p1 = some o9q) : glJ4 p0n (o9q.2) := by
  unfold fJ4_append_bf812 at hrun
  obtain ⟨o_1, hc_1, hrun⟩ := bnd9 hrun
  exact (glJ4_tr (mo_fJ5_append_c97b9 hc_1) (mo_fJ4_append_bf812_G5_5 hrun))
set_option maxHeartbeats 16000000 in
set_option maxRecDepth 100000 in
theorem kJ4_append_bf812 {zs : ZS} (l : Launch) (dC : Nat → ClassId) (dI : Nat → Nat → Nat) (p0a : Nat → Nat) (p0k : Nat → ClassId) (p0n : Nat → Nat) (p0w : ST) (p1 : Int32) (dOv : Nat) (dTv : Nat) (sz : Nat) (o : ST × (Nat → Nat)) (hrun : fJ4_append_bf812 p0n p0w p1 = some o) : Met l yJ4_append_bf812 (wz yJ4_append_bf812 cJ4_append_bf812 2 (Option.some (Jvm.ClassFile.FieldType.object "java/lang/StringBuilder"))) ({ frames := 5, cells := (hcJ4 p0n (o.2)), slots := (3 * (gcJ4 p0n (o.2))), locals := 115 } : Room) (va_Pc [.ref (p0a 0), .int p1] (PRE (zA (zA zs (pv9)) (dg9 dOv dTv)) dC dI (List.flatten ([(oJ4 (p0a 0) p0a p0k p0n p0w)] : List va_W)) (List.flatten ([(tJ4 p0k)] : List (List (ClassId × FieldType)))) sz)) (va_Qr (fun (_ : Unit) => True) (fun _ ra t => ra = (p0a 0) ∧ ∃ (xp0_0_z : Nat), ∃ (zp0_0_z : ClassId), POST dC dI (List.flatten ([(oJ4 (p0a 0) (st1 p0a 1 xp0_0_z) (st1 p0k 1 zp0_0_z) (o.2) (o.1))] : List va_W)) (List.flatten ([(tJ4 (st1 p0k 1 zp0_0_z))] : List (List (ClassId × FieldType)))) (va_A (List.flatten ([(oJ4 (p0a 0) p0a p0k p0n p0w)] : List va_W)) sz) t) (va_A (List.flatten ([(oJ4 (p0a 0) p0a p0k p0n p0w)] : List va_W)) sz)) (hcJ4 p0n (o.2)) (3 * (gcJ4 p0n (o.2))) (va_A (List.flatten ([(oJ4 (p0a 0) p0a p0k p0n p0w)] : List va_W)) sz) := by
  refine Met.ofW (cc := cJ4_append_bf812) (maxL := 2) (ret := (Option.some (Jvm.ClassFile.FieldType.object "java/lang/StringBuilder"))) (by decide) rfl ?_
  intro p e s m args below meth c s₁ B hml hv
  obtain ⟨rfl, hsz, hP, hK, hD0, hE⟩ := hv
  have hx := B.exec
  have hb := B.bytes
  have hr := B.returns
  have hts0 := atoms_spec (ws := wz yJ4_append_bf812 cJ4_append_bf812 2 (Option.some (Jvm.ClassFile.FieldType.object "java/lang/StringBuilder"))) B.pre
  have hts : ∀ w ∈ gw, w.before _ s = true := fun w h => hts0 w (List.mem_cons_of_mem _ h)
  have hown : s.vm.findClass RJ4 = some m.cls := findClass_of_methodNamed B.named
  have hlocks := B.notSynchronized
  subst hsz
  have hD := hD0.self (sz := s.heap.size)
  refine gQ9 ?_
  intro Q hQ
  generalize hAe : va_A (List.flatten ([(oJ4 (p0a 0) p0a p0k p0n p0w)] : List va_W)) s.heap.size = A at hD hE hQ
  have hA : ∀ q : Nat, s.heap.size ≤ q → A q := fun q h => by rw [← hAe]; exact Or.inr h
  have hro := ENV.ex hE
  have hro_dg := hro.2
  replace hro := hro.1
  have hro_pv := hro.2
  replace hro := hro.1
  have hS : va_S A s.heap s.heap [] := va_S.rf
  have hP : va_P (dC, dI) cls (List.flatten ([(oJ4 (p0a 0) p0a p0k p0n p0w)] : List va_W)) s.heap := hP
  have hl := lv_entry ([.ref (p0a 0), .int p1]) (n := 2) (Nat.le_of_ble_eq_true rfl)
  rw [lg_entry_eq]
  generalize (lg_sl ([.ref (p0a 0), .int p1]) ++ List.replicate (2 - (lg_sl ([.ref (p0a 0), .int p1])).length) Slot.unset).toArray = ls at hl ⊢
  have hl : lv_has ls 2 [(0, .ref (p0a 0)), (1, .int p1)] := hl
  obtain ⟨H, hHe⟩ : ∃ H, H = s.heap := ⟨_, rfl⟩
  obtain ⟨locs, hle⟩ : ∃ locs : List Loc, locs = [] := ⟨_, rfl⟩
  rw [← hHe] at hP
  have hS : va_S A s.heap H locs := by rw [hHe, hle]; exact hS
  show W p l e ({ frames := 5, cells := (hcJ4 p0n (o.2)), slots := (3 * (gcJ4 p0n (o.2))), locals := 115 } : Room) s m ([.ref (p0a 0), .int p1] : List Value).toArray below meth c s.heap [] 0 0 Q (F0 m 0 ls [])
  rw [← hle]
  refine wH9 hHe ?_
  have hg_p0 := glJ4_rf p0n
  have hgn_p0 : glJ4 p0n (o.2) := (mo_fJ4_append_bf812 hrun)
  refine W.widen (k := (hcJ4 p0n p0n)) (n := (3 * (gcJ4 p0n p0n))) (Nat.zero_le _) (Nat.zero_le _) ?_
  unfold fJ4_append_bf812 at hrun
  refine lv_aload_n hx hb dJ4_append_bf812_0 rfl (lv_at hl 0 rfl) ?_
  refine lv_iload_n hx hb dJ4_append_bf812_1 rfl (lv_at hl 1 rfl) ?_
  obtain ⟨o_1, hc_1, hrun⟩ := bnd9 hrun
  have hPx : va_P (dC, dI) cls ((List.flatten ([(oJ4 (p0a 0) p0a p0k p0n p0w)] : List va_W)) ++ (List.flatten ([] : List va_W))) H := vP_fa (vP_perm hP (bP (List.Perm.refl _)))
  have hDx : va_D A ((List.flatten ([(oJ4 (p0a 0) p0a p0k p0n p0w)] : List va_W)) ++ (List.flatten ([] : List va_W))) := vD_fa (vD_perm hD (bP (List.Perm.refl _)))
  have hKx : va_K (dC, dI) cls ((List.flatten ([(tJ4 p0k)] : List (List (ClassId × FieldType)))) ++ (List.flatten ([] : List (List (ClassId × FieldType))))) s := vK_fa (vK_perm hK (bP (List.Perm.refl _)))
  have hPc := vP_l hPx
  have hDc := vD_l hDx
  have hKc := vK_l hKx
  have hFc := vfree hDx hS hA
  have hgn_p0 : glJ4 (o_1.2) (o.2) := (mo_fJ4_append_bf812_G5_5 hrun)
  refine va_callr (va_runSU ((hK.1 12 _ rfl).2) (As := [.int p1]) (rest := []) ⟨hx, hb, hml, hown, hts⟩ (kJ5_append_c97b9 l dC dI (p0a := p0a) (p0k := p0k) (p0n := p0n) (p0w := p0w) (p1 := p1) (dOv := dOv) (dTv := dTv) (sz := _) (o := o_1) (hrun := hc_1)) (va_cwSU 1 hts (gi_SU qw1266 qw1267 qw1263 qw1268 qw1219 (gi_z qw1265)) rfl rfl rfl (by decide +kernel) ⟨Nat.le_of_ble_eq_true rfl, Nat.le_of_ble_eq_true rfl⟩) ⟨PRE.blind, va_recv hKc hPc (ci := 12) (q0 := 0) rfl rfl, PRE.of (ENV.add (ENV.add hE pv9_m hro_pv) dg9_m hro_dg) hS hFc hPc hKc hDc⟩ rfl rfl hl.1 rfl (lv_room (Nat.le_of_ble_eq_true rfl)) dJ4_append_bf812_2 ⟨(show (hcJ4 p0n p0n) + (hcJ4 p0n (o_1.2)) ≤ (hcJ4 p0n (o.2)) from by have q0 := gsJ4 hg_p0 (mo_fJ5_append_c97b9 hc_1) hgn_p0; omega), (show (3 * (gcJ4 p0n p0n)) + (3 * (gcJ4 p0n (o_1.2))) ≤ (3 * (gcJ4 p0n (o.2))) from by have q0 := gsJ4 hg_p0 (mo_fJ5_append_c97b9 hc_1) hgn_p0; omega)⟩) hS (fun q _ h => hFc q h) hFc (fun u r2 t H locs ht hvm hw hB hz1 hk1 hS => ?_)
  obtain ⟨hra9, hB⟩ := hB
  obtain ⟨x3, z4, hB⟩ := hB
  obtain ⟨b1, b2, b3⟩ := hB
  rw [ht] at b1
  obtain ⟨hP, hD, hK⟩ := JOINC (wc := (List.flatten ([(oJ4 (p0a 0) p0a p0k p0n p0w)] : List va_W))) (wr := (List.flatten ([] : List va_W))) (w1 := (List.flatten ([(oJ4 (p0a 0) (st1 p0a 1 x3) (st1 p0k 1 z4) (o_1.2) (o_1.1))] : List va_W))) (t1 := (List.flatten ([(tJ4 (st1 p0k 1 z4))] : List (List (ClassId × FieldType))))) hPx hDx hKx hk1 hFc b1 (va_K.moved hvm.symm b2) b3
  have hP : va_P (dC, dI) cls (List.flatten ([(oJ4 (p0a 0) (st1 p0a 1 x3) (st1 p0k 1 z4) (o_1.2) (o_1.1))] : List va_W)) H := vP_perm (vP_fb hP) (bP (List.Perm.refl _))
  have hD : va_D A (List.flatten ([(oJ4 (p0a 0) (st1 p0a 1 x3) (st1 p0k 1 z4) (o_1.2) (o_1.1))] : List va_W)) := vD_perm (vD_fb hD) (bP (List.Perm.refl _))
  have hK : va_K (dC, dI) cls (List.flatten ([(tJ4 (st1 p0k 1 z4))] : List (List (ClassId × FieldType)))) s := vK_perm (vK_fb hK) (bP (List.Perm.refl _))
  subst hra9
  refine W.widen (k := (hcJ4 p0n (o_1.2))) (n := (3 * (gcJ4 p0n (o_1.2)))) (by have a0 := gcJ4_add hg_p0 (mo_fJ5_append_c97b9 hc_1); omega) (by have a0 := gcJ4_add hg_p0 (mo_fJ5_append_c97b9 hc_1); omega) ?_
  have hg_p0 : glJ4 p0n (o_1.2) := glJ4_tr hg_p0 (mo_fJ5_append_c97b9 hc_1)
  unfold fJ4_append_bf812_G5_5 at hrun
  refine lv_pop hx hb dJ4_append_bf812_5 rfl ?_
  refine lv_aload_n hx hb dJ4_append_bf812_6 rfl (lv_at hl 0 rfl) ?_
  have ho9 : ((o_1.1), (o_1.2)) = o := Option.some.inj hrun
  subst ho9
  subst hQ
  exact W.aret (v := .ref (p0a 0)) (rt := .object "java/lang/StringBuilder") hx hb hr (Or.inl ⟨_, rfl⟩) (Or.inr ⟨_, rfl⟩) (fun t ht hW => ⟨⟨(), (p0a 0), rfl, trivial, rfl, ⟨x3, z4, by rw [ht]; exact hP, va_K.moved hW.alike hK, hD⟩⟩, hS.F ht⟩) hS.2.2 dJ4_append_bf812_7
def fJ1_canEncode_9a6ad_J16 (y0_16 : Int32) : Option Int32 := (if y0_16 = 0 ∨ y0_16 = 1 then some y0_16 else none)
def fJ1_canEncode_9a6ad_J15  : Option Int32 := (fJ1_canEncode_9a6ad_J16 0)
def fJ1_canEncode_9a6ad (p0 : Int32) : Option Int32 := (if p0 < 0 then (fJ1_canEncode_9a6ad_J15) else (if 255 < p0 then (fJ1_canEncode_9a6ad_J15) else (fJ1_canEncode_9a6ad_J16 1)))
set_option maxHeartbeats 16000000 in
set_option maxRecDepth 100000 in
theorem kJ1_canEncode_9a6ad {zs : ZS} (l : Launch) (dC : Nat → ClassId) (dI : Nat → Nat → Nat) (p0 : Int32) (sz : Nat) (o : Int32) (hrun : fJ1_canEncode_9a6ad p0 = some o) : Met l yJ1_canEncode_9a6ad (wz yJ1_canEncode_9a6ad cJ1_canEncode_9a6ad 1 (Option.some Jvm.ClassFile.FieldType.boolean)) ({ frames := 0, cells := 0, slots := 0, locals := 0 } : Room) (va_Pc [.int p0] (PRE zs dC dI (List.flatten ([] : List va_W)) (List.flatten ([] : List (List (ClassId × FieldType)))) sz)) (va_Qi (fun (r : Int32) (_ : Unit) => r = o) (fun _ t => POST dC dI (List.flatten ([] : List va_W)) (List.flatten ([] : List (List (ClassId × FieldType)))) (va_A (List.flatten ([] : List va_W)) sz) t) (va_A (List.flatten ([] : List va_W)) sz)) 0 0 (va_A (List.flatten ([] : List va_W)) sz) := by
  refine Met.ofW (cc := cJ1_canEncode_9a6ad) (maxL := 1) (ret := (Option.some Jvm.ClassFile.FieldType.boolean)) (by decide) rfl ?_
  intro p e s m args below meth c s₁ B hml hv
  obtain ⟨rfl, hsz, hP, hK, hD0, hE⟩ := hv
  have hx := B.exec
  have hb := B.bytes
  have hr := B.returns
  have hts0 := atoms_spec (ws := wz yJ1_canEncode_9a6ad cJ1_canEncode_9a6ad 1 (Option.some Jvm.ClassFile.FieldType.boolean)) B.pre
  have hts : ∀ w ∈ gw, w.before _ s = true := fun w h => hts0 w (List.mem_cons_of_mem _ h)
  have hown : s.vm.findClass RJ1 = some m.cls := findClass_of_methodNamed B.named
  have hlocks := B.notSynchronized
  subst hsz
  have hD := hD0.self (sz := s.heap.size)
  refine gQ9 ?_
  intro Q hQ
  generalize hAe : va_A (List.flatten ([] : List va_W)) s.heap.size = A at hD hE hQ
  have hA : ∀ q : Nat, s.heap.size ≤ q → A q := fun q h => by rw [← hAe]; exact Or.inr h
  have hS : va_S A s.heap s.heap [] := va_S.rf
  have hP : va_P (dC, dI) cls (List.flatten ([] : List va_W)) s.heap := hP
  have hl := lv_entry ([.int p0]) (n := 1) (Nat.le_of_ble_eq_true rfl)
  rw [lg_entry_eq]
  generalize (lg_sl ([.int p0]) ++ List.replicate (1 - (lg_sl ([.int p0])).length) Slot.unset).toArray = ls at hl ⊢
  have hl : lv_has ls 1 [(0, .int p0)] := hl
  obtain ⟨H, hHe⟩ : ∃ H, H = s.heap := ⟨_, rfl⟩
  obtain ⟨locs, hle⟩ : ∃ locs : List Loc, locs = [] := ⟨_, rfl⟩
  rw [← hHe] at hP
  have hS : va_S A s.heap H locs := by rw [hHe, hle]; exact hS
  show W p l e ({ frames := 0, cells := 0, slots := 0, locals := 0 } : Room) s m ([.int p0] : List Value).toArray below meth c s.heap [] 0 0 Q (F0 m 0 ls [])
  rw [← hle]
  refine wH9 hHe ?_
  unfold fJ1_canEncode_9a6ad at hrun
  refine lv_iload_n hx hb dJ1_canEncode_9a6ad_0 rfl (lv_at hl 0 rfl) ?_
  have J16 : ∀ (y0_16 : Int32) (H : Heap) (locs : List Loc) (ls : Array Slot), (fJ1_canEncode_9a6ad_J16 y0_16) = some o → va_P (dC, dI) cls (List.flatten ([] : List va_W)) H → va_D A (List.flatten ([] : List va_W)) → va_K (dC, dI) cls (List.flatten ([] : List (List (ClassId × FieldType)))) s → va_S A s.heap H locs → lv_has ls 1 [] → W p l e ({ frames := 0, cells := 0, slots := 0, locals := 0 } : Room) s m ([.int p0] : List Value).toArray below meth c H locs 0 0 Q (F0 m 16 ls [.int y0_16]) := by
    intro y0_16 H locs ls hrun hP hD hK hS hl 
    unfold fJ1_canEncode_9a6ad_J16 at hrun
    obtain ⟨hz9, hrun⟩ := chk9 hrun
    have ho9 : y0_16 = o := Option.some.inj hrun
    have hP9 : va_P (dC, dI) cls (List.flatten ([] : List va_W)) H := by first | exact hP | (rw [← ho9]; exact hP)
    have hD9 : va_D A (List.flatten ([] : List va_W)) := by first | exact hD | (rw [← ho9]; exact hD)
    subst hQ
    exact W.zret (v := y0_16) hx hb hr (bz9 hz9) (fun t ht hW => ⟨⟨y0_16, (), rfl, (by rw [← ho9]), ⟨by rw [ht]; exact hP9, va_K.moved hW.alike hK, hD9⟩⟩, hS.F ht⟩) hS.2.2 dJ1_canEncode_9a6ad_16
  have J15 : ∀ (H : Heap) (locs : List Loc) (ls : Array Slot), (fJ1_canEncode_9a6ad_J15) = some o → va_P (dC, dI) cls (List.flatten ([] : List va_W)) H → va_D A (List.flatten ([] : List va_W)) → va_K (dC, dI) cls (List.flatten ([] : List (List (ClassId × FieldType)))) s → va_S A s.heap H locs → lv_has ls 1 [] → W p l e ({ frames := 0, cells := 0, slots := 0, locals := 0 } : Room) s m ([.int p0] : List Value).toArray below meth c H locs 0 0 Q (F0 m 15 ls []) := by
    intro  H locs ls hrun hP hD hK hS hl 
    unfold fJ1_canEncode_9a6ad_J15 at hrun
    refine lv_iconst (v := 0) hx hb dJ1_canEncode_9a6ad_15 (by decide) ?_
    exact J16 0 _ _ _ hrun hP hD hK hS (lv_sub hl [] rfl)
  rcases br9 hrun with ⟨hc1, hrun⟩ | ⟨hc1, hrun⟩
  · refine lv_if_lt (tgt := 15) hx hb dJ1_canEncode_9a6ad_1 (by decide) (fun _ => ?_) (fun c => absurd hc1 c)
    exact J15 _ _ _ hrun hP hD hK hS (lv_sub hl [] rfl)
  · refine lv_if_lt (tgt := 15) hx hb dJ1_canEncode_9a6ad_1 (by decide) (fun c => absurd c hc1) (fun _ => ?_)
    refine lv_iload_n hx hb dJ1_canEncode_9a6ad_4 rfl (lv_at hl 0 rfl) ?_
    refine lv_sipush (v := 255) hx hb dJ1_canEncode_9a6ad_5 (by decide) ?_
    rcases br9 hrun with ⟨hc2, hrun⟩ | ⟨hc2, hrun⟩
    · refine lv_icmp_gt (tgt := 15) hx hb dJ1_canEncode_9a6ad_8 (by decide) (fun _ => ?_) (fun c => absurd hc2 c)
      exact J15 _ _ _ hrun hP hD hK hS (lv_sub hl [] rfl)
    · refine lv_icmp_gt (tgt := 15) hx hb dJ1_canEncode_9a6ad_8 (by decide) (fun c => absurd c hc2) (fun _ => ?_)
      refine lv_iconst (v := 1) hx hb dJ1_canEncode_9a6ad_11 (by decide) ?_
      refine lv_goto (tgt := 16) hx hb dJ1_canEncode_9a6ad_12 (by decide) ?_
      exact J16 1 _ _ _ hrun hP hD hK hS (lv_sub hl [] rfl)
def fJ1_indexOfChar_4cfef_L7 (p0m : Nat) (p0f : RI) (p1 : Int32) (p3 : Int32) : Nat → Int32 → Option (Sum Int32 Unit)
  | 0 => fun _ => none
  | n_7 + 1 => fun v5_7 => (if p3 ≤ v5_7 then some (Sum.inr ()) else (if ixb v5_7 p0m = true then (if (p0f (nn v5_7)) = ((p1 : Int32).toInt8.toInt32) then some (Sum.inl v5_7) else ((fJ1_indexOfChar_4cfef_L7 p0m p0f p1 p3 n_7) (v5_7 + 1))) else none))
def fJ1_indexOfChar_4cfef (p0m : Nat) (p0f : RI) (p1 : Int32) (p2 : Int32) (p3 : Int32) : Option Int32 := ((fJ1_indexOfChar_4cfef_L7 p0m p0f p1 p3 NF p2).bind fun (o7 : (Sum Int32 Unit)) => Sum.elim (fun r => some r) (fun (t7 : Unit) => some (-1)) o7)
set_option maxHeartbeats 16000000 in
set_option maxRecDepth 100000 in
theorem kJ1_indexOfChar_4cfef {zs : ZS} (l : Launch) (dC : Nat → ClassId) (dI : Nat → Nat → Nat) (p0v : Nat) (p0m : Nat) (p0f : RI) (p1 : Int32) (p2 : Int32) (p3 : Int32) (sz : Nat) (o : Int32) (hrun : fJ1_indexOfChar_4cfef p0m p0f p1 p2 p3 = some o) : Met l yJ1_indexOfChar_4cfef (wz yJ1_indexOfChar_4cfef cJ1_indexOfChar_4cfef 6 (Option.some Jvm.ClassFile.FieldType.int)) ({ frames := 0, cells := 0, slots := 0, locals := 0 } : Room) (va_Pc [.ref p0v, .int p1, .int p2, .int p3] (PRE (zA zs (bq9 p0v p0m p0f)) dC dI (List.flatten ([] : List va_W)) (List.flatten ([] : List (List (ClassId × FieldType)))) sz)) (va_Qi (fun (r : Int32) (_ : Unit) => r = o) (fun _ t => POST dC dI (List.flatten ([] : List va_W)) (List.flatten ([] : List (List (ClassId × FieldType)))) (va_A (List.flatten ([] : List va_W)) sz) t) (va_A (List.flatten ([] : List va_W)) sz)) 0 0 (va_A (List.flatten ([] : List va_W)) sz) := by
  refine Met.ofW (cc := cJ1_indexOfChar_4cfef) (maxL := 6) (ret := (Option.some Jvm.ClassFile.FieldType.int)) (by decide) rfl ?_
  intro p e s m args below meth c s₁ B hml hv
  obtain ⟨rfl, hsz, hP, hK, hD0, hE⟩ := hv
  have hx := B.exec
  have hb := B.bytes
  have hr := B.returns
  have hts0 := atoms_spec (ws := wz yJ1_indexOfChar_4cfef cJ1_indexOfChar_4cfef 6 (Option.some Jvm.ClassFile.FieldType.int)) B.pre
  have hts : ∀ w ∈ gw, w.before _ s = true := fun w h => hts0 w (List.mem_cons_of_mem _ h)
  have hown : s.vm.findClass RJ1 = some m.cls := findClass_of_methodNamed B.named
  have hlocks := B.notSynchronized
  subst hsz
  have hD := hD0.self (sz := s.heap.size)
  refine gQ9 ?_
  intro Q hQ
  generalize hAe : va_A (List.flatten ([] : List va_W)) s.heap.size = A at hD hE hQ
  have hA : ∀ q : Nat, s.heap.size ≤ q → A q := fun q h => by rw [← hAe]; exact Or.inr h
  have hro := ENV.ex hE
  have hro_p0 := hro.2
  replace hro := hro.1
  have hS : va_S A s.heap s.heap [] := va_S.rf
  have hP : va_P (dC, dI) cls (List.flatten ([] : List va_W)) s.heap := hP
  have hl := lv_entry ([.ref p0v, .int p1, .int p2, .int p3]) (n := 6) (Nat.le_of_ble_eq_true rfl)
  rw [lg_entry_eq]
  generalize (lg_sl ([.ref p0v, .int p1, .int p2, .int p3]) ++ List.replicate (6 - (lg_sl ([.ref p0v, .int p1, .int p2, .int p3])).length) Slot.unset).toArray = ls at hl ⊢
  have hl : lv_has ls 6 [(0, .ref p0v), (1, .int p1), (2, .int p2), (3, .int p3)] := hl
  obtain ⟨H, hHe⟩ : ∃ H, H = s.heap := ⟨_, rfl⟩
  obtain ⟨locs, hle⟩ : ∃ locs : List Loc, locs = [] := ⟨_, rfl⟩
  rw [← hHe] at hP
  have hS : va_S A s.heap H locs := by rw [hHe, hle]; exact hS
  show W p l e ({ frames := 0, cells := 0, slots := 0, locals := 0 } : Room) s m ([.ref p0v, .int p1, .int p2, .int p3] : List Value).toArray below meth c s.heap [] 0 0 Q (F0 m 0 ls [])
  rw [← hle]
  refine wH9 hHe ?_
  unfold fJ1_indexOfChar_4cfef at hrun
  refine lv_iload_n hx hb dJ1_indexOfChar_4cfef_0 rfl (lv_at hl 1 rfl) ?_
  refine lv_i2b (v := ((p1 : Int32).toInt8.toInt32)) hx hb dJ1_indexOfChar_4cfef_1 rfl ?_
  refine lv_istore (lv' := [(4, .int ((p1 : Int32).toInt8.toInt32)), (0, .ref p0v), (1, .int p1), (2, .int p2), (3, .int p3)]) hx hb dJ1_indexOfChar_4cfef_2 hl (by decide) rfl (fun ls hl => ?_)
  refine lv_iload_n hx hb dJ1_indexOfChar_4cfef_4 rfl (lv_at hl 3 rfl) ?_
  refine lv_istore (lv' := [(5, .int p2), (4, .int ((p1 : Int32).toInt8.toInt32)), (0, .ref p0v), (1, .int p1), (2, .int p2), (3, .int p3)]) hx hb dJ1_indexOfChar_4cfef_5 hl (by decide) rfl (fun ls hl => ?_)
  have L7 : ∀ (n_7 : Nat) (v5_7 : Int32) (o7 : (Sum Int32 Unit)) (H : Heap) (locs : List Loc) (ls : Array Slot), (fJ1_indexOfChar_4cfef_L7 p0m p0f p1 p3 n_7) v5_7 = some o7 → va_P (dC, dI) cls (List.flatten ([] : List va_W)) H → va_D A (List.flatten ([] : List va_W)) → va_K (dC, dI) cls (List.flatten ([] : List (List (ClassId × FieldType)))) s → va_S A s.heap H locs → lv_has ls 6 [(0, .ref p0v), (3, .int p3), (4, .int ((p1 : Int32).toInt8.toInt32)), (5, .int v5_7)] → (∀ r, o7 = Sum.inl r → r = o) → (∀ (t7 : Unit), o7 = Sum.inr t7 → ∀ (H : Heap) (locs : List Loc) (ls : Array Slot), va_P (dC, dI) cls (List.flatten ([] : List va_W)) H → va_D A (List.flatten ([] : List va_W)) → va_K (dC, dI) cls (List.flatten ([] : List (List (ClassId × FieldType)))) s → va_S A s.heap H locs → lv_has ls 6 [] → W p l e ({ frames := 0, cells := 0, slots := 0, locals := 0 } : Room) s m ([.ref p0v, .int p1, .int p2, .int p3] : List Value).toArray below meth c H locs 0 0 Q (F0 m 31 ls [])) → W p l e ({ frames := 0, cells := 0, slots := 0, locals := 0 } : Room) s m ([.ref p0v, .int p1, .int p2, .int p3] : List Value).toArray below meth c H locs 0 0 Q (F0 m 7 ls []) := by
    intro n_7
    induction n_7 with
    | zero => intro v5_7 o7 H locs ls hrun; exact (no9 rfl hrun).elim
    | succ n_7 IH7 =>
      intro v5_7 o7 H locs ls hrun hP hD hK hS hl hr7 hk7
      unfold fJ1_indexOfChar_4cfef_L7 at hrun
      refine lv_iload hx hb dJ1_indexOfChar_4cfef_7 (lv_at hl 3 rfl) ?_
      refine lv_iload_n hx hb dJ1_indexOfChar_4cfef_9 rfl (lv_at hl 1 rfl) ?_
      rcases br9 hrun with ⟨hc1, hrun⟩ | ⟨hc1, hrun⟩
      · refine lv_icmp_ge (tgt := 31) hx hb dJ1_indexOfChar_4cfef_10 (by decide) (fun _ => ?_) (fun c => absurd hc1 c)
        obtain rfl := (Option.some.inj hrun)
        exact hk7 _ rfl _ _ _ hP hD hK hS (lv_sub hl [] rfl)
      · refine lv_icmp_ge (tgt := 31) hx hb dJ1_indexOfChar_4cfef_10 (by decide) (fun c => absurd c hc1) (fun _ => ?_)
        refine lv_aload_n hx hb dJ1_indexOfChar_4cfef_13 rfl (lv_at hl 0 rfl) ?_
        refine lv_iload hx hb dJ1_indexOfChar_4cfef_14 (lv_at hl 3 rfl) ?_
        obtain ⟨hq2, hrun⟩ := chk9 hrun
        refine va_tb hx hb hro_p0.1 hS (ixb_in hq2) (v := .int (p0f (nn v5_7))) rfl dJ1_indexOfChar_4cfef_16 ?_
        refine lv_iload hx hb dJ1_indexOfChar_4cfef_17 (lv_at hl 2 rfl) ?_
        rcases br9 hrun with ⟨hc3, hrun⟩ | ⟨hc3, hrun⟩
        · refine lv_icmp_ne (tgt := 25) hx hb dJ1_indexOfChar_4cfef_19 (by decide) (fun c => absurd hc3 c) (fun _ => ?_)
          refine lv_iload hx hb dJ1_indexOfChar_4cfef_22 (lv_at hl 3 rfl) ?_
          have ho9 : v5_7 = o := hr7 _ (Option.some.inj hrun).symm
          have hP9 : va_P (dC, dI) cls (List.flatten ([] : List va_W)) H := by first | exact hP | (rw [← ho9]; exact hP)
          have hD9 : va_D A (List.flatten ([] : List va_W)) := by first | exact hD | (rw [← ho9]; exact hD)
          subst hQ
          exact W.iret (v := v5_7) hx hb hr (fun t ht hW => ⟨⟨v5_7, (), rfl, (by rw [← ho9]), ⟨by rw [ht]; exact hP9, va_K.moved hW.alike hK, hD9⟩⟩, hS.F ht⟩) hS.2.2 dJ1_indexOfChar_4cfef_24
        · refine lv_icmp_ne (tgt := 25) hx hb dJ1_indexOfChar_4cfef_19 (by decide) (fun _ => ?_) (fun c => absurd c hc3)
          refine lv_iinc (v := (v5_7 + 1)) (lv' := [(5, .int (v5_7 + 1)), (0, .ref p0v), (3, .int p3), (4, .int ((p1 : Int32).toInt8.toInt32))]) hx hb dJ1_indexOfChar_4cfef_25 hl (k := 3) rfl rfl (by decide) rfl (fun ls hl => ?_)
          refine lv_goto (tgt := 7) hx hb dJ1_indexOfChar_4cfef_28 (by decide) ?_
          exact IH7 (v5_7 + 1) o7 _ _ _ hrun hP hD hK hS (lv_sub hl [1, 2, 3, 0] rfl) hr7 hk7
  obtain ⟨o7, hc7, hrun⟩ := bnd9 hrun
  refine L7 NF p2 o7 _ _ _ hc7 hP hD hK hS (lv_sub hl [2, 5, 1, 0] rfl) (fun r e9 => by subst e9; exact Option.some.inj hrun) ?_
  intro t7 e9
  subst e9
  replace hrun := el9 hrun
  intro H locs ls hP hD hK hS hl
  have hl := hl
  refine lv_iconst (v := (-1)) hx hb dJ1_indexOfChar_4cfef_31 (by decide) ?_
  have ho9 : (-1) = o := Option.some.inj hrun
  have hP9 : va_P (dC, dI) cls (List.flatten ([] : List va_W)) H := by first | exact hP | (rw [← ho9]; exact hP)
  have hD9 : va_D A (List.flatten ([] : List va_W)) := by first | exact hD | (rw [← ho9]; exact hD)
  subst hQ
  exact W.iret (v := (-1)) hx hb hr (fun t ht hW => ⟨⟨(-1), (), rfl, (by rw [← ho9]), ⟨by rw [ht]; exact hP9, va_K.moved hW.alike hK, hD9⟩⟩, hS.F ht⟩) hS.2.2 dJ1_indexOfChar_4cfef_32
def fJ1_indexOf_4cfef (p0m : Nat) (p0f : RI) (p1 : Int32) (p2 : Int32) (p3 : Int32) : Option Int32 := ((fJ1_canEncode_9a6ad p1).bind fun (o_1 : Int32) => (if o_1 = 0 then some (-1) else (if (if p2 < 0 then 0 else p2) < (if (Int32.ofNat p0m) < p3 then (Int32.ofNat p0m) else p3) then ((fJ1_indexOfChar_4cfef p0m p0f p1 (if p2 < 0 then 0 else p2) (if (Int32.ofNat p0m) < p3 then (Int32.ofNat p0m) else p3)).bind fun (o_5 : Int32) => some o_5) else some (-1))))
set_option maxHeartbeats 16000000 in
set_option maxRecDepth 100000 in
theorem kJ1_indexOf_4cfef {zs : ZS} (l : Launch) (dC : Nat → ClassId) (dI : Nat → Nat → Nat) (p0v : Nat) (p0m : Nat) (p0f : RI) (p1 : Int32) (p2 : Int32) (p3 : Int32) (sz : Nat) (o : Int32) (hrun : fJ1_indexOf_4cfef p0m p0f p1 p2 p3 = some o) : Met l yJ1_indexOf_4cfef (wz yJ1_indexOf_4cfef cJ1_indexOf_4cfef 4 (Option.some Jvm.ClassFile.FieldType.int)) ({ frames := 1, cells := 0, slots := 0, locals := 25 } : Room) (va_Pc [.ref p0v, .int p1, .int p2, .int p3] (PRE (zA zs (bq9 p0v p0m p0f)) dC dI (List.flatten ([] : List va_W)) (List.flatten ([] : List (List (ClassId × FieldType)))) sz)) (va_Qi (fun (r : Int32) (_ : Unit) => r = o) (fun _ t => POST dC dI (List.flatten ([] : List va_W)) (List.flatten ([] : List (List (ClassId × FieldType)))) (va_A (List.flatten ([] : List va_W)) sz) t) (va_A (List.flatten ([] : List va_W)) sz)) 0 0 (va_A (List.flatten ([] : List va_W)) sz) := by
  refine Met.ofW (cc := cJ1_indexOf_4cfef) (maxL := 4) (ret := (Option.some Jvm.ClassFile.FieldType.int)) (by decide) rfl ?_
  intro p e s m args below meth c s₁ B hml hv
  obtain ⟨rfl, hsz, hP, hK, hD0, hE⟩ := hv
  have hx := B.exec
  have hb := B.bytes
  have hr := B.returns
  have hts0 := atoms_spec (ws := wz yJ1_indexOf_4cfef cJ1_indexOf_4cfef 4 (Option.some Jvm.ClassFile.FieldType.int)) B.pre
  have hts : ∀ w ∈ gw, w.before _ s = true := fun w h => hts0 w (List.mem_cons_of_mem _ h)
  have hown : s.vm.findClass RJ1 = some m.cls := findClass_of_methodNamed B.named
  have hlocks := B.notSynchronized
  subst hsz
  have hD := hD0.self (sz := s.heap.size)
  refine gQ9 ?_
  intro Q hQ
  generalize hAe : va_A (List.flatten ([] : List va_W)) s.heap.size = A at hD hE hQ
  have hA : ∀ q : Nat, s.heap.size ≤ q → A q := fun q h => by rw [← hAe]; exact Or.inr h
  have hro := ENV.ex hE
  have hro_p0 := hro.2
  replace hro := hro.1
  have hS : va_S A s.heap s.heap [] := va_S.rf
  have hP : va_P (dC, dI) cls (List.flatten ([] : List va_W)) s.heap := hP
  have hl := lv_entry ([.ref p0v, .int p1, .int p2, .int p3]) (n := 4) (Nat.le_of_ble_eq_true rfl)
  rw [lg_entry_eq]
  generalize (lg_sl ([.ref p0v, .int p1, .int p2, .int p3]) ++ List.replicate (4 - (lg_sl ([.ref p0v, .int p1, .int p2, .int p3])).length) Slot.unset).toArray = ls at hl ⊢
  have hl : lv_has ls 4 [(0, .ref p0v), (1, .int p1), (2, .int p2), (3, .int p3)] := hl
  obtain ⟨H, hHe⟩ : ∃ H, H = s.heap := ⟨_, rfl⟩
  obtain ⟨locs, hle⟩ : ∃ locs : List Loc, locs = [] := ⟨_, rfl⟩
  rw [← hHe] at hP
  have hS : va_S A s.heap H locs := by rw [hHe, hle]; exact hS
  show W p l e ({ frames := 1, cells := 0, slots := 0, locals := 25 } : Room) s m ([.ref p0v, .int p1, .int p2, .int p3] : List Value).toArray below meth c s.heap [] 0 0 Q (F0 m 0 ls [])
  rw [← hle]
  refine wH9 hHe ?_
  unfold fJ1_indexOf_4cfef at hrun
  refine lv_iload_n hx hb dJ1_indexOf_4cfef_0 rfl (lv_at hl 1 rfl) ?_
  obtain ⟨o_1, hc_1, hrun⟩ := bnd9 hrun
  have hPx : va_P (dC, dI) cls ((List.flatten ([] : List va_W)) ++ (List.flatten ([] : List va_W))) H := vP_fa (vP_perm hP (bP (List.Perm.refl _)))
  have hDx : va_D A ((List.flatten ([] : List va_W)) ++ (List.flatten ([] : List va_W))) := vD_fa (vD_perm hD (bP (List.Perm.refl _)))
  have hKx : va_K (dC, dI) cls ((List.flatten ([] : List (List (ClassId × FieldType)))) ++ (List.flatten ([] : List (List (ClassId × FieldType))))) s := vK_fa (vK_perm hK (bP (List.Perm.refl _)))
  have hPc := vP_l hPx
  have hDc := vD_l hDx
  have hKc := vK_l hKx
  have hFc := vfree hDx hS hA
  refine va_calli (va_runS (As := [.int p1]) (rest := []) ⟨hx, hb, hml, hown, hts⟩ (kJ1_canEncode_9a6ad l dC dI (p0 := p1) (sz := _) (o := o_1) (hrun := hc_1)) (va_cwS 1 hts (gi_S qw1270 qw1271 qw1200 (gi_z qw1269)) rfl rfl rfl (by decide +kernel) ⟨Nat.le_of_ble_eq_true rfl, Nat.le_of_ble_eq_true rfl⟩) ⟨PRE.blind, PRE.of hE hS hFc hPc hKc hDc⟩ rfl rfl hl.1 rfl (lv_room (Nat.le_of_ble_eq_true rfl)) dJ1_indexOf_4cfef_1 ⟨(Nat.le_of_ble_eq_true rfl), (Nat.le_of_ble_eq_true rfl)⟩) hS (fun q _ h => hFc q h) hFc (fun r2 u t H locs ht hvm hw hB hz1 hk1 hS => ?_)
  obtain ⟨b1, b2, b3⟩ := hB
  rw [ht] at b1
  obtain ⟨hP, hD, hK⟩ := JOINC (wc := (List.flatten ([] : List va_W))) (wr := (List.flatten ([] : List va_W))) (w1 := (List.flatten ([] : List va_W))) (t1 := (List.flatten ([] : List (List (ClassId × FieldType))))) hPx hDx hKx hk1 hFc b1 (va_K.moved hvm.symm b2) b3
  have hP : va_P (dC, dI) cls (List.flatten ([] : List va_W)) H := vP_perm (vP_fb hP) (bP (List.Perm.refl _))
  have hD : va_D A (List.flatten ([] : List va_W)) := vD_perm (vD_fb hD) (bP (List.Perm.refl _))
  have hK : va_K (dC, dI) cls (List.flatten ([] : List (List (ClassId × FieldType)))) s := vK_perm (vK_fb hK) (bP (List.Perm.refl _))
  obtain rfl : o_1 = r2 := hw.symm
  rcases br9 hrun with ⟨hc3, hrun⟩ | ⟨hc3, hrun⟩
  · refine lv_if_ne (tgt := 9) hx hb dJ1_indexOf_4cfef_4 (by decide) (fun c => absurd hc3 c) (fun _ => ?_)
    refine lv_iconst (v := (-1)) hx hb dJ1_indexOf_4cfef_7 (by decide) ?_
    have ho9 : (-1) = o := Option.some.inj hrun
    have hP9 : va_P (dC, dI) cls (List.flatten ([] : List va_W)) H := by first | exact hP | (rw [← ho9]; exact hP)
    have hD9 : va_D A (List.flatten ([] : List va_W)) := by first | exact hD | (rw [← ho9]; exact hD)
    subst hQ
    exact W.iret (v := (-1)) hx hb hr (fun t ht hW => ⟨⟨(-1), (), rfl, (by rw [← ho9]), ⟨by rw [ht]; exact hP9, va_K.moved hW.alike hK, hD9⟩⟩, hS.F ht⟩) hS.2.2 dJ1_indexOf_4cfef_8
  · refine lv_if_ne (tgt := 9) hx hb dJ1_indexOf_4cfef_4 (by decide) (fun _ => ?_) (fun c => absurd c hc3)
    refine lv_iload_n hx hb dJ1_indexOf_4cfef_9 rfl (lv_at hl 2 rfl) ?_
    refine lv_iconst (v := 0) hx hb dJ1_indexOf_4cfef_10 (by decide) ?_
    refine va_mmax hx hb (hml.trans hl.1.symm) hown (hts _ qw1272) (hts _ qw359) (hts _ qw100) (hts _ qw360) (Nat.le_of_ble_eq_true rfl) (Nat.le_of_ble_eq_true rfl) (Nat.le_of_ble_eq_true rfl) (Nat.le_of_ble_eq_true rfl) dJ1_indexOf_4cfef_11 ?_
    refine lv_istore_n (lv' := [(2, .int (if p2 < 0 then 0 else p2)), (0, .ref p0v), (1, .int p1), (3, .int p3)]) hx hb dJ1_indexOf_4cfef_14 rfl hl (by decide) rfl (fun ls hl => ?_)
    refine lv_iload_n hx hb dJ1_indexOf_4cfef_15 rfl (lv_at hl 3 rfl) ?_
    refine lv_aload_n hx hb dJ1_indexOf_4cfef_16 rfl (lv_at hl 1 rfl) ?_
    refine va_tlen hx hb hro_p0.1 hS (v := (Int32.ofNat p0m)) rfl dJ1_indexOf_4cfef_17 ?_
    refine va_mmin hx hb (hml.trans hl.1.symm) hown (hts _ qw1273) (hts _ qw99) (hts _ qw100) (hts _ qw101) (Nat.le_of_ble_eq_true rfl) (Nat.le_of_ble_eq_true rfl) (Nat.le_of_ble_eq_true rfl) (Nat.le_of_ble_eq_true rfl) dJ1_indexOf_4cfef_18 ?_
    refine lv_istore_n (lv' := [(3, .int (if (Int32.ofNat p0m) < p3 then (Int32.ofNat p0m) else p3)), (2, .int (if p2 < 0 then 0 else p2)), (0, .ref p0v), (1, .int p1)]) hx hb dJ1_indexOf_4cfef_21 rfl hl (by decide) rfl (fun ls hl => ?_)
    refine lv_iload_n hx hb dJ1_indexOf_4cfef_22 rfl (lv_at hl 1 rfl) ?_
    refine lv_iload_n hx hb dJ1_indexOf_4cfef_23 rfl (lv_at hl 0 rfl) ?_
    rcases br9 hrun with ⟨hc4, hrun⟩ | ⟨hc4, hrun⟩
    · refine lv_icmp_lt (tgt := 29) hx hb dJ1_indexOf_4cfef_24 (by decide) (fun _ => ?_) (fun c => absurd hc4 c)
      refine lv_aload_n hx hb dJ1_indexOf_4cfef_29 rfl (lv_at hl 2 rfl) ?_
      refine lv_iload_n hx hb dJ1_indexOf_4cfef_30 rfl (lv_at hl 3 rfl) ?_
      refine lv_iload_n hx hb dJ1_indexOf_4cfef_31 rfl (lv_at hl 1 rfl) ?_
      refine lv_iload_n hx hb dJ1_indexOf_4cfef_32 rfl (lv_at hl 0 rfl) ?_
      obtain ⟨o_5, hc_5, hrun⟩ := bnd9 hrun
      have hPx : va_P (dC, dI) cls ((List.flatten ([] : List va_W)) ++ (List.flatten ([] : List va_W))) H := vP_fa (vP_perm hP (bP (List.Perm.refl _)))
      have hDx : va_D A ((List.flatten ([] : List va_W)) ++ (List.flatten ([] : List va_W))) := vD_fa (vD_perm hD (bP (List.Perm.refl _)))
      have hKx : va_K (dC, dI) cls ((List.flatten ([] : List (List (ClassId × FieldType)))) ++ (List.flatten ([] : List (List (ClassId × FieldType))))) s := vK_fa (vK_perm hK (bP (List.Perm.refl _)))
      have hPc := vP_l hPx
      have hDc := vD_l hDx
      have hKc := vK_l hKx
      have hFc := vfree hDx hS hA
      refine va_calli (va_runS (As := [.ref p0v, .int p1, .int (if p2 < 0 then 0 else p2), .int (if (Int32.ofNat p0m) < p3 then (Int32.ofNat p0m) else p3)]) (rest := []) ⟨hx, hb, hml, hown, hts⟩ (kJ1_indexOfChar_4cfef l dC dI (p0v := p0v) (p0m := p0m) (p0f := p0f) (p1 := p1) (p2 := (if p2 < 0 then 0 else p2)) (p3 := (if (Int32.ofNat p0m) < p3 then (Int32.ofNat p0m) else p3)) (sz := _) (o := o_5) (hrun := hc_5)) (va_cwS 4 hts (gi_S qw1275 qw1276 qw1200 (gi_z qw1274)) rfl rfl rfl (by decide +kernel) ⟨Nat.le_of_ble_eq_true rfl, Nat.le_of_ble_eq_true rfl⟩) ⟨PRE.blind, PRE.of (ENV.add hE bq9_m hro_p0) hS hFc hPc hKc hDc⟩ rfl rfl hl.1 rfl (lv_room (Nat.le_of_ble_eq_true rfl)) dJ1_indexOf_4cfef_33 ⟨(Nat.le_of_ble_eq_true rfl), (Nat.le_of_ble_eq_true rfl)⟩) hS (fun q _ h => hFc q h) hFc (fun r6 u t H locs ht hvm hw hB hz1 hk1 hS => ?_)
      obtain ⟨b1, b2, b3⟩ := hB
      rw [ht] at b1
      obtain ⟨hP, hD, hK⟩ := JOINC (wc := (List.flatten ([] : List va_W))) (wr := (List.flatten ([] : List va_W))) (w1 := (List.flatten ([] : List va_W))) (t1 := (List.flatten ([] : List (List (ClassId × FieldType))))) hPx hDx hKx hk1 hFc b1 (va_K.moved hvm.symm b2) b3
      have hP : va_P (dC, dI) cls (List.flatten ([] : List va_W)) H := vP_perm (vP_fb hP) (bP (List.Perm.refl _))
      have hD : va_D A (List.flatten ([] : List va_W)) := vD_perm (vD_fb hD) (bP (List.Perm.refl _))
      have hK : va_K (dC, dI) cls (List.flatten ([] : List (List (ClassId × FieldType)))) s := vK_perm (vK_fb hK) (bP (List.Perm.refl _))
      obtain rfl : o_5 = r6 := hw.symm
      have ho9 : o_5 = o := Option.some.inj hrun
      have hP9 : va_P (dC, dI) cls (List.flatten ([] : List va_W)) H := by first | exact hP | (rw [← ho9]; exact hP)
      have hD9 : va_D A (List.flatten ([] : List va_W)) := by first | exact hD | (rw [← ho9]; exact hD)
      subst hQ
      exact W.iret (v := o_5) hx hb hr (fun t ht hW => ⟨⟨o_5, (), rfl, (by rw [← ho9]), ⟨by rw [ht]; exact hP9, va_K.moved hW.alike hK, hD9⟩⟩, hS.F ht⟩) hS.2.2 dJ1_indexOf_4cfef_36
    · refine lv_icmp_lt (tgt := 29) hx hb dJ1_indexOf_4cfef_24 (by decide) (fun c => absurd c hc4) (fun _ => ?_)
      refine lv_iconst (v := (-1)) hx hb dJ1_indexOf_4cfef_27 (by decide) ?_
      have ho9 : (-1) = o := Option.some.inj hrun
      have hP9 : va_P (dC, dI) cls (List.flatten ([] : List va_W)) H := by first | exact hP | (rw [← ho9]; exact hP)
      have hD9 : va_D A (List.flatten ([] : List va_W)) := by first | exact hD | (rw [← ho9]; exact hD)
      subst hQ
      exact W.iret (v := (-1)) hx hb hr (fun t ht hW => ⟨⟨(-1), (), rfl, (by rw [← ho9]), ⟨by rw [ht]; exact hP9, va_K.moved hW.alike hK, hD9⟩⟩, hS.F ht⟩) hS.2.2 dJ1_indexOf_4cfef_28
def fJ0_indexOf_7cf53_J36 (y0_36 : Int32) : Option Int32 := some y0_36
def fJ0_indexOf_7cf53 (p0m : Nat) (p0f : RI) (p1 : Int32) (p2 : Int32) : Option Int32 := (fJ0_isLatin1_aae02.bind fun (o_1 : Int32) => (if o_1 = 0 then ((fJ0_length_8abf5 p0m).bind fun (o_4 : Int32) => none) else ((fJ0_length_8abf5 p0m).bind fun (o_6 : Int32) => ((fJ1_indexOf_4cfef p0m p0f p1 p2 o_6).bind fun (o_8 : Int32) => (fJ0_indexOf_7cf53_J36 o_8)))))
set_option maxHeartbeats 16000000 in
set_option maxRecDepth 100000 in
theorem kJ0_indexOf_7cf53 {zs : ZS} (l : Launch) (dC : Nat → ClassId) (dI : Nat → Nat → Nat) (p0s : Nat) (p0v : Nat) (p0m : Nat) (p0f : RI) (p1 : Int32) (p2 : Int32) (sz : Nat) (o : Int32) (hrun : fJ0_indexOf_7cf53 p0m p0f p1 p2 = some o) : Met l yJ0_indexOf_7cf53 (wz yJ0_indexOf_7cf53 cJ0_indexOf_7cf53 3 (Option.some Jvm.ClassFile.FieldType.int)) ({ frames := 2, cells := 0, slots := 0, locals := 48 } : Room) (va_Pc [.ref p0s, .int p1, .int p2] (PRE (zA zs (sq9 p0s p0v p0m p0f)) dC dI (List.flatten ([] : List va_W)) (List.flatten ([] : List (List (ClassId × FieldType)))) sz)) (va_Qi (fun (r : Int32) (_ : Unit) => r = o) (fun _ t => POST dC dI (List.flatten ([] : List va_W)) (List.flatten ([] : List (List (ClassId × FieldType)))) (va_A (List.flatten ([] : List va_W)) sz) t) (va_A (List.flatten ([] : List va_W)) sz)) 0 0 (va_A (List.flatten ([] : List va_W)) sz) := by
  refine Met.ofW (cc := cJ0_indexOf_7cf53) (maxL := 3) (ret := (Option.some Jvm.ClassFile.FieldType.int)) (by decide) rfl ?_
  intro p e s m args below meth c s₁ B hml hv
  obtain ⟨rfl, hsz, hP, hK, hD0, hE⟩ := hv
  have hx := B.exec
  have hb := B.bytes
  have hr := B.returns
  have hts0 := atoms_spec (ws := wz yJ0_indexOf_7cf53 cJ0_indexOf_7cf53 3 (Option.some Jvm.ClassFile.FieldType.int)) B.pre
  have hts : ∀ w ∈ gw, w.before _ s = true := fun w h => hts0 w (List.mem_cons_of_mem _ h)
  have hown : s.vm.findClass RJ0 = some m.cls := findClass_of_methodNamed B.named
  have hlocks := B.notSynchronized
  subst hsz
  have hD := hD0.self (sz := s.heap.size)
  refine gQ9 ?_
  intro Q hQ
  generalize hAe : va_A (List.flatten ([] : List va_W)) s.heap.size = A at hD hE hQ
  have hA : ∀ q : Nat, s.heap.size ≤ q → A q := fun q h => by rw [← hAe]; exact Or.inr h
  have hro := ENV.ex hE
  have hro_p0 := hro.2
  replace hro := hro.1
  have hS : va_S A s.heap s.heap [] := va_S.rf
  have hP : va_P (dC, dI) cls (List.flatten ([] : List va_W)) s.heap := hP
  have hl := lv_entry ([.ref p0s, .int p1, .int p2]) (n := 3) (Nat.le_of_ble_eq_true rfl)
  rw [lg_entry_eq]
  generalize (lg_sl ([.ref p0s, .int p1, .int p2]) ++ List.replicate (3 - (lg_sl ([.ref p0s, .int p1, .int p2])).length) Slot.unset).toArray = ls at hl ⊢
  have hl : lv_has ls 3 [(0, .ref p0s), (1, .int p1), (2, .int p2)] := hl
  obtain ⟨H, hHe⟩ : ∃ H, H = s.heap := ⟨_, rfl⟩
  obtain ⟨locs, hle⟩ : ∃ locs : List Loc, locs = [] := ⟨_, rfl⟩
  rw [← hHe] at hP
  have hS : va_S A s.heap H locs := by rw [hHe, hle]; exact hS
  show W p l e ({ frames := 2, cells := 0, slots := 0, locals := 48 } : Room) s m ([.ref p0s, .int p1, .int p2] : List Value).toArray below meth c s.heap [] 0 0 Q (F0 m 0 ls [])
  rw [← hle]
  refine wH9 hHe ?_
  unfold fJ0_indexOf_7cf53 at hrun
  refine lv_aload_n hx hb dJ0_indexOf_7cf53_0 rfl (lv_at hl 0 rfl) ?_
  obtain ⟨o_1, hc_1, hrun⟩ := bnd9 hrun
  have hPx : va_P (dC, dI) cls ((List.flatten ([] : List va_W)) ++ (List.flatten ([] : List va_W))) H := vP_fa (vP_perm hP (bP (List.Perm.refl _)))
  have hDx : va_D A ((List.flatten ([] : List va_W)) ++ (List.flatten ([] : List va_W))) := vD_fa (vD_perm hD (bP (List.Perm.refl _)))
  have hKx : va_K (dC, dI) cls ((List.flatten ([] : List (List (ClassId × FieldType)))) ++ (List.flatten ([] : List (List (ClassId × FieldType))))) s := vK_fa (vK_perm hK (bP (List.Perm.refl _)))
  have hPc := vP_l hPx
  have hDc := vD_l hDx
  have hKc := vK_l hKx
  have hFc := vfree hDx hS hA
  refine va_calli (va_runV (As := []) (rest := []) ⟨hx, hb, hml, hown, hts⟩ (kJ0_isLatin1_aae02 l dC dI (p0s := p0s) (p0v := p0v) (p0m := p0m) (p0f := p0f) (sz := _) (o := o_1) (hrun := hc_1)) (cwV 0 hts (gi_V qw1194 qw1195 qw1196 qw1184 (gi_z qw1193)) rfl rfl rfl (by decide +kernel) ⟨Nat.le_of_ble_eq_true rfl, Nat.le_of_ble_eq_true rfl⟩) ⟨PRE.blind, vk_rcv hro_p0 hS, PRE.of (ENV.add hE sq9_m hro_p0) hS hFc hPc hKc hDc⟩ rfl rfl hl.1 rfl (lv_room (Nat.le_of_ble_eq_true rfl)) dJ0_indexOf_7cf53_1 ⟨(Nat.le_of_ble_eq_true rfl), (Nat.le_of_ble_eq_true rfl)⟩) hS (fun q _ h => hFc q h) hFc (fun r2 u t H locs ht hvm hw hB hz1 hk1 hS => ?_)
  obtain ⟨b1, b2, b3⟩ := hB
  rw [ht] at b1
  obtain ⟨hP, hD, hK⟩ := JOINC (wc := (List.flatten ([] : List va_W))) (wr := (List.flatten ([] : List va_W))) (w1 := (List.flatten ([] : List va_W))) (t1 := (List.flatten ([] : List (List (ClassId × FieldType))))) hPx hDx hKx hk1 hFc b1 (va_K.moved hvm.symm b2) b3
  have hP : va_P (dC, dI) cls (List.flatten ([] : List va_W)) H := vP_perm (vP_fb hP) (bP (List.Perm.refl _))
  have hD : va_D A (List.flatten ([] : List va_W)) := vD_perm (vD_fb hD) (bP (List.Perm.refl _))
  have hK : va_K (dC, dI) cls (List.flatten ([] : List (List (ClassId × FieldType)))) s := vK_perm (vK_fb hK) (bP (List.Perm.refl _))
  obtain rfl : o_1 = r2 := hw.symm
  have J36 : ∀ (y0_36 : Int32) (H : Heap) (locs : List Loc) (ls : Array Slot), (fJ0_indexOf_7cf53_J36 y0_36) = some o → va_P (dC, dI) cls (List.flatten ([] : List va_W)) H → va_D A (List.flatten ([] : List va_W)) → va_K (dC, dI) cls (List.flatten ([] : List (List (ClassId × FieldType)))) s → va_S A s.heap H locs → lv_has ls 3 [] → W p l e ({ frames := 2, cells := 0, slots := 0, locals := 48 } : Room) s m ([.ref p0s, .int p1, .int p2] : List Value).toArray below meth c H locs 0 0 Q (F0 m 36 ls [.int y0_36]) := by
    intro y0_36 H locs ls hrun hP hD hK hS hl 
    unfold fJ0_indexOf_7cf53_J36 at hrun
    have ho9 : y0_36 = o := Option.some.inj hrun
    have hP9 : va_P (dC, dI) cls (List.flatten ([] : List va_W)) H := by first | exact hP | (rw [← ho9]; exact hP)
    have hD9 : va_D A (List.flatten ([] : List va_W)) := by first | exact hD | (rw [← ho9]; exact hD)
    subst hQ
    exact W.iret (v := y0_36) hx hb hr (fun t ht hW => ⟨⟨y0_36, (), rfl, (by rw [← ho9]), ⟨by rw [ht]; exact hP9, va_K.moved hW.alike hK, hD9⟩⟩, hS.F ht⟩) hS.2.2 dJ0_indexOf_7cf53_36
  rcases br9 hrun with ⟨hc3, hrun⟩ | ⟨hc3, hrun⟩
  · refine lv_if_eq (tgt := 23) hx hb dJ0_indexOf_7cf53_4 (by decide) (fun _ => ?_) (fun c => absurd hc3 c)
    refine lv_aload_n hx hb dJ0_indexOf_7cf53_23 rfl (lv_at hl 0 rfl) ?_
    refine vk_getf hx hb hro_p0.2.2.1 hS hown (hts _ qw1179) (fun _ h9 => h9) dJ0_indexOf_7cf53_24 ?_
    refine lv_iload_n hx hb dJ0_indexOf_7cf53_27 rfl (lv_at hl 1 rfl) ?_
    refine lv_iload_n hx hb dJ0_indexOf_7cf53_28 rfl (lv_at hl 2 rfl) ?_
    refine lv_aload_n hx hb dJ0_indexOf_7cf53_29 rfl (lv_at hl 0 rfl) ?_
    obtain ⟨o_4, hc_4, hrun⟩ := bnd9 hrun
    have hPx : va_P (dC, dI) cls ((List.flatten ([] : List va_W)) ++ (List.flatten ([] : List va_W))) H := vP_fa (vP_perm hP (bP (List.Perm.refl _)))
    have hDx : va_D A ((List.flatten ([] : List va_W)) ++ (List.flatten ([] : List va_W))) := vD_fa (vD_perm hD (bP (List.Perm.refl _)))
    have hKx : va_K (dC, dI) cls ((List.flatten ([] : List (List (ClassId × FieldType)))) ++ (List.flatten ([] : List (List (ClassId × FieldType))))) s := vK_fa (vK_perm hK (bP (List.Perm.refl _)))
    have hPc := vP_l hPx
    have hDc := vD_l hDx
    have hKc := vK_l hKx
    have hFc := vfree hDx hS hA
    refine va_calli (va_runV (As := []) (rest := [.int p2, .int p1, .ref p0v]) ⟨hx, hb, hml, hown, hts⟩ (kJ0_length_8abf5 l dC dI (p0s := p0s) (p0v := p0v) (p0m := p0m) (p0f := p0f) (sz := _) (o := o_4) (hrun := hc_4)) (cwV 0 hts (gi_V qw1277 qw1235 qw1236 qw1184 (gi_z qw1233)) rfl rfl rfl (by decide +kernel) ⟨Nat.le_of_ble_eq_true rfl, Nat.le_of_ble_eq_true rfl⟩) ⟨PRE.blind, vk_rcv hro_p0 hS, PRE.of (ENV.add hE sq9_m hro_p0) hS hFc hPc hKc hDc⟩ rfl rfl hl.1 rfl (lv_room (Nat.le_of_ble_eq_true rfl)) dJ0_indexOf_7cf53_30 ⟨(Nat.le_of_ble_eq_true rfl), (Nat.le_of_ble_eq_true rfl)⟩) hS (fun q _ h => hFc q h) hFc (fun r5 u t H locs ht hvm hw hB hz1 hk1 hS => ?_)
    obtain ⟨b1, b2, b3⟩ := hB
    rw [ht] at b1
    obtain ⟨hP, hD, hK⟩ := JOINC (wc := (List.flatten ([] : List va_W))) (wr := (List.flatten ([] : List va_W))) (w1 := (List.flatten ([] : List va_W))) (t1 := (List.flatten ([] : List (List (ClassId × FieldType))))) hPx hDx hKx hk1 hFc b1 (va_K.moved hvm.symm b2) b3
    have hP : va_P (dC, dI) cls (List.flatten ([] : List va_W)) H := vP_perm (vP_fb hP) (bP (List.Perm.refl _))
    have hD : va_D A (List.flatten ([] : List va_W)) := vD_perm (vD_fb hD) (bP (List.Perm.refl _))
    have hK : va_K (dC, dI) cls (List.flatten ([] : List (List (ClassId × FieldType)))) s := vK_perm (vK_fb hK) (bP (List.Perm.refl _))
    obtain rfl : o_4 = r5 := hw.symm
    cases hrun
  · refine lv_if_eq (tgt := 23) hx hb dJ0_indexOf_7cf53_4 (by decide) (fun c => absurd c hc3) (fun _ => ?_)
    refine lv_aload_n hx hb dJ0_indexOf_7cf53_7 rfl (lv_at hl 0 rfl) ?_
    refine vk_getf hx hb hro_p0.2.2.1 hS hown (hts _ qw1179) (fun _ h9 => h9) dJ0_indexOf_7cf53_8 ?_
    refine lv_iload_n hx hb dJ0_indexOf_7cf53_11 rfl (lv_at hl 1 rfl) ?_
    refine lv_iload_n hx hb dJ0_indexOf_7cf53_12 rfl (lv_at hl 2 rfl) ?_
    refine lv_aload_n hx hb dJ0_indexOf_7cf53_13 rfl (lv_at hl 0 rfl) ?_
    obtain ⟨o_6, hc_6, hrun⟩ := bnd9 hrun
    have hPx : va_P (dC, dI) cls ((List.flatten ([] : List va_W)) ++ (List.flatten ([] : List va_W))) H := vP_fa (vP_perm hP (bP (List.Perm.refl _)))
    have hDx : va_D A ((List.flatten ([] : List va_W)) ++ (List.flatten ([] : List va_W))) := vD_fa (vD_perm hD (bP (List.Perm.refl _)))
    have hKx : va_K (dC, dI) cls ((List.flatten ([] : List (List (ClassId × FieldType)))) ++ (List.flatten ([] : List (List (ClassId × FieldType))))) s := vK_fa (vK_perm hK (bP (List.Perm.refl _)))
    have hPc := vP_l hPx
    have hDc := vD_l hDx
    have hKc := vK_l hKx
    have hFc := vfree hDx hS hA
    refine va_calli (va_runV (As := []) (rest := [.int p2, .int p1, .ref p0v]) ⟨hx, hb, hml, hown, hts⟩ (kJ0_length_8abf5 l dC dI (p0s := p0s) (p0v := p0v) (p0m := p0m) (p0f := p0f) (sz := _) (o := o_6) (hrun := hc_6)) (cwV 0 hts (gi_V qw1277 qw1235 qw1236 qw1184 (gi_z qw1233)) rfl rfl rfl (by decide +kernel) ⟨Nat.le_of_ble_eq_true rfl, Nat.le_of_ble_eq_true rfl⟩) ⟨PRE.blind, vk_rcv hro_p0 hS, PRE.of (ENV.add hE sq9_m hro_p0) hS hFc hPc hKc hDc⟩ rfl rfl hl.1 rfl (lv_room (Nat.le_of_ble_eq_true rfl)) dJ0_indexOf_7cf53_14 ⟨(Nat.le_of_ble_eq_true rfl), (Nat.le_of_ble_eq_true rfl)⟩) hS (fun q _ h => hFc q h) hFc (fun r7 u t H locs ht hvm hw hB hz1 hk1 hS => ?_)
    obtain ⟨b1, b2, b3⟩ := hB
    rw [ht] at b1
    obtain ⟨hP, hD, hK⟩ := JOINC (wc := (List.flatten ([] : List va_W))) (wr := (List.flatten ([] : List va_W))) (w1 := (List.flatten ([] : List va_W))) (t1 := (List.flatten ([] : List (List (ClassId × FieldType))))) hPx hDx hKx hk1 hFc b1 (va_K.moved hvm.symm b2) b3
    have hP : va_P (dC, dI) cls (List.flatten ([] : List va_W)) H := vP_perm (vP_fb hP) (bP (List.Perm.refl _))
    have hD : va_D A (List.flatten ([] : List va_W)) := vD_perm (vD_fb hD) (bP (List.Perm.refl _))
    have hK : va_K (dC, dI) cls (List.flatten ([] : List (List (ClassId × FieldType)))) s := vK_perm (vK_fb hK) (bP (List.Perm.refl _))
    obtain rfl : o_6 = r7 := hw.symm
    obtain ⟨o_8, hc_8, hrun⟩ := bnd9 hrun
    have hPx : va_P (dC, dI) cls ((List.flatten ([] : List va_W)) ++ (List.flatten ([] : List va_W))) H := vP_fa (vP_perm hP (bP (List.Perm.refl _)))
    have hDx : va_D A ((List.flatten ([] : List va_W)) ++ (List.flatten ([] : List va_W))) := vD_fa (vD_perm hD (bP (List.Perm.refl _)))
    have hKx : va_K (dC, dI) cls ((List.flatten ([] : List (List (ClassId × FieldType)))) ++ (List.flatten ([] : List (List (ClassId × FieldType))))) s := vK_fa (vK_perm hK (bP (List.Perm.refl _)))
    have hPc := vP_l hPx
    have hDc := vD_l hDx
    have hKc := vK_l hKx
    have hFc := vfree hDx hS hA
    refine va_calli (va_runS (As := [.ref p0v, .int p1, .int p2, .int o_6]) (rest := []) ⟨hx, hb, hml, hown, hts⟩ (kJ1_indexOf_4cfef l dC dI (p0v := p0v) (p0m := p0m) (p0f := p0f) (p1 := p1) (p2 := p2) (p3 := o_6) (sz := _) (o := o_8) (hrun := hc_8)) (va_cwS 4 hts (gi_S qw1279 qw1280 qw1200 (gi_z qw1278)) rfl rfl rfl (by decide +kernel) ⟨Nat.le_of_ble_eq_true rfl, Nat.le_of_ble_eq_true rfl⟩) ⟨PRE.blind, PRE.of (ENV.add hE bq9_m (sq9_b hro_p0)) hS hFc hPc hKc hDc⟩ rfl rfl hl.1 rfl (lv_room (Nat.le_of_ble_eq_true rfl)) dJ0_indexOf_7cf53_17 ⟨(Nat.le_of_ble_eq_true rfl), (Nat.le_of_ble_eq_true rfl)⟩) hS (fun q _ h => hFc q h) hFc (fun r9 u t H locs ht hvm hw hB hz1 hk1 hS => ?_)
    obtain ⟨b1, b2, b3⟩ := hB
    rw [ht] at b1
    obtain ⟨hP, hD, hK⟩ := JOINC (wc := (List.flatten ([] : List va_W))) (wr := (List.flatten ([] : List va_W))) (w1 := (List.flatten ([] : List va_W))) (t1 := (List.flatten ([] : List (List (ClassId × FieldType))))) hPx hDx hKx hk1 hFc b1 (va_K.moved hvm.symm b2) b3
    have hP : va_P (dC, dI) cls (List.flatten ([] : List va_W)) H := vP_perm (vP_fb hP) (bP (List.Perm.refl _))
    have hD : va_D A (List.flatten ([] : List va_W)) := vD_perm (vD_fb hD) (bP (List.Perm.refl _))
    have hK : va_K (dC, dI) cls (List.flatten ([] : List (List (ClassId × FieldType)))) s := vK_perm (vK_fb hK) (bP (List.Perm.refl _))
    obtain rfl : o_8 = r9 := hw.symm
    refine lv_goto (tgt := 36) hx hb dJ0_indexOf_7cf53_20 (by decide) ?_
    exact J36 o_8 _ _ _ hrun hP hD hK hS (lv_sub hl [] rfl)
def fJ0_indexOf_0f7a4 (p0m : Nat) (p0f : RI) (p1 : Int32) : Option Int32 := ((fJ0_indexOf_7cf53 p0m p0f p1 0).bind fun (o_1 : Int32) => some o_1)
set_option maxHeartbeats 16000000 in
set_option maxRecDepth 100000 in
theorem kJ0_indexOf_0f7a4 {zs : ZS} (l : Launch) (dC : Nat → ClassId) (dI : Nat → Nat → Nat) (p0s : Nat) (p0v : Nat) (p0m : Nat) (p0f : RI) (p1 : Int32) (sz : Nat) (o : Int32) (hrun : fJ0_indexOf_0f7a4 p0m p0f p1 = some o) : Met l yJ0_indexOf_0f7a4 (wz yJ0_indexOf_0f7a4 cJ0_indexOf_0f7a4 2 (Option.some Jvm.ClassFile.FieldType.int)) ({ frames := 3, cells := 0, slots := 0, locals := 70 } : Room) (va_Pc [.ref p0s, .int p1] (PRE (zA zs (sq9 p0s p0v p0m p0f)) dC dI (List.flatten ([] : List va_W)) (List.flatten ([] : List (List (ClassId × FieldType)))) sz)) (va_Qi (fun (r : Int32) (_ : Unit) => r = o) (fun _ t => POST dC dI (List.flatten ([] : List va_W)) (List.flatten ([] : List (List (ClassId × FieldType)))) (va_A (List.flatten ([] : List va_W)) sz) t) (va_A (List.flatten ([] : List va_W)) sz)) 0 0 (va_A (List.flatten ([] : List va_W)) sz) := by
  refine Met.ofW (cc := cJ0_indexOf_0f7a4) (maxL := 2) (ret := (Option.some Jvm.ClassFile.FieldType.int)) (by decide) rfl ?_
  intro p e s m args below meth c s₁ B hml hv
  obtain ⟨rfl, hsz, hP, hK, hD0, hE⟩ := hv
  have hx := B.exec
  have hb := B.bytes
  have hr := B.returns
  have hts0 := atoms_spec (ws := wz yJ0_indexOf_0f7a4 cJ0_indexOf_0f7a4 2 (Option.some Jvm.ClassFile.FieldType.int)) B.pre
  have hts : ∀ w ∈ gw, w.before _ s = true := fun w h => hts0 w (List.mem_cons_of_mem _ h)
  have hown : s.vm.findClass RJ0 = some m.cls := findClass_of_methodNamed B.named
  have hlocks := B.notSynchronized
  subst hsz
  have hD := hD0.self (sz := s.heap.size)
  refine gQ9 ?_
  intro Q hQ
  generalize hAe : va_A (List.flatten ([] : List va_W)) s.heap.size = A at hD hE hQ
  have hA : ∀ q : Nat, s.heap.size ≤ q → A q := fun q h => by rw [← hAe]; exact Or.inr h
  have hro := ENV.ex hE
  have hro_p0 := hro.2
  replace hro := hro.1
  have hS : va_S A s.heap s.heap [] := va_S.rf
  have hP : va_P (dC, dI) cls (List.flatten ([] : List va_W)) s.heap := hP
  have hl := lv_entry ([.ref p0s, .int p1]) (n := 2) (Nat.le_of_ble_eq_true rfl)
  rw [lg_entry_eq]
  generalize (lg_sl ([.ref p0s, .int p1]) ++ List.replicate (2 - (lg_sl ([.ref p0s, .int p1])).length) Slot.unset).toArray = ls at hl ⊢
  have hl : lv_has ls 2 [(0, .ref p0s), (1, .int p1)] := hl
  obtain ⟨H, hHe⟩ : ∃ H, H = s.heap := ⟨_, rfl⟩
  obtain ⟨locs, hle⟩ : ∃ locs : List Loc, locs = [] := ⟨_, rfl⟩
  rw [← hHe] at hP
  have hS : va_S A s.heap H locs := by rw [hHe, hle]; exact hS
  show W p l e ({ frames := 3, cells := 0, slots := 0, locals := 70 } : Room) s m ([.ref p0s, .int p1] : List Value).toArray below meth c s.heap [] 0 0 Q (F0 m 0 ls [])
  rw [← hle]
  refine wH9 hHe ?_
  unfold fJ0_indexOf_0f7a4 at hrun
  refine lv_aload_n hx hb dJ0_indexOf_0f7a4_0 rfl (lv_at hl 0 rfl) ?_
  refine lv_iload_n hx hb dJ0_indexOf_0f7a4_1 rfl (lv_at hl 1 rfl) ?_
  refine lv_iconst (v := 0) hx hb dJ0_indexOf_0f7a4_2 (by decide) ?_
  obtain ⟨o_1, hc_1, hrun⟩ := bnd9 hrun
  have hPx : va_P (dC, dI) cls ((List.flatten ([] : List va_W)) ++ (List.flatten ([] : List va_W))) H := vP_fa (vP_perm hP (bP (List.Perm.refl _)))
  have hDx : va_D A ((List.flatten ([] : List va_W)) ++ (List.flatten ([] : List va_W))) := vD_fa (vD_perm hD (bP (List.Perm.refl _)))
  have hKx : va_K (dC, dI) cls ((List.flatten ([] : List (List (ClassId × FieldType)))) ++ (List.flatten ([] : List (List (ClassId × FieldType))))) s := vK_fa (vK_perm hK (bP (List.Perm.refl _)))
  have hPc := vP_l hPx
  have hDc := vD_l hDx
  have hKc := vK_l hKx
  have hFc := vfree hDx hS hA
  refine va_calli (va_runV (As := [.int p1, .int 0]) (rest := []) ⟨hx, hb, hml, hown, hts⟩ (kJ0_indexOf_7cf53 l dC dI (p0s := p0s) (p0v := p0v) (p0m := p0m) (p0f := p0f) (p1 := p1) (p2 := 0) (sz := _) (o := o_1) (hrun := hc_1)) (cwV 2 hts (gi_V qw1282 qw1283 qw1284 qw1184 (gi_z qw1281)) rfl rfl rfl (by decide +kernel) ⟨Nat.le_of_ble_eq_true rfl, Nat.le_of_ble_eq_true rfl⟩) ⟨PRE.blind, vk_rcv hro_p0 hS, PRE.of (ENV.add hE sq9_m hro_p0) hS hFc hPc hKc hDc⟩ rfl rfl hl.1 rfl (lv_room (Nat.le_of_ble_eq_true rfl)) dJ0_indexOf_0f7a4_3 ⟨(Nat.le_of_ble_eq_true rfl), (Nat.le_of_ble_eq_true rfl)⟩) hS (fun q _ h => hFc q h) hFc (fun r2 u t H locs ht hvm hw hB hz1 hk1 hS => ?_)
  obtain ⟨b1, b2, b3⟩ := hB
  rw [ht] at b1
  obtain ⟨hP, hD, hK⟩ := JOINC (wc := (List.flatten ([] : List va_W))) (wr := (List.flatten ([] : List va_W))) (w1 := (List.flatten ([] : List va_W))) (t1 := (List.flatten ([] : List (List (ClassId × FieldType))))) hPx hDx hKx hk1 hFc b1 (va_K.moved hvm.symm b2) b3
  have hP : va_P (dC, dI) cls (List.flatten ([] : List va_W)) H := vP_perm (vP_fb hP) (bP (List.Perm.refl _))
  have hD : va_D A (List.flatten ([] : List va_W)) := vD_perm (vD_fb hD) (bP (List.Perm.refl _))
  have hK : va_K (dC, dI) cls (List.flatten ([] : List (List (ClassId × FieldType)))) s := vK_perm (vK_fb hK) (bP (List.Perm.refl _))
  obtain rfl : o_1 = r2 := hw.symm
  have ho9 : o_1 = o := Option.some.inj hrun
  have hP9 : va_P (dC, dI) cls (List.flatten ([] : List va_W)) H := by first | exact hP | (rw [← ho9]; exact hP)
  have hD9 : va_D A (List.flatten ([] : List va_W)) := by first | exact hD | (rw [← ho9]; exact hD)
  subst hQ
  exact W.iret (v := o_1) hx hb hr (fun t ht hW => ⟨⟨o_1, (), rfl, (by rw [← ho9]), ⟨by rw [ht]; exact hP9, va_K.moved hW.alike hK, hD9⟩⟩, hS.F ht⟩) hS.2.2 dJ0_indexOf_0f7a4_6
