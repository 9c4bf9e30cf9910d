/-! constructors -/
section CX
theorem vP_snoc {D : va_G} {cl : List vw_C} {ws : va_W} {H : Heap} {q : Nat × va_E} (h : va_P D cl ws H) (hq : va_at D cl q H) : va_P D cl (ws ++ [q]) H := vP_mem.mpr fun x hx => by
  rcases List.mem_append.mp hx with e | e
  · exact vP_mem.mp h x e
  · rw [List.mem_singleton.mp e]; exact hq
theorem vD_snoc {A : Nat → Prop} {ws : va_W} {q : Nat × va_E} (h : va_D A ws) (hA : A q.1) (hn : ∀ x, x ∈ ws → x.1 ≠ q.1) : va_D A (ws ++ [q]) := by
  have h := vD_iff.mp h
  refine vD_iff.mpr ⟨List.pairwise_append.mpr ⟨h.1, List.pairwise_singleton _ _, fun x hx y hy => by rw [List.mem_singleton.mp hy]; exact hn x hx⟩, fun x hx => ?_⟩
  rcases List.mem_append.mp hx with e | e
  · exact h.2 x e
  · rw [List.mem_singleton.mp e]; exact hA
theorem vK_snoc {D : va_G} {cl : List vw_C} {t : List (ClassId × FieldType)} {U : State} {q : ClassId × FieldType} (h : va_K D cl t U) (hq : ArrOfT U q.1 q.2 ∧ va_RA U q.1 q.2) : va_K D cl (t ++ [q]) U := vK_mem.mpr ⟨h.1, fun x hx => by
  rcases List.mem_append.mp hx with e | e
  · exact (vK_mem.mp h).2 x e
  · rw [List.mem_singleton.mp e]; exact hq⟩
/-- new int[4][19] -/
def MNA4 : Prop := ∀ {p : Program} {l : Launch} {e : Env} {R : Room} {s : State} {m : MethodId} {args : Array Value} {below : List Frame} {meth : Method} {c : Code} {H : Heap} {locs : List Loc} {cells slots : Nat} {Q : State → Prop} {cc : ByteArray} {pc : Nat} {ls : Array Slot} {rest : List Value} {D : va_G} {cl : List vw_C} {A : Nat → Prop} {ws : va_W} {tys : List (ClassId × FieldType)} {H0 : Heap} (hexec : p.tables.exec = Jvm.exec) (hb : c.code = cc) {own : String} {index : Nat} (hown : s.vm.findClass own = some m.cls) (hclink : (Cond.classLink own index "[[I").before args s = true) (hover : (Cond.arrayOver (.array .int)).before args s = true) (harr : (Cond.arrayClass .int).before args s = true)
    (hK : va_K D cl tys s) (hP : va_P D cl ws H) (hD : va_D A ws) (hS : va_S A H0 H locs) (hA : ∀ q, H0.size ≤ q → A q) (hdg : decode cc pc = .ok (.multianewarray index 2, 4)) (hcells : cells + 5 ≤ R.cells) (hslots : slots + 80 ≤ R.slots)
    (kk : ∀ (q : Nat) (cA comp : ClassId) (H1 : Heap), va_K D cl (tys ++ [(cA, .array .int)] ++ [(comp, .int)] ++ [(comp, .int)] ++ [(comp, .int)] ++ [(comp, .int)]) s →
      va_P D cl (ws ++ [(q, .inl (cA, 4, .inr (.inr (.inr (.inr (fun i => some (q + 1 + i)))))))] ++ [(q + 1 + 0, .inl (comp, 19, .inl (fun _ => 0)))] ++ [(q + 1 + 1, .inl (comp, 19, .inl (fun _ => 0)))] ++ [(q + 1 + 2, .inl (comp, 19, .inl (fun _ => 0)))] ++ [(q + 1 + 3, .inl (comp, 19, .inl (fun _ => 0)))]) H1 →
      va_D A (ws ++ [(q, .inl (cA, 4, .inr (.inr (.inr (.inr (fun i => some (q + 1 + i)))))))] ++ [(q + 1 + 0, .inl (comp, 19, .inl (fun _ => 0)))] ++ [(q + 1 + 1, .inl (comp, 19, .inl (fun _ => 0)))] ++ [(q + 1 + 2, .inl (comp, 19, .inl (fun _ => 0)))] ++ [(q + 1 + 3, .inl (comp, 19, .inl (fun _ => 0)))]) →
      va_S A H0 H1 locs → W p l e R s m args below meth c H1 locs (cells + 5) (slots + 80) Q (F0 m (pc + 4) ls (.ref q :: rest))), W p l e R s m args below meth c H locs cells slots Q (F0 m pc ls (.int 19 :: .int 4 :: rest))
end CX

