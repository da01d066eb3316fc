/-! The world at the start (written by wip/whole/genstart.py). -/
set_option maxRecDepth 100000 in
theorem ih_ls0 : (Jvm.Cond.laysStatic "java/lang/String" "COMPACT_STRINGS" "Z") ∈ lw_tbl := ia_iu2 (List.mem_of_getElem? (i := 6) rfl)
set_option maxRecDepth 100000 in
theorem ih_ls1 : (Jvm.Cond.laysStatic "jdk/internal/util/Preconditions" "SIOOBE_FORMATTER" "Ljava/util/function/BiFunction;") ∈ lw_tbl := ia_iu2 (List.mem_of_getElem? (i := 22) rfl)
set_option maxRecDepth 100000 in
theorem ih_ls2 : (Jvm.Cond.laysStatic "java/lang/Throwable" "UNASSIGNED_STACK" "[Ljava/lang/StackTraceElement;") ∈ lw_tbl := ia_iu5 (List.mem_of_getElem? (i := 226) rfl)
set_option maxRecDepth 100000 in
theorem ih_ls3 : (Jvm.Cond.laysStatic "java/lang/Throwable" "SUPPRESSED_SENTINEL" "Ljava/util/List;") ∈ lw_tbl := ia_iu5 (List.mem_of_getElem? (i := 228) rfl)
set_option maxRecDepth 100000 in
theorem ih_in0 : (Jvm.Cond.initialized "java/lang/String") ∈ lw_tbl := ia_iu1 (List.mem_of_getElem? (i := 7) rfl)
set_option maxRecDepth 100000 in
theorem ih_in1 : (Jvm.Cond.initialized "jdk/internal/util/Preconditions") ∈ lw_tbl := ia_iu1 (List.mem_of_getElem? (i := 9) rfl)
set_option maxRecDepth 100000 in
theorem ih_in2 : (Jvm.Cond.initialized "java/lang/Throwable") ∈ lw_tbl := ia_iu1 (List.mem_of_getElem? (i := 19) rfl)
set_option maxRecDepth 100000 in
theorem ih_sr1 : (Jvm.Cond.stringRef "EngagedTone$Tokens" (19 : Nat) "man tone price ring lines tries seed law again fame dear turn vain purse busy known cost time or and not ") ∈ lw_tbl := ia_iu1 (List.mem_of_getElem? (i := 236) rfl)
set_option maxRecDepth 100000 in
theorem ih_sr2 : (Jvm.Cond.stringRef "EngagedTone$Tokens" (70 : Nat) ";()+-*/=") ∈ lw_tbl := ia_iu3 (List.mem_of_getElem? (i := 63) rfl)
set_option maxRecDepth 100000 in
theorem ih_sr3 : (Jvm.Cond.stringRef "EngagedToneModel" (194 : Nat) "man tone price ring lines tries seed law again fame dear or and not turn vain purse busy known cost time ") ∈ lw_tbl := ia_iu7 (List.mem_of_getElem? (i := 54) rfl)
set_option maxRecDepth 100000 in
theorem ih_sr4 : (Jvm.Cond.stringRef "EngagedTone" (117 : Nat) "no such call") ∈ lw_tbl := ia_iu5 (List.mem_of_getElem? (i := 239) rfl)
set_option maxRecDepth 100000 in
theorem ih_sr5 : (Jvm.Cond.stringRef "EngagedTone" (143 : Nat) "no such what") ∈ lw_tbl := ia_iu6 (List.mem_of_getElem? (i := 34) rfl)
set_option maxRecDepth 100000 in
theorem ih_ac0 : (Jvm.Cond.arrayClass Jvm.ClassFile.FieldType.int) ∈ lw_tbl := ia_iu1 (List.mem_of_getElem? (i := 132) rfl)
set_option maxRecDepth 100000 in
theorem ih_ac1 : (Jvm.Cond.arrayClass Jvm.ClassFile.FieldType.byte) ∈ lw_tbl := ia_iu1 (List.mem_of_getElem? (i := 131) rfl)
set_option maxRecDepth 100000 in
theorem ih_ac2 : (Jvm.Cond.arrayClass Jvm.ClassFile.FieldType.boolean) ∈ lw_tbl := ia_iu2 (List.mem_of_getElem? (i := 180) rfl)
set_option maxRecDepth 100000 in
theorem ih_ac3 : (Jvm.Cond.arrayClass Jvm.ClassFile.FieldType.long) ∈ lw_tbl := ia_iu1 (List.mem_of_getElem? (i := 167) rfl)
set_option maxRecDepth 100000 in
theorem ih_nst : ∀ q ∈ ia_nst, ia_nsw q ∈ lw_tbl := by decide +kernel
set_option maxRecDepth 100000 in
theorem ih_ins : ∀ q ∈ ia_cl.map (fun q => (q.1, q.2.2)), Cond.instantiable q.1 q.2 ∈ lw_tbl := by decide +kernel
abbrev ihG : Cond := Jvm.Cond.and given_1 narrow_1
set_option maxRecDepth 100000 in
theorem ih_g2 : (flatC ihG)[4]? = some (.eq (.static "java/lang/String" "COMPACT_STRINGS" "Z") (.int 1)) := by decide +kernel
set_option maxRecDepth 100000 in
theorem ih_g3 : (flatC ihG)[5]? = some (.isRef (.static "jdk/internal/util/Preconditions" "SIOOBE_FORMATTER" "Ljava/util/function/BiFunction;")) := by decide +kernel
set_option maxRecDepth 100000 in
theorem ih_g7 : (flatC ihG)[9]? = some (.isRef (.static Bundle.tN "UNASSIGNED_STACK" Bundle.steD)) := by decide +kernel
set_option maxRecDepth 100000 in
theorem ih_g8 : (flatC ihG)[10]? = some (.isRef (.static Bundle.tN "SUPPRESSED_SENTINEL" Bundle.listD)) := by decide +kernel
set_option maxRecDepth 100000 in
theorem ih_g20 : (flatC ihG)[22]? = some (.not (.castable irNS irIO)) := by decide +kernel
set_option maxRecDepth 100000 in
theorem ih_s1_0 : (flatC ihG)[35]? = some (.exactly (.string "EngagedTone$Tokens" 19) "java/lang/String") := by decide +kernel
set_option maxRecDepth 100000 in
theorem ih_s1_1 : (flatC ihG)[36]? = some (.eq (.field (.string "EngagedTone$Tokens" 19) "java/lang/String" "coder" "B") (.int 0)) := by decide +kernel
set_option maxRecDepth 100000 in
theorem ih_s1_2 : (flatC ihG)[37]? = some (.arrayOf (.field (.string "EngagedTone$Tokens" 19) "java/lang/String" "value" "[B") .byte) := by decide +kernel
set_option maxRecDepth 100000 in
theorem ih_s1_3 : (flatC ihG)[38]? = some (.eq (.length (.field (.string "EngagedTone$Tokens" 19) "java/lang/String" "value" "[B")) (.int (Int32.ofNat (ia_str 1).length))) := by decide +kernel
set_option maxRecDepth 100000 in
theorem ih_s1_4 : ∀ j, j < (ia_str 1).length → (flatC ihG)[39 + j]? = some (.eq (.elem (.field (.string "EngagedTone$Tokens" 19) "java/lang/String" "value" "[B") (.int (Int32.ofNat j))) (.int ((ia_str 1).getD j 0))) := by decide +kernel
set_option maxRecDepth 100000 in
theorem ih_s2_0 : (flatC ihG)[144]? = some (.exactly (.string "EngagedTone$Tokens" 70) "java/lang/String") := by decide +kernel
set_option maxRecDepth 100000 in
theorem ih_s2_1 : (flatC ihG)[145]? = some (.eq (.field (.string "EngagedTone$Tokens" 70) "java/lang/String" "coder" "B") (.int 0)) := by decide +kernel
set_option maxRecDepth 100000 in
theorem ih_s2_2 : (flatC ihG)[146]? = some (.arrayOf (.field (.string "EngagedTone$Tokens" 70) "java/lang/String" "value" "[B") .byte) := by decide +kernel
set_option maxRecDepth 100000 in
theorem ih_s2_3 : (flatC ihG)[147]? = some (.eq (.length (.field (.string "EngagedTone$Tokens" 70) "java/lang/String" "value" "[B")) (.int (Int32.ofNat (ia_str 2).length))) := by decide +kernel
set_option maxRecDepth 100000 in
theorem ih_s2_4 : ∀ j, j < (ia_str 2).length → (flatC ihG)[148 + j]? = some (.eq (.elem (.field (.string "EngagedTone$Tokens" 70) "java/lang/String" "value" "[B") (.int (Int32.ofNat j))) (.int ((ia_str 2).getD j 0))) := by decide +kernel
set_option maxRecDepth 100000 in
theorem ih_s3_0 : (flatC ihG)[194]? = some (.exactly (.string "EngagedToneModel" 194) "java/lang/String") := by decide +kernel
set_option maxRecDepth 100000 in
theorem ih_s3_1 : (flatC ihG)[195]? = some (.eq (.field (.string "EngagedToneModel" 194) "java/lang/String" "coder" "B") (.int 0)) := by decide +kernel
set_option maxRecDepth 100000 in
theorem ih_s3_2 : (flatC ihG)[196]? = some (.arrayOf (.field (.string "EngagedToneModel" 194) "java/lang/String" "value" "[B") .byte) := by decide +kernel
set_option maxRecDepth 100000 in
theorem ih_s3_3 : (flatC ihG)[197]? = some (.eq (.length (.field (.string "EngagedToneModel" 194) "java/lang/String" "value" "[B")) (.int (Int32.ofNat (ia_str 3).length))) := by decide +kernel
set_option maxRecDepth 100000 in
theorem ih_s3_4 : ∀ j, j < (ia_str 3).length → (flatC ihG)[198 + j]? = some (.eq (.elem (.field (.string "EngagedToneModel" 194) "java/lang/String" "value" "[B") (.int (Int32.ofNat j))) (.int ((ia_str 3).getD j 0))) := by decide +kernel
set_option maxRecDepth 100000 in
theorem ih_s4_0 : (flatC ihG)[157]? = some (.exactly (.string "EngagedTone" 117) "java/lang/String") := by decide +kernel
set_option maxRecDepth 100000 in
theorem ih_s5_0 : (flatC ihG)[175]? = some (.exactly (.string "EngagedTone" 143) "java/lang/String") := by decide +kernel
section LX1
variable {s : State} {args : Array Value}
/-- a String constant at the start -/
theorem ih_str {own : String} {ix : Nat} {y : List Int32} {A : Nat → Prop} (hN : y.length < 2 ^ 31) (hfl : ∀ w ∈ flatC ihG, w.before args s = true) {a0 a1 a2 a3 a4 : Nat} (h0 : (flatC ihG)[a0]? = some (.exactly (.string own ix) "java/lang/String")) (h1 : (flatC ihG)[a1]? = some (.eq (.field (.string own ix) "java/lang/String" "coder" "B") (.int 0)))
    (h2 : (flatC ihG)[a2]? = some (.arrayOf (.field (.string own ix) "java/lang/String" "value" "[B") .byte)) (h3 : (flatC ihG)[a3]? = some (.eq (.length (.field (.string own ix) "java/lang/String" "value" "[B")) (.int (Int32.ofNat y.length))))
    (h4 : ∀ j, j < y.length → (flatC ihG)[a4 + j]? = some (.eq (.elem (.field (.string own ix) "java/lang/String" "value" "[B") (.int (Int32.ofNat j))) (.int (y.getD j 0)))) (hA : ∀ a : Nat, a < s.heap.size → ¬ A a) :
    ∃ k v : Nat, (Term.string own ix).eval args s none [] s = some (.ref k) ∧ va_O "java/lang/String" k A s s.heap ∧ va_OF "java/lang/String" "coder" "B" (.int 0) k A s s.heap ∧ va_OF "java/lang/String" "value" "[B" (.ref v) k A s s.heap ∧ va_T .byte v y.length (fun i => .int (y.getD i 0)) A s s.heap := by
  have hf : ∀ {k : Nat} {w : Cond}, (flatC ihG)[k]? = some w → w.before args s = true := fun h => hfl _ (List.mem_of_getElem? h)
  obtain ⟨a, c, cA, kA, q1, q2, q3, q4, q5, q6, -⟩ := Cond.exactly_spec (args := args) (first := s) (o := none) (s := s) (idx := []) (t := .string own ix) (cls := "java/lang/String") (hf h0)
  obtain ⟨t, ht, hT⟩ := va_Tof (f := fun j => .int (y.getD j 0)) (A := A) hN (hf h2) (va_eqt (hf h3)) (fun j hj => va_eqt (hf (h4 j hj))) hA
  exact ⟨a, t, q1, ⟨cA, q3, q5, by rw [q6]; exact q2, hA a (Array.getElem?_eq_some_iff.mp q3).1⟩, vk_OFof q1 (va_eqt (hf h1)) hA, vk_OFof q1 ht hA, hT⟩
theorem ih_kk (hts : ∀ w ∈ lw_tbl, w.before args s = true) : ∃ (D : va_G) (cA : Nat → ClassId), ia_KK D cA s := by
  have h0 : ∀ ci : Nat, ∃ z : ClassId × (Nat → Nat), ∀ q : vw_C, ia_cl[ci]? = some q → u_Kn s q.1 q.2.1 q.2.2 z.1 z.2 := by
    intro ci
    cases hq : ia_cl[ci]? with
    | none => exact ⟨(0, fun _ => 0), fun q h => nomatch h⟩
    | some q =>
      obtain ⟨C, T, N⟩ := q
      have hin := (ia_clall ci C T N hq).1
      have hi : Cond.instantiable C N ∈ lw_tbl := ih_ins (C, N) (List.mem_map.mpr ⟨(C, T, N), List.mem_of_getElem? hq, rfl⟩)
      obtain ⟨cC, iS, hK⟩ := u_known (C := C) (T := T) (N := N) (n := N) hts (fun w hw => (List.mem_filter.mp (hin w hw)).1) (hts _ hi)
      exact ⟨(cC, iS), fun q h => by cases h; exact hK⟩
  obtain ⟨z, hz⟩ := Classical.axiomOfChoice h0
  have h1 : ∀ tg : Nat, ∃ cI : ClassId, tg < 4 → ArrOfT s cI (ia_ty tg) ∧ s.vm.findClass ("[" ++ (ia_ty tg).toString) = some cI := by
    intro tg
    have key : ∀ ty : FieldType, Cond.arrayClass ty ∈ lw_tbl → ∃ cI : ClassId, ArrOfT s cI ty ∧ s.vm.findClass ("[" ++ ty.toString) = some cI := by
      intro ty hw
      obtain ⟨c, k, comp, g1, g2, g3⟩ := Cond.arrayClass_spec (hts _ hw)
      exact ⟨c, fun n z => ⟨fun k h => (by cases h), k, g2, comp, g3⟩, g1⟩
    match tg with
    | 0 => obtain ⟨c, h⟩ := key _ ih_ac0; exact ⟨c, fun _ => h⟩
    | 1 => obtain ⟨c, h⟩ := key _ ih_ac1; exact ⟨c, fun _ => h⟩
    | 2 => obtain ⟨c, h⟩ := key _ ih_ac2; exact ⟨c, fun _ => h⟩
    | 3 => obtain ⟨c, h⟩ := key _ ih_ac3; exact ⟨c, fun _ => h⟩
    | n + 4 => exact ⟨0, fun h => absurd h (by omega)⟩
  obtain ⟨cA, hc⟩ := Classical.axiomOfChoice h1
  exact ⟨(fun k => (z k).1, fun k => (z k).2), cA, fun c q hq => hz c q hq, fun tg ht => hc tg ht⟩
def ihX (b a1 a2 a3 t1 t2 t3 : Nat) (j : Nat) : Nat := if j = 0 then b else if j = 1 then a1 else if j = 2 then a2 else if j = 3 then a3 else if j = 11 then t1 else if j = 12 then t2 else t3
/-- what the law's run rests on -/
theorem ih_X {b : Nat} {ys : List Int32} (hts : ∀ w ∈ lw_tbl, w.before args s = true) (hgv : ihG.before args s = true) (hX : va_X b ys.length (fun j => ys.getD j 0) s s.heap) (hb : b < s.heap.size) :
    ∃ (D : va_G) (cA : Nat → ClassId) (xt : Nat → Nat) (sa sb : Nat), xt 0 = b ∧ ia_X D cA xt s.heap.size ys (irE s.heap.size sa sb) s := by
  have hfl := flat_of_before ihG hgv
  have hf : ∀ {k : Nat} {w : Cond}, (flatC ihG)[k]? = some w → w.before args s = true := fun h => hfl _ (List.mem_of_getElem? h)
  have hA : ∀ a : Nat, a < s.heap.size → ¬ (fun q : Nat => s.heap.size ≤ q) a := fun a h => Nat.not_le.mpr h
  obtain ⟨D, cA, hKK⟩ := ih_kk hts
  obtain ⟨a1, t1, e1, o1, c1, v1, b1⟩ := ih_str (A := fun q : Nat => s.heap.size ≤ q) (y := ia_str 1) (by decide) hfl ih_s1_0 ih_s1_1 ih_s1_2 ih_s1_3 ih_s1_4 hA
  obtain ⟨a2, t2, e2, o2, c2, v2, b2⟩ := ih_str (A := fun q : Nat => s.heap.size ≤ q) (y := ia_str 2) (by decide) hfl ih_s2_0 ih_s2_1 ih_s2_2 ih_s2_3 ih_s2_4 hA
  obtain ⟨a3, t3, e3, o3, c3, v3, b3⟩ := ih_str (A := fun q : Nat => s.heap.size ≤ q) (y := ia_str 3) (by decide) hfl ih_s3_0 ih_s3_1 ih_s3_2 ih_s3_3 ih_s3_4 hA
  obtain ⟨sa, -, -, -, e4, -⟩ := Cond.exactly_spec (args := args) (first := s) (o := none) (s := s) (idx := []) (hf ih_s4_0)
  obtain ⟨sb, -, -, -, e5, -⟩ := Cond.exactly_spec (args := args) (first := s) (o := none) (s := s) (idx := []) (hf ih_s5_0)
  have se : ∀ {own : String} {k a : Nat}, (Term.string own k).eval args s none [] s = some (.ref a) → (Term.string own k).eval #[] s none [] s = some (.ref a) := fun h => h
  have sr : ∀ {own tx : String} {k : Nat}, (Cond.stringRef own k tx).before args s = true → (Cond.stringRef own k tx).before #[] s = true := fun h => h
  refine ⟨D, cA, ihX b a1 a2 a3 t1 t2 t3, sa, sb, rfl, hKK, fun q hq => va_Nw.of rfl (hts _ (ih_nst q hq)), hX, hb, Nat.le_refl _, ?_, ⟨va_Zof (hts _ ih_ls0) (hts _ ih_in0) (va_eqt (hf ih_g2)) hA, va_Zqof (hts _ ih_ls1) (hts _ ih_in1) (hf ih_g3) hA, ?_⟩, fun w hw => va_Nw.of (ir_bo w hw) (hts _ (ir_bt w hw)), vx_Zqof (hts _ ih_ls2) (hts _ ih_in2) (hf ih_g7) hA, vx_Zqof (hts _ ih_ls3) (hts _ ih_in2) (hf ih_g8) hA, ⟨sr (hts _ ih_sr4), se e4⟩, ⟨sr (hts _ ih_sr5), se e5⟩, va_Nc.of (hf ih_g20)⟩
  · intro q hq
    simp only [ia_strL, List.mem_cons, List.not_mem_nil, or_false] at hq
    rcases hq with rfl | rfl | rfl
    · exact ⟨sr (hts _ ih_sr1), se e1⟩
    · exact ⟨sr (hts _ ih_sr2), se e2⟩
    · exact ⟨sr (hts _ ih_sr3), se e3⟩
  · intro j hj
    have h9 : j = 1 ∨ j = 2 ∨ j = 3 := by
      unfold ia_isS at hj
      simpa [Bool.or_eq_true] using hj
    rcases h9 with rfl | rfl | rfl
    · exact ⟨o1, c1, v1, b1⟩
    · exact ⟨o2, c2, v2, b2⟩
    · exact ⟨o3, c3, v3, b3⟩
end LX1
