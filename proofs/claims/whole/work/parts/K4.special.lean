/-! String.checkIndex, where the index is within. -/
set_option maxRecDepth 100000 in
theorem ik_lk : (Jvm.Cond.methodLink "java/lang/StringLatin1" (9 : Nat) ({ cls := "java/lang/String", name := "checkIndex", desc := "(II)V" } : Jvm.MethodName)) ∈ ia_T := ia_in2 (List.mem_of_getElem? (i := 18) rfl) rfl
set_option maxRecDepth 100000 in
theorem ik_st : (Jvm.Cond.static ({ cls := "java/lang/String", name := "checkIndex", desc := "(II)V" } : Jvm.MethodName)) ∈ ia_T := ia_in2 (List.mem_of_getElem? (i := 19) rfl) rfl
set_option maxRecDepth 100000 in
theorem ik_co : (Jvm.Cond.code ({ cls := "java/lang/String", name := "checkIndex", desc := "(II)V" } : Jvm.MethodName) prog_22_method_155_code (2 : Nat) (Option.none : Option Jvm.ClassFile.FieldType)) ∈ ia_T := ia_in2 (List.mem_of_getElem? (i := 20) rfl) rfl
set_option maxRecDepth 100000 in
theorem ik_fl : (Jvm.Cond.fieldLink "java/lang/String" (1053 : Nat) "jdk/internal/util/Preconditions" "SIOOBE_FORMATTER" "Ljava/util/function/BiFunction;") ∈ ia_T := ia_in2 (List.mem_of_getElem? (i := 21) rfl) rfl
set_option maxRecDepth 100000 in
theorem ik_lk2 : (Jvm.Cond.methodLink "java/lang/String" (1059 : Nat) ({ cls := "jdk/internal/util/Preconditions", name := "checkIndex", desc := "(IILjava/util/function/BiFunction;)I" } : Jvm.MethodName)) ∈ ia_T := ia_in2 (List.mem_of_getElem? (i := 23) rfl) rfl
set_option maxRecDepth 100000 in
theorem ik_st2 : (Jvm.Cond.static ({ cls := "jdk/internal/util/Preconditions", name := "checkIndex", desc := "(IILjava/util/function/BiFunction;)I" } : Jvm.MethodName)) ∈ ia_T := ia_in2 (List.mem_of_getElem? (i := 24) rfl) rfl
set_option maxRecDepth 100000 in
theorem ik_co2 : (Jvm.Cond.code ({ cls := "jdk/internal/util/Preconditions", name := "checkIndex", desc := "(IILjava/util/function/BiFunction;)I" } : Jvm.MethodName) prog_30_method_11_code (3 : Nat) (Option.some Jvm.ClassFile.FieldType.int)) ∈ ia_T := ia_in2 (List.mem_of_getElem? (i := 25) rfl) rfl
set_option maxRecDepth 100000 in
theorem ik_ini2 : (Jvm.Cond.initialized "jdk/internal/util/Preconditions") ∈ ia_T := ia_in1 (List.mem_of_getElem? (i := 9) rfl) rfl
set_option maxRecDepth 100000 in
theorem ik_ini : (Jvm.Cond.initialized "java/lang/String") ∈ ia_T := ia_in1 (List.mem_of_getElem? (i := 7) rfl) rfl
def yCi : MethodName := ⟨"java/lang/String", "checkIndex", "(II)V"⟩
def yPi : MethodName := ⟨"jdk/internal/util/Preconditions", "checkIndex", "(IILjava/util/function/BiFunction;)I"⟩
def wsPi : List Cond := Cond.code yPi prog_30_method_11_code 3 (some .int) :: ia_T
def wsCi : List Cond := Cond.code yCi prog_22_method_155_code 2 none :: ia_T
def rmPi : Room := { frames := 2, cells := 0, slots := 0, locals := 50 }
def rmCi : Room := { frames := 4, cells := 0, slots := 0, locals := 100 }
theorem dPi0 : decode prog_30_method_11_code 0 = .ok (.iload_n 0, 1) := by decide +kernel
theorem dPi1 : decode prog_30_method_11_code 1 = .ok (.ifCond .lt 8, 3) := by decide +kernel
theorem dPi4 : decode prog_30_method_11_code 4 = .ok (.iload_n 0, 1) := by decide +kernel
theorem dPi5 : decode prog_30_method_11_code 5 = .ok (.iload_n 1, 1) := by decide +kernel
theorem dPi6 : decode prog_30_method_11_code 6 = .ok (.if_icmp .lt 10, 3) := by decide +kernel
theorem dPi16 : decode prog_30_method_11_code 16 = .ok (.iload_n 0, 1) := by decide +kernel
theorem dPi17 : decode prog_30_method_11_code 17 = .ok (.ireturn, 1) := by decide +kernel
theorem dCi0 : decode prog_22_method_155_code 0 = .ok (.iload_n 0, 1) := by decide +kernel
theorem dCi1 : decode prog_22_method_155_code 1 = .ok (.iload_n 1, 1) := by decide +kernel
theorem dCi2 : decode prog_22_method_155_code 2 = .ok (.getstatic 1053, 3) := by decide +kernel
theorem dCi5 : decode prog_22_method_155_code 5 = .ok (.invokestatic 1059, 3) := by decide +kernel
theorem dCi8 : decode prog_22_method_155_code 8 = .ok (.pop, 1) := by decide +kernel
theorem dCi9 : decode prog_22_method_155_code 9 = .ok (.return_, 1) := by decide +kernel
theorem ik_good {w : Cond} (h : w ∈ ia_T) : w ∈ ia_T ∧ ((w.onTables && w.keeps) = true ∨ ∃ ty, w = .arrayClass ty) := ⟨h, good_of_word (List.mem_filter.mp h).2⟩
section KX4
variable (l : Launch) (D : va_G) (cA : Nat → ClassId) (xt : Nat → Nat) (base : Nat)
def pcPi (i n : Int32) (h : ia_H) : Array Value → State → Prop := fun a U => (a = [.int i, .int n, .null].toArray ∨ ∃ t, a = [.int i, .int n, .ref t].toArray) ∧ ia_rep D cA xt base h U.heap
theorem c_Pi {i n : Int32} (h0 : ¬ i < 0) (h1 : i < n) (h : ia_H) : Met l yPi wsPi rmPi (pcPi D cA xt base i n h) (ia_Qc D cA xt base (some (.int i), h)) 0 0 (fun q => base ≤ q) := by
  refine va_MetF (cc := prog_30_method_11_code) (maxL := 3) (ret := some .int) (by decide) rfl ?_
  intro p e s m args below meth c s₁ B hml ⟨hargs, hrep⟩
  have hx := B.exec
  have hb := B.bytes
  have hr := B.returns
  have hlocks := B.notSynchronized
  have post : ∀ (a : Array Value) (t : State), t.heap = s.heap → s.WarmedH t.vm → ia_Qc D cA xt base (some (.int i), h) a s (.returned (some (.int i))) t := fun a t ht _ => ⟨rfl, by rw [ht]; exact hrep, va_S.rf.F ht⟩
  have go : ∀ (v : Value) (ls : Array Slot), lv_has ls 3 [(0, .int i), (1, .int n), (2, v)] → W p l e (headSpec wsPi rmPi).room s m args below meth c s.heap [] 0 0 (MQ below (ia_Qc D cA xt base (some (.int i), h)) args s 0 0 (fun q => base ≤ q)) (F0 m 0 ls []) := by
    intro v ls hl
    refine lv_iload_n hx hb dPi0 rfl (lv_at hl 0 rfl) ?_
    refine lv_if_lt (tgt := 9) hx hb dPi1 (by decide) (fun q => absurd q h0) (fun _ => ?_)
    refine lv_iload_n hx hb dPi4 rfl (lv_at hl 0 rfl) ?_
    refine lv_iload_n hx hb dPi5 rfl (lv_at hl 1 rfl) ?_
    refine lv_icmp_lt (tgt := 16) hx hb dPi6 (by decide) (fun _ => ?_) (fun q => absurd h1 q)
    refine lv_iload_n hx hb dPi16 rfl (lv_at hl 0 rfl) ?_
    exact W.iret hx hb (by rw [hr]) (post args) (fun q hq => nomatch hq) dPi17
  rcases hargs with rfl | ⟨t, rfl⟩
  · have hl := lv_entry ([.int i, .int n, .null]) (n := 3) (Nat.le_of_ble_eq_true rfl)
    rw [lg_entry_eq]
    exact go .null _ hl
  · have hl := lv_entry ([.int i, .int n, .ref t]) (n := 3) (Nat.le_of_ble_eq_true rfl)
    rw [lg_entry_eq]
    exact go (.ref t) _ hl
theorem pcPi_blind (i n : Int32) (h : ia_H) : FrameBlind (pcPi D cA xt base i n h) := fun a U g mk q => q
theorem c_Ci {xs : List Int32} {E : State → Prop} {i n : Int32} (h0 : ¬ i < 0) (h1 : i < n) (h : ia_H) : Met l yCi wsCi rmCi (ia_Pc D cA xt base xs E [.int i, .int n] h) (ia_Qc D cA xt base (none, h)) 0 0 (fun q => base ≤ q) := by
  refine va_MetF (cc := prog_22_method_155_code) (maxL := 2) (ret := none) (by decide) rfl ?_
  intro p e s m args below meth c s₁ B hml hP
  obtain ⟨rfl, hrep, hX⟩ := hP
  have hx := B.exec
  have hb := B.bytes
  have hr := B.returns
  have hlocks := B.notSynchronized
  have hts0 := atoms_spec (ws := wsCi) B.pre
  have hts : ∀ w ∈ ia_T, w.before ([Value.int i, Value.int n].map (ia_tr xt base)).toArray s = true := fun w hw => hts0 w (List.mem_cons_of_mem _ hw)
  have hown : s.vm.findClass "java/lang/String" = some m.cls := findClass_of_methodNamed B.named
  have post : ∀ (a : Array Value) (t : State), t.heap = s.heap → s.WarmedH t.vm → ia_Qc D cA xt base (none, h) a s (.returned none) t := fun a t ht _ => ⟨rfl, by rw [ht]; exact hrep, va_S.rf.F ht⟩
  have hgood : GoodIn ia_T (va_wsS "java/lang/String" 1059 yPi wsPi) := by
    intro w hw
    rcases List.mem_append.mp hw with hw | hw
    · simp only [List.mem_cons, List.not_mem_nil, or_false] at hw
      rcases hw with rfl | rfl | rfl
      · exact ik_good ik_lk2
      · exact ik_good ik_st2
      · exact ik_good ik_ini2
    · rcases List.mem_cons.mp hw with rfl | hw
      · exact ik_good ik_co2
      · exact ik_good hw
  have hl := lv_entry ([.int i, .int n]) (n := 2) (Nat.le_of_ble_eq_true rfl)
  show W p l e _ s m _ below meth c s.heap [] 0 0 _ (entryFrame m ([.int i, .int n] : List Value).toArray 2)
  rw [lg_entry_eq]
  generalize (lg_sl ([.int i, .int n]) ++ List.replicate (2 - (lg_sl ([.int i, .int n])).length) Slot.unset).toArray = ls at hl ⊢
  have hl : lv_has ls 2 [(0, .int i), (1, .int n)] := hl
  refine lv_iload_n hx hb dCi0 rfl (lv_at hl 0 rfl) ?_
  refine lv_iload_n hx hb dCi1 rfl (lv_at hl 1 rfl) ?_
  have go : ∀ v : Value, (v = .null ∨ ∃ t, v = .ref t) → W p l e (headSpec wsCi rmCi).room s m ([Value.int i, Value.int n].map (ia_tr xt base)).toArray below meth c s.heap [] 0 0 (MQ below (ia_Qc D cA xt base (none, h)) ([Value.int i, Value.int n].map (ia_tr xt base)).toArray s 0 0 (fun q => base ≤ q)) (F0 m 5 ls [v, .int n, .int i]) := by
    intro v hv
    have cw := va_cwS (R := (headSpec wsCi rmCi).room) (s := s) (args := ([Value.int i, Value.int n].map (ia_tr xt base)).toArray) (own := "java/lang/String") (index := 1059) (y := yPi) (bytes := prog_30_method_11_code) (maxL := 3) (ret := some .int) (ws := wsPi) (rm := rmPi) 3 hts hgood rfl rfl rfl (by decide +kernel) ⟨by decide, by decide⟩
    refine ia_callW (r := (some (.int i), h)) (va_runS (S := ⟨hx, hb, hml, hown, hts⟩) (As := [.int i, .int n, v]) (rest := []) (c_Pi l D cA xt base h0 h1 h) cw ⟨pcPi_blind D cA xt base i n h, fun U hU _ => ⟨?_, by rw [hU]; exact hrep⟩⟩ rfl rfl hl.1 rfl (lv_room (by decide)) dCi5 ⟨Nat.le_refl _, Nat.le_refl _⟩) va_S.rf (fun H' locs' hr' hS' => ?_)
    · rcases hv with rfl | ⟨t, rfl⟩
      · exact Or.inl rfl
      · exact Or.inr ⟨t, rfl⟩
    · refine lv_pop hx hb dCi8 rfl ?_
      exact W.vret hx hb (by rw [hr]) (fun t ht _ => ⟨rfl, by rw [ht]; exact hr', hS'.F ht⟩) hS'.2.2 dCi9
  rcases hX.2.2.2.2.2.2.1.2.1 with hZ | ⟨t, hZ⟩
  · exact va_gets hx hb hZ va_S.rf hown (hts _ ik_fl) (fun _ h9 => h9) dCi2 (go .null (Or.inl rfl))
  · exact va_gets hx hb hZ va_S.rf hown (hts _ ik_fl) (fun _ h9 => h9) dCi2 (go (.ref t) (Or.inr ⟨t, rfl⟩))
end KX4
