/-! ring: its words, what it wants of the start, runs up to a cut, its code (written by wip/whole/genring.py). -/
set_option maxRecDepth 100000 in
theorem ir_k115 : (Jvm.Cond.classLink "EngagedTone" (115 : Nat) "java/lang/IndexOutOfBoundsException") ∈ ia_T := ia_in5 (List.mem_of_getElem? (i := 199) rfl) rfl
set_option maxRecDepth 100000 in
theorem ir_k141 : (Jvm.Cond.classLink "EngagedTone" (141 : Nat) "java/util/NoSuchElementException") ∈ ia_T := ia_in6 (List.mem_of_getElem? (i := 25) rfl) rfl
set_option maxRecDepth 100000 in
theorem ir_l13 : (Jvm.Cond.classLink "EngagedToneLaw" (13 : Nat) "java/lang/IndexOutOfBoundsException") ∈ ia_T := ia_in5 (List.mem_of_getElem? (i := 193) rfl) rfl
set_option maxRecDepth 100000 in
theorem ir_l15 : (Jvm.Cond.classLink "EngagedToneLaw" (15 : Nat) "java/util/NoSuchElementException") ∈ ia_T := ia_in5 (List.mem_of_getElem? (i := 194) rfl) rfl
set_option maxRecDepth 100000 in
theorem ir_l7 : (Jvm.Cond.methodLink "EngagedToneLaw" (7 : Nat) ({ cls := "EngagedTone", name := "ring", desc := "(II)I" } : Jvm.MethodName)) ∈ ia_T := ia_in5 (List.mem_of_getElem? (i := 195) rfl) rfl
set_option maxRecDepth 100000 in
theorem ir_in : (Jvm.Cond.instanceMethod ({ cls := "EngagedTone", name := "ring", desc := "(II)I" } : Jvm.MethodName)) ∈ ia_T := ia_in5 (List.mem_of_getElem? (i := 196) rfl) rfl
set_option maxRecDepth 100000 in
theorem ir_se : (Jvm.Cond.selects "EngagedTone" ({ cls := "EngagedTone", name := "ring", desc := "(II)I" } : Jvm.MethodName) ({ cls := "EngagedTone", name := "ring", desc := "(II)I" } : Jvm.MethodName)) ∈ ia_T := ia_in5 (List.mem_of_getElem? (i := 197) rfl) rfl
set_option maxRecDepth 100000 in
theorem ir_co : (Jvm.Cond.code ({ cls := "EngagedTone", name := "ring", desc := "(II)I" } : Jvm.MethodName) prog_1_method_7_code (3 : Nat) (Option.some Jvm.ClassFile.FieldType.int)) ∈ ia_T := ia_in5 (List.mem_of_getElem? (i := 198) rfl) rfl
set_option maxRecDepth 100000 in
theorem ir_l39 : (Jvm.Cond.methodLink "EngagedToneLaw" (39 : Nat) ({ cls := "EngagedToneLaw", name := "ring", desc := "(LEngagedTone;II[J)I" } : Jvm.MethodName)) ∈ ia_T := ia_in5 (List.mem_of_getElem? (i := 190) rfl) rfl
set_option maxRecDepth 100000 in
theorem ir_st : (Jvm.Cond.static ({ cls := "EngagedToneLaw", name := "ring", desc := "(LEngagedTone;II[J)I" } : Jvm.MethodName)) ∈ ia_T := ia_in5 (List.mem_of_getElem? (i := 191) rfl) rfl
set_option maxRecDepth 100000 in
theorem ir_cw : (Jvm.Cond.codeWith ({ cls := "EngagedToneLaw", name := "ring", desc := "(LEngagedTone;II[J)I" } : Jvm.MethodName) method_3_code (5 : Nat) (Option.some Jvm.ClassFile.FieldType.int) [((0 : Nat), (10 : Nat), (13 : Nat), (13 : Nat)), ((0 : Nat), (10 : Nat), (17 : Nat), (15 : Nat))]) ∈ ia_T := ia_in5 (List.mem_of_getElem? (i := 192) rfl) rfl
set_option maxRecDepth 100000 in
theorem ir_i22 : (Jvm.Cond.initialized "java/lang/IndexOutOfBoundsException") ∈ ia_T := ia_in1 (List.mem_of_getElem? (i := 22) rfl) rfl
set_option maxRecDepth 100000 in
theorem ir_i23 : (Jvm.Cond.initialized "java/util/NoSuchElementException") ∈ ia_T := ia_in1 (List.mem_of_getElem? (i := 23) rfl) rfl
set_option maxRecDepth 100000 in
theorem ir_i9 : (Jvm.Cond.initialized "EngagedTone") ∈ ia_T := ia_in1 (List.mem_of_getElem? (i := 1) rfl) rfl
set_option maxRecDepth 100000 in
theorem ir_i11 : (Jvm.Cond.initialized "EngagedToneLaw") ∈ ia_T := ia_in1 (List.mem_of_getElem? (i := 0) rfl) rfl
def irIO : String := "java/lang/IndexOutOfBoundsException"
def irNS : String := "java/util/NoSuchElementException"
def irNm : List String := ["java/lang/Exception"]
def irRE : String := "java/lang/RuntimeException"
def irB : List Cond := [.castable irIO irIO, .castable irNS irNS, .declares ⟨"java/lang/RuntimeException", "<init>", "(Ljava/lang/String;)V"⟩, .declares ⟨"java/lang/Exception", "<init>", "(Ljava/lang/String;)V"⟩, .declares ⟨"java/lang/Throwable", "<init>", "(Ljava/lang/String;)V"⟩]
theorem ir_g0 : ∀ w ∈ (ixAt RX9 119 irIO irRE 7 prog_18_method_2_code irNm).filter goodWord, w ∈ lw_tbl := by decide +kernel
theorem ir_g1 : ∀ w ∈ (ixAt RX9 145 irNS irRE 13 prog_29_method_4_code irNm).filter goodWord, w ∈ lw_tbl := by decide +kernel
theorem ir_b0 : ∀ w ∈ (ixAt RX9 119 irIO irRE 7 prog_18_method_2_code irNm).filter (fun w => !goodWord w), w ∈ irB := by decide +kernel
theorem ir_b1 : ∀ w ∈ (ixAt RX9 145 irNS irRE 13 prog_29_method_4_code irNm).filter (fun w => !goodWord w), w ∈ irB := by decide +kernel
theorem ir_o0 : ∀ w ∈ Cond.classLink RX9 115 irIO :: Cond.initialized irIO :: ixAt RX9 119 irIO irRE 7 prog_18_method_2_code irNm, vx_ot w = true := by decide +kernel
theorem ir_o1 : ∀ w ∈ Cond.classLink RX9 141 irNS :: Cond.initialized irNS :: ixAt RX9 145 irNS irRE 13 prog_29_method_4_code irNm, vx_ot w = true := by decide +kernel
theorem ir_bt : ∀ w ∈ irB, w ∈ lw_tbl := by decide +kernel
theorem ir_bo : ∀ w ∈ irB, w.onTables = true := by decide +kernel
/-- what ring wants of the start beside the tables -/
def irE (base sa sb : Nat) (s : State) : Prop := (∀ w ∈ irB, va_Nw w s) ∧ vx_Zq Bundle.tN "UNASSIGNED_STACK" Bundle.steD (fun q => base ≤ q) s s.heap ∧ vx_Zq Bundle.tN "SUPPRESSED_SENTINEL" Bundle.listD (fun q => base ≤ q) s s.heap ∧ vk_R RX9 117 "no such call" sa s ∧ vk_R RX9 143 "no such what" sb s ∧ va_Nc irNS irIO s
theorem ir_Ek (base sa sb : Nat) : ia_Ek base (irE base sa sb) := by
  refine ⟨fun u U hW hq h => ?_, fun u U hv hh h => ?_⟩
  · obtain ⟨h1, h2, h3, h4, h5, h6⟩ := h
    have hk : ∀ a : Nat, a < u.heap.size → ¬ base ≤ a → U.heap[a]? = u.heap[a]? := fun a _ ha => hq a (Nat.not_le.mp ha)
    refine ⟨fun w hw => ?_, (vx_Zq.moved hW.alike h2).kept hk, (vx_Zq.moved hW.alike h3).kept hk, h4.warm hW, h5.warm hW, h6.moved hW.alike⟩
    have h9 := h1 w hw
    simp only [irB, List.mem_cons, List.not_mem_nil, or_false] at hw
    rcases hw with rfl | rfl | rfl | rfl | rfl
    · exact va_Nw.warmC hW h9
    · exact va_Nw.warmC hW h9
    · exact va_Nw.warmD hW h9
    · exact va_Nw.warmD hW h9
    · exact va_Nw.warmD hW h9
  · obtain ⟨h1, h2, h3, h4, h5, h6⟩ := h
    have ha : u.vm.Alike U.vm := by rw [hv]; exact Vm.Alike.refl u.vm
    refine ⟨fun w hw => va_Nw.same (ir_bo w hw) hv.symm (h1 w hw), by rw [hh]; exact vx_Zq.moved ha h2, by rw [hh]; exact vx_Zq.moved ha h3, h4.same hv, h5.same hv, h6.moved ha⟩
section KX6
variable {p : Program} {l : Launch} {e : Env} {R : Room} {s : State} {m : MethodId} {args : Array Value} {below : List Frame} {meth : Method} {c : Code} {Q : State → Prop} {D : va_G} {cA : Nat → ClassId} {xt : Nat → Nat} {base : Nat} {xs : List Int32} {E : State → Prop} {o nL : Nat} {cc : ByteArray} {ini : Bool} {rt : Option FieldType} {code : List ia_I} {h0 : ia_H} {r : ia_R} {d : Nat} {cal : Nat → List Value → ia_H → Option ia_R} {bk : ia_K4}
/-- a run up to a cut, where something else takes over -/
theorem ia_goS (hE : ia_Ek base E) (C : ia_C p s m args c D cA xt base xs E o nL cc) (hnm : ini = true → meth.name = "<init>") (hR1 : R.cells + h0.1 = r.2.1) (hR2 : R.slots + h0.2.1 = r.2.2.1) (hR3 : d + 21 ≤ R.frames) (hR4 : 64 * d + 2064 ≤ R.locals)
    (hcm : ∀ j as h q, cal j as h = some q → h.1 ≤ q.2.1 ∧ h.2.1 ≤ q.2.2.1) (hcal : ∀ j as h q, j ∈ ia_jL → cal j as h = some q → ia_Mt l D cA xt base xs E d j as h q)
    (hsp : ia_So p l e R s m args below meth c Q D cA xt base h0 r o cc) (hok : ∀ t ei, ia_nth code t = some ei → ei.2.2.2.2.2 = none → ia_okB o ini cc code rt t ei = true)
    (hbm : ∀ t ls st h, bk t ls st h = some r → h.1 ≤ r.2.1 ∧ h.2.1 ≤ r.2.2.1)
    (hbk : ∀ (t : Nat) (ls st : List Value) (h : ia_H) (H : Heap) (locs : List Loc) (cells slots : Nat) (sl : Array Slot), bk t ls st h = some r → ia_Z D cA xt base s h0 h H locs cells slots → ia_lr (ia_tr xt base) sl ls → ls.length = nL → W p l e R s m args below meth c H locs cells slots Q (F0 m (ia_pcOf code t) sl (st.map (ia_tr xt base))))
    (hret : ∀ (pc : Nat) (v : Option Value) (h : ia_H) (H : Heap) (locs : List Loc) (cells slots : Nat) (sl : Array Slot), ia_Ro cc rt pc v → r = (v, h) → ia_Z D cA xt base s h0 h H locs cells slots → W p l e R s m args below meth c H locs cells slots Q (F0 m pc sl (v.toList.map (ia_tr xt base)))) :
    ∀ (f t : Nat) (ls st : List Value) (h : ia_H) (H : Heap) (locs : List Loc) (cells slots : Nat) (sl : Array Slot), ia_go xs ia_dfl ia_spec code cal bk f t ls st h = some r → ia_Z D cA xt base s h0 h H locs cells slots → ia_lr (ia_tr xt base) sl ls → ls.length = nL →
      W p l e R s m args below meth c H locs cells slots Q (F0 m (ia_pcOf code t) sl (st.map (ia_tr xt base))) := by
  intro f
  induction f with
  | zero => intro t ls st h H locs cells slots sl e1; cases e1
  | succ f ihf =>
    intro t ls st h H locs cells slots sl e1 hZ hl hnl
    simp only [ia_go] at e1
    split at e1
    · cases e1
    · rename_i ei hei
      split at e1
      · rename_i kl hkl
        exact hbk _ _ _ _ _ _ _ _ _ e1 hZ (hl.kill kl) (by rw [ia_kill_len]; exact hnl)
      · rename_i hno
        rw [ia_pcOf_of hei]
        exact ia_stepW hE C hnm hR1 hR2 hR3 hR4 (fun t ls st h q => ia_goM hbm hcm f t ls st h q) hcal hsp (fun t' ls' st' h' H' locs' cells' slots' sl' => ihf t' ls' st' h' H' locs' cells' slots' sl') hret (hok t ei hei hno) e1 hZ hl hnl
end KX6
def irC : List ia_I := [
  (.aload_n 0, [0], [], .null, 0, none),
  (.iload_n 1, [1], [], .null, 1, none),
  (.invokevirtual 111, [0, 145, 2, 1, 9], [], .null, 2, none),
  (.ifCond .ne 13, [5], [], .null, 5, none),
  (.new 115, [], [], .null, 8, some []),
  (.iload_n 2, [2], [], .null, 18, none),
  (.tableswitch 97 0 5 #[37, 47, 57, 67, 77, 87], [43, 7, 13, 19, 25, 31, 37], [0, 1, 2, 3, 4, 5], .null, 19, none),
  (.aload_n 0, [0], [], .null, 56, none),
  (.getfield 25, [9, 3, 1], [], .null, 57, none),
  (.getfield 122, [8, 10, 1], [], .null, 60, none),
  (.iload_n 1, [1], [], .null, 63, none),
  (.iaload, [], [], .null, 64, none),
  (.ireturn, [], [], .null, 65, none),
  (.aload_n 0, [0], [], .null, 66, none),
  (.getfield 25, [9, 3, 1], [], .null, 67, none),
  (.getfield 126, [8, 11, 1], [], .null, 70, none),
  (.iload_n 1, [1], [], .null, 73, none),
  (.iaload, [], [], .null, 74, none),
  (.ireturn, [], [], .null, 75, none),
  (.aload_n 0, [0], [], .null, 76, none),
  (.getfield 25, [9, 3, 1], [], .null, 77, none),
  (.getfield 129, [8, 12, 1], [], .null, 80, none),
  (.iload_n 1, [1], [], .null, 83, none),
  (.iaload, [], [], .null, 84, none),
  (.ireturn, [], [], .null, 85, none),
  (.aload_n 0, [0], [], .null, 86, none),
  (.getfield 25, [9, 3, 1], [], .null, 87, none),
  (.getfield 132, [8, 13, 1], [], .null, 90, none),
  (.iload_n 1, [1], [], .null, 93, none),
  (.iaload, [], [], .null, 94, none),
  (.ireturn, [], [], .null, 95, none),
  (.aload_n 0, [0], [], .null, 96, none),
  (.getfield 25, [9, 3, 1], [], .null, 97, none),
  (.getfield 135, [8, 14, 1], [], .null, 100, none),
  (.iload_n 1, [1], [], .null, 103, none),
  (.iaload, [], [], .null, 104, none),
  (.ireturn, [], [], .null, 105, none),
  (.aload_n 0, [0], [], .null, 106, none),
  (.getfield 25, [9, 3, 1], [], .null, 107, none),
  (.getfield 138, [8, 15, 1], [], .null, 110, none),
  (.iload_n 1, [1], [], .null, 113, none),
  (.iaload, [], [], .null, 114, none),
  (.ireturn, [], [], .null, 115, none),
  (.new 141, [], [], .null, 116, some [])]
/-- where ring throws: told by a number -/
def irK : ia_K4 := fun t _ st h => match st with
  | [] => if t = 4 then some (some (.float 1), (h.1 + 1, h.2.1 + 6, h.2.2)) else if t = 43 then some (some (.float 2), (h.1 + 1, h.2.1 + 6, h.2.2)) else none
  | _ => none
def irR (xs : List Int32) (d x : Nat) (p0 p1 : Int32) (h : ia_H) : Option ia_R := ia_go xs ia_dfl ia_spec irC (ia_cal xs d) irK 60 0 [.ref x, .int p0, .int p1] [] h
theorem irC_ok : ∀ t ei, ia_nth irC t = some ei → ei.2.2.2.2.2 = none → ia_okB 9 false prog_1_method_7_code irC (some .int) t ei = true := by
  have key : (List.range irC.length).all (fun t => match ia_nth irC t with
    | some e => (match e.2.2.2.2.2 with
      | none => ia_okB 9 false prog_1_method_7_code irC (some .int) t e
      | some _ => true)
    | none => true) = true := by decide +kernel
  intro t ei h1 h2
  have hlt : ∀ (l : List ia_I) (t : Nat), ia_nth l t = some ei → t < l.length := by
    intro l
    induction l with
    | nil => intro t h; cases t <;> cases h
    | cons x l ih =>
      intro t h
      cases t with
      | zero => exact Nat.zero_lt_succ _
      | succ t => exact Nat.succ_lt_succ (ih t h)
  have := List.all_eq_true.mp key t (List.mem_range.mpr (hlt _ _ h1))
  simp only [h1, h2] at this
  exact this
set_option maxRecDepth 100000 in
theorem irR_eq (xs : List Int32) (d x : Nat) (p0 p1 : Int32) (h : ia_H) : irR xs d x p0 p1 h = (if ia_cls h x = 9 then ia_cI (ia_cal xs d im_Eng_isRing [.ref x, .int p0] h) (fun x2 h1 => if x2 = 0 then some (some (.float 1), (h1.1 + 1, h1.2.1 + 6, h1.2.2)) else
    (if p1 = 0 then (ia_getR h1 x 9 3).bind fun w => (ia_getR h1 w 8 10).bind fun a => (ia_ald h1 a 0 p0).bind fun v => some (some (.int v), h1)
    else if p1 = 1 then (ia_getR h1 x 9 3).bind fun w => (ia_getR h1 w 8 11).bind fun a => (ia_ald h1 a 0 p0).bind fun v => some (some (.int v), h1)
    else if p1 = 2 then (ia_getR h1 x 9 3).bind fun w => (ia_getR h1 w 8 12).bind fun a => (ia_ald h1 a 0 p0).bind fun v => some (some (.int v), h1)
    else if p1 = 3 then (ia_getR h1 x 9 3).bind fun w => (ia_getR h1 w 8 13).bind fun a => (ia_ald h1 a 0 p0).bind fun v => some (some (.int v), h1)
    else if p1 = 4 then (ia_getR h1 x 9 3).bind fun w => (ia_getR h1 w 8 14).bind fun a => (ia_ald h1 a 0 p0).bind fun v => some (some (.int v), h1)
    else if p1 = 5 then (ia_getR h1 x 9 3).bind fun w => (ia_getR h1 w 8 15).bind fun a => (ia_ald h1 a 0 p0).bind fun v => some (some (.int v), h1)
    else some (some (.float 2), (h1.1 + 1, h1.2.1 + 6, h1.2.2)))) else none) := rfl
