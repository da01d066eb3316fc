/-! What a method's run rests on; its contract; the rows for cells and calls. -/
/-- what is known of the String constants and of two statics of the JDK -/
def ia_XS (xt : Nat → Nat) (A : Nat → Prop) (s : State) (H : Heap) : Prop :=
  va_Z "java/lang/String" "COMPACT_STRINGS" "Z" (.int 1) A s H ∧ va_Zq "jdk/internal/util/Preconditions" "SIOOBE_FORMATTER" "Ljava/util/function/BiFunction;" A s H ∧
  ∀ j, ia_isS j = true → va_O "java/lang/String" (xt j) A s H ∧ va_OF "java/lang/String" "coder" "B" (.int 0) (xt j) A s H ∧ va_OF "java/lang/String" "value" "[B" (.ref (xt (10 + j))) (xt j) A s H ∧ va_T .byte (xt (10 + j)) (ia_str j).length (fun i => .int ((ia_str j).getD i 0)) A s H
theorem ia_XS.moved {xt : Nat → Nat} {A : Nat → Prop} {u U : State} {H : Heap} (hvm : u.vm.Alike U.vm) (h : ia_XS xt A u H) : ia_XS xt A U H :=
  ⟨h.1.moved hvm, h.2.1.moved hvm, fun j hj => ⟨(h.2.2 j hj).1.moved hvm, (h.2.2 j hj).2.1.moved hvm, (h.2.2 j hj).2.2.1.moved hvm, (h.2.2 j hj).2.2.2.moved hvm⟩⟩
theorem ia_XS.kept {xt : Nat → Nat} {A : Nat → Prop} {U : State} {H H1 : Heap} (h : ia_XS xt A U H) (hq : ∀ a : Nat, a < H.size → ¬ A a → H1[a]? = H[a]?) : ia_XS xt A U H1 :=
  ⟨h.1.kept hq, h.2.1.kept hq, fun j hj => ⟨(h.2.2 j hj).1.kept hq, (h.2.2 j hj).2.1.kept hq, (h.2.2 j hj).2.2.1.kept hq, (h.2.2 j hj).2.2.2.kept hq⟩⟩
/-- what lies outside: classes, links of the nest, the script, the texts; E: what else is wanted -/
def ia_X (D : va_G) (cA : Nat → ClassId) (xt : Nat → Nat) (base : Nat) (xs : List Int32) (E : State → Prop) (s : State) : Prop :=
  ia_KK D cA s ∧ (∀ q ∈ ia_nst, va_Nw (ia_nsw q) s) ∧ va_X (xt 0) xs.length (fun j => xs.getD j 0) s s.heap ∧ xt 0 < base ∧ base ≤ s.heap.size ∧ (∀ q ∈ ia_strL, vk_R (ia_on q.1) q.2.1 (ia_strT q.2.2) (xt q.2.2) s) ∧ ia_XS xt (fun q => base ≤ q) s s.heap ∧ E s
/-- E stays while what is old stays -/
def ia_Ek (base : Nat) (E : State → Prop) : Prop := (∀ u U : State, u.WarmedH U.vm → (∀ q, q < base → U.heap[q]? = u.heap[q]?) → E u → E U) ∧ ∀ u U : State, U.vm = u.vm → U.heap = u.heap → E u → E U
def ia_C (p : Program) (s : State) (m : MethodId) (args : Array Value) (c : Code) (D : va_G) (cA : Nat → ClassId) (xt : Nat → Nat) (base : Nat) (xs : List Int32) (E : State → Prop) (o nL : Nat) (cc : ByteArray) : Prop :=
  p.tables.exec = Jvm.exec ∧ c.code = cc ∧ c.maxLocals = nL ∧ s.vm.findClass (ia_on o) = some m.cls ∧ (∀ w ∈ ia_T, w.before args s = true) ∧ ia_X D cA xt base xs E s
def ia_Z (D : va_G) (cA : Nat → ClassId) (xt : Nat → Nat) (base : Nat) (s : State) (h0 h : ia_H) (H : Heap) (locs : List Loc) (cells slots : Nat) : Prop :=
  ia_rep D cA xt base h H ∧ va_S (fun q => base ≤ q) s.heap H locs ∧ cells + h0.1 = h.1 ∧ slots + h0.2.1 = h.2.1
def ia_Pc (D : va_G) (cA : Nat → ClassId) (xt : Nat → Nat) (base : Nat) (xs : List Int32) (E : State → Prop) (as : List Value) (h : ia_H) : Array Value → State → Prop := fun a U => a = (as.map (ia_tr xt base)).toArray ∧ ia_rep D cA xt base h U.heap ∧ ia_X D cA xt base xs E U
def ia_Qc (D : va_G) (cA : Nat → ClassId) (xt : Nat → Nat) (base : Nat) (r : ia_R) : Array Value → State → Outcome → State → Prop := fun _ st o t => o = .returned (r.1.map (ia_tr xt base)) ∧ ia_rep D cA xt base r.2 t.heap ∧ va_F (fun q => base ≤ q) st t
def ia_rm (d mc ms : Nat) : Room := { frames := d + 20, cells := mc, slots := ms, locals := 64 * d + 2000 }
def ia_ws (j : Nat) : List Cond := Cond.code (ia_yy j) (ia_bb j) (ia_pg j).2 (ia_rt j) :: ia_T
/-- the contract of method j at these arguments and this heap -/
def ia_Mt (l : Launch) (D : va_G) (cA : Nat → ClassId) (xt : Nat → Nat) (base : Nat) (xs : List Int32) (E : State → Prop) (d j : Nat) (as : List Value) (h : ia_H) (r : ia_R) : Prop :=
  h.1 ≤ r.2.1 ∧ h.2.1 ≤ r.2.2.1 ∧ Met l (ia_yy j) (ia_ws j) (ia_rm d (r.2.1 - h.1) (r.2.2.1 - h.2.1)) (ia_Pc D cA xt base xs E as h) (ia_Qc D cA xt base r) (r.2.1 - h.1) (r.2.2.1 - h.2.1) (fun q => base ≤ q)
theorem ia_X.warm {D : va_G} {cA : Nat → ClassId} {xt : Nat → Nat} {base : Nat} {xs : List Int32} {E : State → Prop} (hE : ia_Ek base E) {s U : State} (hW : s.WarmedH U.vm) (hq : ∀ q, q < base → U.heap[q]? = s.heap[q]?) (hz : base ≤ U.heap.size) (h : ia_X D cA xt base xs E s) : ia_X D cA xt base xs E U := by
  obtain ⟨h1, h2, h3, h4, h5, h6, h8, h7⟩ := h
  exact ⟨h1.moved hW.alike, fun q hq => va_Nw.warmM hW (h2 q hq), (h3.moved hW.alike).kept (hq _ h4), h4, hz, fun q hq => (h6 q hq).warm hW, (h8.moved hW.alike).kept (fun a _ ha => hq a (Nat.not_le.mp ha)), hE.1 s U hW hq h7⟩
theorem ia_X.same {D : va_G} {cA : Nat → ClassId} {xt : Nat → Nat} {base : Nat} {xs : List Int32} {E : State → Prop} (hE : ia_Ek base E) {s U : State} (hv : U.vm = s.vm) (hh : U.heap = s.heap) (h : ia_X D cA xt base xs E s) : ia_X D cA xt base xs E U := by
  obtain ⟨h1, h2, h3, h4, h5, h6, h8, h7⟩ := h
  have ha : s.vm.Alike U.vm := by rw [hv]; exact Vm.Alike.refl s.vm
  exact ⟨h1.moved ha, fun q hq => va_Nw.same rfl hv.symm (h2 q hq), (h3.moved ha).kept (by rw [hh]), h4, by rw [hh]; exact h5, fun q hq => (h6 q hq).same hv, by rw [hh]; exact h8.moved ha, hE.2 s U hv hh h7⟩
theorem ia_blind {D : va_G} {cA : Nat → ClassId} {xt : Nat → Nat} {base : Nat} {xs : List Int32} {E : State → Prop} (hE : ia_Ek base E) (as : List Value) (h : ia_H) : FrameBlind (ia_Pc D cA xt base xs E as h) := by
  intro a U g mk ⟨h1, h2, h3⟩
  exact ⟨h1, h2, ia_X.same (s := U) hE (by rfl) (by rfl) h3⟩
theorem ia_good (j : Nat) (hj : ia_miP j) : GoodIn ia_T (ia_ws j) := by
  have key : ∀ w ∈ ia_T, w ∈ ia_T ∧ ((w.onTables && w.keeps) = true ∨ ∃ ty, w = .arrayClass ty) := fun w hw => ⟨hw, good_of_word (List.mem_filter.mp hw).2⟩
  intro w hw
  rcases List.mem_cons.mp hw with rfl | hw
  · exact key _ hj.2.2.1
  · exact key w hw
theorem ia_on_ok (o : Nat) : ia_on o ≠ "java/lang/invoke/MethodHandle" ∧ ia_on o ≠ "java/lang/invoke/VarHandle" := by
  have h9 : "java/lang/StringLatin1" ≠ "java/lang/invoke/MethodHandle" ∧ "java/lang/StringLatin1" ≠ "java/lang/invoke/VarHandle" := by decide +kernel
  match o with
  | 0 => decide +kernel
  | 1 => decide +kernel
  | 2 => decide +kernel
  | 3 => decide +kernel
  | 4 => decide +kernel
  | 5 => decide +kernel
  | 6 => decide +kernel
  | 7 => decide +kernel
  | 8 => decide +kernel
  | 9 => decide +kernel
  | 10 => decide +kernel
  | 11 => decide +kernel
  | 12 => decide +kernel
  | 13 => decide +kernel
  | 14 => decide +kernel
  | _ + 15 => exact h9
section IAW
variable {p : Program} {l : Launch} {e : Env} {R : Room} {s : State} {m : MethodId} {args : Array Value} {below : List Frame} {meth : Method} {c : Code} {H : Heap} {locs : List Loc} {cells slots : Nat} {Q : State → Prop} {cc : ByteArray} {pc : Nat} {sl : Array Slot} {rest : List Value}
variable {D : va_G} {cA : Nat → ClassId} {xt : Nat → Nat} {base : Nat} {h h0 : ia_H} {a : Nat}
theorem ia_KK.k (hK : ia_KK D cA s) : va_K D ia_cl [] s := ⟨hK.1, fun k q hk => by simp at hk⟩
theorem ia_KK.k1 (hK : ia_KK D cA s) {tg : Nat} (ht : tg < 4) : va_K D ia_cl [(cA tg, ia_ty tg)] s := ⟨hK.1, fun k q hk => by
  have hz : k = 0 := by
    have := (List.getElem?_eq_some_iff.mp hk).1
    simp only [List.length_cons, List.length_nil] at this
    omega
  subst hz
  cases hk
  refine ⟨(hK.2 tg ht).1, ?_⟩
  have h2 := (hK.2 tg ht).2
  match tg, ht with
  | 0, _ => exact h2
  | 1, _ => exact h2
  | 2, _ => exact h2
  | 3, _ => exact h2⟩
theorem ia_sing {D : va_G} {q : Nat × va_E} {H : Heap} (hq : va_at D ia_cl q H) : va_P D ia_cl [q] H := fun k x hk => by
  have hz : k = 0 := by
    have := (List.getElem?_eq_some_iff.mp hk).1
    simp only [List.length_cons, List.length_nil] at this
    omega
  subst hz
  cases hk
  exact hq
theorem ia_rep.obj (hr : ia_rep D cA xt base h H) {ci : Nat} {fs : List Value} (he : h.2.2 a = .inr (.inr (ci, fs))) {q : vw_C} (hc : ia_cl[ci]? = some q) : va_P D ia_cl [(base + a, .inr (ci, fs.map (ia_tr xt base)))] H := by
  refine ia_sing ⟨q, hc, ?_⟩
  have := hr.2.1 a (hr.lt3 he hc)
  rw [he] at this
  exact this q hc
theorem ia_rep.ints (hr : ia_rep D cA xt base h H) {tg : Nat} {x : List Int32} (he : h.2.2 a = .inl (tg, x)) : tg < 3 ∧ H[base + a]? = some (arrV (cA tg) x.length (fun j => .int (x.getD j 0))) := by
  have := hr.2.1 a (hr.lt1 he)
  rw [he] at this
  exact this
theorem ia_rep.longs (hr : ia_rep D cA xt base h H) {x : List Int64} (he : h.2.2 a = .inr (.inl x)) : H[base + a]? = some (arrV (cA 3) x.length (fun j => .long (x.getD j 0))) := by
  have := hr.2.1 a (hr.lt2 he)
  rw [he] at this
  exact this
theorem ia_in_of {i : Int32} {n : Nat} (h1 : ¬ i < 0) (h2 : i.toNatClampNeg < n) : vp_in i n := by
  intro q
  rcases q with q | q
  · exact h1 q
  · omega
/-- a field is read -/
theorem ia_getW (hx : p.tables.exec = Jvm.exec) (hb : c.code = cc) (hts : ∀ w ∈ ia_T, w.before args s = true) {o ix ci k kd : Nat} {f1 f2 : Bool} (hown : s.vm.findClass (ia_on o) = some m.cls) (hK : ia_KK D cA s) (hr : ia_rep D cA xt base h H) (hF : ia_find ix (ia_fl o) = some (ci, k, kd, f1, f2)) {fs : List Value} (he : h.2.2 a = .inr (.inr (ci, fs))) {v : Value} (hv : fs[k]? = some v) (hcl : ∀ (C : String) (T : u_T) (N : Nat), ia_cl[ci]? = some (C, T, N) → ia_clP ci C T N)
    (hdg : decode cc pc = .ok (.getfield ix, 3)) (kk : W p l e R s m args below meth c H locs cells slots Q (F0 m (pc + 3) sl (ia_tr xt base v :: rest))) : W p l e R s m args below meth c H locs cells slots Q (F0 m pc sl (.ref (base + a) :: rest)) := by
  obtain ⟨C, T, N, h1, h2, h3, -, -, -⟩ := ia_flO o _ (ia_find_mem hF)
  refine va_get (D := D) (ci := ci) (v := ia_tr xt base v) (C := C) (T := T) (N := N) hx hb hts (hcl C T N h1).1 hown hK.k (hr.obj he h1) 0 rfl h1 k h2 (hts _ h3) (fun _ h9 => h9) ?_ hdg kk
  rw [List.getElem?_map, hv]
  rfl
/-- a field is written -/
theorem ia_putW (hx : p.tables.exec = Jvm.exec) (hb : c.code = cc) (hts : ∀ w ∈ ia_T, w.before args s = true) {o ix ci k kd : Nat} {f1 f2 : Bool} (hown : s.vm.findClass (ia_on o) = some m.cls) (hK : ia_KK D cA s) (hZ : ia_Z D cA xt base s h0 h H locs cells slots) (hF : ia_find ix (ia_fl o) = some (ci, k, kd, f1, f2)) {fs : List Value} (he : h.2.2 a = .inr (.inr (ci, fs))) {v : Value} (hl : k < fs.length) (hcl : ∀ (C : String) (T : u_T) (N : Nat), ia_cl[ci]? = some (C, T, N) → ia_clP ci C T N)
    (hfin : f1 = false ∨ (meth.name = "<init>" ∧ f2 = true)) (hn : narrow (ia_tyf ci k) (ia_tr xt base v) = ia_tr xt base v) (hfit : fits (ia_tyf ci k) (ia_tr xt base v) = true)
    (hdg : decode cc pc = .ok (.putfield ix, 3)) (kk : ∀ (H' : Heap) (locs' : List Loc), ia_Z D cA xt base s h0 (ia_up h a (.inr (.inr (ci, fs.set k v)))) H' locs' cells slots → W p l e R s m args below meth c H' locs' cells slots Q (F0 m (pc + 3) sl rest)) : W p l e R s m args below meth c H locs cells slots Q (F0 m pc sl (ia_tr xt base v :: .ref (base + a) :: rest)) := by
  obtain ⟨C, T, N, hc, hk, hlk, hf1, hf2, -⟩ := ia_flO o _ (ia_find_mem hF)
  dsimp only at hc hk hlk hf1 hf2
  obtain ⟨hr, hS, hz1, hz2⟩ := hZ
  obtain ⟨hin, hty, hnm, -, -⟩ := hcl C T N hc
  have hap := va_apart (own := ia_on o) (args := args) (D := D) (tys := []) hts hin (ia_tyf ci) hty hnm hK.k hc
  have hob := hr.2.1 a (hr.lt3 he hc)
  rw [he] at hob
  obtain ⟨cell, q1, q2, q3, q4⟩ := hob (C, T, N) hc
  obtain ⟨hSl, hfc, kC, hkC, hkind⟩ := hK.1 ci _ hc
  obtain ⟨cf, kf, fi, f, hi, hsl⟩ := hSl k hk
  have hst := (u_facts hfc hkC (u_lays hts hin hk) hi).1
  have hlay := hts _ (hin _ (u_in_lay hk))
  have fin : ∀ (H' : Heap) (k' : Nat), H'[base + a]? = some (cell.setSlot f.slot (ia_tr xt base v)) → H'.size = H.size → (∀ q, q ≠ base + a → H'[q]? = H[q]?) → W p l e R s m args below meth c H' (locs ++ [⟨base + a, k'⟩]) cells slots Q (F0 m (pc + 3) sl rest) := by
    intro H' k' e1 e2 e3
    rw [hsl] at e1
    refine kk H' _ ⟨hr.set (hr.lt3 he hc) e2 e3 ?_, hS.put e2 e3 (Nat.le_add_right base a), hz1, hz2⟩
    intro r' hr'
    have e9 : r' = (C, T, N) := Option.some.inj (hr'.symm.trans hc)
    subst e9
    refine t_OB.to (V := updV (vp_V (fs.map (ia_tr xt base))) k (ia_tr xt base v)) ⟨_, e1, q2, q3, t_set q4 hap hk _⟩ (fun j _ => ?_)
    rw [vp_updV_set (by simpa using hl), ← List.map_set]
  rcases Bool.eq_false_or_eq_true f1 with hb1 | hb1
  · subst hb1
    have hlay2 := hlay
    unfold u_lay at hlay2
    rw [if_pos hf1] at hlay2
    obtain ⟨hin2, hsame⟩ := hfin.resolve_left (by decide)
    have hdecl := hf2 hsame
    have hcf : m.cls = cf := by
      obtain ⟨_, _, c', _, _, _, -, -, hf', -, -, -, hown2, -⟩ := Cond.laysFinal_spec hlay2
      have e1 : c' = cf := by have := hi.symm.trans hf'; simp at this; exact this.1.symm
      rw [hdecl] at hown2
      rw [← e1]; exact Option.some.inj (hown.symm.trans hown2)
    have h6 := u_fits hfc hkC hkind (Or.inr hlay2) hi (hty k hk) hn hfit
    exact W.putFinK hx hb hown (hts _ hlk) hi hst hcf hin2 (by rw [q2]; exact h6) q1 q3 (by rw [hsl]; exact k2_hasslot (q4 k hk)) rfl rfl hdg fun H' e1 e2 e3 => fin H' _ e1 e2 e3
  · subst hb1
    have hlay2 := hlay
    unfold u_lay at hlay2
    rw [if_neg (by rw [hf1]; decide)] at hlay2
    have h6 := u_store hfc hkC hkind hlay2 hi (hty k hk) hn hfit
    exact W.putK hx hb (f := f) ⟨hown, hts _ hlk, ⟨_, _, _, hi⟩, hst⟩ (by rw [q2]; exact h6) q1 q3 (by rw [hsl]; exact k2_hasslot (q4 k hk)) rfl rfl hdg fun H' e1 e2 e3 => fin H' _ e1 e2 e3
theorem ia_getD_of {α : Type} {x : List α} {i : Nat} {v d : α} (h : x[i]? = some v) : x.getD i d = v := by
  rw [List.getD_eq_getElem?_getD, h]
  rfl
theorem ia_ildW (hx : p.tables.exec = Jvm.exec) (hb : c.code = cc) (hK : ia_KK D cA s) (hr : ia_rep D cA xt base h H) {x : List Int32} (he : h.2.2 a = .inl (0, x)) {i v : Int32} (hi : ¬ i < 0) (hv : x[i.toNatClampNeg]? = some v) (hdg : decode cc pc = .ok (.iaload, 1))
    (kk : W p l e R s m args below meth c H locs cells slots Q (F0 m (pc + 1) sl (.int v :: rest))) : W p l e R s m args below meth c H locs cells slots Q (F0 m pc sl (.int i :: .ref (base + a) :: rest)) := by
  refine va_iald (a := base + a) (D := D) (cl := ia_cl) (ws := [(base + a, .inl (cA 0, x.length, .inl (fun j => x.getD j 0)))]) hx hb (hK.k1 (tg := 0) (by decide)) (ia_sing (hr.ints he).2) 0 0 rfl rfl (ia_in_of hi (List.getElem?_eq_some_iff.mp hv).1) hdg ?_
  rw [ia_getD_of hv]
  exact kk
theorem ia_bldW (hx : p.tables.exec = Jvm.exec) (hb : c.code = cc) (hK : ia_KK D cA s) (hr : ia_rep D cA xt base h H) {x : List Int32} (he : h.2.2 a = .inl (1, x)) {i v : Int32} (hi : ¬ i < 0) (hv : x[i.toNatClampNeg]? = some v) (hdg : decode cc pc = .ok (.baload, 1))
    (kk : W p l e R s m args below meth c H locs cells slots Q (F0 m (pc + 1) sl (.int v :: rest))) : W p l e R s m args below meth c H locs cells slots Q (F0 m pc sl (.int i :: .ref (base + a) :: rest)) := by
  refine va_bald (a := base + a) (D := D) (cl := ia_cl) (ws := [(base + a, .inl (cA 1, x.length, .inl (fun j => x.getD j 0)))]) hx hb (hK.k1 (tg := 1) (by decide)) (ia_sing (hr.ints he).2) 0 0 rfl rfl (ia_in_of hi (List.getElem?_eq_some_iff.mp hv).1) hdg ?_
  rw [ia_getD_of hv]
  exact kk
theorem ia_zldW (hx : p.tables.exec = Jvm.exec) (hb : c.code = cc) (hK : ia_KK D cA s) (hr : ia_rep D cA xt base h H) {x : List Int32} (he : h.2.2 a = .inl (2, x)) {i v : Int32} (hi : ¬ i < 0) (hv : x[i.toNatClampNeg]? = some v) (hdg : decode cc pc = .ok (.baload, 1))
    (kk : W p l e R s m args below meth c H locs cells slots Q (F0 m (pc + 1) sl (.int v :: rest))) : W p l e R s m args below meth c H locs cells slots Q (F0 m pc sl (.int i :: .ref (base + a) :: rest)) := by
  refine va_zald (a := base + a) (D := D) (cl := ia_cl) (ws := [(base + a, .inl (cA 2, x.length, .inl (fun j => x.getD j 0)))]) hx hb (hK.k1 (tg := 2) (by decide)) (ia_sing (hr.ints he).2) 0 0 rfl rfl (ia_in_of hi (List.getElem?_eq_some_iff.mp hv).1) hdg ?_
  rw [ia_getD_of hv]
  exact kk
theorem ia_lldW (hx : p.tables.exec = Jvm.exec) (hb : c.code = cc) (hK : ia_KK D cA s) (hr : ia_rep D cA xt base h H) {x : List Int64} (he : h.2.2 a = .inr (.inl x)) {i : Int32} {v : Int64} (hi : ¬ i < 0) (hv : x[i.toNatClampNeg]? = some v) (hdg : decode cc pc = .ok (.laload, 1))
    (kk : W p l e R s m args below meth c H locs cells slots Q (F0 m (pc + 1) sl (.long v :: rest))) : W p l e R s m args below meth c H locs cells slots Q (F0 m pc sl (.int i :: .ref (base + a) :: rest)) := by
  refine va_lald (a := base + a) (D := D) (cl := ia_cl) (ws := [(base + a, .inl (cA 3, x.length, .inr (.inl (fun j => x.getD j 0))))]) hx hb (hK.k1 (tg := 3) (by decide)) (ia_sing (hr.longs he)) 0 0 rfl rfl (ia_in_of hi (List.getElem?_eq_some_iff.mp hv).1) hdg ?_
  rw [ia_getD_of hv]
  exact kk
theorem ia_set_getD {α : Type} {x : List α} {i : Nat} {v d : α} (hi : i < x.length) (j : Nat) : (x.set i v).getD j d = if j = i then v else x.getD j d := by
  rw [List.getD_eq_getElem?_getD, List.getElem?_set]
  by_cases hj : i = j
  · subst hj
    simp [hi]
  · rw [if_neg hj, if_neg (fun q => hj q.symm), List.getD_eq_getElem?_getD]
theorem ia_setI {cI : ClassId} {x : List Int32} {i : Nat} {v : Int32} (hi : i < x.length) : (arrV cI x.length (fun j => .int (x.getD j 0))).setSlot i (.int v) = arrV cI (x.set i v).length (fun j => .int ((x.set i v).getD j 0)) := by
  rw [arrV_store, List.length_set]
  refine ia_arrV_ext fun j _ => ?_
  rw [ia_set_getD hi]
  unfold updV
  split <;> rfl
theorem ia_setL {cI : ClassId} {x : List Int64} {i : Nat} {v : Int64} (hi : i < x.length) : (arrV cI x.length (fun j => .long (x.getD j 0))).setSlot i (.long v) = arrV cI (x.set i v).length (fun j => .long ((x.set i v).getD j 0)) := by
  rw [arrV_store, List.length_set]
  refine ia_arrV_ext fun j _ => ?_
  rw [ia_set_getD hi]
  unfold updV
  split <;> rfl
theorem ia_nin {i : Int32} {n : Nat} {c : ClassId} {f : Nat → Value} (h1 : ¬ i < 0) (h2 : i.toNatClampNeg < n) : ¬ (i < 0 ∨ (arrV c n f).slots.size ≤ i.toNatClampNeg) := by
  rw [arrV_size]
  exact ia_in_of h1 h2
theorem ia_istW (hx : p.tables.exec = Jvm.exec) (hb : c.code = cc) (hK : ia_KK D cA s) (hZ : ia_Z D cA xt base s h0 h H locs cells slots) {x : List Int32} (he : h.2.2 a = .inl (0, x)) {i v : Int32} (hi : ¬ i < 0) (hl : i.toNatClampNeg < x.length) (hdg : decode cc pc = .ok (.iastore, 1))
    (kk : ∀ (H' : Heap) (locs' : List Loc), ia_Z D cA xt base s h0 (ia_up h a (.inl (0, x.set i.toNatClampNeg v))) H' locs' cells slots → W p l e R s m args below meth c H' locs' cells slots Q (F0 m (pc + 1) sl rest)) : W p l e R s m args below meth c H locs cells slots Q (F0 m pc sl (.int v :: .int i :: .ref (base + a) :: rest)) := by
  obtain ⟨hr, hS, hz1, hz2⟩ := hZ
  refine W.iast hx hb (hr.ints he).2 ((hK.2 0 (by decide)).1 _ _) (fun q => by cases q) (ia_nin hi hl) rfl rfl hdg fun H' e1 e2 e3 => ?_
  refine kk H' _ ⟨hr.set (hr.lt1 he) e2 e3 ⟨by decide, ?_⟩, hS.put e2 e3 (Nat.le_add_right base a), hz1, hz2⟩
  rw [e1, ia_setI hl]
theorem ia_nar_of (ty : FieldType) (x : Int32) (h : ∃ y, narrow ty (.int x) = .int y) : narrow ty (.int x) = .int (vp_nar ty x) := by
  obtain ⟨y, hy⟩ := h
  unfold vp_nar
  rw [hy]
theorem ia_bstW (hx : p.tables.exec = Jvm.exec) (hb : c.code = cc) (hK : ia_KK D cA s) (hZ : ia_Z D cA xt base s h0 h H locs cells slots) {x : List Int32} (he : h.2.2 a = .inl (1, x)) {i v : Int32} (hi : ¬ i < 0) (hl : i.toNatClampNeg < x.length) (hdg : decode cc pc = .ok (.bastore, 1))
    (kk : ∀ (H' : Heap) (locs' : List Loc), ia_Z D cA xt base s h0 (ia_up h a (.inl (1, x.set i.toNatClampNeg (vp_nar .byte v)))) H' locs' cells slots → W p l e R s m args below meth c H' locs' cells slots Q (F0 m (pc + 1) sl rest)) : W p l e R s m args below meth c H locs cells slots Q (F0 m pc sl (.int v :: .int i :: .ref (base + a) :: rest)) := by
  obtain ⟨hr, hS, hz1, hz2⟩ := hZ
  refine W.bast hx hb (hr.ints he).2 ((hK.2 1 (by decide)).1 _ _) (fun q => by cases q) (ia_nin hi hl) rfl rfl hdg fun H' e1 e2 e3 => ?_
  refine kk H' _ ⟨hr.set (hr.lt1 he) e2 e3 ⟨by decide, ?_⟩, hS.put e2 e3 (Nat.le_add_right base a), hz1, hz2⟩
  rw [e1, ia_nar_of .byte v ⟨_, rfl⟩, ia_setI hl]
theorem ia_zstW (hx : p.tables.exec = Jvm.exec) (hb : c.code = cc) (hK : ia_KK D cA s) (hZ : ia_Z D cA xt base s h0 h H locs cells slots) {x : List Int32} (he : h.2.2 a = .inl (2, x)) {i v : Int32} (hi : ¬ i < 0) (hl : i.toNatClampNeg < x.length) (hdg : decode cc pc = .ok (.bastore, 1))
    (kk : ∀ (H' : Heap) (locs' : List Loc), ia_Z D cA xt base s h0 (ia_up h a (.inl (2, x.set i.toNatClampNeg (vp_nar .boolean v)))) H' locs' cells slots → W p l e R s m args below meth c H' locs' cells slots Q (F0 m (pc + 1) sl rest)) : W p l e R s m args below meth c H locs cells slots Q (F0 m pc sl (.int v :: .int i :: .ref (base + a) :: rest)) := by
  obtain ⟨hr, hS, hz1, hz2⟩ := hZ
  refine W.zast hx hb (hr.ints he).2 ((hK.2 2 (by decide)).1 _ _) (fun q => by cases q) (ia_nin hi hl) rfl rfl hdg fun H' e1 e2 e3 => ?_
  refine kk H' _ ⟨hr.set (hr.lt1 he) e2 e3 ⟨by decide, ?_⟩, hS.put e2 e3 (Nat.le_add_right base a), hz1, hz2⟩
  rw [e1, ia_nar_of .boolean v ⟨_, rfl⟩, ia_setI hl]
theorem ia_lstW (hx : p.tables.exec = Jvm.exec) (hb : c.code = cc) (hK : ia_KK D cA s) (hZ : ia_Z D cA xt base s h0 h H locs cells slots) {x : List Int64} (he : h.2.2 a = .inr (.inl x)) {i : Int32} {v : Int64} (hi : ¬ i < 0) (hl : i.toNatClampNeg < x.length) (hdg : decode cc pc = .ok (.lastore, 1))
    (kk : ∀ (H' : Heap) (locs' : List Loc), ia_Z D cA xt base s h0 (ia_up h a (.inr (.inl (x.set i.toNatClampNeg v)))) H' locs' cells slots → W p l e R s m args below meth c H' locs' cells slots Q (F0 m (pc + 1) sl rest)) : W p l e R s m args below meth c H locs cells slots Q (F0 m pc sl (.long v :: .int i :: .ref (base + a) :: rest)) := by
  obtain ⟨hr, hS, hz1, hz2⟩ := hZ
  refine W.last hx hb (hr.longs he) ((hK.2 3 (by decide)).1 _ _) (fun q => by cases q) (ia_nin hi hl) rfl rfl hdg fun H' e1 e2 e3 => ?_
  refine kk H' _ ⟨hr.set (hr.lt2 he) e2 e3 ?_, hS.put e2 e3 (Nat.le_add_right base a), hz1, hz2⟩
  show H'[base + a]? = _
  rw [e1, ia_setL hl]
theorem ia_S_new {A : Nat → Prop} {H0 H H' : Heap} {locs : List Loc} (hS : va_S A H0 H locs) (hz : H'.size = H.size + 1) (ho : ∀ q, q < H.size → H'[q]? = H[q]?) : va_S A H0 H' locs :=
  ⟨by have := hS.1; omega, fun q h1 h2 => by rw [ho q (by have := hS.1; omega)]; exact hS.2.1 q h1 h2, hS.2.2⟩
/-- a new object -/
theorem ia_newW (hx : p.tables.exec = Jvm.exec) (hb : c.code = cc) (hts : ∀ w ∈ ia_T, w.before args s = true) {o ix ci : Nat} (hown : s.vm.findClass (ia_on o) = some m.cls) (hK : ia_KK D cA s) (hZ : ia_Z D cA xt base s h0 h H locs cells slots) (hF : ia_find ix (ia_kl o) = some ci) (hcl : ∀ (C : String) (T : u_T) (N : Nat), ia_cl[ci]? = some (C, T, N) → ia_clP ci C T N)
    (hcells : cells + 1 ≤ R.cells) (hslots : slots + (ia_dfl ci).length ≤ R.slots) (hdg : decode cc pc = .ok (.new ix, 3))
    (kk : ∀ (H' : Heap), ia_Z D cA xt base s h0 (ia_new h (ia_dfl ci).length (.inr (.inr (ci, ia_dfl ci)))) H' locs (cells + 1) (slots + (ia_dfl ci).length) → W p l e R s m args below meth c H' locs (cells + 1) (slots + (ia_dfl ci).length) Q (F0 m (pc + 3) sl (.ref (base + h.1) :: rest))) : W p l e R s m args below meth c H locs cells slots Q (F0 m pc sl rest) := by
  obtain ⟨C, T, N, hc, h1, h2, h3⟩ := ia_klO o _ (ia_find_mem hF)
  dsimp only at hc h1 h2 h3
  obtain ⟨hr, hS, hz1, hz2⟩ := hZ
  obtain ⟨hin, hty, hnm, hlen, hdf⟩ := hcl C T N hc
  have hKn := hK.1 ci _ hc
  rw [hlen] at hslots kk
  refine W.newcK hx hb hown (hts _ h1) (hts _ h2) (hts _ h3) rfl hdg hcells hslots hKn.2.1 rfl fun H' kC hkC e1 z1 o1 => ?_
  have hb9 := u_born (ia_tyf ci) hts hin hKn hkC e1 hty
  have := kk H' ⟨hr.push z1 o1 ?_, ia_S_new hS z1 o1, by show cells + 1 + h0.1 = h.1 + 1; omega, by show slots + N + h0.2.1 = h.2.1 + N; omega⟩
  · rw [hr.1]
    exact this
  · intro r' hr'
    have e9 : r' = (C, T, N) := Option.some.inj (hr'.symm.trans hc)
    subst e9
    rw [hr.1] at hb9
    refine hb9.to fun j hj => ?_
    rw [hdf j hj]
    have hd : ∀ v ∈ ia_dfl ci, ia_tr xt base v = v := by
      have : ∀ v ∈ ia_dfl ci, v = .null ∨ v = .int 0 ∨ v = .long 0 := by
        match ci with
        | 0 => decide
        | 1 => decide
        | 2 => decide
        | 3 => decide
        | 4 => decide
        | 5 => decide
        | 6 => decide
        | 7 => decide
        | 8 => decide
        | 9 => decide
        | 10 => decide +kernel
        | _ + 11 => exact fun v hv => absurd hv List.not_mem_nil
      intro v hv
      rcases this v hv with rfl | rfl | rfl <;> rfl
    have : (ia_dfl ci).map (ia_tr xt base) = ia_dfl ci := by
      conv => rhs; rw [← List.map_id (ia_dfl ci)]
      exact List.map_congr_left fun v hv => hd v hv
    rw [this]
end IAW
