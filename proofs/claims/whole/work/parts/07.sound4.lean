/-! New arrays, arraycopy, calls. -/
section IAX
variable {p : Program} {l : Launch} {e : Env} {R : Room} {s : State} {m : MethodId} {args : Array Value} {below : List Frame} {meth : Method} {c : Code} {H : Heap} {locs : List Loc} {cells slots : Nat} {Q : State → Prop} {cc : ByteArray} {pc : Nat} {sl : Array Slot} {rest : List Value}
variable {D : va_G} {cA : Nat → ClassId} {xt : Nat → Nat} {base : Nat} {h h0 : ia_H} {a : Nat}
def ia_zero (tg n : Nat) : ia_E := match tg with
  | 3 => .inr (.inl (List.replicate n 0))
  | 2 => .inl (2, List.replicate n 0)
  | 1 => .inl (1, List.replicate n 0)
  | _ => .inl (0, List.replicate n 0)
theorem ia_rep0 {α : Type} {n j : Nat} {v : α} : (List.replicate n v).getD j v = v := by
  rw [List.getD_eq_getElem?_getD, List.getElem?_replicate]
  split <;> rfl
theorem ia_newaW (hx : p.tables.exec = Jvm.exec) (hb : c.code = cc) (hts : ∀ w ∈ ia_T, w.before args s = true) (hK : ia_KK D cA s) (hZ : ia_Z D cA xt base s h0 h H locs cells slots) {at_ : ArrayType} {tg : Nat} (htg : tg < 4) (hty : newarray.typeOf at_ = ia_ty tg) {n : Int32} (hn : ¬ n < 0) (hn2 : n.toNatClampNeg ≤ 100000)
    (hcells : cells + 1 ≤ R.cells) (hslots : slots + n.toNatClampNeg ≤ R.slots) (hdg : decode cc pc = .ok (.newarray at_, 2))
    (kk : ∀ (H' : Heap), ia_Z D cA xt base s h0 (ia_new h n.toNatClampNeg (ia_zero tg n.toNatClampNeg)) H' locs (cells + 1) (slots + n.toNatClampNeg) → W p l e R s m args below meth c H' locs (cells + 1) (slots + n.toNatClampNeg) Q (F0 m (pc + 2) sl (.ref (base + h.1) :: rest))) : W p l e R s m args below meth c H locs cells slots Q (F0 m pc sl (.int n :: rest)) := by
  obtain ⟨hr, hS, hz1, hz2⟩ := hZ
  have harr : (Cond.arrayClass (newarray.typeOf at_)).before args s = true := by
    rw [hty]
    match tg, htg with
    | 0, _ => exact hts _ ia_arr0
    | 1, _ => exact hts _ ia_arr1
    | 2, _ => exact hts _ ia_arr2
    | 3, _ => exact hts _ ia_arr3
  have hby : n.toNatClampNeg * componentBytes (newarray.typeOf at_) ≤ 536870912 := by
    have : componentBytes (newarray.typeOf at_) ≤ 8 := by
      rw [hty]
      match tg, htg with
      | 0, _ => decide
      | 1, _ => decide
      | 2, _ => decide
      | 3, _ => decide
    have := Nat.mul_le_mul hn2 this
    omega
  refine va_newaK hx hb harr rfl hdg rfl hn rfl hby hcells hslots rfl fun H' cB e1 z1 o1 hAr hNm => ?_
  have hcB : cB = cA tg := by
    have h9 := (hK.2 tg htg).2
    rw [hty] at hNm
    exact Option.some.inj (hNm.symm.trans h9)
  subst hcB
  rw [hty, hr.1] at e1
  have := kk H' ⟨hr.push z1 o1 ?_, ia_S_new hS z1 o1, by show cells + 1 + h0.1 = h.1 + 1; omega, by show slots + n.toNatClampNeg + h0.2.1 = h.2.1 + n.toNatClampNeg; omega⟩
  · rw [hr.1]
    exact this
  · match tg, htg, e1 with
    | 0, _, e1 => exact ⟨by decide, by rw [e1, List.length_replicate]; exact congrArg some (ia_arrV_ext fun j _ => by rw [ia_rep0]; rfl)⟩
    | 1, _, e1 => exact ⟨by decide, by rw [e1, List.length_replicate]; exact congrArg some (ia_arrV_ext fun j _ => by rw [ia_rep0]; rfl)⟩
    | 2, _, e1 => exact ⟨by decide, by rw [e1, List.length_replicate]; exact congrArg some (ia_arrV_ext fun j _ => by rw [ia_rep0]; rfl)⟩
    | 3, _, e1 =>
      show H'[base + h.1]? = _
      rw [e1, List.length_replicate]
      exact congrArg some (ia_arrV_ext fun j _ => by rw [ia_rep0]; rfl)
theorem ia_cpy_get {f g : List Int32} {sp dp n : Nat} (h1 : sp + n ≤ f.length) (h2 : dp + n ≤ g.length) (j : Nat) (hj : j < g.length) :
    (g.take dp ++ ((f.drop sp).take n ++ g.drop (dp + n))).getD j 0 = va_cpy (fun j => f.getD j 0) (fun j => g.getD j 0) sp dp n j := by
  simp only [List.getD_eq_getElem?_getD, va_cpy]
  have l1 : (g.take dp).length = dp := by rw [List.length_take]; omega
  have l2 : ((f.drop sp).take n).length = n := by rw [List.length_take, List.length_drop]; omega
  by_cases h3 : j < dp
  · rw [List.getElem?_append_left (by omega), List.getElem?_take_of_lt h3, if_neg (by omega)]
  · rw [List.getElem?_append_right (by omega), l1]
    by_cases h4 : j < dp + n
    · rw [List.getElem?_append_left (by omega), List.getElem?_take_of_lt (by omega), List.getElem?_drop, if_pos ⟨by omega, h4⟩]
    · rw [List.getElem?_append_right (by omega), l2, List.getElem?_drop, if_neg (by omega)]
      congr 2
      omega
theorem ia_cpyW (hx : p.tables.exec = Jvm.exec) (hb : c.code = cc) (hml : c.maxLocals = sl.size) (hts : ∀ w ∈ ia_T, w.before args s = true) {o ix : Nat} (hown : s.vm.findClass (ia_on o) = some m.cls) (hlk : (o, ix) ∈ ia_acL) (hK : ia_KK D cA s) (hZ : ia_Z D cA xt base s h0 h H locs cells slots) {b : Nat} {f g : List Int32} (hea : h.2.2 a = .inl (0, f)) (heb : h.2.2 b = .inl (0, g)) {sp dp n : Int32}
    (h1 : ¬ sp < 0) (h2 : ¬ dp < 0) (h3 : ¬ n < 0) (h4 : sp.toNatClampNeg + n.toNatClampNeg ≤ f.length) (h5 : dp.toNatClampNeg + n.toNatClampNeg ≤ g.length) (hframes : 1 ≤ R.frames) (hlocals : 8 + (nativeFrameWords "java/lang/System" "arraycopy" 5 + 11) ≤ R.locals) (hrest : (rest.map fun v => v.category).sum ≤ 8) (hdg : decode cc pc = .ok (.invokestatic ix, 3))
    (kk : ∀ (H' : Heap) (locs' : List Loc), ia_Z D cA xt base s h0 (ia_up h b (.inl (0, g.take dp.toNatClampNeg ++ ((f.drop sp.toNatClampNeg).take n.toNatClampNeg ++ g.drop (dp.toNatClampNeg + n.toNatClampNeg))))) H' locs' cells slots → W p l e R s m args below meth c H' locs' cells slots Q (F0 m (pc + 3) sl rest)) : W p l e R s m args below meth c H locs cells slots Q (F0 m pc sl (.int n :: .int dp :: .ref (base + b) :: .int sp :: .ref (base + a) :: rest)) := by
  obtain ⟨hr, hS, hz1, hz2⟩ := hZ
  have nn : ∀ z : Int32, ¬ z < 0 → z.toInt = (z.toNatClampNeg : Int) := by
    intro z hz
    have hz0 : (0 : Int) ≤ z.toInt := by
      have := Int32.not_lt.mp hz
      simpa using Int32.le_iff_toInt_le.mp this
    show z.toInt = ((z.toInt.toNat : Nat) : Int)
    omega
  intro T hT X
  have hc0 := (hr.ints hea).2
  have hc1 := (hr.ints heb).2
  obtain ⟨-, k0, hk0, cm0, hkk0⟩ := (hK.2 0 (by decide)).1 f.length (fun j => .int (f.getD j 0))
  obtain ⟨-, k1, hk1, cm1, hkk1⟩ := (hK.2 0 (by decide)).1 g.length (fun j => .int (g.getD j 0))
  obtain ⟨vm', X', step⟩ := X.arraycopy hx hown (hts _ (ia_acO _ hlk)) (hts _ ia_ac1) (hts _ ia_ac2) (hts _ ia_ac3) (src := base + a) (dst := base + b) (srcPos := sp) (destPos := dp) (n := n) (by rw [hT]; exact hc0) (by rw [hT]; exact hc1)
    (fun _ h => by cases h) (fun _ h => by cases h) (fun h => by cases h) (fun h => by cases h) hk0 hk1 hkk0 hkk1 (by simp [refKind, ia_ty]) h1 h2 h3
    (by rw [nn sp h1, nn n h3, arrV_size]; omega)
    (by rw [nn dp h2, nn n h3, arrV_size]; omega)
    (fun vm₁ _ i hi => by
      have e : (arrV (cA 0) f.length (fun j => .int (f.getD j 0))).slots.getD (sp.toNatClampNeg + i) .null = .int (f.getD (sp.toNatClampNeg + i) 0) := by
        rw [Array.getD_eq_getD_getElem?, arrV_read _ _ (by omega)]
        rfl
      rw [e]
      exact ⟨rfl, trivial⟩)
    (g := F0 m pc sl (.int n :: .int dp :: .ref (base + b) :: .int sp :: .ref (base + a) :: rest)) rfl (by rw [hml]) (rest := rest) rfl (by rw [hb]; exact hdg) hframes (by show 2 * 0 + _ + _ ≤ _; omega)
  have e1 := va_copied (fun z => Value.int z) (cA 0) (cA 0) (n1 := g.length) (sp := sp.toNatClampNeg) (dp := dp.toNatClampNeg) (n := n.toNatClampNeg) (fun j => f.getD j 0) (fun j => g.getD j 0) h4
  have hl : base + b < H.size := (Array.getElem?_eq_some_iff.mp hc1).1
  have hlen : (g.take dp.toNatClampNeg ++ ((f.drop sp.toNatClampNeg).take n.toNatClampNeg ++ g.drop (dp.toNatClampNeg + n.toNatClampNeg))).length = g.length := by
    simp only [List.length_append, List.length_take, List.length_drop]
    omega
  have e2 : copied (arrV (cA 0) f.length (fun j => .int (f.getD j 0))) (arrV (cA 0) g.length (fun j => .int (g.getD j 0))) sp dp n = arrV (cA 0) g.length (fun j => .int ((g.take dp.toNatClampNeg ++ ((f.drop sp.toNatClampNeg).take n.toNatClampNeg ++ g.drop (dp.toNatClampNeg + n.toNatClampNeg))).getD j 0)) :=
    e1.trans (ia_arrV_ext fun j hj => by rw [ia_cpy_get h4 h5 j hj])
  rw [e2] at X' step
  have hheap : ∀ z : Cell, ((T.setVm vm').setCell (base + b) z).heap = H.setIfInBounds (base + b) z := fun z => by rw [← hT]; rfl
  have oq : ∀ (z : Cell) (q : Nat), q ≠ base + b → (H.setIfInBounds (base + b) z)[q]? = H[q]? := fun z q hq => by simp [Array.getElem?_setIfInBounds, Ne.symm hq]
  obtain ⟨t, a1, b1⟩ := kk _ _ ⟨hr.set (hr.lt1 heb) (H' := H.setIfInBounds (base + b) _) (by simp) (oq _) ⟨by decide, by rw [hlen]; simp only [Array.getElem?_setIfInBounds, hl, if_true]⟩, ⟨by simp; exact hS.1, fun q g1 g2 => by
      rw [oq _ q (fun e => g2 (by rw [e]; exact Nat.le_add_right base b))]
      exact hS.2.1 q g1 g2, fun q hq => by
      rcases List.mem_append.mp hq with h | h
      · exact hS.2.2 q h
      · obtain ⟨z, -, hz⟩ := List.mem_map.mp h
        rw [← hz]
        exact Nat.le_add_right base b⟩, hz1, hz2⟩ _ (hheap _) X'
  exact ⟨t, step t a1, b1⟩
/-- behind a call -/
theorem ia_callW {mc ms : Nat} {r : ia_R} {av : Array Value} {st0 rest : List Value} (hr : va_Run p l e R s m args below meth c H locs cells slots mc ms (F0 m pc sl st0) rest (ia_Qc D cA xt base r av) (fun q => base ≤ q)) (hS : va_S (fun q => base ≤ q) s.heap H locs)
    (kk : ∀ (H' : Heap) (locs' : List Loc), ia_rep D cA xt base r.2 H' → va_S (fun q => base ≤ q) s.heap H' locs' → W p l e R s m args below meth c H' locs' (cells + mc) (slots + ms) Q (F0 m (pc + 3) sl ((r.1.map (ia_tr xt base)).toList ++ rest))) : W p l e R s m args below meth c H locs cells slots Q (F0 m pc sl st0) := by
  intro T hT X
  obtain ⟨v, st₀, t, T', L, e0, X', hL, e1, e2, ⟨hv, hrep, hF1, hF2⟩, st⟩ := hr T hT X
  cases hv
  obtain ⟨t2, a1, b1⟩ := kk t.heap (locs ++ L) hrep ⟨Nat.le_trans hS.1 (by rw [← e0]; exact hF1), fun q h1 h2 => by
      rw [hF2 q (by rw [e0]; exact Nat.lt_of_lt_of_le h1 hS.1) h2, e0]
      exact hS.2.1 q h1 h2, fun q hq => by
      rcases List.mem_append.mp hq with h | h
      · exact hS.2.2 q h
      · exact hL q h⟩ T' e1 X'
  exact ⟨t2, st t2 a1, b1⟩
theorem ia_cl_on {ci : Nat} (hc : ci < 11) : ∃ (T : u_T) (N : Nat), ia_cl[ci]? = some (ia_on ci, T, N) := by
  match ci, hc with
  | 0, _ => exact ⟨_, _, rfl⟩
  | 1, _ => exact ⟨_, _, rfl⟩
  | 2, _ => exact ⟨_, _, rfl⟩
  | 3, _ => exact ⟨_, _, rfl⟩
  | 4, _ => exact ⟨_, _, rfl⟩
  | 5, _ => exact ⟨_, _, rfl⟩
  | 6, _ => exact ⟨_, _, rfl⟩
  | 7, _ => exact ⟨_, _, rfl⟩
  | 8, _ => exact ⟨_, _, rfl⟩
  | 9, _ => exact ⟨_, _, rfl⟩
  | 10, _ => exact ⟨_, _, rfl⟩
theorem ia_clall (ci : Nat) (C : String) (T : u_T) (N : Nat) (h : ia_cl[ci]? = some (C, T, N)) : ia_clP ci C T N := by
  match ci, h with
  | 0, h => cases h; exact ia_clO0
  | 1, h => cases h; exact ia_clO1
  | 2, h => cases h; exact ia_clO2
  | 3, h => cases h; exact ia_clO3
  | 4, h => cases h; exact ia_clO4
  | 5, h => cases h; exact ia_clO5
  | 6, h => cases h; exact ia_clO6
  | 7, h => cases h; exact ia_clO7
  | 8, h => cases h; exact ia_clO8
  | 9, h => cases h; exact ia_clO9
  | 10, h => cases h; exact ia_clO10
  | ci + 11, h => simp [ia_cl] at h
theorem ia_pre {xs : List Int32} {E : State → Prop} (hE : ia_Ek base E) (hX : ia_X D cA xt base xs E s) (hr : ia_rep D cA xt base h H) (hS : va_S (fun q => base ≤ q) s.heap H locs) (as : List Value) {As : List Value} (hA : As = as.map (ia_tr xt base)) : ∀ U : State, U.heap = H → s.WarmedH U.vm → ia_Pc D cA xt base xs E as h As.toArray U := by
  intro U hU hW
  subst hA
  refine ⟨rfl, by rw [hU]; exact hr, hX.warm hE hW (fun q hq => ?_) ?_⟩
  · rw [hU]
    exact hS.2.1 q (Nat.lt_of_lt_of_le hq hX.2.2.2.2.1) (Nat.not_le.mpr hq)
  · rw [hU]
    exact Nat.le_trans hX.2.2.2.2.1 hS.1
set_option maxRecDepth 100000 in
/-- a call of one of the program's methods: virtual, constructor, static -/
theorem ia_runW {xs : List Int32} {E : State → Prop} {o ix nL kind lk j d : Nat} {r : ia_R} {as rest : List Value} (hE : ia_Ek base E) (C : ia_C p s m args c D cA xt base xs E o nL cc) (hsl : sl.size = nL) (hZ : ia_Z D cA xt base s h0 h H locs cells slots) (hF : ia_find ix (ia_ml o) = some (j, lk)) (hj : j ∈ ia_jL) (hkd : ia_kd j = kind) (hlk : lk = 0 ∨ kind = 1) (hlen : as.length = ia_np j + (if kind = 2 then 0 else 1))
    (hkk : (kind = 0 ∧ decode cc pc = .ok (.invokevirtual ix, 3)) ∨ (kind = 1 ∧ decode cc pc = .ok (.invokespecial ix, 3)) ∨ (kind = 2 ∧ decode cc pc = .ok (.invokestatic ix, 3)))
    (hrec : kind = 0 → (∃ b as' fs, as = .ref b :: as' ∧ h.2.2 b = .inr (.inr (ia_ow j, fs)) ∧ ia_ow j < 11) ∨ ∃ j9 as', as = .retAddr j9 :: as' ∧ ia_isS j9 = true ∧ ia_ow j = 14) (hinit : kind = 1 → ∃ b as', as = .ref b :: as')
    (hcat : ((rest.map (ia_tr xt base)).map fun v => v.category).sum ≤ 8) (hM : ia_Mt l D cA xt base xs E d j as h r) (hR1 : cells + (r.2.1 - h.1) ≤ R.cells) (hR2 : slots + (r.2.2.1 - h.2.1) ≤ R.slots) (hR3 : d + 21 ≤ R.frames) (hR4 : 64 * d + 2064 ≤ R.locals) :
    va_Run p l e R s m args below meth c H locs cells slots (r.2.1 - h.1) (r.2.2.1 - h.2.1) (F0 m pc sl ((as.reverse ++ rest).map (ia_tr xt base))) (rest.map (ia_tr xt base)) (ia_Qc D cA xt base r (as.map (ia_tr xt base)).toArray) (fun q => base ≤ q) := by
  obtain ⟨hx, hb, hml, hown, hts, hX⟩ := C
  obtain ⟨hr, hS, -, -⟩ := hZ
  have hP := ia_miO j hj
  obtain ⟨-, hcls, hcode, hini, hnp, hmax, hk0, hk1, hk2⟩ := id hP
  have hmh := ia_on_ok (ia_ow j)
  rw [← hcls] at hmh
  have hG := ia_good j hP
  have hroom : (ia_rm d (r.2.1 - h.1) (r.2.2.1 - h.2.1)).frames + 1 ≤ R.frames ∧ 8 + ((ia_pg j).2 + 11) + (ia_rm d (r.2.1 - h.1) (r.2.2.1 - h.2.1)).locals ≤ R.locals := by
    refine ⟨hR3, ?_⟩
    show 8 + ((ia_pg j).2 + 11) + (64 * d + 2000) ≤ R.locals
    generalize (ia_pg j).2 = z at hmax
    omega
  have hlinkIn : kind ≠ 1 → Cond.methodLink (ia_on o) ix (ia_yy j) ∈ ia_T := by
    intro hne
    rcases ia_mlO o _ (ia_find_mem hF) with ⟨h1, h2⟩ | ⟨h1, h2⟩
    · exact h2
    · exact absurd (hlk.resolve_left (fun q => by dsimp only at h1; omega)) hne
  have hgw : ∀ w ∈ ia_T, w ∈ ia_T ∧ ((w.onTables && w.keeps) = true ∨ ∃ ty, w = .arrayClass ty) := fun w hw => ⟨hw, good_of_word (List.mem_filter.mp hw).2⟩
  have hst : (as.reverse ++ rest).map (ia_tr xt base) = (as.map (ia_tr xt base)).reverse ++ rest.map (ia_tr xt base) := by
    rw [List.map_append, List.map_reverse]
  have hW : 2 * (F0 m pc sl ((as.reverse ++ rest).map (ia_tr xt base))).monitorRoom + ((rest.map (ia_tr xt base)).map fun v => v.category).sum ≤ 8 := lv_room hcat
  rcases hkk with ⟨rfl, hdg⟩ | ⟨rfl, hdg⟩ | ⟨rfl, hdg⟩
  · obtain ⟨hin, hsel⟩ := hk0 hkd
    have hgood : GoodIn ia_T (wsV (ia_on o) ix (ia_yy j).cls (ia_yy j) (ia_ws j)) := by
      intro w hw
      rcases List.mem_append.mp hw with hw | hw
      · simp only [List.mem_cons, List.not_mem_nil, or_false] at hw
        rcases hw with rfl | rfl | rfl | rfl
        · exact hgw _ (hlinkIn (by decide))
        · exact hgw _ hin
        · exact hgw _ hsel
        · exact hgw _ hini
      · exact hG w hw
    have cw := cwV (R := R) (s := s) (args := args) (own := ia_on o) (C := (ia_yy j).cls) (index := ix) (y := ia_yy j) (bytes := ia_bb j) (maxL := (ia_pg j).2) (ret := ia_rt j) (ws := ia_ws j) (rm := ia_rm d (r.2.1 - h.1) (r.2.2.1 - h.2.1)) (ia_np j) hts hgood rfl rfl rfl ⟨rfl, hmh.1, hmh.2, hnp⟩ hroom
    rcases hrec rfl with ⟨b, as', fs, rfl, hb1, hb2⟩ | ⟨j9, as', rfl, hs9, ho9⟩
    · obtain ⟨T, N, hcl⟩ := ia_cl_on hb2
      have hlen' : (as'.map (ia_tr xt base)).length = ia_np j := by
        rw [List.length_map]
        simp only [List.length_cons] at hlen
        exact Nat.succ.inj hlen
      have hrv := va_recv hX.1.k (hr.obj hb1 hcl) (ci := ia_ow j) (q0 := 0) hcl rfl
      exact va_runV (S := ⟨hx, hb, hml, hown, hts⟩) (As := as'.map (ia_tr xt base)) (b := base + b) (rest := rest.map (ia_tr xt base)) hM.2.2 cw ⟨ia_blind hE _ _, by rw [hcls]; exact hrv, ia_pre hE hX hr hS (.ref b :: as') rfl⟩ rfl hlen' hsl (by show (List.map _ _) = _; rw [hst]; simp [ia_tr]) hW hdg ⟨hR1, hR2⟩
    · have hlen' : (as'.map (ia_tr xt base)).length = ia_np j := by
        rw [List.length_map]
        simp only [List.length_cons] at hlen
        exact Nat.succ.inj hlen
      have hrv : ∃ cell : Cell, H[xt j9]? = some cell ∧ cell.vm.isStatics = false ∧ s.vm.findClass "java/lang/String" = some cell.cls := by
        obtain ⟨cell, h1, h2, h3, -⟩ := (hX.2.2.2.2.2.2.1.2.2 j9 hs9).1.kept hS.2.1
        exact ⟨cell, h1, h2, h3⟩
      exact va_runV (S := ⟨hx, hb, hml, hown, hts⟩) (As := as'.map (ia_tr xt base)) (b := xt j9) (rest := rest.map (ia_tr xt base)) hM.2.2 cw ⟨ia_blind hE _ _, by rw [hcls, ho9]; exact hrv, ia_pre hE hX hr hS (.retAddr j9 :: as') rfl⟩ rfl hlen' hsl (by show (List.map _ _) = _; rw [hst]; simp [ia_tr]) hW hdg ⟨hR1, hR2⟩
  · obtain ⟨b, as', rfl⟩ := hinit rfl
    obtain ⟨hin, hnm, hrt⟩ := hk1 hkd
    have hlen' : (as'.map (ia_tr xt base)).length = ia_np j := by
      rw [List.length_map]
      simp only [List.length_cons] at hlen
      exact Nat.succ.inj hlen
    have hws : ia_ws j = Cond.code (ia_yy j) (ia_bb j) (ia_pg j).2 none :: ia_T := by
      unfold ia_ws
      rw [hrt]
    rcases ia_mlO o _ (ia_find_mem hF) with ⟨h1, h2⟩ | ⟨h1, h2⟩
    · have cw := cwI (R := R) (s := s) (args := args) (own := ia_on o) (index := ix) (y := ia_yy j) (bytes := ia_bb j) (maxL := (ia_pg j).2) (ws := ia_ws j) (rm := ia_rm d (r.2.1 - h.1) (r.2.2.1 - h.2.1)) (ia_np j) hts hG hws rfl rfl (hts _ hini) (hts _ h2) (hts _ hin) hnm ⟨hmh.1, hmh.2, hnp⟩ hroom
      exact va_runI (S := ⟨hx, hb, hml, hown, hts⟩) (As := as'.map (ia_tr xt base)) (b := base + b) (rest := rest.map (ia_tr xt base)) hM.2.2 cw ⟨ia_blind hE _ _, ia_pre hE hX hr hS (.ref b :: as') rfl⟩ rfl hlen' hsl (by show (List.map _ _) = _; rw [hst]; simp [ia_tr]) hW hdg ⟨hR1, hR2⟩
    · have cw := va_cnB (R := R) (s := s) (args := args) (own := ia_on o) (host := "EngagedTone") (index := ix) (y := ia_yy j) (bytes := ia_bb j) (maxL := (ia_pg j).2) (ret := none) (ws := ia_ws j) (rm := ia_rm d (r.2.1 - h.1) (r.2.2.1 - h.2.1)) (ia_np j) hts hG hws rfl rfl (hX.2.1 _ h2) (hts _ hini) ⟨hmh.1, hmh.2, hnp⟩ hroom
      exact va_runIN (S := ⟨hx, hb, hml, hown, hts⟩) (As := as'.map (ia_tr xt base)) (b := base + b) (rest := rest.map (ia_tr xt base)) hM.2.2 ⟨cw, hnm, hts _ hin⟩ ⟨ia_blind hE _ _, ia_pre hE hX hr hS (.ref b :: as') rfl⟩ rfl hlen' hsl (by show (List.map _ _) = _; rw [hst]; simp [ia_tr]) hW hdg ⟨hR1, hR2⟩
  · have hsta := hk2 hkd
    have hgood : GoodIn ia_T (va_wsS (ia_on o) ix (ia_yy j) (ia_ws j)) := by
      intro w hw
      rcases List.mem_append.mp hw with hw | hw
      · simp only [List.mem_cons, List.not_mem_nil, or_false] at hw
        rcases hw with rfl | rfl | rfl
        · exact hgw _ (hlinkIn (by decide))
        · exact hgw _ hsta
        · exact hgw _ hini
      · exact hG w hw
    have cw := va_cwS (R := R) (s := s) (args := args) (own := ia_on o) (index := ix) (y := ia_yy j) (bytes := ia_bb j) (maxL := (ia_pg j).2) (ret := ia_rt j) (ws := ia_ws j) (rm := ia_rm d (r.2.1 - h.1) (r.2.2.1 - h.2.1)) (ia_np j) hts hgood rfl rfl rfl ⟨hmh.1, hmh.2, hnp⟩ hroom
    have hlen' : (as.map (ia_tr xt base)).length = ia_np j := by
      rw [List.length_map]
      exact hlen
    exact va_runS (S := ⟨hx, hb, hml, hown, hts⟩) (As := as.map (ia_tr xt base)) (rest := rest.map (ia_tr xt base)) hM.2.2 cw ⟨ia_blind hE _ _, ia_pre hE hX hr hS as rfl⟩ rfl hlen' hsl hst hW hdg ⟨hR1, hR2⟩
end IAX
