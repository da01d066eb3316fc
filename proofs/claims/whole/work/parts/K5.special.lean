/-! The special call of the JDK's texts; every call keeps its contract. -/
theorem ik_ow : ∀ j ∈ ia_jL, ia_ow j ≠ 11 := by decide +kernel
section KX5
variable {p : Program} {l : Launch} {e : Env} {R : Room} {s : State} {m : MethodId} {args : Array Value} {below : List Frame} {meth : Method} {c : Code} {Q : State → Prop} {D : va_G} {cA : Nat → ClassId} {xt : Nat → Nat} {base : Nat} {xs : List Int32} {E : State → Prop} {o nL : Nat} {cc : ByteArray} {h0 : ia_H} {r : ia_R}
theorem ik_so (hE : ia_Ek base E) (C : ia_C p s m args c D cA xt base xs E o nL cc) (ho : o ≠ 11) (hR1 : R.cells + h0.1 = r.2.1) (hR2 : R.slots + h0.2.1 = r.2.2.1) (hR3 : 21 ≤ R.frames) (hR4 : 2064 ≤ R.locals) : ia_So p l e R s m args below meth c Q D cA xt base h0 r o cc := by
  intro ix sp kind pc as rest h q H locs cells slots sl hin hdk hsp hcat hsl hq1 hq2 hZ kk
  simp only [ia_spL, List.mem_cons, List.not_mem_nil, or_false, Prod.mk.injEq] at hin
  rcases hin with ⟨rfl, -⟩ | ⟨-, -, rfl, -⟩ | ⟨-, -, rfl, -⟩ | ⟨rfl, rfl, rfl, rfl⟩
  · exact absurd rfl ho
  · cases hsp
  · cases hsp
  · obtain ⟨hx, hb, hml, hown, hts, hX⟩ := C
    have hdg : decode cc pc = .ok (.invokestatic 9, 3) := by
      rcases hdk with ⟨h1, -⟩ | ⟨-, h1⟩
      · cases h1
      · exact h1
    obtain ⟨i, n, rfl, hi0, hi1, rfl⟩ : ∃ i n, as = [.int i, .int n] ∧ ¬ i < 0 ∧ i < n ∧ q = (none, h) := by
      simp only [ia_spec] at hsp
      split at hsp
      · rename_i i n
        split at hsp
        · cases hsp
        · rename_i h1
          split at hsp
          · rename_i h2
            exact ⟨i, n, rfl, h1, h2, (Option.some.inj hsp).symm⟩
          · cases hsp
      · cases hsp
    obtain ⟨hrep, hS, hz1, hz2⟩ := hZ
    have hgood : GoodIn ia_T (va_wsS (ia_on 15) 9 yCi wsCi) := by
      intro w hw
      rcases List.mem_append.mp hw with hw | hw
      · simp only [List.mem_cons, List.not_mem_nil, or_false] at hw
        rcases hw with rfl | rfl | rfl
        · exact ik_good ik_lk
        · exact ik_good ik_st
        · exact ik_good ik_ini
      · rcases List.mem_cons.mp hw with rfl | hw
        · exact ik_good ik_co
        · exact ik_good hw
    have cw := va_cwS (R := R) (s := s) (args := args) (own := ia_on 15) (index := 9) (y := yCi) (bytes := prog_22_method_155_code) (maxL := 2) (ret := none) (ws := wsCi) (rm := rmCi) 2 hts hgood rfl rfl rfl (by decide +kernel) ⟨by show 4 + 1 ≤ R.frames; omega, by show 8 + (2 + 11) + 100 ≤ R.locals; omega⟩
    have hst : ([Value.int i, Value.int n].reverse ++ rest).map (ia_tr xt base) = [Value.int i, Value.int n].reverse ++ rest.map (ia_tr xt base) := by
      rw [List.map_append]
      rfl
    refine ia_callW (r := (none, h)) (va_runS (S := ⟨hx, hb, hml, hown, hts⟩) (As := [.int i, .int n]) (rest := rest.map (ia_tr xt base)) (c_Ci l D cA xt base (xs := xs) (E := E) hi0 hi1 h) cw ⟨ia_blind hE _ _, ia_pre hE hX hrep hS [.int i, .int n] rfl⟩ rfl rfl (hsl.trans hml) hst (lv_room (by rw [ia_cats_sum]; exact hcat)) hdg ⟨?_, ?_⟩) hS (fun H' locs' hr' hS' => kk H' locs' cells slots ⟨hr', hS', hz1, hz2⟩)
    · have : h.1 ≤ r.2.1 := hq1
      show cells + 0 ≤ R.cells
      omega
    · have : h.2.1 ≤ r.2.2.1 := hq2
      show slots + 0 ≤ R.slots
      omega
end KX5
set_option maxHeartbeats 2000000 in
/-- every call that my machine answers keeps its contract: the special calls proved -/
theorem ia_calT {l : Launch} {D : va_G} {cA : Nat → ClassId} {xt : Nat → Nat} {base : Nat} {xs : List Int32} {E : State → Prop} (hE : ia_Ek base E) (hokM : ∀ j ∈ ia_jL, ia_okM j = true ∧ ia_pcOf (ia_pg j).1 0 = 0) :
    ∀ (d j : Nat) (as : List Value) (h : ia_H) (q : ia_R), j ∈ ia_jL → ia_cal xs d j as h = some q → ia_Mt l D cA xt base xs E d j as h q := by
  intro d
  induction d with
  | zero => intro j as h q _ e; cases e
  | succ d ih =>
    intro j as h r hj e1
    have hm := ia_callM _ _ _ _ _ e1
    refine ⟨hm.1, hm.2, ?_⟩
    have hP := ia_miO j hj
    obtain ⟨hpl, hcls, hcode, hini, hnp, hmax, hk0, hk1, hk2⟩ := id hP
    simp only [ia_cal, ia_call] at e1
    split at e1
    · rename_i hfit
      refine va_MetF (cc := ia_bb j) (maxL := (ia_pg j).2) (ret := ia_rt j) hpl rfl ?_
      intro p e s m args below meth c s₁ B hml hPc
      obtain ⟨rfl, hrep, hX⟩ := hPc
      have hx := B.exec
      have hb := B.bytes
      have hr := B.returns
      have hlocks := B.notSynchronized
      have hts0 := atoms_spec (ws := ia_ws j) B.pre
      have hts : ∀ w ∈ ia_T, w.before (as.map (ia_tr xt base)).toArray s = true := fun w hw => hts0 w (List.mem_cons_of_mem _ hw)
      have hown : s.vm.findClass (ia_on (ia_ow j)) = some m.cls := by rw [← hcls]; exact findClass_of_methodNamed B.named
      have hin : decide (ia_kd j = 1) = true → meth.name = "<init>" := fun q => by
        rw [(name_of_methodNamed B.named B.method).1]
        exact (hk1 (of_decide_eq_true q)).2.1
      have hC : ia_C p s m (as.map (ia_tr xt base)).toArray c D cA xt base xs E (ia_ow j) (ia_pg j).2 (ia_bb j) := ⟨hx, hb, hml, hown, hts, hX⟩
      have hRR : (headSpec (ia_ws j) (ia_rm (d + 1) (r.2.1 - h.1) (r.2.2.1 - h.2.1))).room = ia_rm (d + 1) (r.2.1 - h.1) (r.2.2.1 - h.2.1) := rfl
      rw [hRR]
      have hR1 : (ia_rm (d + 1) (r.2.1 - h.1) (r.2.2.1 - h.2.1)).cells + h.1 = r.2.1 := by show r.2.1 - h.1 + h.1 = r.2.1; omega
      have hR2 : (ia_rm (d + 1) (r.2.1 - h.1) (r.2.2.1 - h.2.1)).slots + h.2.1 = r.2.2.1 := by show r.2.2.1 - h.2.1 + h.2.1 = r.2.2.1; omega
      have hR3 : d + 21 ≤ (ia_rm (d + 1) (r.2.1 - h.1) (r.2.2.1 - h.2.1)).frames := by show d + 21 ≤ d + 1 + 20; omega
      have hR4 : 64 * d + 2064 ≤ (ia_rm (d + 1) (r.2.1 - h.1) (r.2.2.1 - h.2.1)).locals := by show 64 * d + 2064 ≤ 64 * (d + 1) + 2000; omega
      have hpc0 : ia_pcOf (ia_pg j).1 0 = 0 := (hokM j hj).2
      rw [lg_entry_eq]
      have run := ia_runS (e := e) (below := below) (meth := meth) (ini := decide (ia_kd j = 1)) (rt := ia_rt j) (code := (ia_pg j).1) (d := d) (Q := MQ below (ia_Qc D cA xt base r) (as.map (ia_tr xt base)).toArray s (r.2.1 - h.1) (r.2.2.1 - h.2.1) (fun q => base ≤ q)) hE hC hin hR1 hR2 hR3 hR4 (ia_callM d) ih (ik_so hE hC (ik_ow j hj) hR1 hR2 (by omega) (by omega)) (ia_okM_at (hokM j hj).1) (fun pc v h' H locs cells slots sl hro hrv hZ => ?_) 1000000 0 (ia_loc (ia_pg j).2 as) [] h s.heap [] 0 0 _ e1 ⟨hrep, va_S.rf, by omega, by omega⟩ (ia_lr.entry hfit) hfit
      · rw [hpc0] at run
        exact run
      · obtain ⟨hr', hS', z1, z2⟩ := hZ
        subst hrv
        have e1 : (v, h').2.1 - h.1 = cells := by show h'.1 - h.1 = cells; omega
        have e2 : (v, h').2.2.1 - h.2.1 = slots := by show h'.2.1 - h.2.1 = slots; omega
        rw [e1, e2]
        have post : ∀ t : State, t.heap = H → s.WarmedH t.vm → ia_Qc D cA xt base (v, h') (as.map (ia_tr xt base)).toArray s (.returned (v.map (ia_tr xt base))) t := fun t ht _ => ⟨rfl, by rw [ht]; exact hr', hS'.F ht⟩
        rcases hro with ⟨x, rfl, hd, hrt⟩ | ⟨x, rfl, hd, hrt⟩ | ⟨a, nm, rfl, hd, hrt⟩ | ⟨rfl, hd, hrt⟩
        · rcases hrt with hrt | ⟨ty, hrt, h01⟩
          · exact W.iret hx hb (by rw [hr, hrt]) post hS'.2.2 hd
          · exact W.zret hx hb (by rw [hr, hrt]) h01 post hS'.2.2 hd
        · exact W.lret hx hb (by rw [hr, hrt]) post hS'.2.2 hd
        · exact W.aret hx hb (by rw [hr, hrt]) (Or.inl ⟨nm, rfl⟩) (Or.inr ⟨_, rfl⟩) post hS'.2.2 hd
        · exact W.vret hx hb (by rw [hr, hrt]) post hS'.2.2 hd
    · cases e1
