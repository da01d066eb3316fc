/-! The law's ring keeps its contract; the special call of the law. -/
section KX9
variable (l : Launch) (D : va_G) (cA : Nat → ClassId) (xt : Nat → Nat) (base : Nat)
theorem ia_last_of {h h' : ia_H} {out : Nat} {i : Int32} {v : Int64} (e : ia_last h out i v = some h') : ∃ y, h.2.2 out = .inr (.inl y) ∧ ¬ i < 0 ∧ i.toNatClampNeg < y.length ∧ h' = ia_up h out (.inr (.inl (y.set i.toNatClampNeg v))) := by
  unfold ia_last at e
  split at e
  · rename_i y he
    split at e
    · cases e
    · rename_i h1
      split at e
      · rename_i h2
        exact ⟨y, he, h1, h2, (Option.some.inj e).symm⟩
      · cases e
  · cases e
set_option maxHeartbeats 2000000 in
theorem c_Lr {xs : List Int32} {sa sb x out : Nat} {p0 p1 : Int32} {h : ia_H} {q : ia_R} (hst : l.stackTraces = false) (hokM : ∀ j ∈ ia_jL, ia_okM j = true ∧ ia_pcOf (ia_pg j).1 0 = 0) (e1 : ia_lring x p0 p1 out h = some q) :
    Met l yLr wsLr (ia_rm 4 (q.2.1 - h.1) (q.2.2.1 - h.2.1)) (ia_Pc D cA xt base xs (irE base sa sb) [.ref x, .int p0, .int p1, .ref out] h) (ia_Qc D cA xt base q) (q.2.1 - h.1) (q.2.2.1 - h.2.1) (fun q => base ≤ q) := by
  have hE := ir_Ek base sa sb
  obtain ⟨r, hr0, hcs⟩ := ir_lr (xs := xs) e1
  obtain ⟨fs, hfs⟩ : ∃ fs, h.2.2 x = .inr (.inr (9, fs)) := by
    unfold ia_lring at e1
    obtain ⟨now, g1, -⟩ := Option.bind_eq_some_iff.mp e1
    exact (ia_getR_cls g1).2
  have hz : q.2.1 = r.2.1 ∧ q.2.2.1 = r.2.2.1 := by
    rcases hcs with ⟨rfl, rfl⟩ | ⟨rfl, rfl⟩ | ⟨v, h', rfl, hla, rfl⟩
    · exact ⟨rfl, rfl⟩
    · exact ⟨rfl, rfl⟩
    · obtain ⟨y, -, -, -, rfl⟩ := ia_last_of hla
      exact ⟨rfl, rfl⟩
  refine va_MetW (cc := method_3_code) (maxL := 5) (ret := some .int) (hh := hhLr) (by decide) rfl ?_
  intro p e s m args below meth c s₁ B hml hPc
  obtain ⟨rfl, hrep, hX⟩ := hPc
  have hx := B.exec
  have hb := B.bytes
  have hr := B.returns
  have hlocks := B.notSynchronized
  have hts0 := atoms_spec (ws := wsLr) B.pre
  have hts : ∀ w ∈ ia_T, w.before ([.ref x, .int p0, .int p1, .ref out].map (ia_tr xt base)).toArray s = true := fun w hw => hts0 w (List.mem_cons_of_mem _ hw)
  have hown : s.vm.findClass (ia_on 11) = some m.cls := findClass_of_methodNamed B.named
  have htb : c.exceptionTable.toList = tableOf hhLr := vx_table (x := yLr) B (hts0 _ List.mem_cons_self)
  obtain ⟨n1, n2, n3, n4, n5, n6⟩ := hX.2.2.2.2.2.2.2
  have hRR : (headSpec wsLr (ia_rm 4 (q.2.1 - h.1) (q.2.2.1 - h.2.1))).room = ia_rm 4 (q.2.1 - h.1) (q.2.2.1 - h.2.1) := rfl
  rw [hRR]
  have ec : q.2.1 - h.1 = 0 + (r.2.1 - h.1) := by rw [hz.1]; omega
  have es : q.2.2.1 - h.2.1 = 0 + (r.2.2.1 - h.2.1) := by rw [hz.2]; omega
  rw [ec, es]
  have hl := lv_entry ([.ref (base + x), .int p0, .int p1, .ref (base + out)]) (n := 5) (Nat.le_of_ble_eq_true rfl)
  show W p l e _ s m _ below meth c s.heap [] 0 0 _ (entryFrame m ([.ref (base + x), .int p0, .int p1, .ref (base + out)] : List Value).toArray 5)
  rw [lg_entry_eq]
  generalize (lg_sl ([.ref (base + x), .int p0, .int p1, .ref (base + out)]) ++ List.replicate (5 - (lg_sl ([.ref (base + x), .int p0, .int p1, .ref (base + out)])).length) Slot.unset).toArray = ls at hl ⊢
  have hl : lv_has ls 5 [(0, .ref (base + x)), (1, .int p0), (2, .int p1), (3, .ref (base + out))] := hl
  refine lv_aload_n hx hb dLr0 rfl (lv_at hl 3 rfl) ?_
  refine lv_iconst hx hb dLr1 (v := 0) (by decide) ?_
  refine lv_aload_n hx hb dLr2 rfl (lv_at hl 0 rfl) ?_
  refine lv_iload_n hx hb dLr3 rfl (lv_at hl 1 rfl) ?_
  refine lv_iload_n hx hb dLr4 rfl (lv_at hl 2 rfl) ?_
  have hgood : GoodIn ia_T (wsV (ia_on 11) 7 "EngagedTone" yRi wsRi) := by
    intro w hw
    rcases List.mem_append.mp hw with hw | hw
    · simp only [List.mem_cons, List.not_mem_nil, or_false] at hw
      rcases hw with rfl | rfl | rfl | rfl
      · exact ik_good ir_l7
      · exact ik_good ir_in
      · exact ik_good ir_se
      · exact ik_good ir_i9
    · rcases List.mem_cons.mp hw with rfl | hw
      · exact ik_good ir_co
      · exact ik_good hw
  have cw := cwV (R := ia_rm 4 (0 + (r.2.1 - h.1)) (0 + (r.2.2.1 - h.2.1))) (s := s) (args := ([.ref x, .int p0, .int p1, .ref out].map (ia_tr xt base)).toArray) (own := ia_on 11) (C := "EngagedTone") (index := 7) (y := yRi) (bytes := prog_1_method_7_code) (maxL := 3) (ret := some .int) (ws := wsRi) (rm := ia_rm (1 + 1) (r.2.1 - h.1) (r.2.2.1 - h.2.1)) 2 hts hgood rfl rfl rfl ⟨rfl, by decide, by decide, by decide +kernel⟩ ⟨by show 1 + 1 + 20 + 1 ≤ 4 + 20; omega, by show 8 + (3 + 11) + (64 * (1 + 1) + 2000) ≤ 64 * 4 + 2000; omega⟩
  have hcl : ia_cl[9]? = some (RX9, TX9, 11) := rfl
  have call := vx_runV (l := l) (e := e) (below := below) (meth := meth) (H := s.heap) (locs := []) (cells := 0) (slots := 0) (S := ⟨hx, hb, hml, hown, hts⟩) (As := [.int p0, .int p1]) (b := base + x) (rest := [.int 0, .ref (base + out)]) (g := F0 m 5 ls [.int p1, .int p0, .ref (base + x), .int 0, .ref (base + out)]) (c_Ri l D cA xt base (sa := sa) (sb := sb) hst hokM hr0) cw ⟨ia_blind hE _ _, va_recv hX.1.k (hrep.obj hfs hcl) (ci := 9) (q0 := 0) hcl rfl, ia_pre hE hX hrep va_S.rf [.ref x, .int p0, .int p1] rfl⟩ rfl rfl hl.1 rfl (lv_room (Nat.le_of_ble_eq_true rfl)) dLr5 ⟨Nat.le_refl _, Nat.le_refl _⟩
  refine ix_call call va_S.rf (fun v H' locs' hrv hrep' hS' => ?_) (fun E ce a H' locs' hE9 hrep' hS' hce hcv hcl9 => ?_)
  · rcases hcs with ⟨rfl, -⟩ | ⟨rfl, -⟩ | ⟨v', h', rfl, hla, rfl⟩
    · cases hrv
    · cases hrv
    · cases hrv
      obtain ⟨y, k1, k2, k3, rfl⟩ := ia_last_of hla
      refine lv_i2l hx hb dLr8 rfl ?_
      refine ia_lstW (h0 := h) hx hb hX.1 ⟨hrep', hS', ?_, ?_⟩ k1 k2 k3 dLr9 (fun H2 locs2 hZ2 => ?_)
      · show 0 + (h.1 - h.1) + h.1 = h.1
        omega
      · show 0 + (h.2.1 - h.2.1) + h.2.1 = h.2.1
        omega
      refine lv_goto (tgt := 21) hx hb dLr10 (by decide) ?_
      refine lv_iconst hx hb dLr21 (v := 0) (by decide) ?_
      exact W.iret hx hb (by rw [hr]) (fun t ht _ => ⟨rfl, by rw [ht]; exact hZ2.1, hZ2.2.1.F ht⟩) hZ2.2.1.2.2 dLr22
  · rcases hE9 with ⟨hr1, rfl⟩ | ⟨hr1, rfl⟩
    · rcases hcs with ⟨rfl, rfl⟩ | ⟨rfl, -⟩ | ⟨v', h', rfl, -, -⟩
      · refine ix_catch (own := ia_on 11) (name := irIO) hown [] ⟨0, 10, 13, 13⟩ [⟨0, 10, 17, 15⟩] htb (fun z hz => nomatch hz) rfl (by decide) (hts _ ir_l13) (va_Nw.use rfl (n1 _ List.mem_cons_self)) hce hcv hcl9 ?_
        refine lv_astore hx hb dLr13 hl (by decide) rfl (fun ls' hl' => ?_)
        refine lv_iconst hx hb dLr15 (v := 1) (by decide) ?_
        exact W.iret hx hb (by rw [hr]) (fun t ht _ => ⟨rfl, by rw [ht]; exact hrep', hS'.F ht⟩) hS'.2.2 dLr16
      · cases hr1
      · cases hr1
    · rcases hcs with ⟨rfl, -⟩ | ⟨rfl, rfl⟩ | ⟨v', h', rfl, -, -⟩
      · cases hr1
      · refine ix_catch (own := ia_on 11) (name := irNS) hown [⟨0, 10, 13, 13⟩] ⟨0, 10, 17, 15⟩ [] htb (fun z hz => ?_) rfl (by decide) (hts _ ir_l15) (va_Nw.use rfl (n1 _ (List.mem_cons_of_mem _ List.mem_cons_self))) hce hcv hcl9 ?_
        · rw [List.mem_singleton] at hz
          subst hz
          exact ⟨rfl, by decide, irIO, hts _ ir_l13, n6⟩
        refine lv_astore hx hb dLr17 hl (by decide) rfl (fun ls' hl' => ?_)
        refine lv_iconst hx hb dLr19 (v := 2) (by decide) ?_
        exact W.iret hx hb (by rw [hr]) (fun t ht _ => ⟨rfl, by rw [ht]; exact hrep', hS'.F ht⟩) hS'.2.2 dLr20
      · cases hr1
end KX9
section KXR
variable {p : Program} {l : Launch} {e : Env} {R : Room} {s : State} {m : MethodId} {args : Array Value} {below : List Frame} {meth : Method} {c : Code} {Q : State → Prop} {D : va_G} {cA : Nat → ClassId} {xt : Nat → Nat} {base : Nat} {xs : List Int32} {nL sa sb : Nat} {cc : ByteArray} {h0 : ia_H} {r : ia_R}
theorem ir_so (hst : l.stackTraces = false) (hokM : ∀ j ∈ ia_jL, ia_okM j = true ∧ ia_pcOf (ia_pg j).1 0 = 0) (C : ia_C p s m args c D cA xt base xs (irE base sa sb) 11 nL cc) (hR1 : R.cells + h0.1 = r.2.1) (hR2 : R.slots + h0.2.1 = r.2.2.1) (hR3 : 25 ≤ R.frames) (hR4 : 2300 ≤ R.locals) : ia_So p l e R s m args below meth c Q D cA xt base h0 r 11 cc := by
  intro ix sp kind pc as rest h q H locs cells slots sl hin hdk hsp hcat hsl hq1 hq2 hZ kk
  have hE := ir_Ek base sa sb
  have hmo := ia_specM hsp
  simp only [ia_spL, List.mem_cons, List.not_mem_nil, or_false, Prod.mk.injEq] at hin
  rcases hin with ⟨-, rfl, rfl, rfl⟩ | ⟨h9, -⟩ | ⟨h9, -⟩ | ⟨h9, -⟩
  · obtain ⟨hx, hb, hml, hown, hts, hX⟩ := C
    have hdg : decode cc pc = .ok (.invokestatic 39, 3) := by
      rcases hdk with ⟨h1, -⟩ | ⟨-, h1⟩
      · cases h1
      · exact h1
    obtain ⟨x, p0, p1, out, rfl, hlr⟩ : ∃ x p0 p1 out, as = [.ref x, .int p0, .int p1, .ref out] ∧ ia_lring x p0 p1 out h = some q := by
      simp only [ia_spec] at hsp
      split at hsp
      · exact ⟨_, _, _, _, rfl, hsp⟩
      · cases hsp
    obtain ⟨hrep, hS, hz1, hz2⟩ := hZ
    have hgood : GoodIn ia_T (va_wsS (ia_on 11) 39 yLr wsLr) := by
      intro w hw
      rcases List.mem_append.mp hw with hw | hw
      · simp only [List.mem_cons, List.not_mem_nil, or_false] at hw
        rcases hw with rfl | rfl | rfl
        · exact ik_good ir_l39
        · exact ik_good ir_st
        · exact ik_good ir_i11
      · rcases List.mem_cons.mp hw with rfl | hw
        · exact ik_good ir_cw
        · exact ik_good hw
    have cw := vx_cwSW (R := R) (s := s) (args := args) (own := ia_on 11) (index := 39) (y := yLr) (bytes := method_3_code) (maxL := 5) (ret := some .int) (hh := hhLr) (ws := wsLr) (rm := ia_rm 4 (q.2.1 - h.1) (q.2.2.1 - h.2.1)) 4 hts hgood rfl rfl rfl (by decide +kernel) ⟨by show 4 + 20 + 1 ≤ R.frames; omega, by show 8 + (5 + 11) + (64 * 4 + 2000) ≤ R.locals; omega⟩
    have hst2 : ([Value.ref x, .int p0, .int p1, .ref out].reverse ++ rest).map (ia_tr xt base) = [Value.ref (base + x), .int p0, .int p1, .ref (base + out)].reverse ++ rest.map (ia_tr xt base) := by
      rw [List.map_append]
      rfl
    have hst3 : (q.1.toList ++ rest).map (ia_tr xt base) = (q.1.map (ia_tr xt base)).toList ++ rest.map (ia_tr xt base) := by
      rw [List.map_append]
      cases q.1 <;> rfl
    rw [hst3] at kk
    refine ia_callW (r := q) (vx_runSW (S := ⟨hx, hb, hml, hown, hts⟩) (As := [.ref (base + x), .int p0, .int p1, .ref (base + out)]) (rest := rest.map (ia_tr xt base)) (c_Lr l D cA xt base (xs := xs) (sa := sa) (sb := sb) hst hokM hlr) cw ⟨ia_blind hE _ _, ia_pre hE hX hrep hS [.ref x, .int p0, .int p1, .ref out] rfl⟩ rfl rfl (hsl.trans hml) hst2 (lv_room (by rw [ia_cats_sum]; exact hcat)) hdg ⟨?_, ?_⟩) hS (fun H' locs' hr' hS' => kk H' locs' _ _ ⟨hr', hS', ?_, ?_⟩)
    · omega
    · omega
    · omega
    · omega
  · exact absurd h9 (by decide)
  · exact absurd h9 (by decide)
  · exact absurd h9 (by decide)
end KXR
