/-! go, the answer. -/
section O38
variable (xs : List Int32) (d : Nat) {H h : ia_H} {x a : Nat} {C : aC} {M M' D D' : aG} {σ : Bool} {p n r t t0 q : Nat}
theorem op_go (hR : Rp x C M σ p n r t t0 q) (v : Int32) : opI xs d H h x a C M im_Eng_go im_Mod_go [.int v] := by
  have hR0 := hR.t 0
  have hT := hR0.2.1
  have hs := hT.2.2.1
  have hn := hR0.2.2.1
  have hX := hn.1
  have hl := hs.1
  have hq9 := hn.2.2.2.2
  have hJ := hR0.2.2.2.1.2.2.2.2
  obtain ⟨g6, g7, g8⟩ := hR0.2.2.2.2.2.2.2.2.2.1.2.2.2.2.2
  obtain ⟨dl, kk, hkk, dk1, dk2, dkc⟩ := hR0.2.2.2.2.2.1
  have eq0 : (C.2 1).1 0 = nI q := hn.2.2.2.1.1
  have d18 := d0_18 hn hl
  rw [eq0] at d18
  have hop := t_open xs (d + 17) (H := H) (x := x) (C := C) (ε := false) (σ := σ)
  rw [opI, iu_Eng_go, iq_Eng_go_0, iu_Mod_go, iq_Mod_go_0]
  simp only [↓pM_pfb, ↓tN_Rb hR.1, ↓tW_Ib (show 1 < 7 by decide), eq0, ↓tE_clsb (ε := false), ↓cV_of hop, ↓pM_Rb, ↓pM_ldb, ↓bs d18]
  by_cases a1 : v < 0
  · exact ⟨-1, C, gI M 0 0, hR0.l, by rw [if_pos a1], by rw [if_pos a1]⟩
  by_cases a2 : 99 < v
  · exact ⟨-1, C, gI M 0 0, hR0.l, by rw [if_neg a1, if_pos a2], by rw [if_neg a1, if_pos a2]⟩
  obtain ⟨m, hm, rfl⟩ := in_le (k := 99) rfl a1 a2
  rw [if_neg a1, if_neg a2, if_neg a1, if_neg a2, nI_add]
  by_cases a3 : 9900 < nI (q + m)
  · exact ⟨-1, C, gI M 0 0, hR0.l, by rw [if_pos a3], by rw [if_pos a3]⟩
  rw [if_neg a3, if_neg a3]
  have hqm : q + m ≤ 9900 := by
    refine Classical.byContradiction fun y => a3 ?_
    exact nI_lt (a := 9900) (by omega) (by omega)
  have hc := scC.openE (C := C) false hR.2.1.2.1 hR.2.2.2.2.2.2.2.2.2.2 (opE (C.1 (kE false)) (sd x σ) (C.1 (kS σ)))
  have hR1 := hR0.sc hc hR0.sm
  generalize hC1 : uG C (kE false) (opE (C.1 (kE false)) (sd x σ) (C.1 (kS σ))) = C1 at *
  have eX : C1.2 1 = C.2 1 := by rw [← hC1]; rfl
  have e16 : C1.1 16 = C.1 16 := hc.2.2.2.2.2.2.1
  by_cases m0 : m = 0
  · subst m0
    have l1 : rd ((gI M 0 0).2.1 18) (0 : Int32) = some (nI q) := d18
    refine ⟨nI q, C1, gI M 0 0, hR1.l, ?_, ?_⟩
    · rw [iq_Eng_go_21]
      simp only [↓if_n (show ¬ (0 : Int32) < nI 0 by decide), ↓tN_Rb hR1.1, ↓tW_Ib (show 1 < 7 by decide), eX, eq0]
    · rw [if_neg (show ¬ (0 : Int32) < nI 0 by decide), iq_Mod_go_23, iq_Mod_go_25]
      simp only [↓if_n (show ¬ (0 : Int32) < nI 0 by decide), ↓pM_Rb, ↓pM_ldb, ↓bs l1]
  have mp : (0 : Int32) < nI m := nI_lt (a := 0) (by omega) (by omega)
  have hsc : scw ((C1.1 (kL σ)).2.2.2.1 0, (C1.1 (kL σ)).2.2.2.1 1) := ⟨hR1.2.1.2.1.1.2.2.2.2.1, hR1.2.1.2.1.1.2.2.2.2.2⟩
  obtain ⟨sc', N', c1, c2, c3⟩ := go_c xs d (H := H) hR hC1.symm hm m 0 _ 999999 (by omega) hsc (by omega)
  obtain ⟨N', rfl⟩ : ∃ k, N' = k + 1 := ⟨N' - 1, by omega⟩
  have ez : nx C1 false 1 σ (stN (dE (C.1 (kS σ))) (C.1 (kS σ)) (C.1 (kL σ)) t r p n (C.2 1, (C1.1 (kE false)).2.2.1 0) 0).1 (stN (dE (C.1 (kS σ))) (C.1 (kS σ)) (C.1 (kL σ)) t r p n (C.2 1, (C1.1 (kE false)).2.2.1 0) 0).2 ((C1.1 (kL σ)).2.2.2.1 0, (C1.1 (kL σ)).2.2.2.1 1) = C1 := by
    have := nx_id (C := C1) (ε := false) (k := 1) (σ := σ)
    rw [eX] at this
    exact this
  rw [ez] at c3
  -- the reference, its deeds forgotten
  have hl7 : lnM (gI (gI M 0 0) 17 0) := hl
  have hs7 : rsM (gI (gI M 0 0) 17 0) (C.1 (kS σ)) (C.1 (kL σ)) r p n := hs
  have hdk7 : dkA (gI (gI M 0 0) 17 0) 0 (C.2 1) t r p := hn.2.2.1
  have ho7 : opM (gI (gI M 0 0) 17 0) (dE (C.1 (kS σ))) := op0 (M := gI M 0 0) hR0.2.2.2.1 hT
  have w7 := dk_wf hl7 (show 0 < 23 by decide) hX hdk7
  have a7 := dk_ag hX.2.1 hX.1.2.2.1 hX.1.2.2.2.1 hdk7
  have cm7 : cmM (gI (gI M 0 0) 17 0) (dkW (gI (gI M 0 0) 17 0) 0 (C.2 1)) r := dk_cm hn.2.1
  have b7 := ag_bd a7 hn.2.2.2.1
  obtain ⟨dr', wk', sc2, k1, k2, k3⟩ := go_r xs d (h := h) (a := a) (dr0 := ((gI (gI M 0 0) 17 0).1 22).toInt64) hs7 hT.2.1 ho7 cm7 w7 hm (q := q) (by omega) m 0 ((gI (gI M 0 0) 17 0).1 22) ((gI (gI M 0 0) 17 0).1 15) ((gI (gI M 0 0) 17 0).2.2.2.1 0, (gI (gI M 0 0) 17 0).2.2.2.1 1) 999998 (by omega) hJ rfl b7 (by omega)
  have e7 : my h a (gI (gI M 0 0) 17 0) 0 (dkW (gI (gI M 0 0) 17 0) 0 (C.2 1)) ((gI (gI M 0 0) 17 0).1 22) ((gI (gI M 0 0) 17 0).1 15) ((gI (gI M 0 0) 17 0).2.2.2.1 0, (gI (gI M 0 0) 17 0).2.2.2.1 1) = pM h a (gI (gI M 0 0) 17 0) := my_dk hl7 (by decide)
  have k3' : ia_qr xs (ia_cal xs (d + 19)) im_Mod_go 999998 25 [.ref a, .int (nI m), .int (nI 0)] [] (my h a (gI (gI M 0 0) 17 0) 0 (dkW (gI (gI M 0 0) 17 0) 0 (C.2 1)) ((gI (gI M 0 0) 17 0).1 22) ((gI (gI M 0 0) 17 0).1 15) ((gI (gI M 0 0) 17 0).2.2.2.1 0, (gI (gI M 0 0) 17 0).2.2.2.1 1)) = _ := k3
  rw [e7] at k3'
  -- both worlds agree
  have hag : agW (stN (dE (C.1 (kS σ))) (C.1 (kS σ)) (C.1 (kL σ)) t r p n (dkW (gI (gI M 0 0) 17 0) 0 (C.2 1), ((gI (gI M 0 0) 17 0).1 22).toInt64) m).1 (stN (dE (C.1 (kS σ))) (C.1 (kS σ)) (C.1 (kL σ)) t r p n (C.2 1, (C1.1 (kE false)).2.2.1 0) m).1 t r p := by
    rw [(stN_d (E := dE (C.1 (kS σ))) rfl (X := C.2 1) (dr := (C1.1 (kE false)).2.2.1 0) (dr' := 0) m).1]
    exact both (n := n) hX w7 a7 rfl m
  have hwX := stN_wf (E := dE (C.1 (kS σ))) (S := C.1 (kS σ)) (L := C.1 (kL σ)) (n := n) (Y := (C.2 1, (C1.1 (kE false)).2.2.1 0)) hX m
  have hwW := stN_wf (E := dE (C.1 (kS σ))) (S := C.1 (kS σ)) (L := C.1 (kL σ)) (n := n) (Y := (dkW (gI (gI M 0 0) 17 0) 0 (C.2 1), ((gI (gI M 0 0) 17 0).1 22).toInt64)) w7 m
  have hcX := stN_cm (E := dE (C.1 (kS σ))) (S := C.1 (kS σ)) (L := C.1 (kL σ)) (t := t) (p := p) (n := n) (Y := (C.2 1, (C1.1 (kE false)).2.2.1 0)) hn.2.1 m
  have hpc := stN_pc (E := dE (C.1 (kS σ))) (L := C.1 (kL σ)) (n := n) (Y := (C.2 1, (C1.1 (kE false)).2.2.1 0)) (fun i => g7 σ i) hX (g6 1 (by decide)) m
  generalize stN (dE (C.1 (kS σ))) (C.1 (kS σ)) (C.1 (kL σ)) t r p n (dkW (gI (gI M 0 0) 17 0) 0 (C.2 1), ((gI (gI M 0 0) 17 0).1 22).toInt64) m = W at *
  generalize stN (dE (C.1 (kS σ))) (C.1 (kS σ)) (C.1 (kL σ)) t r p n (C.2 1, (C1.1 (kE false)).2.2.1 0) m = Z at *
  have hbX : bdX Z.1 r (q + m) := ag_bd hag.symm k2
  have hsm : smN (gI M 0 0) (mz (gI (gI M 0 0) 17 0) 0 W.1 dr' wk' sc2) := by
    refine ⟨mz_ln hl7 hwW.1.lnX (by decide), fun k hk => mz_k (by omega), fun k hk h0 h15 h17 h22 _ _ _ => ?_, ?_, ?_, fun X t r p hx hd => dk_ne hl7 hwW.1.lnX (by decide) (by decide) hd hx.2.1 hx.1.2.2.1 hx.1.2.2.2.1⟩
    · show va_up (va_up (gI (gI M 0 0) 17 0).1 15 wk') 22 dr' k = (gI M 0 0).1 k
      rw [up_n h22, up_n h15, gI_n h17]
    · show (va_up (va_up (gI (gI M 0 0) 17 0).2.2.2.1 0 sc2.1) 1 sc2.2 0).length = 7
      rw [up_n (by decide), up_s]; exact k1.1
    · show (va_up (va_up (gI (gI M 0 0) 17 0).2.2.2.1 0 sc2.1) 1 sc2.2 1).length = 64
      rw [up_s]; exact k1.2
  have hc2 := hc.trans (scC.nx (C := C1) (ε := false) (dr := Z.2) hR1.2.2.2.2.2.2.2.2.2.2 c1)
  have hR2 := hR0.sc hc2 hR0.sm
  have e162 : (nx C1 false 5 σ (C1.2 5) Z.2 sc').1 16 = C.1 16 := hc2.2.2.2.2.2.2.1
  have fin : Rl x (uG (uW (nx C1 false 5 σ (C1.2 5) Z.2 sc') 1 Z.1) 16 (gI (C.1 16) 0 0)) (mz (gI (gI M 0 0) 17 0) 0 W.1 dr' wk' sc2) := by
    refine (hR2.nw (D' := gI (C.1 16) 0 0) hsm ⟨hwX, cm_s hcX (fun k hk => mz_k (Or.inl hk)), dk_mz hl7 hwW.1.lnX (by decide) (hwW.1.1.trans hwX.1.1.symm) hag hwX.2.1 hwX.1.2.2.1 hwX.1.2.2.2.1, hbX, hqm⟩ ⟨dl, 0, by omega, rfl, rfl, trivial⟩ hpc g8).l
  refine ⟨Z.1.1 0, _, _, fin, ?_, ?_⟩
  · refine Eq.trans c3 ?_
    have fx1 : fx x (nx C1 false 1 σ Z.1 Z.2 sc') σ := nx_fx hR1.1
    have fx2 : fx x (uG (nx C1 false 1 σ Z.1 Z.2 sc') 16 (gI ((nx C1 false 1 σ Z.1 Z.2 sc').1 16) 0 0)) σ := fx16 fx1
    have eW : (uG (nx C1 false 1 σ Z.1 Z.2 sc') 16 (gI ((nx C1 false 1 σ Z.1 Z.2 sc').1 16) 0 0)).2 1 = Z.1 := by rw [uG_2, nx_W]
    have e3 : uG (nx C1 false 1 σ Z.1 Z.2 sc') 16 (gI ((nx C1 false 1 σ Z.1 Z.2 sc').1 16) 0 0) = uG (uW (nx C1 false 5 σ (C1.2 5) Z.2 sc') 1 Z.1) 16 (gI (C.1 16) 0 0) := by
      rw [nx_w1, uW_1, e162]
    rw [iq_Eng_go_21]
    simp only [↓if_n (nI_nlt (Nat.le_refl m) (show m < 2 ^ 31 by omega)), ↓if_p mp, ↓tN_Rb fx1, ↓tD_clsb, ↓cV_of (d_wipe xs (d + 18)), ↓tN_Rb fx2, ↓tW_Ib (show 1 < 7 by decide), eW]
    rw [e3]
  · rw [if_pos mp, iq_Mod_go_23, hag.1.symm]
    exact k3'
end O38
