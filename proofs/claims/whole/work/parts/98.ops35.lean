/-! back, keep. -/
section O35
variable (xs : List Int32) (d : Nat) {H h : ia_H} {x a : Nat} {C : aC} {M M' D D' : aG} {σ : Bool} {p n r t t0 q : Nat}
theorem d_wipe : ia_cal xs (d + 1) im_Deeds_wipe [.ref (x + 154)] (tot H x C) = some (none, tot H x (uG C 16 (gI (C.1 16) 0 0))) := by
  rw [iu_Deeds_wipe, iq_Deeds_wipe_0]
  simp only [↓tD_pfb]
theorem op_back (hR : Rp x C M σ p n r t t0 q) : opI xs d H h x a C M im_Eng_back im_Mod_back [] := by
  have hR0 := hR.t 0
  have hT := hR0.2.1
  have hn := hR0.2.2.1
  have hX := hn.1
  have hl := hT.2.2.1.1
  obtain ⟨g6, g7, g8⟩ := hR0.2.2.2.2.2.2.2.2.2.1.2.2.2.2.2
  obtain ⟨i1, i2, i3⟩ := hR0.2.2.2.2.1
  obtain ⟨dl, k, hk, dk1, dk2, dkc⟩ := hR0.2.2.2.2.2.1
  have i1' : (C.1 0).1 1 = (gI M 0 0).1 16 := i1
  rw [opI, iu_Eng_back, iq_Eng_back_0, iu_Mod_back, iq_Mod_back_0]
  simp only [↓pM_pfb, ↓tN_Ib, ↓pM_Ib, i1']
  rcases i3 with i3 | ⟨i3, ti, qi, w1, w2, w3, w4, w5⟩
  · exact ⟨-1, C, gI M 0 0, hR0.l, by rw [if_pos i3], by rw [if_pos i3]⟩
  have n0 : ¬ (gI M 0 0).1 16 = 0 := by rw [i3]; decide
  rw [if_neg n0, if_neg n0]
  have hb := k_become (H := H) (x := x) (C := C) (j := 2) (k := 1) xs (d + 18) (by decide) (by decide) (by decide) w1.1.lnX hX.1.lnX
  have hcp := p_copies xs (d + 18) (h := h) (a := a) hl (b := 0) (c := 2) (by decide) (by decide) (by decide) (bI := 0) (cI := 2) rfl rfl
  have e17 : gI (cpM (gI M 0 0) 0 2) 17 0 = cpM (gI (gI M 0 0) 17 0) 0 2 := by
    refine Prod.ext ?_ rfl
    rw [cp_1]
    show va_up (cpM (gI M 0 0) 0 2).1 17 0 = va_up (gI M 0 0).1 17 0
    rw [cp_1]
  have hl17 : lnM (gI (gI M 0 0) 17 0) := hl
  have w3' : dkA (gI (gI M 0 0) 17 0) 2 (C.2 2) ti r p := w3
  have hd0 := cp_eq hl17 (b := 0) (c := 2) (by decide) (by decide) w1 w3'
  have hN : NWr (C.2 2) (cpM (gI (gI M 0 0) 17 0) 0 2) ti r p qi := ⟨w1, cm_s w2 (fun k hk => cp_k (Or.inl hk)), hd0, w4, w5⟩
  have fx1 : fx x (uW C 1 (C.2 2)) σ := hR.1
  have fx2 : fx x (uG (uW C 1 (C.2 2)) 16 (gI ((uW C 1 (C.2 2)).1 16) 0 0)) σ := fx16 hR.1
  refine ⟨(C.2 2).1 0, uG (uW C 1 (C.2 2)) 16 (gI (C.1 16) 0 0), gI (cpM (gI M 0 0) 0 2) 17 0, ?_, ?_, ?_⟩
  · rw [e17]
    exact (hR0.nw (D' := gI (C.1 16) 0 0) (smN.cp hl hR0.2.2.2.1.2.2.2.2 (by decide) (by decide)) hN ⟨dl, 0, by omega, rfl, by rw [cp_1]; rfl, trivial⟩ (g6 2 (by decide)) g8).l
  · simp only [↓tN_Rb hR.1, ↓tW_clsb (show 1 < 7 by decide), ↓cV_of hb, ↓tN_Rb fx1, ↓tD_clsb, ↓cV_of (d_wipe xs (d + 18)), ↓tN_Rb fx2, ↓tW_Ib (show 1 < 7 by decide)]
    rfl
  · have r18 : rd ((cpM (gI (gI M 0 0) 17 0) 0 2).2.1 18) (0 : Int32) = some ((C.2 2).1 0) := d0_18 hN (cp_ln hl17 (by decide) (by decide))
    simp only [↓pM_clsb, ↓cV_of hcp, ↓pM_pfb, e17, ↓pM_Rb, ↓pM_ldb, ↓bs r18]
end O35
