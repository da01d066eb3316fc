/-! hang, lend. -/
section O32
variable (xs : List Int32) (d : Nat) {H h : ia_H} {x a : Nat} {C : aC} {M M' D D' : aG} {σ : Bool} {p n r t t0 q : Nat}
theorem fx16 (q : fx x C σ) : fx x (uG C 16 D') σ := fx_s q (uG_n (by decide)) (uG_n (by decide)) (uG_n (by decide)) (fun τ => uG_n (by cases τ <;> decide))
theorem op_hang (hR : Rp x C M σ p n r t t0 q) (v : Int32) : opI xs d H h x a C M im_Eng_hang im_Mod_hang [.int v] := by
  have hR0 := hR.t 0
  have hT := hR0.2.1
  have hs := hT.2.2.1
  have hn := hR0.2.2.1
  have hX := hn.1
  have hl := hs.1
  have hr10 := hX.1.2.2.2.1
  obtain ⟨g6, g7, g8⟩ := hR0.2.2.2.2.2.2.2.2.2.1.2.2.2.2.2
  rw [opI, iu_Eng_hang, iq_Eng_hang_0, iu_Mod_hang, iq_Mod_hang_0]
  simp only [↓pM_pfb, ↓tN_clsb, ↓cI_of (e_isRing xs (d + 18) hR.1 hX.1 v), ↓pM_clsb, ↓cI_of (p_isCall xs (d + 18) hs v)]
  rcases inI_c v (show r < 2 ^ 31 by omega) with c0 | ⟨c0, c, hc, rfl⟩
  · exact ⟨-1, C, gI M 0 0, hR0.l, by rw [if_pos c0], by rw [if_pos c0]⟩
  have c1 : ¬ inI (nI c) r = 0 := by rw [c0]; decide
  obtain ⟨y6, y7, y8, y9, y10, y11⟩ := hX.1.rr hc
  have u10 : rd ((gI M 0 0).2.1 29) (nI c) = some (fA (C.2 1) 10 c) := d0_r hn hl (k := 10) (by decide) (by decide) hc
  simp only [↓if_n c1, ↓tN_Rb hR.1, ↓tW_Rb (show 1 < 7 by decide), ↓tW_ldb (show 1 < 7 by decide), ↓bs y10, ↓pM_Rb, ↓pM_ldb, ↓bs u10]
  by_cases a1 : fA (C.2 1) 10 c = 1
  rotate_left
  · exact ⟨-2, C, gI M 0 0, hR0.l, by rw [if_neg a1], by rw [if_neg a1]⟩
  rw [if_pos a1, if_pos a1]
  obtain ⟨M', D', k', s, b1, b2, b3, b4, b5, b6, b7, b8, b9, b10, b11, b12, b13⟩ := pre xs d (H := H) (h := h) (a := a) hR0 2 (nI c) 0
  have l10 := hX.1.lnX.2.2 10 (by decide) (by decide)
  have wX : wfX (sA (C.2 1) 10 (((C.2 1).2 10).set c 2)) t r p := wfX_sA hX (List.length_set ..) (by decide) (by decide) (by decide)
  have wW : wfX (sA (dkW M' 0 (C.2 1)) 10 (((dkW M' 0 (C.2 1)).2 10).set c 2)) t r p := wfX_sA b10 (List.length_set ..) (by decide) (by decide) (by decide)
  have w10 : wr (((uG C 16 D').2 1).2 10) (nI c) 2 = some (((C.2 1).2 10).set c 2) := wr_nI (l := (C.2 1).2 10) (by omega) (by omega)
  refine ⟨fA (C.2 1) 8 c + fA (C.2 1) 9 c - (C.2 1).1 0, uG (uW C 1 (sA (C.2 1) 10 (((C.2 1).2 10).set c 2))) 16 D', mz M' 0 (sA (dkW M' 0 (C.2 1)) 10 (((dkW M' 0 (C.2 1)).2 10).set c 2)) (M'.1 22) (M'.1 15) (M'.2.2.2.1 0, M'.2.2.2.1 1), ?_, ?_, ?_⟩
  · refine hR0.deed b1 b2 b3 b4 b5 b6 b7 (X' := C.2 1) (Or.inr (Or.inr (Or.inl ⟨b7.2.2.2.1, rfl, c, hc, b7.2.2.2.2.1, ?_⟩))) eqT.rf wX (cm_sA hn.2.1 (by decide) (by decide)) (bd_sA hn.2.2.2.1 (by decide) (by decide)) wW.1.lnX ?_ ?_ ?_ (fun i => ?_)
    · have := sA_back (X := C.2 1) (k := 10) (c := c) (v := 2)
      rw [a1] at this
      exact this.symm
    · exact b10.1.1.trans hX.1.1.symm
    · exact aw_set b11 (by rw [b10.1.lnX.2.2 10 (by decide) (by decide)]; omega) (by omega) rfl
    · exact ⟨0, by omega, rfl⟩
    · exact pcX_sA (g6 1 (by decide) i) (by decide) (by decide)
  · have fx1 : fx x (uG C 16 D') σ := fx16 hR.1
    have fx2 : fx x (uW (uG C 16 D') 1 (sA ((uG C 16 D').2 1) 10 (((C.2 1).2 10).set c 2))) σ := fx16 hR.1
    have z8 : rd (((uW (uG C 16 D') 1 (sA ((uG C 16 D').2 1) 10 (((C.2 1).2 10).set c 2))).2 1).2 8) (nI c) = some (fA (C.2 1) 8 c) := y8
    have z9 : rd (((uW (uG C 16 D') 1 (sA ((uG C 16 D').2 1) 10 (((C.2 1).2 10).set c 2))).2 1).2 9) (nI c) = some (fA (C.2 1) 9 c) := y9
    simp only [↓tD_clsb, ↓cV_of b13, ↓tN_Rb fx1, ↓tW_Rb (show 1 < 7 by decide), ↓tW_stb (show 1 < 7 by decide), ↓bs w10, ↓tN_Rb fx2, ↓tW_ldb (show 1 < 7 by decide), ↓bs z8, ↓bs z9, ↓tW_Ib (show 1 < 7 by decide)]
    rfl
  · have ww := my_w29 (h := h) (a := a) (dr := M'.1 22) (wk := M'.1 15) (sc := (M'.2.2.2.1 0, M'.2.2.2.1 1)) (b10.y b1.1 (show 0 < 23 by decide)) (show c < 10 by omega)
    have hy2 := wW.y b1.1 (show 0 < 23 by decide)
    have r8 := my_r27 (h := h) (a := a) (dr := M'.1 22) (wk := M'.1 15) (sc := (M'.2.2.2.1 0, M'.2.2.2.1 1)) hy2 (show c < 10 by omega)
    have r9 := my_r28 (h := h) (a := a) (dr := M'.1 22) (wk := M'.1 15) (sc := (M'.2.2.2.1 0, M'.2.2.2.1 1)) hy2 (show c < 10 by omega)
    have r0 := my_r18 (h := h) (a := a) (dr := M'.1 22) (wk := M'.1 15) (sc := (M'.2.2.2.1 0, M'.2.2.2.1 1)) hy2
    rw [z10] at ww r8 r9
    have r0' : ∀ f : Int32 → Option ia_R, (ia_ald (my h a M' 0 (sA (dkW M' 0 (C.2 1)) 10 (((dkW M' 0 (C.2 1)).2 10).set c 2)) (M'.1 22) (M'.1 15) (M'.2.2.2.1 0, M'.2.2.2.1 1)) (a + 21) 0 (0 : Int32)).bind f = f ((dkW M' 0 (C.2 1)).1 0) := r0
    simp only [↓cV_of b12]
    rw [b9]
    simp only [↓my_Rb, ↓ww, ↓r8, ↓r9, ↓r0', fA_n (show 8 ≠ 10 by decide), fA_n (show 9 ≠ 10 by decide)]
    rw [b11.2.2.2.2 8 (by decide) (by decide) c hc, b11.2.2.2.2 9 (by decide) (by decide) c hc, b11.1]
    rfl
theorem op_lend (hR : Rp x C M σ p n r t t0 q) (v w : Int32) : opI xs d H h x a C M im_Eng_lend im_Mod_lend [.int v, .int w] := by
  have hR0 := hR.t 0
  have hT := hR0.2.1
  have hs := hT.2.2.1
  have hn := hR0.2.2.1
  have hX := hn.1
  have hl := hs.1
  have hp6 := hX.2.1
  obtain ⟨g6, g7, g8⟩ := hR0.2.2.2.2.2.2.2.2.2.1.2.2.2.2.2
  rw [opI, iu_Eng_lend, iq_Eng_lend_0, iu_Mod_lend, iq_Mod_lend_0]
  simp only [↓pM_pfb, ↓tN_clsb, ↓cI_of (e_isPerson xs (d + 18) hR.1 hT.1 v), ↓pM_clsb, ↓cI_of (p_isMan xs (d + 18) hs v)]
  rcases inI_c v (show p < 2 ^ 31 by omega) with c0 | ⟨c0, c, hc, rfl⟩
  · exact ⟨-1, C, gI M 0 0, hR0.l, by rw [if_pos c0], by rw [if_pos c0]⟩
  have c1 : ¬ inI (nI c) p = 0 := by rw [c0]; decide
  rw [if_neg c1, if_neg c1]
  by_cases a1 : w < 1
  · exact ⟨-1, C, gI M 0 0, hR0.l, by rw [if_pos a1], by rw [if_pos a1]⟩
  by_cases a2 : 99 < w
  · exact ⟨-1, C, gI M 0 0, hR0.l, by rw [if_neg a1, if_pos a2], by rw [if_neg a1, if_pos a2]⟩
  obtain ⟨u, hu, rfl⟩ := in_le (k := 99) rfl (fun z => a1 (Int32.lt_trans z (by decide))) a2
  obtain ⟨z, hz, ez⟩ := (g6 1 (by decide) c).1
  have y0 : rd ((C.2 1).2 0) (nI c) = some (nI z) := by rw [rdA (by rw [hX.1.ln.1]; omega) (by rw [hX.1.ln.1]; decide), ez]
  have u0' : rd ((gI M 0 0).2.1 21) (nI c) = some (fA (C.2 1) 0 c) := d0_p hn hl (k := 0) (by decide) hc
  have u0 : rd ((gI M 0 0).2.1 21) (nI c) = some (nI z) := by rw [u0', ez]
  rw [if_neg a1, if_neg a2, if_neg a1, if_neg a2]
  simp only [↓tN_Rb hR.1, ↓tW_Rb (show 1 < 7 by decide), ↓tW_ldb (show 1 < 7 by decide), ↓bs y0, ↓pM_Rb, ↓pM_ldb, ↓bs u0, nI_add]
  by_cases a3 : 9999 < nI (z + u)
  · exact ⟨-1, C, gI M 0 0, hR0.l, by rw [if_pos a3], by rw [if_pos a3]⟩
  rw [if_neg a3, if_neg a3]
  obtain ⟨M', D', k', s, b1, b2, b3, b4, b5, b6, b7, b8, b9, b10, b11, b12, b13⟩ := pre xs d (H := H) (h := h) (a := a) hR0 3 (nI c) (nI z)
  have l0 := hX.1.lnX.1 0 (by decide)
  have wX : wfX (sA (C.2 1) 0 (((C.2 1).2 0).set c (nI (z + u)))) t r p := wfX_sA hX (List.length_set ..) (by decide) (by decide) (by decide)
  have wW : wfX (sA (dkW M' 0 (C.2 1)) 0 (((dkW M' 0 (C.2 1)).2 0).set c (nI (z + u)))) t r p := wfX_sA b10 (List.length_set ..) (by decide) (by decide) (by decide)
  have w0 : wr (((uG C 16 D').2 1).2 0) (nI c) (nI (z + u)) = some (((C.2 1).2 0).set c (nI (z + u))) := wr_nI (l := (C.2 1).2 0) (by omega) (by omega)
  have hzu : z + u ≤ 9999 := by
    refine Classical.byContradiction fun y => a3 ?_
    exact nI_lt (a := 9999) (by omega) (by omega)
  refine ⟨nI (z + u), uG (uW C 1 (sA (C.2 1) 0 (((C.2 1).2 0).set c (nI (z + u))))) 16 D', mz M' 0 (sA (dkW M' 0 (C.2 1)) 0 (((dkW M' 0 (C.2 1)).2 0).set c (nI (z + u)))) (M'.1 22) (M'.1 15) (M'.2.2.2.1 0, M'.2.2.2.1 1), ?_, ?_, ?_⟩
  · refine hR0.deed b1 b2 b3 b4 b5 b6 b7 (X' := C.2 1) (Or.inr (Or.inr (Or.inr ⟨b7.2.2.2.1, rfl, c, hc, b7.2.2.2.2.1, ?_⟩))) eqT.rf wX (cm_sA hn.2.1 (by decide) (by decide)) (bd_sA hn.2.2.2.1 (by decide) (by decide)) wW.1.lnX ?_ ?_ ?_ (fun i => ?_)
    · rw [b7.2.2.2.2.2.1, ← ez]; exact sA_back.symm
    · exact b10.1.1.trans hX.1.1.symm
    · exact aw_set b11 (by rw [b10.1.lnX.1 0 (by decide)]; omega) (by omega) rfl
    · exact ⟨z, hz, rfl⟩
    · refine ⟨?_, by rw [fA_n (by decide)]; exact (g6 1 (by decide) i).2⟩
      rw [fA_set (by omega)]
      split
      · exact ⟨z + u, by omega, rfl⟩
      · exact (g6 1 (by decide) i).1
  · have fx1 : fx x (uG C 16 D') σ := fx16 hR.1
    have y0' : rd (((uG C 16 D').2 1).2 0) (nI c) = some (nI z) := y0
    have fx2 : fx x (uW (uG C 16 D') 1 (sA ((uG C 16 D').2 1) 0 (((C.2 1).2 0).set c (nI (z + u))))) σ := fx16 hR.1
    have zz : rd (((uW (uG C 16 D') 1 (sA ((uG C 16 D').2 1) 0 (((C.2 1).2 0).set c (nI (z + u))))).2 1).2 0) (nI c) = some (nI (z + u)) := by
      rw [uW_s, sA_2, rdN (by rw [List.length_set]; omega) (by rw [List.length_set]; omega), ia_set_getD (by omega), if_pos rfl]
    simp only [↓tD_clsb, ↓cV_of b13, ↓tN_Rb fx1, ↓tW_Rb (show 1 < 7 by decide), ↓tW_ldb (show 1 < 7 by decide), ↓bs y0', ↓tW_stb (show 1 < 7 by decide), nI_add, ↓bs w0, ↓tN_Rb fx2, ↓bs zz]
    rfl
  · have ww := my_w21 (h := h) (a := a) (dr := M'.1 22) (wk := M'.1 15) (sc := (M'.2.2.2.1 0, M'.2.2.2.1 1)) (b10.y b1.1 (show 0 < 23 by decide)) (show c < 6 by omega)
    have rr := my_r21 (h := h) (a := a) (dr := M'.1 22) (wk := M'.1 15) (sc := (M'.2.2.2.1 0, M'.2.2.2.1 1)) (b10.y b1.1 (show 0 < 23 by decide)) (show c < 6 by omega)
    have r2 := my_r21 (h := h) (a := a) (dr := M'.1 22) (wk := M'.1 15) (sc := (M'.2.2.2.1 0, M'.2.2.2.1 1)) (wW.y b1.1 (show 0 < 23 by decide)) (show c < 6 by omega)
    rw [z6] at ww rr r2
    have ev : fA (dkW M' 0 (C.2 1)) 0 c = nI z := by rw [b11.2.2.1 0 (by decide) c hc, ez]
    rw [fA_set (by rw [b10.1.lnX.1 0 (by decide)]; omega), if_pos rfl] at r2
    rw [ev] at rr
    simp only [↓cV_of b12]
    rw [b9]
    simp only [↓my_Rb, ↓rr, nI_add, ↓ww, ↓r2]
    rfl
end O32
