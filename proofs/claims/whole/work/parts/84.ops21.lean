/-! hear. -/
section O21
variable (xs : List Int32) (d : Nat) {H h : ia_H} {x a : Nat} {C : aC} {M M' : aG} {σ : Bool} {p n r t t0 q : Nat}
def adH (M : aG) (w : Nat) (v1 v2 v3 : Int32) : aG := gI (gA (gA (gA (gA M 34 ((M.2.1 34).set w v1)) 35 ((M.2.1 35).set w v2)) 36 ((M.2.1 36).set w v3)) 37 ((M.2.1 37).set w (-1))) 26 (nI (w + 1))
theorem adH_f {w : Nat} {v1 v2 v3 : Int32} (hl : lnM M) (hw : w < 24) : smU M (adH M w v1 v2 v3) ∧ (∀ k i, 34 ≤ k → k < 38 → i < w → fG (adH M w v1 v2 v3) k i = fG M k i) ∧ fG (adH M w v1 v2 v3) 34 w = v1 ∧ fG (adH M w v1 v2 v3) 35 w = v2 ∧ fG (adH M w v1 v2 v3) 36 w = v3 ∧ fG (adH M w v1 v2 v3) 37 w = -1 := by
  have r4 : (adH M w v1 v2 v3).2.1 34 = (M.2.1 34).set w v1 := rfl
  have r5 : (adH M w v1 v2 v3).2.1 35 = (M.2.1 35).set w v2 := rfl
  have r6 : (adH M w v1 v2 v3).2.1 36 = (M.2.1 36).set w v3 := rfl
  have r7 : (adH M w v1 v2 v3).2.1 37 = (M.2.1 37).set w (-1) := rfl
  have rk : ∀ k, k ≠ 34 → k ≠ 35 → k ≠ 36 → k ≠ 37 → (adH M w v1 v2 v3).2.1 k = M.2.1 k := fun k a b c e => by
    unfold adH
    rw [gI_2, gA_n e, gA_n c, gA_n b, gA_n a]
  have l4 : (M.2.1 34).length = 24 := hl 34 (by decide)
  have l5 : (M.2.1 35).length = 24 := hl 35 (by decide)
  have l6 : (M.2.1 36).length = 24 := hl 36 (by decide)
  have l7 : (M.2.1 37).length = 24 := hl 37 (by decide)
  refine ⟨⟨fun k hk => ?_, fun k hk => rk k (by omega) (by omega) (by omega) (by omega), fun k hk hk0 => ?_, rfl⟩, fun k i hk hk2 hi => ?_, ?_, ?_, ?_, ?_⟩
  · by_cases e4 : k = 34
    · subst e4; rw [r4, List.length_set]; exact l4
    by_cases e5 : k = 35
    · subst e5; rw [r5, List.length_set]; exact l5
    by_cases e6 : k = 36
    · subst e6; rw [r6, List.length_set]; exact l6
    by_cases e7 : k = 37
    · subst e7; rw [r7, List.length_set]; exact l7
    rw [rk k e4 e5 e6 e7]; exact hl k hk
  · exact gI_n (by omega)
  · have k4 : k = 34 ∨ k = 35 ∨ k = 36 ∨ k = 37 := by omega
    unfold fG
    rcases k4 with rfl | rfl | rfl | rfl
    · rw [r4, ia_set_getD (by omega), if_neg (by omega)]
    · rw [r5, ia_set_getD (by omega), if_neg (by omega)]
    · rw [r6, ia_set_getD (by omega), if_neg (by omega)]
    · rw [r7, ia_set_getD (by omega), if_neg (by omega)]
  · unfold fG; rw [r4, ia_set_getD (by omega), if_pos rfl]
  · unfold fG; rw [r5, ia_set_getD (by omega), if_pos rfl]
  · unfold fG; rw [r6, ia_set_getD (by omega), if_pos rfl]
  · unfold fG; rw [r7, ia_set_getD (by omega), if_pos rfl]
theorem op_hear (hR : Rp x C M σ p n r t t0 q) (v1 v2 v3 : Int32) (h3 : v3 = 0 ∨ v3 = 1) : opI xs d H h x a C M im_Eng_hear im_Mod_hear [.int v1, .int v2, .int v3] := by
  have hR0 := hR.t 0
  have hT := hR0.2.1
  have hs := hT.2.2.1
  have hU := hR0.2.2.2.2.2.2.1
  obtain ⟨g1, w, g2, g3, g4, g5, g6, g7⟩ := hR0.2.2.2.2.2.2.1
  have hl := hs.1
  have hp6 := hR0.2.2.1.1.2.1
  have g4' : (gI M 0 0).1 26 = nI w := g4
  have nar : vp_nar .boolean v3 = v3 := by rcases h3 with rfl | rfl <;> rfl
  rw [opI, iu_Eng_hear, iq_Eng_hear_0, iu_Mod_hear, iq_Mod_hear_0]
  simp only [↓pM_pfb, ↓tN_clsb, ↓pM_clsb, ↓cI_of (e_isPerson xs (d + 18) hR.1 hT.1 v2), ↓cI_of (p_isMan xs (d + 18) hs v2), ↓tN_Rb hR.1, ↓pM_Ib, g4', nar]
  by_cases a1 : v1 < 0
  · exact ⟨-1, C, gI M 0 0, hR0.l, by rw [if_pos a1], by rw [if_pos a1]⟩
  by_cases a2 : 60 < v1
  · exact ⟨-1, C, gI M 0 0, hR0.l, by rw [if_neg a1, if_pos a2], by rw [if_neg a1, if_pos a2]⟩
  obtain ⟨u, hu, rfl⟩ := in_le (k := 60) rfl a1 a2
  rcases inI_c v2 (show p < 2 ^ 31 by omega) with c0 | ⟨c0, m, hm, rfl⟩
  · exact ⟨-1, C, gI M 0 0, hR0.l, by rw [if_neg a1, if_neg a2, if_pos c0], by rw [if_neg a1, if_neg a2, if_pos c0]⟩
  have c1 : ¬ inI (nI m) p = 0 := by rw [c0]; decide
  rw [if_neg a1, if_neg a2, if_neg c1, if_neg a1, if_neg a2, if_neg c1]
  -- the class comes to one call
  have ecl : (if v3 = 0 then ia_qr xs (ia_cal xs (d + 19)) im_Eng_hear 999999 18 [.float 0, .int (nI u), .int (nI m), .float 0] [.int 0, .ref (x + 149)] (tot H x C) else ia_qr xs (ia_cal xs (d + 19)) im_Eng_hear 999999 18 [.float 0, .int (nI u), .int (nI m), .float 0] [.int 1, .ref (x + 149)] (tot H x C)) = ia_cI (ia_cal xs (d + 19) im_Rumours_add [.ref (x + 149), .int v3, .int (nI u), .int (nI m)] (tot H x C)) fun y g => some (some (.int y), g) := by
    rcases h3 with rfl | rfl
    · rw [if_pos rfl, iq_Eng_hear_18]
      simp only [↓tU_clsb]
    · rw [if_neg (by decide), iq_Eng_hear_18]
      simp only [↓tU_clsb]
  by_cases a3 : w = 24
  · subst a3
    refine ⟨-1, C, gI M 0 0, hR0.l, ?_, ?_⟩
    · refine Eq.trans ecl ?_
      rw [cI_of (u_full xs (d + 18) (H := H) (x := x) g3 _ _ _)]
    · rw [if_pos (show nI 24 = 24 from rfl)]
  · have hw2 : w < 24 := by omega
    have n24 : ¬ nI w = (24 : Int32) := fun e => a3 ((nI_eq (a := w) (b := 24) (by omega) (by omega)).mp e)
    have m1 : nI (w + 1) - 1 = nI w := (pk_sub (a := w + 1) (b := 1) (by omega)).trans (by rw [Nat.add_sub_cancel])
    obtain ⟨f1, f2, f3, f4, f5⟩ := adU_f (U := C.1 15) (w := w) (v1 := v3) (v2 := nI u) (v3 := nI m) g1 hw2
    obtain ⟨k1, k2, k3, k4, k5, k6⟩ := adH_f (M := gI M 0 0) (w := w) (v1 := nI u) (v2 := nI m) (v3 := v3) hl hw2
    refine ⟨nI w, uG C 15 (adU (C.1 15) w v3 (nI u) (nI m)), adH (gI M 0 0) w (nI u) (nI m) v3, ?_, ?_, ?_⟩
    · refine (hR0.u k1 (ru_add hU g3 hw2 f1 gI_s rfl gI_s rfl f2 k2 ?_)).l
      refine Or.inr ⟨by rw [f3]; exact h3, k6, by rw [k5, f3], ⟨u, hu, f4, k3⟩, ⟨m, hm, f5, k4⟩⟩
    · refine Eq.trans ecl ?_
      rw [cI_of (u_add xs (d + 18) (H := H) (x := x) g1 g3 hw2 _ _ _)]
    · rw [if_neg n24]
      have l4 : ((gI M 0 0).2.1 34).length = 24 := hl 34 (by decide)
      have l5 : ((gI M 0 0).2.1 35).length = 24 := hl 35 (by decide)
      have l6 : ((gI M 0 0).2.1 36).length = 24 := hl 36 (by decide)
      have l7 : ((gI M 0 0).2.1 37).length = 24 := hl 37 (by decide)
      generalize gI M 0 0 = Z at *
      have w4 : wr (Z.2.1 34) (nI w) (nI u) = some ((Z.2.1 34).set w (nI u)) := wr_nI (by omega) (by omega)
      have w5 : wr ((gA Z 34 ((Z.2.1 34).set w (nI u))).2.1 35) (nI w) (nI m) = some ((Z.2.1 35).set w (nI m)) := wr_nI (l := Z.2.1 35) (by omega) (by omega)
      have w6 : wr ((gA (gA Z 34 ((Z.2.1 34).set w (nI u))) 35 ((Z.2.1 35).set w (nI m))).2.1 36) (nI w) v3 = some ((Z.2.1 36).set w v3) := wr_nI (l := Z.2.1 36) (by omega) (by omega)
      have w7 : wr ((gA (gA (gA Z 34 ((Z.2.1 34).set w (nI u))) 35 ((Z.2.1 35).set w (nI m))) 36 ((Z.2.1 36).set w v3)).2.1 37) (nI w) (-1) = some ((Z.2.1 37).set w (-1)) := wr_nI (l := Z.2.1 37) (by omega) (by omega)
      have i1 : (gA Z 34 ((Z.2.1 34).set w (nI u))).1 26 = nI w := g4
      have i2 : (gA (gA Z 34 ((Z.2.1 34).set w (nI u))) 35 ((Z.2.1 35).set w (nI m))).1 26 = nI w := g4
      have i3 : (gA (gA (gA Z 34 ((Z.2.1 34).set w (nI u))) 35 ((Z.2.1 35).set w (nI m))) 36 ((Z.2.1 36).set w v3)).1 26 = nI w := g4
      have i4 : (gA (gA (gA (gA Z 34 ((Z.2.1 34).set w (nI u))) 35 ((Z.2.1 35).set w (nI m))) 36 ((Z.2.1 36).set w v3)) 37 ((Z.2.1 37).set w (-1))).1 26 = nI w := g4
      have i5 : (gI (gA (gA (gA (gA Z 34 ((Z.2.1 34).set w (nI u))) 35 ((Z.2.1 35).set w (nI m))) 36 ((Z.2.1 36).set w v3)) 37 ((Z.2.1 37).set w (-1))) 26 (nI (w + 1))).1 26 = nI (w + 1) := gI_s
      simp only [↓pM_Rb, ↓pM_stb, ↓pM_Ib, ↓pM_pfb, g4', ↓bs w4, i1, ↓bs w5, i2, ↓bs w6, i3, ↓bs w7, i4, nI_1, i5, m1]
      rfl
end O21
