/-! hear, out, known: the answers. -/
section O20
variable (xs : List Int32) (d : Nat) {H h : ia_H} {x a : Nat} {C : aC} {M M' : aG} {σ : Bool} {p n r t t0 q : Nat}
def adU (U : aG) (w : Nat) (v1 v2 v3 : Int32) : aG := gI (gA (gA (gA U 0 ((U.2.1 0).set w v1)) 1 ((U.2.1 1).set w v2)) 2 ((U.2.1 2).set w v3)) 0 (nI (w + 1))
theorem u_add {w : Nat} (hl : ∀ k, k < 4 → ((C.1 15).2.1 k).length = 24) (hw : (C.1 15).1 0 = nI w) (hw2 : w < 24) (v1 v2 v3 : Int32) : ia_cal xs (d + 1) im_Rumours_add [.ref (x + 149), .int v1, .int v2, .int v3] (tot H x C) = some (some (.int (nI w)), tot H x (uG C 15 (adU (C.1 15) w v1 v2 v3))) := by
  have l0 := hl 0 (by decide)
  have l1 := hl 1 (by decide)
  have l2 := hl 2 (by decide)
  have w0 : wr ((C.1 15).2.1 0) (nI w) v1 = some (((C.1 15).2.1 0).set w v1) := wr_nI (by omega) (by omega)
  have w1 : wr (((uG C 15 (gA (C.1 15) 0 (((C.1 15).2.1 0).set w v1))).1 15).2.1 1) (nI w) v2 = some (((C.1 15).2.1 1).set w v2) := by
    rw [uG_s, gA_n (by decide), wr_nI (by omega) (by omega)]
  have w2 : wr (((uG C 15 (gA (gA (C.1 15) 0 (((C.1 15).2.1 0).set w v1)) 1 (((C.1 15).2.1 1).set w v2))).1 15).2.1 2) (nI w) v3 = some (((C.1 15).2.1 2).set w v3) := by
    rw [uG_s, gA_n (by decide), gA_n (by decide), wr_nI (by omega) (by omega)]
  have e1 : uG (uG C 15 (gA (C.1 15) 0 (((C.1 15).2.1 0).set w v1))) 15 (gA ((uG C 15 (gA (C.1 15) 0 (((C.1 15).2.1 0).set w v1))).1 15) 1 (((C.1 15).2.1 1).set w v2)) = uG C 15 (gA (gA (C.1 15) 0 (((C.1 15).2.1 0).set w v1)) 1 (((C.1 15).2.1 1).set w v2)) := by rw [uG_s, uG_G]
  have e2 : uG (uG C 15 (gA (gA (C.1 15) 0 (((C.1 15).2.1 0).set w v1)) 1 (((C.1 15).2.1 1).set w v2))) 15 (gA ((uG C 15 (gA (gA (C.1 15) 0 (((C.1 15).2.1 0).set w v1)) 1 (((C.1 15).2.1 1).set w v2))).1 15) 2 (((C.1 15).2.1 2).set w v3)) = uG C 15 (gA (gA (gA (C.1 15) 0 (((C.1 15).2.1 0).set w v1)) 1 (((C.1 15).2.1 1).set w v2)) 2 (((C.1 15).2.1 2).set w v3)) := by rw [uG_s, uG_G]
  have i1 : ((uG C 15 (gA (C.1 15) 0 (((C.1 15).2.1 0).set w v1))).1 15).1 0 = nI w := by rw [uG_s]; exact hw
  have i2 : ((uG C 15 (gA (gA (C.1 15) 0 (((C.1 15).2.1 0).set w v1)) 1 (((C.1 15).2.1 1).set w v2))).1 15).1 0 = nI w := by rw [uG_s]; exact hw
  have i3 : ((uG C 15 (gA (gA (gA (C.1 15) 0 (((C.1 15).2.1 0).set w v1)) 1 (((C.1 15).2.1 1).set w v2)) 2 (((C.1 15).2.1 2).set w v3))).1 15).1 0 = nI w := by rw [uG_s]; exact hw
  have e3 : uG (uG C 15 (gA (gA (gA (C.1 15) 0 (((C.1 15).2.1 0).set w v1)) 1 (((C.1 15).2.1 1).set w v2)) 2 (((C.1 15).2.1 2).set w v3))) 15 (gI ((uG C 15 (gA (gA (gA (C.1 15) 0 (((C.1 15).2.1 0).set w v1)) 1 (((C.1 15).2.1 1).set w v2)) 2 (((C.1 15).2.1 2).set w v3))).1 15) 0 (nI (w + 1))) = uG C 15 (adU (C.1 15) w v1 v2 v3) := by rw [uG_s, uG_G]; rfl
  have i4 : ((uG C 15 (adU (C.1 15) w v1 v2 v3)).1 15).1 0 = nI (w + 1) := by rw [uG_s]; exact gI_s
  have m1 : nI (w + 1) - 1 = nI w := (pk_sub (a := w + 1) (b := 1) (by omega)).trans (by rw [Nat.add_sub_cancel])
  rw [iu_Rumours_add, iq_Rumours_add_0]
  simp only [↓tU_Ib, hw, ↓if_p (show nI w < (24 : Int32) from nI_lt (b := 24) hw2 (by decide)), ↓tU_Rb, ↓tU_stb, ↓bs w0, i1, ↓bs w1, e1, i2, ↓bs w2, e2, i3, ↓tU_pfb, nI_1, e3, i4, m1]
theorem u_full (hw : (C.1 15).1 0 = nI 24) (v1 v2 v3 : Int32) : ia_cal xs (d + 1) im_Rumours_add [.ref (x + 149), .int v1, .int v2, .int v3] (tot H x C) = some (some (.int (-1)), tot H x C) := by
  rw [iu_Rumours_add, iq_Rumours_add_0]
  simp only [↓tU_Ib, hw, ↓if_n (show ¬ nI 24 < (24 : Int32) by decide)]
theorem ru_add {U U' : aG} {w : Nat} (h : RUr U M p) (hw : U.1 0 = nI w) (hw2 : w < 24) (hl : ∀ k, k < 4 → (U'.2.1 k).length = 24) (i0 : U'.1 0 = nI (w + 1)) (i1 : U'.1 1 = U.1 1) (j0 : M'.1 26 = nI (w + 1)) (j1 : M'.1 27 = M.1 27) (hu : ∀ k i, k < 3 → i < w → fG U' k i = fG U k i) (hm : ∀ k i, 34 ≤ k → k < 38 → i < w → fG M' k i = fG M k i) (hx : RUi U' M' p w) : RUr U' M' p := by
  obtain ⟨-, w', g2, g3, g4, g5, g6, g7⟩ := h
  have e : w' = w := (nI_eq (by omega) (by omega)).mp (g3.symm.trans hw)
  subst e
  refine ⟨hl, w' + 1, by omega, i0, j0, by rw [i1, j1]; exact g5, ?_, fun i hi => ?_⟩
  · rw [j1]
    rcases g6 with g6 | ⟨v, hv, e⟩
    · exact Or.inl g6
    · exact Or.inr ⟨v, by omega, e⟩
  · by_cases ei : i = w'
    · subst ei; exact hx
    · have hi2 : i < w' := by omega
      have := g7 i hi2
      unfold RUi at *
      rw [hu 0 i (by decide) hi2, hu 1 i (by decide) hi2, hu 2 i (by decide) hi2, hm 34 i (by decide) (by decide) hi2, hm 35 i (by decide) (by decide) hi2, hm 36 i (by decide) (by decide) hi2, hm 37 i (by decide) (by decide) hi2]
      exact this
theorem adU_f {U : aG} {w : Nat} {v1 v2 v3 : Int32} (hl : ∀ k, k < 4 → (U.2.1 k).length = 24) (hw : w < 24) : (∀ k, k < 4 → ((adU U w v1 v2 v3).2.1 k).length = 24) ∧ (∀ k i, k < 3 → i < w → fG (adU U w v1 v2 v3) k i = fG U k i) ∧ fG (adU U w v1 v2 v3) 0 w = v1 ∧ fG (adU U w v1 v2 v3) 1 w = v2 ∧ fG (adU U w v1 v2 v3) 2 w = v3 := by
  have r0 : (adU U w v1 v2 v3).2.1 0 = (U.2.1 0).set w v1 := rfl
  have r1 : (adU U w v1 v2 v3).2.1 1 = (U.2.1 1).set w v2 := rfl
  have r2 : (adU U w v1 v2 v3).2.1 2 = (U.2.1 2).set w v3 := rfl
  have r3 : (adU U w v1 v2 v3).2.1 3 = U.2.1 3 := rfl
  have l0 := hl 0 (by decide)
  have l1 := hl 1 (by decide)
  have l2 := hl 2 (by decide)
  have k4 : ∀ k, k < 4 → k = 0 ∨ k = 1 ∨ k = 2 ∨ k = 3 := fun k hk => by omega
  have k3 : ∀ k, k < 3 → k = 0 ∨ k = 1 ∨ k = 2 := fun k hk => by omega
  refine ⟨fun k hk => ?_, fun k i hk hi => ?_, ?_, ?_, ?_⟩
  · rcases k4 k hk with rfl | rfl | rfl | rfl
    · rw [r0, List.length_set]; exact l0
    · rw [r1, List.length_set]; exact l1
    · rw [r2, List.length_set]; exact l2
    · rw [r3]; exact hl 3 (by decide)
  · unfold fG
    rcases k3 k hk with rfl | rfl | rfl
    · rw [r0, ia_set_getD (by omega), if_neg (by omega)]
    · rw [r1, ia_set_getD (by omega), if_neg (by omega)]
    · rw [r2, ia_set_getD (by omega), if_neg (by omega)]
  · unfold fG; rw [r0, ia_set_getD (by omega), if_pos rfl]
  · unfold fG; rw [r1, ia_set_getD (by omega), if_pos rfl]
  · unfold fG; rw [r2, ia_set_getD (by omega), if_pos rfl]
theorem op_known (hR : Rp x C M σ p n r t t0 q) (v : Int32) : opI xs d H h x a C M im_Eng_known im_Mod_known [.int v] := by
  have hR0 := hR.t 0
  obtain ⟨g1, w, g2, g3, g4, g5, g6, g7⟩ := hR0.2.2.2.2.2.2.1
  rw [opI, iu_Eng_known, iq_Eng_known_0, iu_Mod_known, iq_Mod_known_0]
  simp only [↓pM_pfb, ↓ok0, ↓ok1, ↓tN_Rb hR.1, ↓tU_Ib, ↓pM_Ib, ↓tU_pfb, g3, show M.1 26 = nI w from g4]
  by_cases a1 : v < -1
  · exact ⟨0, C, gI M 0 0, hR0.l, by rw [if_pos a1], by rw [if_pos a1]⟩
  have g4' : (gI M 0 0).1 26 = nI w := g4
  simp only [g4']
  by_cases a2 : nI w < v
  · exact ⟨0, C, gI M 0 0, hR0.l, by rw [if_neg a1, if_pos a2], by rw [if_neg a1, if_pos a2]⟩
  rw [if_neg a1, if_neg a2, if_neg a1, if_neg a2]
  have hv : v = -1 ∨ ∃ j, j ≤ w ∧ v = nI j := by
    by_cases c : v = -1
    · exact Or.inl c
    · have h0 : ¬ v < 0 := by
        intro z
        have z1 := Int32.lt_iff_toInt_lt.mp z
        have z2 : ¬ v.toInt < (-1 : Int32).toInt := fun y => a1 (Int32.lt_iff_toInt_lt.mpr y)
        have e1 : (-1 : Int32).toInt = -1 := rfl
        have e0 : (0 : Int32).toInt = 0 := rfl
        have : v.toInt = (-1 : Int32).toInt := by omega
        exact c (Int32.toInt_inj.mp this)
      obtain ⟨j, hj, e⟩ := in_le (k := w) (nI_toInt (by omega)) h0 a2
      exact Or.inr ⟨j, hj, e⟩
  refine ⟨1, uG C 15 (gI (C.1 15) 1 v), gI (gI M 0 0) 27 v, ?_, rfl, rfl⟩
  refine (hR0.u (M' := gI (gI M 0 0) 27 v) (U := gI (C.1 15) 1 v) ⟨hR0.2.1.2.2.1.1, fun k hk => rfl, fun k hk hk0 => gI_n (by omega), rfl⟩ ⟨g1, w, g2, ?_, ?_, ?_, ?_, g7⟩).l
  · rw [gI_n (by decide)]; exact g3
  · rw [gI_n (by decide)]; exact g4
  · rw [gI_s, gI_s]
  · rw [gI_s]
    rcases hv with e | ⟨j, hj, e⟩
    · exact Or.inl e
    · exact Or.inr ⟨j, hj, e⟩
theorem op_out (hR : Rp x C M σ p n r t t0 q) (v : Int32) : opI xs d H h x a C M im_Eng_out im_Mod_out [.int v] := by
  have hR0 := hR.t 0
  have hU := hR0.2.2.2.2.2.2.1
  obtain ⟨g1, w, g2, g3, g4, g5, g6, g7⟩ := hR0.2.2.2.2.2.2.1
  have hl := hR0.2.1.2.2.1.1
  have g4' : (gI M 0 0).1 26 = nI w := g4
  rw [opI, iu_Eng_out, iq_Eng_out_0, iu_Mod_out, iq_Mod_out_0]
  simp only [↓pM_pfb, ↓tN_Rb hR.1, ↓tU_Ib, ↓pM_Ib, g3, g4']
  by_cases a1 : v < 0
  · exact ⟨-1, C, gI M 0 0, hR0.l, by rw [if_pos a1], by rw [if_pos a1]⟩
  by_cases a2 : v < nI w
  rotate_left
  · exact ⟨-1, C, gI M 0 0, hR0.l, by rw [if_neg a1, if_neg a2], by rw [if_neg a1, if_neg a2]⟩
  obtain ⟨j, hj0, rfl⟩ := nI_of a1
  have hj : j < w := (nI_ltI hj0 (by omega)).mp a2
  rw [if_neg a1, if_pos a2, if_neg a1, if_pos a2]
  by_cases a3 : w = 24
  · subst a3
    refine ⟨-1, C, gI M 0 0, hR0.l, ?_, ?_⟩
    · simp only [↓tU_clsb, ↓cI_of (u_full xs (d + 18) (H := H) (x := x) g3 _ _ _)]
    · rw [if_pos (show nI 24 = 24 from rfl)]
  · have hw2 : w < 24 := by omega
    have n24 : ¬ nI w = (24 : Int32) := fun e => a3 ((nI_eq (a := w) (b := 24) (by omega) (by omega)).mp e)
    have l37 : ((gI M 0 0).2.1 37).length = 24 := hl 37 (by decide)
    have w37 : wr ((gI M 0 0).2.1 37) (nI w) (nI j) = some ((M.2.1 37).set w (nI j)) := wr_nI (by omega) (by omega)
    have m1 : nI (w + 1) - 1 = nI w := (pk_sub (a := w + 1) (b := 1) (by omega)).trans (by rw [Nat.add_sub_cancel])
    have j1 : (gA (gI M 0 0) 37 ((M.2.1 37).set w (nI j))).1 26 = nI w := g4
    have j2 : (gI (gA (gI M 0 0) 37 ((M.2.1 37).set w (nI j))) 26 (nI (w + 1))).1 26 = nI (w + 1) := gI_s
    obtain ⟨f1, f2, f3, f4, f5⟩ := adU_f (U := C.1 15) (w := w) (v1 := 2) (v2 := 0) (v3 := nI j) g1 hw2
    refine ⟨nI w, uG C 15 (adU (C.1 15) w 2 0 (nI j)), gI (gA (gI M 0 0) 37 ((M.2.1 37).set w (nI j))) 26 (nI (w + 1)), ?_, ?_, ?_⟩
    · have e37 : ∀ k, k ≠ 37 → (gI (gA (gI M 0 0) 37 ((M.2.1 37).set w (nI j))) 26 (nI (w + 1))).2.1 k = (gI M 0 0).2.1 k := fun k hk => gA_n hk
      have lM : lnM (gI (gA (gI M 0 0) 37 ((M.2.1 37).set w (nI j))) 26 (nI (w + 1))) := fun k hk => by
        by_cases e : k = 37
        · subst e
          rw [gI_2, gA_s, List.length_set]
          exact l37
        · rw [e37 k e]; exact hl k hk
      have f37 : ∀ i, fG (gI (gA (gI M 0 0) 37 ((M.2.1 37).set w (nI j))) 26 (nI (w + 1))) 37 i = if i = w then nI j else fG (gI M 0 0) 37 i := fun i => by
        unfold fG
        rw [gI_2, gA_s, ia_set_getD (show w < (M.2.1 37).length by have : (M.2.1 37).length = 24 := l37; omega)]
        rfl
      refine (hR0.u ⟨lM, fun k hk => e37 k (by omega), fun k hk hk0 => gI_n (by omega), rfl⟩ (ru_add hU g3 hw2 f1 gI_s rfl gI_s rfl f2 (fun k i hk hk2 hi => ?_) ?_)).l
      · by_cases e : k = 37
        · subst e; rw [f37, if_neg (by omega)]
        · unfold fG; rw [e37 k e]
      · exact Or.inl ⟨f3, j, hj, f5, by rw [f37, if_pos rfl]⟩
    · simp only [↓tU_clsb, ↓cI_of (u_add xs (d + 18) (H := H) (x := x) g1 g3 hw2 _ _ _)]
    · rw [if_neg n24]
      simp only [↓pM_Rb, ↓pM_stb, ↓bs w37, ↓pM_Ib, j1, ↓pM_pfb, nI_1, j2, m1]
end O20
