/-! count. -/
section O18
variable (xs : List Int32) (d : Nat) {H h : ia_H} {x a : Nat} {C : aC} {M : aG} {σ : Bool} {p n r t t0 q : Nat}
theorem p_knownMany {U : aG} (hU : RUr U M p) : ia_cal xs (d + 1) im_Mod_knownMany [.ref a] (pM h a M) = some (some (.int (bcU U)), pM h a M) := by
  obtain ⟨-, w, -, h2, h3, h4, -⟩ := hU
  rw [iu_Mod_knownMany, iq_Mod_knownMany_0]
  simp only [↓pM_Ib]
  unfold bcU
  rw [h4, h2, ← h3]
  by_cases c : M.1 27 = -1
  · rw [if_pos c, if_pos c]
  · rw [if_neg c, if_neg c]
theorem p_sum (hs : rsM M (C.1 (kS σ)) (C.1 (kL σ)) r p n) (hn : NWr (C.2 1) M t r p q) : ia_qr xs (ia_cal xs (d + 19)) im_Mod_count 999999 63 [.ref a, .float 0, .int 0, .int 0] [] (pM h a M) = some (some (.int (sumF (fA (C.2 1) 11) r)), pM h a M) := by
  have hr10 := hn.1.1.2.2.2.1
  have nn := (num_M hs.1).2.2.2.1
  rw [hs.2.2.2.1] at nn
  refine lp_up (F := fun N i => ia_qr xs (ia_cal xs (d + 19)) im_Mod_count N 63 [.ref a, .float 0, .int (sumF (fA (C.2 1) 11) i), .int (nI i)] [] (pM h a M)) (N := r) (cost := 1) (fun i hi N hN => ?_) (fun N => ?_) r 0 (by omega) _ (by omega)
  · obtain ⟨N, rfl⟩ : ∃ k, N = k + 1 := ⟨N - 1, by omega⟩
    refine ⟨N, Nat.le_refl _, ?_⟩
    have u11 : rd (M.2.1 30) (nI i) = some (fA (C.2 1) 11 i) := d0_r hn hs.1 (k := 11) (by decide) (by decide) hi
    show ia_qr xs (ia_cal xs (d + 19)) im_Mod_count (N + 1) 63 _ [] _ = _
    rw [iq_Mod_count_63]
    simp only [↓pM_Rb, ↓pM_ldb, ↓bs nn, ↓if_p (nI_lt hi (show r < 2 ^ 31 by omega)), ↓bs u11, nI_1]
    rfl
  · show ia_qr xs (ia_cal xs (d + 19)) im_Mod_count (N + 1) 63 _ [] _ = _
    rw [iq_Mod_count_63]
    simp only [↓pM_Rb, ↓pM_ldb, ↓bs nn, ↓if_n (nI_nlt (Nat.le_refl r) (show r < 2 ^ 31 by omega))]
theorem op_count (hR : Rp x C M σ p n r t t0 q) (v : Int32) : opI xs d H h x a C M im_Eng_count im_Mod_count [.int v] := by
  have hR0 := hR.t 0
  have hT := hR0.2.1
  have hs := hT.2.2.1
  have hn := hR0.2.2.1
  have hX := hn.1
  have hl := hs.1
  have n0 : rd ((gI M 0 0).2.1 1) (0 : Int32) = some (nI p) := by rw [(num_M hl).1, hs.2.1]
  have n3 : rd ((gI M 0 0).2.1 1) (3 : Int32) = some (nI r) := by rw [(num_M hl).2.2.2.1, hs.2.2.2.1]
  have n7 : rd ((gI M 0 0).2.1 1) (7 : Int32) = some ((C.1 (kL σ)).1 0) := by
    have := rdk (k := 1) (i := 7) hl (by decide) (by decide) (by decide)
    rw [hT.2.2.2.2.2.2.1] at this
    exact this
  obtain ⟨w, -, r2, r3, -⟩ := hR0.2.2.2.2.2.2.1.2
  obtain ⟨k, -, d2, d3, -⟩ := hR0.2.2.2.2.2.1.2
  have i0 : (C.1 (kS σ)).1 0 = nI p := hT.1.1
  have i1 : (C.2 1).1 2 = nI t := hX.1.1
  have i2 : (C.2 1).1 3 = nI r := hX.1.2.1
  have i12 : (C.1 15).1 0 = M.1 26 := r2.trans r3.symm
  have i14 : (C.1 16).1 0 = M.1 17 := d2.trans d3.symm
  by_cases c0 : v = 0
  · subst c0
    refine opI_of (nI p) hR0.l ?_ ?_
    · rw [iu_Eng_count, iq_Eng_count_0]
      rw [if_pos (rfl : (0 : Int32) = 0)]
      simp only [↓tN_Rb hR.1, ↓tS_Rb hR.1, ↓tS_Ib, ↓tL_Ib, ↓tU_Ib, ↓tD_Ib, ↓tW_Ib (show 1 < 7 by decide), i0, i1, i2, i12, i14, ↓tW_clsb (show 1 < 7 by decide), ↓tU_clsb, ↓cI_of (w_rings xs (d + 18) (H := H) (x := x) (C := C) (k := 1) (by decide) hX.1 _), ↓cI_of (w_engaged xs (d + 17) (H := H) (x := x) (C := C) (k := 1) (by decide) hX.1), ↓cI_of (k_bitCount xs (d + 18) (g := tot H x C) _), em_bc hX, ↓cI_of (w_triesSoFar xs (d + 18) (H := H) (x := x) (C := C) (k := 1) (by decide) hX.1), ↓cI_of (u_count xs (d + 18) (H := H) (x := x) (C := C))]
    · rw [iu_Mod_count, iq_Mod_count_0]
      simp only [↓pM_pfb]
      rw [if_pos trivial]
      simp only [↓pM_Rb, ↓pM_ldb, ↓pM_Ib, ↓bs n0, ↓bs n3, ↓bs n7, ↓bs (d0_20 hn hl), ↓bs (d0_18 hn hl), ↓bs (d0_19 hn hl), ↓pM_clsb, ↓cI_of (p_callsOf xs (d + 18) hs hn _), ↓cI_of (p_engagedMany xs (d + 16) hs hn), ↓cI_of (p_knownMany xs (d + 18) (h := h) (a := a) hR0.2.2.2.2.2.2.1)]
  by_cases c1 : v = 1
  · subst c1
    refine opI_of (nI t) hR0.l ?_ ?_
    · rw [iu_Eng_count, iq_Eng_count_0]
      rw [if_neg (show ¬ (1 : Int32) = 0 by decide), if_pos (rfl : (1 : Int32) = 1)]
      simp only [↓tN_Rb hR.1, ↓tS_Rb hR.1, ↓tS_Ib, ↓tL_Ib, ↓tU_Ib, ↓tD_Ib, ↓tW_Ib (show 1 < 7 by decide), i0, i1, i2, i12, i14, ↓tW_clsb (show 1 < 7 by decide), ↓tU_clsb, ↓cI_of (w_rings xs (d + 18) (H := H) (x := x) (C := C) (k := 1) (by decide) hX.1 _), ↓cI_of (w_engaged xs (d + 17) (H := H) (x := x) (C := C) (k := 1) (by decide) hX.1), ↓cI_of (k_bitCount xs (d + 18) (g := tot H x C) _), em_bc hX, ↓cI_of (w_triesSoFar xs (d + 18) (H := H) (x := x) (C := C) (k := 1) (by decide) hX.1), ↓cI_of (u_count xs (d + 18) (H := H) (x := x) (C := C))]
    · rw [iu_Mod_count, iq_Mod_count_0]
      simp only [↓pM_pfb]
      rw [if_neg (show ¬ (1 : Int32) = 0 by decide), if_pos trivial]
      simp only [↓pM_Rb, ↓pM_ldb, ↓pM_Ib, ↓bs n0, ↓bs n3, ↓bs n7, ↓bs (d0_20 hn hl), ↓bs (d0_18 hn hl), ↓bs (d0_19 hn hl), ↓pM_clsb, ↓cI_of (p_callsOf xs (d + 18) hs hn _), ↓cI_of (p_engagedMany xs (d + 16) hs hn), ↓cI_of (p_knownMany xs (d + 18) (h := h) (a := a) hR0.2.2.2.2.2.2.1)]
  by_cases c2 : v = 2
  · subst c2
    refine opI_of (nI r) hR0.l ?_ ?_
    · rw [iu_Eng_count, iq_Eng_count_0]
      rw [if_neg (show ¬ (2 : Int32) = 0 by decide), if_neg (show ¬ (2 : Int32) = 1 by decide), if_pos (rfl : (2 : Int32) = 2)]
      simp only [↓tN_Rb hR.1, ↓tS_Rb hR.1, ↓tS_Ib, ↓tL_Ib, ↓tU_Ib, ↓tD_Ib, ↓tW_Ib (show 1 < 7 by decide), i0, i1, i2, i12, i14, ↓tW_clsb (show 1 < 7 by decide), ↓tU_clsb, ↓cI_of (w_rings xs (d + 18) (H := H) (x := x) (C := C) (k := 1) (by decide) hX.1 _), ↓cI_of (w_engaged xs (d + 17) (H := H) (x := x) (C := C) (k := 1) (by decide) hX.1), ↓cI_of (k_bitCount xs (d + 18) (g := tot H x C) _), em_bc hX, ↓cI_of (w_triesSoFar xs (d + 18) (H := H) (x := x) (C := C) (k := 1) (by decide) hX.1), ↓cI_of (u_count xs (d + 18) (H := H) (x := x) (C := C))]
    · rw [iu_Mod_count, iq_Mod_count_0]
      simp only [↓pM_pfb]
      rw [if_neg (show ¬ (2 : Int32) = 0 by decide), if_neg (show ¬ (2 : Int32) = 1 by decide), if_pos trivial]
      simp only [↓pM_Rb, ↓pM_ldb, ↓pM_Ib, ↓bs n0, ↓bs n3, ↓bs n7, ↓bs (d0_20 hn hl), ↓bs (d0_18 hn hl), ↓bs (d0_19 hn hl), ↓pM_clsb, ↓cI_of (p_callsOf xs (d + 18) hs hn _), ↓cI_of (p_engagedMany xs (d + 16) hs hn), ↓cI_of (p_knownMany xs (d + 18) (h := h) (a := a) hR0.2.2.2.2.2.2.1)]
  by_cases c3 : v = 3
  · subst c3
    refine opI_of ((C.1 (kL σ)).1 0) hR0.l ?_ ?_
    · rw [iu_Eng_count, iq_Eng_count_0]
      rw [if_neg (show ¬ (3 : Int32) = 0 by decide), if_neg (show ¬ (3 : Int32) = 1 by decide), if_neg (show ¬ (3 : Int32) = 2 by decide), if_pos (rfl : (3 : Int32) = 3)]
      simp only [↓tN_Rb hR.1, ↓tS_Rb hR.1, ↓tS_Ib, ↓tL_Ib, ↓tU_Ib, ↓tD_Ib, ↓tW_Ib (show 1 < 7 by decide), i0, i1, i2, i12, i14, ↓tW_clsb (show 1 < 7 by decide), ↓tU_clsb, ↓cI_of (w_rings xs (d + 18) (H := H) (x := x) (C := C) (k := 1) (by decide) hX.1 _), ↓cI_of (w_engaged xs (d + 17) (H := H) (x := x) (C := C) (k := 1) (by decide) hX.1), ↓cI_of (k_bitCount xs (d + 18) (g := tot H x C) _), em_bc hX, ↓cI_of (w_triesSoFar xs (d + 18) (H := H) (x := x) (C := C) (k := 1) (by decide) hX.1), ↓cI_of (u_count xs (d + 18) (H := H) (x := x) (C := C))]
    · rw [iu_Mod_count, iq_Mod_count_0]
      simp only [↓pM_pfb]
      rw [if_neg (show ¬ (3 : Int32) = 0 by decide), if_neg (show ¬ (3 : Int32) = 1 by decide), if_neg (show ¬ (3 : Int32) = 2 by decide), if_pos trivial]
      simp only [↓pM_Rb, ↓pM_ldb, ↓pM_Ib, ↓bs n0, ↓bs n3, ↓bs n7, ↓bs (d0_20 hn hl), ↓bs (d0_18 hn hl), ↓bs (d0_19 hn hl), ↓pM_clsb, ↓cI_of (p_callsOf xs (d + 18) hs hn _), ↓cI_of (p_engagedMany xs (d + 16) hs hn), ↓cI_of (p_knownMany xs (d + 18) (h := h) (a := a) hR0.2.2.2.2.2.2.1)]
  by_cases c4 : v = 4
  · subst c4
    refine opI_of ((C.2 1).1 0) hR0.l ?_ ?_
    · rw [iu_Eng_count, iq_Eng_count_0]
      rw [if_neg (show ¬ (4 : Int32) = 0 by decide), if_neg (show ¬ (4 : Int32) = 1 by decide), if_neg (show ¬ (4 : Int32) = 2 by decide), if_neg (show ¬ (4 : Int32) = 3 by decide), if_pos (rfl : (4 : Int32) = 4)]
      simp only [↓tN_Rb hR.1, ↓tS_Rb hR.1, ↓tS_Ib, ↓tL_Ib, ↓tU_Ib, ↓tD_Ib, ↓tW_Ib (show 1 < 7 by decide), i0, i1, i2, i12, i14, ↓tW_clsb (show 1 < 7 by decide), ↓tU_clsb, ↓cI_of (w_rings xs (d + 18) (H := H) (x := x) (C := C) (k := 1) (by decide) hX.1 _), ↓cI_of (w_engaged xs (d + 17) (H := H) (x := x) (C := C) (k := 1) (by decide) hX.1), ↓cI_of (k_bitCount xs (d + 18) (g := tot H x C) _), em_bc hX, ↓cI_of (w_triesSoFar xs (d + 18) (H := H) (x := x) (C := C) (k := 1) (by decide) hX.1), ↓cI_of (u_count xs (d + 18) (H := H) (x := x) (C := C))]
    · rw [iu_Mod_count, iq_Mod_count_0]
      simp only [↓pM_pfb]
      rw [if_neg (show ¬ (4 : Int32) = 0 by decide), if_neg (show ¬ (4 : Int32) = 1 by decide), if_neg (show ¬ (4 : Int32) = 2 by decide), if_neg (show ¬ (4 : Int32) = 3 by decide), if_pos trivial]
      simp only [↓pM_Rb, ↓pM_ldb, ↓pM_Ib, ↓bs n0, ↓bs n3, ↓bs n7, ↓bs (d0_20 hn hl), ↓bs (d0_18 hn hl), ↓bs (d0_19 hn hl), ↓pM_clsb, ↓cI_of (p_callsOf xs (d + 18) hs hn _), ↓cI_of (p_engagedMany xs (d + 16) hs hn), ↓cI_of (p_knownMany xs (d + 18) (h := h) (a := a) hR0.2.2.2.2.2.2.1)]
  by_cases c5 : v = 5
  · subst c5
    refine opI_of (nI (cntF (fA (C.2 1) 10) 0 r)) hR0.l ?_ ?_
    · rw [iu_Eng_count, iq_Eng_count_0]
      rw [if_neg (show ¬ (5 : Int32) = 0 by decide), if_neg (show ¬ (5 : Int32) = 1 by decide), if_neg (show ¬ (5 : Int32) = 2 by decide), if_neg (show ¬ (5 : Int32) = 3 by decide), if_neg (show ¬ (5 : Int32) = 4 by decide), if_pos (rfl : (5 : Int32) = 5)]
      simp only [↓tN_Rb hR.1, ↓tS_Rb hR.1, ↓tS_Ib, ↓tL_Ib, ↓tU_Ib, ↓tD_Ib, ↓tW_Ib (show 1 < 7 by decide), i0, i1, i2, i12, i14, ↓tW_clsb (show 1 < 7 by decide), ↓tU_clsb, ↓cI_of (w_rings xs (d + 18) (H := H) (x := x) (C := C) (k := 1) (by decide) hX.1 _), ↓cI_of (w_engaged xs (d + 17) (H := H) (x := x) (C := C) (k := 1) (by decide) hX.1), ↓cI_of (k_bitCount xs (d + 18) (g := tot H x C) _), em_bc hX, ↓cI_of (w_triesSoFar xs (d + 18) (H := H) (x := x) (C := C) (k := 1) (by decide) hX.1), ↓cI_of (u_count xs (d + 18) (H := H) (x := x) (C := C))]
    · rw [iu_Mod_count, iq_Mod_count_0]
      simp only [↓pM_pfb]
      rw [if_neg (show ¬ (5 : Int32) = 0 by decide), if_neg (show ¬ (5 : Int32) = 1 by decide), if_neg (show ¬ (5 : Int32) = 2 by decide), if_neg (show ¬ (5 : Int32) = 3 by decide), if_neg (show ¬ (5 : Int32) = 4 by decide), if_pos trivial]
      simp only [↓pM_Rb, ↓pM_ldb, ↓pM_Ib, ↓bs n0, ↓bs n3, ↓bs n7, ↓bs (d0_20 hn hl), ↓bs (d0_18 hn hl), ↓bs (d0_19 hn hl), ↓pM_clsb, ↓cI_of (p_callsOf xs (d + 18) hs hn _), ↓cI_of (p_engagedMany xs (d + 16) hs hn), ↓cI_of (p_knownMany xs (d + 18) (h := h) (a := a) hR0.2.2.2.2.2.2.1)]
  by_cases c6 : v = 6
  · subst c6
    refine opI_of (nI (cntF (fA (C.2 1) 10) 1 r)) hR0.l ?_ ?_
    · rw [iu_Eng_count, iq_Eng_count_0]
      rw [if_neg (show ¬ (6 : Int32) = 0 by decide), if_neg (show ¬ (6 : Int32) = 1 by decide), if_neg (show ¬ (6 : Int32) = 2 by decide), if_neg (show ¬ (6 : Int32) = 3 by decide), if_neg (show ¬ (6 : Int32) = 4 by decide), if_neg (show ¬ (6 : Int32) = 5 by decide), if_pos (rfl : (6 : Int32) = 6)]
      simp only [↓tN_Rb hR.1, ↓tS_Rb hR.1, ↓tS_Ib, ↓tL_Ib, ↓tU_Ib, ↓tD_Ib, ↓tW_Ib (show 1 < 7 by decide), i0, i1, i2, i12, i14, ↓tW_clsb (show 1 < 7 by decide), ↓tU_clsb, ↓cI_of (w_rings xs (d + 18) (H := H) (x := x) (C := C) (k := 1) (by decide) hX.1 _), ↓cI_of (w_engaged xs (d + 17) (H := H) (x := x) (C := C) (k := 1) (by decide) hX.1), ↓cI_of (k_bitCount xs (d + 18) (g := tot H x C) _), em_bc hX, ↓cI_of (w_triesSoFar xs (d + 18) (H := H) (x := x) (C := C) (k := 1) (by decide) hX.1), ↓cI_of (u_count xs (d + 18) (H := H) (x := x) (C := C))]
    · rw [iu_Mod_count, iq_Mod_count_0]
      simp only [↓pM_pfb]
      rw [if_neg (show ¬ (6 : Int32) = 0 by decide), if_neg (show ¬ (6 : Int32) = 1 by decide), if_neg (show ¬ (6 : Int32) = 2 by decide), if_neg (show ¬ (6 : Int32) = 3 by decide), if_neg (show ¬ (6 : Int32) = 4 by decide), if_neg (show ¬ (6 : Int32) = 5 by decide), if_pos trivial]
      simp only [↓pM_Rb, ↓pM_ldb, ↓pM_Ib, ↓bs n0, ↓bs n3, ↓bs n7, ↓bs (d0_20 hn hl), ↓bs (d0_18 hn hl), ↓bs (d0_19 hn hl), ↓pM_clsb, ↓cI_of (p_callsOf xs (d + 18) hs hn _), ↓cI_of (p_engagedMany xs (d + 16) hs hn), ↓cI_of (p_knownMany xs (d + 18) (h := h) (a := a) hR0.2.2.2.2.2.2.1)]
  by_cases c7 : v = 7
  · subst c7
    refine opI_of (nI (cntF (fA (C.2 1) 10) 2 r)) hR0.l ?_ ?_
    · rw [iu_Eng_count, iq_Eng_count_0]
      rw [if_neg (show ¬ (7 : Int32) = 0 by decide), if_neg (show ¬ (7 : Int32) = 1 by decide), if_neg (show ¬ (7 : Int32) = 2 by decide), if_neg (show ¬ (7 : Int32) = 3 by decide), if_neg (show ¬ (7 : Int32) = 4 by decide), if_neg (show ¬ (7 : Int32) = 5 by decide), if_neg (show ¬ (7 : Int32) = 6 by decide), if_pos (rfl : (7 : Int32) = 7)]
      simp only [↓tN_Rb hR.1, ↓tS_Rb hR.1, ↓tS_Ib, ↓tL_Ib, ↓tU_Ib, ↓tD_Ib, ↓tW_Ib (show 1 < 7 by decide), i0, i1, i2, i12, i14, ↓tW_clsb (show 1 < 7 by decide), ↓tU_clsb, ↓cI_of (w_rings xs (d + 18) (H := H) (x := x) (C := C) (k := 1) (by decide) hX.1 _), ↓cI_of (w_engaged xs (d + 17) (H := H) (x := x) (C := C) (k := 1) (by decide) hX.1), ↓cI_of (k_bitCount xs (d + 18) (g := tot H x C) _), em_bc hX, ↓cI_of (w_triesSoFar xs (d + 18) (H := H) (x := x) (C := C) (k := 1) (by decide) hX.1), ↓cI_of (u_count xs (d + 18) (H := H) (x := x) (C := C))]
    · rw [iu_Mod_count, iq_Mod_count_0]
      simp only [↓pM_pfb]
      rw [if_neg (show ¬ (7 : Int32) = 0 by decide), if_neg (show ¬ (7 : Int32) = 1 by decide), if_neg (show ¬ (7 : Int32) = 2 by decide), if_neg (show ¬ (7 : Int32) = 3 by decide), if_neg (show ¬ (7 : Int32) = 4 by decide), if_neg (show ¬ (7 : Int32) = 5 by decide), if_neg (show ¬ (7 : Int32) = 6 by decide), if_pos trivial]
      simp only [↓pM_Rb, ↓pM_ldb, ↓pM_Ib, ↓bs n0, ↓bs n3, ↓bs n7, ↓bs (d0_20 hn hl), ↓bs (d0_18 hn hl), ↓bs (d0_19 hn hl), ↓pM_clsb, ↓cI_of (p_callsOf xs (d + 18) hs hn _), ↓cI_of (p_engagedMany xs (d + 16) hs hn), ↓cI_of (p_knownMany xs (d + 18) (h := h) (a := a) hR0.2.2.2.2.2.2.1)]
  by_cases c8 : v = 8
  · subst c8
    refine opI_of (nI (cntF (fA (C.2 1) 10) 3 r)) hR0.l ?_ ?_
    · rw [iu_Eng_count, iq_Eng_count_0]
      rw [if_neg (show ¬ (8 : Int32) = 0 by decide), if_neg (show ¬ (8 : Int32) = 1 by decide), if_neg (show ¬ (8 : Int32) = 2 by decide), if_neg (show ¬ (8 : Int32) = 3 by decide), if_neg (show ¬ (8 : Int32) = 4 by decide), if_neg (show ¬ (8 : Int32) = 5 by decide), if_neg (show ¬ (8 : Int32) = 6 by decide), if_neg (show ¬ (8 : Int32) = 7 by decide), if_pos (rfl : (8 : Int32) = 8)]
      simp only [↓tN_Rb hR.1, ↓tS_Rb hR.1, ↓tS_Ib, ↓tL_Ib, ↓tU_Ib, ↓tD_Ib, ↓tW_Ib (show 1 < 7 by decide), i0, i1, i2, i12, i14, ↓tW_clsb (show 1 < 7 by decide), ↓tU_clsb, ↓cI_of (w_rings xs (d + 18) (H := H) (x := x) (C := C) (k := 1) (by decide) hX.1 _), ↓cI_of (w_engaged xs (d + 17) (H := H) (x := x) (C := C) (k := 1) (by decide) hX.1), ↓cI_of (k_bitCount xs (d + 18) (g := tot H x C) _), em_bc hX, ↓cI_of (w_triesSoFar xs (d + 18) (H := H) (x := x) (C := C) (k := 1) (by decide) hX.1), ↓cI_of (u_count xs (d + 18) (H := H) (x := x) (C := C))]
    · rw [iu_Mod_count, iq_Mod_count_0]
      simp only [↓pM_pfb]
      rw [if_neg (show ¬ (8 : Int32) = 0 by decide), if_neg (show ¬ (8 : Int32) = 1 by decide), if_neg (show ¬ (8 : Int32) = 2 by decide), if_neg (show ¬ (8 : Int32) = 3 by decide), if_neg (show ¬ (8 : Int32) = 4 by decide), if_neg (show ¬ (8 : Int32) = 5 by decide), if_neg (show ¬ (8 : Int32) = 6 by decide), if_neg (show ¬ (8 : Int32) = 7 by decide), if_pos trivial]
      simp only [↓pM_Rb, ↓pM_ldb, ↓pM_Ib, ↓bs n0, ↓bs n3, ↓bs n7, ↓bs (d0_20 hn hl), ↓bs (d0_18 hn hl), ↓bs (d0_19 hn hl), ↓pM_clsb, ↓cI_of (p_callsOf xs (d + 18) hs hn _), ↓cI_of (p_engagedMany xs (d + 16) hs hn), ↓cI_of (p_knownMany xs (d + 18) (h := h) (a := a) hR0.2.2.2.2.2.2.1)]
  by_cases c9 : v = 9
  · subst c9
    refine opI_of ((C.2 1).1 1) hR0.l ?_ ?_
    · rw [iu_Eng_count, iq_Eng_count_0]
      rw [if_neg (show ¬ (9 : Int32) = 0 by decide), if_neg (show ¬ (9 : Int32) = 1 by decide), if_neg (show ¬ (9 : Int32) = 2 by decide), if_neg (show ¬ (9 : Int32) = 3 by decide), if_neg (show ¬ (9 : Int32) = 4 by decide), if_neg (show ¬ (9 : Int32) = 5 by decide), if_neg (show ¬ (9 : Int32) = 6 by decide), if_neg (show ¬ (9 : Int32) = 7 by decide), if_neg (show ¬ (9 : Int32) = 8 by decide), if_pos (rfl : (9 : Int32) = 9)]
      simp only [↓tN_Rb hR.1, ↓tS_Rb hR.1, ↓tS_Ib, ↓tL_Ib, ↓tU_Ib, ↓tD_Ib, ↓tW_Ib (show 1 < 7 by decide), i0, i1, i2, i12, i14, ↓tW_clsb (show 1 < 7 by decide), ↓tU_clsb, ↓cI_of (w_rings xs (d + 18) (H := H) (x := x) (C := C) (k := 1) (by decide) hX.1 _), ↓cI_of (w_engaged xs (d + 17) (H := H) (x := x) (C := C) (k := 1) (by decide) hX.1), ↓cI_of (k_bitCount xs (d + 18) (g := tot H x C) _), em_bc hX, ↓cI_of (w_triesSoFar xs (d + 18) (H := H) (x := x) (C := C) (k := 1) (by decide) hX.1), ↓cI_of (u_count xs (d + 18) (H := H) (x := x) (C := C))]
    · rw [iu_Mod_count, iq_Mod_count_0]
      simp only [↓pM_pfb]
      rw [if_neg (show ¬ (9 : Int32) = 0 by decide), if_neg (show ¬ (9 : Int32) = 1 by decide), if_neg (show ¬ (9 : Int32) = 2 by decide), if_neg (show ¬ (9 : Int32) = 3 by decide), if_neg (show ¬ (9 : Int32) = 4 by decide), if_neg (show ¬ (9 : Int32) = 5 by decide), if_neg (show ¬ (9 : Int32) = 6 by decide), if_neg (show ¬ (9 : Int32) = 7 by decide), if_neg (show ¬ (9 : Int32) = 8 by decide), if_pos trivial]
      simp only [↓pM_Rb, ↓pM_ldb, ↓pM_Ib, ↓bs n0, ↓bs n3, ↓bs n7, ↓bs (d0_20 hn hl), ↓bs (d0_18 hn hl), ↓bs (d0_19 hn hl), ↓pM_clsb, ↓cI_of (p_callsOf xs (d + 18) hs hn _), ↓cI_of (p_engagedMany xs (d + 16) hs hn), ↓cI_of (p_knownMany xs (d + 18) (h := h) (a := a) hR0.2.2.2.2.2.2.1)]
  by_cases c10 : v = 10
  · subst c10
    refine opI_of (emF (C.2 1) t r p) hR0.l ?_ ?_
    · rw [iu_Eng_count, iq_Eng_count_0]
      rw [if_neg (show ¬ (10 : Int32) = 0 by decide), if_neg (show ¬ (10 : Int32) = 1 by decide), if_neg (show ¬ (10 : Int32) = 2 by decide), if_neg (show ¬ (10 : Int32) = 3 by decide), if_neg (show ¬ (10 : Int32) = 4 by decide), if_neg (show ¬ (10 : Int32) = 5 by decide), if_neg (show ¬ (10 : Int32) = 6 by decide), if_neg (show ¬ (10 : Int32) = 7 by decide), if_neg (show ¬ (10 : Int32) = 8 by decide), if_neg (show ¬ (10 : Int32) = 9 by decide), if_pos (rfl : (10 : Int32) = 10)]
      simp only [↓tN_Rb hR.1, ↓tS_Rb hR.1, ↓tS_Ib, ↓tL_Ib, ↓tU_Ib, ↓tD_Ib, ↓tW_Ib (show 1 < 7 by decide), i0, i1, i2, i12, i14, ↓tW_clsb (show 1 < 7 by decide), ↓tU_clsb, ↓cI_of (w_rings xs (d + 18) (H := H) (x := x) (C := C) (k := 1) (by decide) hX.1 _), ↓cI_of (w_engaged xs (d + 17) (H := H) (x := x) (C := C) (k := 1) (by decide) hX.1), ↓cI_of (k_bitCount xs (d + 18) (g := tot H x C) _), em_bc hX, ↓cI_of (w_triesSoFar xs (d + 18) (H := H) (x := x) (C := C) (k := 1) (by decide) hX.1), ↓cI_of (u_count xs (d + 18) (H := H) (x := x) (C := C))]
    · rw [iu_Mod_count, iq_Mod_count_0]
      simp only [↓pM_pfb]
      rw [if_neg (show ¬ (10 : Int32) = 0 by decide), if_neg (show ¬ (10 : Int32) = 1 by decide), if_neg (show ¬ (10 : Int32) = 2 by decide), if_neg (show ¬ (10 : Int32) = 3 by decide), if_neg (show ¬ (10 : Int32) = 4 by decide), if_neg (show ¬ (10 : Int32) = 5 by decide), if_neg (show ¬ (10 : Int32) = 6 by decide), if_neg (show ¬ (10 : Int32) = 7 by decide), if_neg (show ¬ (10 : Int32) = 8 by decide), if_neg (show ¬ (10 : Int32) = 9 by decide), if_pos trivial]
      simp only [↓pM_Rb, ↓pM_ldb, ↓pM_Ib, ↓bs n0, ↓bs n3, ↓bs n7, ↓bs (d0_20 hn hl), ↓bs (d0_18 hn hl), ↓bs (d0_19 hn hl), ↓pM_clsb, ↓cI_of (p_callsOf xs (d + 18) hs hn _), ↓cI_of (p_engagedMany xs (d + 16) hs hn), ↓cI_of (p_knownMany xs (d + 18) (h := h) (a := a) hR0.2.2.2.2.2.2.1)]
  by_cases c11 : v = 11
  · subst c11
    refine opI_of (sumF (fA (C.2 1) 11) r) hR0.l ?_ ?_
    · rw [iu_Eng_count, iq_Eng_count_0]
      rw [if_neg (show ¬ (11 : Int32) = 0 by decide), if_neg (show ¬ (11 : Int32) = 1 by decide), if_neg (show ¬ (11 : Int32) = 2 by decide), if_neg (show ¬ (11 : Int32) = 3 by decide), if_neg (show ¬ (11 : Int32) = 4 by decide), if_neg (show ¬ (11 : Int32) = 5 by decide), if_neg (show ¬ (11 : Int32) = 6 by decide), if_neg (show ¬ (11 : Int32) = 7 by decide), if_neg (show ¬ (11 : Int32) = 8 by decide), if_neg (show ¬ (11 : Int32) = 9 by decide), if_neg (show ¬ (11 : Int32) = 10 by decide), if_pos (rfl : (11 : Int32) = 11)]
      simp only [↓tN_Rb hR.1, ↓tS_Rb hR.1, ↓tS_Ib, ↓tL_Ib, ↓tU_Ib, ↓tD_Ib, ↓tW_Ib (show 1 < 7 by decide), i0, i1, i2, i12, i14, ↓tW_clsb (show 1 < 7 by decide), ↓tU_clsb, ↓cI_of (w_rings xs (d + 18) (H := H) (x := x) (C := C) (k := 1) (by decide) hX.1 _), ↓cI_of (w_engaged xs (d + 17) (H := H) (x := x) (C := C) (k := 1) (by decide) hX.1), ↓cI_of (k_bitCount xs (d + 18) (g := tot H x C) _), em_bc hX, ↓cI_of (w_triesSoFar xs (d + 18) (H := H) (x := x) (C := C) (k := 1) (by decide) hX.1), ↓cI_of (u_count xs (d + 18) (H := H) (x := x) (C := C))]
    · rw [iu_Mod_count, iq_Mod_count_0]
      simp only [↓pM_pfb]
      rw [if_neg (show ¬ (11 : Int32) = 0 by decide), if_neg (show ¬ (11 : Int32) = 1 by decide), if_neg (show ¬ (11 : Int32) = 2 by decide), if_neg (show ¬ (11 : Int32) = 3 by decide), if_neg (show ¬ (11 : Int32) = 4 by decide), if_neg (show ¬ (11 : Int32) = 5 by decide), if_neg (show ¬ (11 : Int32) = 6 by decide), if_neg (show ¬ (11 : Int32) = 7 by decide), if_neg (show ¬ (11 : Int32) = 8 by decide), if_neg (show ¬ (11 : Int32) = 9 by decide), if_neg (show ¬ (11 : Int32) = 10 by decide), if_pos trivial]
      exact p_sum xs d hs hn
  by_cases c12 : v = 12
  · subst c12
    refine opI_of (M.1 26) hR0.l ?_ ?_
    · rw [iu_Eng_count, iq_Eng_count_0]
      rw [if_neg (show ¬ (12 : Int32) = 0 by decide), if_neg (show ¬ (12 : Int32) = 1 by decide), if_neg (show ¬ (12 : Int32) = 2 by decide), if_neg (show ¬ (12 : Int32) = 3 by decide), if_neg (show ¬ (12 : Int32) = 4 by decide), if_neg (show ¬ (12 : Int32) = 5 by decide), if_neg (show ¬ (12 : Int32) = 6 by decide), if_neg (show ¬ (12 : Int32) = 7 by decide), if_neg (show ¬ (12 : Int32) = 8 by decide), if_neg (show ¬ (12 : Int32) = 9 by decide), if_neg (show ¬ (12 : Int32) = 10 by decide), if_neg (show ¬ (12 : Int32) = 11 by decide), if_pos (rfl : (12 : Int32) = 12)]
      simp only [↓tN_Rb hR.1, ↓tS_Rb hR.1, ↓tS_Ib, ↓tL_Ib, ↓tU_Ib, ↓tD_Ib, ↓tW_Ib (show 1 < 7 by decide), i0, i1, i2, i12, i14, ↓tW_clsb (show 1 < 7 by decide), ↓tU_clsb, ↓cI_of (w_rings xs (d + 18) (H := H) (x := x) (C := C) (k := 1) (by decide) hX.1 _), ↓cI_of (w_engaged xs (d + 17) (H := H) (x := x) (C := C) (k := 1) (by decide) hX.1), ↓cI_of (k_bitCount xs (d + 18) (g := tot H x C) _), em_bc hX, ↓cI_of (w_triesSoFar xs (d + 18) (H := H) (x := x) (C := C) (k := 1) (by decide) hX.1), ↓cI_of (u_count xs (d + 18) (H := H) (x := x) (C := C))]
    · rw [iu_Mod_count, iq_Mod_count_0]
      simp only [↓pM_pfb]
      rw [if_neg (show ¬ (12 : Int32) = 0 by decide), if_neg (show ¬ (12 : Int32) = 1 by decide), if_neg (show ¬ (12 : Int32) = 2 by decide), if_neg (show ¬ (12 : Int32) = 3 by decide), if_neg (show ¬ (12 : Int32) = 4 by decide), if_neg (show ¬ (12 : Int32) = 5 by decide), if_neg (show ¬ (12 : Int32) = 6 by decide), if_neg (show ¬ (12 : Int32) = 7 by decide), if_neg (show ¬ (12 : Int32) = 8 by decide), if_neg (show ¬ (12 : Int32) = 9 by decide), if_neg (show ¬ (12 : Int32) = 10 by decide), if_neg (show ¬ (12 : Int32) = 11 by decide), if_pos trivial]
      simp only [↓pM_Rb, ↓pM_ldb, ↓pM_Ib, ↓bs n0, ↓bs n3, ↓bs n7, ↓bs (d0_20 hn hl), ↓bs (d0_18 hn hl), ↓bs (d0_19 hn hl), ↓pM_clsb, ↓cI_of (p_callsOf xs (d + 18) hs hn _), ↓cI_of (p_engagedMany xs (d + 16) hs hn), ↓cI_of (p_knownMany xs (d + 18) (h := h) (a := a) hR0.2.2.2.2.2.2.1)]
      rfl
  by_cases c13 : v = 13
  · subst c13
    refine opI_of (bcU (C.1 15)) hR0.l ?_ ?_
    · rw [iu_Eng_count, iq_Eng_count_0]
      rw [if_neg (show ¬ (13 : Int32) = 0 by decide), if_neg (show ¬ (13 : Int32) = 1 by decide), if_neg (show ¬ (13 : Int32) = 2 by decide), if_neg (show ¬ (13 : Int32) = 3 by decide), if_neg (show ¬ (13 : Int32) = 4 by decide), if_neg (show ¬ (13 : Int32) = 5 by decide), if_neg (show ¬ (13 : Int32) = 6 by decide), if_neg (show ¬ (13 : Int32) = 7 by decide), if_neg (show ¬ (13 : Int32) = 8 by decide), if_neg (show ¬ (13 : Int32) = 9 by decide), if_neg (show ¬ (13 : Int32) = 10 by decide), if_neg (show ¬ (13 : Int32) = 11 by decide), if_neg (show ¬ (13 : Int32) = 12 by decide), if_pos (rfl : (13 : Int32) = 13)]
      simp only [↓tN_Rb hR.1, ↓tS_Rb hR.1, ↓tS_Ib, ↓tL_Ib, ↓tU_Ib, ↓tD_Ib, ↓tW_Ib (show 1 < 7 by decide), i0, i1, i2, i12, i14, ↓tW_clsb (show 1 < 7 by decide), ↓tU_clsb, ↓cI_of (w_rings xs (d + 18) (H := H) (x := x) (C := C) (k := 1) (by decide) hX.1 _), ↓cI_of (w_engaged xs (d + 17) (H := H) (x := x) (C := C) (k := 1) (by decide) hX.1), ↓cI_of (k_bitCount xs (d + 18) (g := tot H x C) _), em_bc hX, ↓cI_of (w_triesSoFar xs (d + 18) (H := H) (x := x) (C := C) (k := 1) (by decide) hX.1), ↓cI_of (u_count xs (d + 18) (H := H) (x := x) (C := C))]
    · rw [iu_Mod_count, iq_Mod_count_0]
      simp only [↓pM_pfb]
      rw [if_neg (show ¬ (13 : Int32) = 0 by decide), if_neg (show ¬ (13 : Int32) = 1 by decide), if_neg (show ¬ (13 : Int32) = 2 by decide), if_neg (show ¬ (13 : Int32) = 3 by decide), if_neg (show ¬ (13 : Int32) = 4 by decide), if_neg (show ¬ (13 : Int32) = 5 by decide), if_neg (show ¬ (13 : Int32) = 6 by decide), if_neg (show ¬ (13 : Int32) = 7 by decide), if_neg (show ¬ (13 : Int32) = 8 by decide), if_neg (show ¬ (13 : Int32) = 9 by decide), if_neg (show ¬ (13 : Int32) = 10 by decide), if_neg (show ¬ (13 : Int32) = 11 by decide), if_neg (show ¬ (13 : Int32) = 12 by decide), if_pos trivial]
      simp only [↓pM_Rb, ↓pM_ldb, ↓pM_Ib, ↓bs n0, ↓bs n3, ↓bs n7, ↓bs (d0_20 hn hl), ↓bs (d0_18 hn hl), ↓bs (d0_19 hn hl), ↓pM_clsb, ↓cI_of (p_callsOf xs (d + 18) hs hn _), ↓cI_of (p_engagedMany xs (d + 16) hs hn), ↓cI_of (p_knownMany xs (d + 18) (h := h) (a := a) hR0.2.2.2.2.2.2.1)]
  by_cases c14 : v = 14
  · subst c14
    refine opI_of (M.1 17) hR0.l ?_ ?_
    · rw [iu_Eng_count, iq_Eng_count_0]
      rw [if_neg (show ¬ (14 : Int32) = 0 by decide), if_neg (show ¬ (14 : Int32) = 1 by decide), if_neg (show ¬ (14 : Int32) = 2 by decide), if_neg (show ¬ (14 : Int32) = 3 by decide), if_neg (show ¬ (14 : Int32) = 4 by decide), if_neg (show ¬ (14 : Int32) = 5 by decide), if_neg (show ¬ (14 : Int32) = 6 by decide), if_neg (show ¬ (14 : Int32) = 7 by decide), if_neg (show ¬ (14 : Int32) = 8 by decide), if_neg (show ¬ (14 : Int32) = 9 by decide), if_neg (show ¬ (14 : Int32) = 10 by decide), if_neg (show ¬ (14 : Int32) = 11 by decide), if_neg (show ¬ (14 : Int32) = 12 by decide), if_neg (show ¬ (14 : Int32) = 13 by decide), if_pos (rfl : (14 : Int32) = 14)]
      simp only [↓tN_Rb hR.1, ↓tS_Rb hR.1, ↓tS_Ib, ↓tL_Ib, ↓tU_Ib, ↓tD_Ib, ↓tW_Ib (show 1 < 7 by decide), i0, i1, i2, i12, i14, ↓tW_clsb (show 1 < 7 by decide), ↓tU_clsb, ↓cI_of (w_rings xs (d + 18) (H := H) (x := x) (C := C) (k := 1) (by decide) hX.1 _), ↓cI_of (w_engaged xs (d + 17) (H := H) (x := x) (C := C) (k := 1) (by decide) hX.1), ↓cI_of (k_bitCount xs (d + 18) (g := tot H x C) _), em_bc hX, ↓cI_of (w_triesSoFar xs (d + 18) (H := H) (x := x) (C := C) (k := 1) (by decide) hX.1), ↓cI_of (u_count xs (d + 18) (H := H) (x := x) (C := C))]
    · rw [iu_Mod_count, iq_Mod_count_0]
      simp only [↓pM_pfb]
      rw [if_neg (show ¬ (14 : Int32) = 0 by decide), if_neg (show ¬ (14 : Int32) = 1 by decide), if_neg (show ¬ (14 : Int32) = 2 by decide), if_neg (show ¬ (14 : Int32) = 3 by decide), if_neg (show ¬ (14 : Int32) = 4 by decide), if_neg (show ¬ (14 : Int32) = 5 by decide), if_neg (show ¬ (14 : Int32) = 6 by decide), if_neg (show ¬ (14 : Int32) = 7 by decide), if_neg (show ¬ (14 : Int32) = 8 by decide), if_neg (show ¬ (14 : Int32) = 9 by decide), if_neg (show ¬ (14 : Int32) = 10 by decide), if_neg (show ¬ (14 : Int32) = 11 by decide), if_neg (show ¬ (14 : Int32) = 12 by decide), if_neg (show ¬ (14 : Int32) = 13 by decide), if_pos trivial]
      simp only [↓pM_Rb, ↓pM_ldb, ↓pM_Ib, ↓bs n0, ↓bs n3, ↓bs n7, ↓bs (d0_20 hn hl), ↓bs (d0_18 hn hl), ↓bs (d0_19 hn hl), ↓pM_clsb, ↓cI_of (p_callsOf xs (d + 18) hs hn _), ↓cI_of (p_engagedMany xs (d + 16) hs hn), ↓cI_of (p_knownMany xs (d + 18) (h := h) (a := a) hR0.2.2.2.2.2.2.1)]
      rfl
  refine opI_of (-1) hR0.l ?_ ?_
  · rw [iu_Eng_count, iq_Eng_count_0]
    rw [if_neg c0, if_neg c1, if_neg c2, if_neg c3, if_neg c4, if_neg c5, if_neg c6, if_neg c7, if_neg c8, if_neg c9, if_neg c10, if_neg c11, if_neg c12, if_neg c13, if_neg c14]
  · rw [iu_Mod_count, iq_Mod_count_0]
    simp only [↓pM_pfb]
    rw [if_neg c0, if_neg c1, if_neg c2, if_neg c3, if_neg c4, if_neg c5, if_neg c6, if_neg c7, if_neg c8, if_neg c9, if_neg c10, if_neg c11, if_neg c12, if_neg c13, if_neg c14]
end O18
