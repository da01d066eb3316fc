/-! shift, the answer. -/
section O17
variable (xs : List Int32) (d : Nat) {H h : ia_H} {x a : Nat} {C : aC} {M : aG} {σ : Bool} {p n r t t0 q : Nat}
theorem op_shift (hR : Rp x C M σ p n r t t0 q) (v : Int32) : opI xs d H h x a C M im_Eng_shift im_Mod_shift [.int v] := by
  have hR0 := hR.t 0
  have hT := hR0.2.1
  have hs := hT.2.2.1
  have hn := hR0.2.2.1
  have hX := hn.1
  have ht8 := hX.1.2.2.1
  have hl := hs.1
  rw [opI, iu_Eng_shift, iq_Eng_shift_0, iu_Mod_shift, iq_Mod_shift_0]
  simp only [↓pM_pfb]
  by_cases a1 : v < 0
  · exact ⟨-1, C, gI M 0 0, hR0.l, by rw [if_pos a1], by rw [if_pos a1]⟩
  by_cases a2 : 3 < v
  · exact ⟨-1, C, gI M 0 0, hR0.l, by rw [if_neg a1, if_pos a2], by rw [if_neg a1, if_pos a2]⟩
  obtain ⟨j, hj, rfl⟩ := in_le (k := 3) rfl a1 a2
  rw [if_neg a1, if_neg a2, if_neg a1, if_neg a2]
  -- the tones to begin
  have hT3 := nth_tb (f := fA (C.2 1) 5) t 0
  generalize hm : min 3 (tbU (fA (C.2 1) 5) t 0).length = m
  have hm3 : m ≤ 3 := by omega
  have h64 : 4 ^ m ≤ 64 := Nat.le_trans (Nat.pow_le_pow_right (by decide) hm3) (by decide)
  have hg : ∀ j, j < m → (tbU (fA (C.2 1) 5) t 0).getD j 0 < t ∧ nthB (fA (C.2 1) 5) t 0 (nI j) = nI ((tbU (fA (C.2 1) 5) t 0).getD j 0) := by
    intro j hj
    have hlt : j < (tbU (fA (C.2 1) 5) t 0).length := by omega
    have e : (tbU (fA (C.2 1) 5) t 0)[j]? = some ((tbU (fA (C.2 1) 5) t 0)[j]) := List.getElem?_eq_getElem hlt
    have e2 : (tbU (fA (C.2 1) 5) t 0).getD j 0 = (tbU (fA (C.2 1) 5) t 0)[j] := by rw [List.getD_eq_getElem?_getD, e]; rfl
    refine ⟨?_, ?_⟩
    · rw [e2]
      have := tb_lt t 0 _ (List.getElem_mem hlt)
      omega
    · rw [hT3 j (by omega), e, e2]
  have hgn : ∀ j, j < 3 → ¬ j < m → nthB (fA (C.2 1) 5) t 0 (nI j) = -1 := by
    intro j h3 hj
    rw [hT3 j (by omega), List.getElem?_eq_none (by omega)]
  have nm : ∀ j, j < 2 ^ 31 → ¬ nI j = -1 := fun j hj e => by
    have := congrArg Int32.toInt e
    rw [nI_toInt hj] at this
    have e2 : (-1 : Int32).toInt = -1 := rfl
    omega
  -- the reference gathers them
  have hn0 : ∀ Mi, smM (gI M 0 0) Mi → NWr (C.2 1) Mi t r p q := fun Mi hi => (hR0.sc hR.sr hi).2.2.1
  obtain ⟨M1, N', l1, l2, l3, l4, l5⟩ := lay_5 xs d (h := h) (a := a) (f := fA (C.2 1) 5) hn0 (fun _ => rfl) ht8 t 0 [] (gI (gI M 0 0) 23 0) (by omega) rfl (hR0.sm.i (by omega)) rfl (by simp) (fun j hj => absurd hj (by simp)) (999998 - t)
  rw [hm] at l3 l4
  -- both try all plans
  obtain ⟨C4, M4, s1, s2, s3, s4, s5⟩ := sh_b xs d (H := H) (h := h) (a := a) hR0 hm3 hg (nI j) (4 ^ m) 0 C (gI M1 24 (-1)) 0 (nI 11) (by omega) hR.sr (l2.i (by omega)) l3 l4 (Or.inl ⟨rfl, rfl, gI_s⟩) (999997 - m) (N' - 1) (by omega) (by omega)
  have hlay : ia_cal xs (d + 19) im_Mod_layShift [.ref a] (pM h a (gI M 0 0)) = some (none, pM h a M4) := by
    rw [iu_Mod_layShift, iq_Mod_layShift_0]
    simp only [↓pM_pfb]
    rw [show (999999 : Nat) = 999998 - t + t + 1 by omega]
    refine Eq.trans l5 ?_
    rw [show N' = N' - 1 + 1 by omega, iq_Mod_layShift_35]
    simp only [↓pM_pfb]
    exact s5
  have hbest : ia_cal xs (d + 19) im_Foresight_bestShift [.ref (x + 109), .ref (sd x σ), .ref (wA x 1), .int (nI j)] (tot H x C) = some (some (.int (if nI j = 3 then M4.1 24 else ((M4.1 25 >>> ((2 * ((nI m - 1) - nI j)) &&& 31)) &&& 3))), tot H x C4) := by
    rw [iu_Foresight_bestShift, iq_Foresight_bestShift_0]
    have cnt : ∀ k i N, i + k = m → ia_qr xs (ia_cal xs (d + 18)) im_Foresight_bestShift (N + k + 1) 4 [.ref (x + 109), .ref (sd x σ), .ref (wA x 1), .int (nI j), .int (nI i), .int (nI i), .float 0, .float 0, .float 0, .float 0] [] (tot H x C) = ia_qr xs (ia_cal xs (d + 18)) im_Foresight_bestShift N 15 [.ref (x + 109), .ref (sd x σ), .ref (wA x 1), .int (nI j), .int (nI m), .float 0, .float 0, .float 0, .float 0, .float 0] [] (tot H x C) := by
      intro k
      induction k with
      | zero =>
        intro i N hi
        have : i = m := by omega
        subst this
        rw [iq_Foresight_bestShift_4]
        by_cases c3 : i < 3
        · have hnt := w_toneToBegin xs (d + 17) (H := H) (x := x) (C := C) (k := 1) (t := t) (r := r) (by decide) hX.1 (nI i)
          rw [hgn i c3 (by omega)] at hnt
          simp only [↓if_p (show nI i < (3 : Int32) from nI_lt (b := 3) c3 (by decide)), ↓tW_clsb (show 1 < 7 by decide), ↓cI_of hnt]
          rw [if_pos trivial]
        · rw [if_n (show ¬ nI i < (3 : Int32) from nI_nlt (b := 3) (by omega) (by omega))]
      | succ k ih =>
        intro i N hi
        have hnt := w_toneToBegin xs (d + 17) (H := H) (x := x) (C := C) (k := 1) (t := t) (r := r) (by decide) hX.1 (nI i)
        obtain ⟨g1, g2⟩ := hg i (by omega)
        rw [g2] at hnt
        rw [show N + (k + 1) + 1 = N + k + 1 + 1 from rfl, iq_Foresight_bestShift_4]
        simp only [↓if_p (show nI i < (3 : Int32) from nI_lt (b := 3) (show i < 3 by omega) (by decide)), ↓tW_clsb (show 1 < 7 by decide), ↓cI_of hnt, ↓if_n (nm _ (show (tbU (fA (C.2 1) 5) t 0).getD i 0 < 2 ^ 31 by omega)), nI_1]
        exact ih (i + 1) N (by omega)
    have c0 := cnt m 0 (999998 - m) (by omega)
    rw [show (999999 : Nat) = 999998 - m + m + 1 by omega]
    refine Eq.trans c0 ?_
    rw [show 999998 - m = 999997 - m + 1 by omega, iq_Foresight_bestShift_15]
    exact s4
  have hsh : ∀ N, ia_qr xs (ia_cal xs (d + 19)) im_Eng_shift (N + 1) 18 [.ref x, .int (nI j)] [] (tot H x C) = some (some (.int (if nI j = 3 then M4.1 24 else ((M4.1 25 >>> ((2 * ((nI m - 1) - nI j)) &&& 31)) &&& 3))), tot H x C4) := fun N => by
    rw [iq_Eng_shift_18]
    simp only [↓tN_Rb hR.1, ↓tF_clsb, ↓cI_of hbest]
  have hRl := (hR0.sc s1 s2).l
  simp only [↓pM_clsb, ↓cV_of hlay, ↓pM_Ib, s3]
  by_cases c3 : j = 3
  · subst c3
    refine ⟨M4.1 24, C4, M4, hRl, ?_, ?_⟩
    · rw [if_neg (show ¬ nI 3 < 3 by decide), hsh 999998, if_pos (show nI 3 = 3 from rfl)]
    · rw [if_pos (show nI 3 = 3 from rfl)]
  · have n3 : ¬ nI j = 3 := fun e => c3 ((nI_eq (a := j) (b := 3) (by omega) (by omega)).mp e)
    have hnt := w_toneToBegin xs (d + 18) (H := H) (x := x) (C := C) (k := 1) (t := t) (r := r) (by decide) hX.1 (nI j)
    rw [if_pos (show nI j < (3 : Int32) from nI_lt (b := 3) (by omega) (by decide)), if_neg n3]
    by_cases cm : j < m
    · obtain ⟨g1, g2⟩ := hg j cm
      rw [g2] at hnt
      refine ⟨(M4.1 25 >>> ((2 * ((nI m - 1) - nI j)) &&& 31)) &&& 3, C4, M4, hRl, ?_, ?_⟩
      · simp only [↓tN_Rb hR.1, ↓tW_clsb (show 1 < 7 by decide), ↓cI_of hnt, ↓if_n (nm _ (show (tbU (fA (C.2 1) 5) t 0).getD j 0 < 2 ^ 31 by omega))]
        rw [hsh 999998, if_neg n3]
      · rw [if_pos (nI_lt cm (by omega))]
    · rw [hgn j (by omega) cm] at hnt
      refine ⟨-2, C, M4, (hR0.sc hR.sr s2).l, ?_, ?_⟩
      · simp only [↓tN_Rb hR.1, ↓tW_clsb (show 1 < 7 by decide), ↓cI_of hnt]
        rw [if_pos trivial]
      · rw [if_neg (nI_nlt (by omega) (by omega))]
end O17
