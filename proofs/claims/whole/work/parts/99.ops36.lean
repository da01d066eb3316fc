/-! keep. -/
section O36
variable (xs : List Int32) (d : Nat) {H h : ia_H} {x a : Nat} {C : aC} {M M' D D' : aG} {σ : Bool} {p n r t t0 q : Nat}
theorem op_keep (hR : Rp x C M σ p n r t t0 q) : opI xs d H h x a C M im_Eng_keep im_Mod_keep [] := by
  have hR0 := hR.t 0
  obtain ⟨a1, a2, a3, a4, a5, a6, a7, a8, a9, a10, a11⟩ := hR0
  have hl := a2.2.2.1.1
  have hX := a3.1
  have hb := k_become (H := H) (x := x) (C := C) (j := 1) (k := 2) xs (d + 18) (by decide) (by decide) (by decide) hX.1.lnX a5.2.1
  have hcp := p_copies xs (d + 18) (h := h) (a := a) hl (b := 2) (c := 0) (by decide) (by decide) (by decide) (bI := 2) (cI := 0) rfl rfl
  have fx1 : fx x (uW C 2 (C.2 1)) σ := a1
  have kSn : ∀ τ, kS τ ≠ 0 := fun τ => by cases τ <;> decide
  have kLn : ∀ τ, kL τ ≠ 0 := fun τ => by cases τ <;> decide
  have kFn : ∀ τ, kF τ ≠ 2 := fun τ => by cases τ <;> decide
  have e : ∀ k, k ≠ 0 → (uG (uW C 2 (C.2 1)) 0 (gI (C.1 0) 1 1)).1 k = C.1 k := fun k hk => uG_n hk
  have w : ∀ k, k ≠ 2 → (uG (uW C 2 (C.2 1)) 0 (gI (C.1 0) 1 1)).2 k = C.2 k := fun k hk => by rw [uG_2, uW_n hk]
  have fx2 : fx x (uG (uW C 2 (C.2 1)) 0 (gI (C.1 0) 1 1)) σ := by
    unfold fx at *
    rw [e 3 (by decide), e 11 (by decide)]
    exact ⟨a1.1, a1.2.1, a1.2.2.1, fun τ => by rw [e _ (kSn τ)]; exact a1.2.2.2 τ⟩
  have hdk : ∀ e X t r p, e ≠ 2 → wfX X t r p → dkA (gI M 0 0) e X t r p → dkA (gI (cpM (gI M 0 0) 2 0) 16 1) e X t r p := fun e X t r p he hx hd => cp_ne hl (b := 2) (c := 0) (by decide) (by decide) he hx hd
  have sm2 : ∀ k, k < 18 → (gI (cpM (gI M 0 0) 2 0) 16 1).2.1 k = (gI M 0 0).2.1 k := fun k hk => cp_k (Or.inl hk)
  have i : ∀ k, k ≠ 16 → (gI (cpM (gI M 0 0) 2 0) 16 1).1 k = (gI M 0 0).1 k := fun k hk => by rw [gI_n hk, cp_1]
  have hl2 : lnM (gI (cpM (gI M 0 0) 2 0) 16 1) := cp_ln hl (by decide) (by decide)
  have hN : NWr (C.2 1) (gI (cpM (gI M 0 0) 2 0) 16 1) t r p q := ⟨hX, cm_s a3.2.1 sm2, hdk 0 _ _ _ _ (by decide) hX a3.2.2.1, a3.2.2.2⟩
  refine ⟨(C.2 1).1 0, uG (uW C 2 (C.2 1)) 0 (gI (C.1 0) 1 1), gI (cpM (gI M 0 0) 2 0) 16 1, ⟨σ, p, n, r, t, t0, q, fx2, ?_, ?_, ?_, ?_, ?_, ?_, ?_, ?_, ?_, ?_⟩, ?_, ?_⟩
  · rw [e _ (kSn σ), e _ (kLn σ), w _ (kFn σ)]
    exact a2.s hl2 sm2
  · rw [w 1 (by decide)]; exact hN
  · have hJ : (gI (cpM (gI M 0 0) 2 0) 16 1).2.2 = (gI M 0 0).2.2 := cp_2
    exact ⟨(i 18 (by decide)).trans a4.1, (i 19 (by decide)).trans a4.2.1, (i 20 (by decide)).trans a4.2.2.1, (i 21 (by decide)).trans a4.2.2.2.1, by rw [hJ]; exact a4.2.2.2.2.1, by rw [hJ]; exact a4.2.2.2.2.2⟩
  · rw [uG_s, uG_2, uW_s]
    exact ⟨rfl, hX.1.lnX, Or.inr ⟨rfl, t, q, hX, cm_s a3.2.1 sm2, cp_eq hl (b := 2) (c := 0) (by decide) (by decide) hX a3.2.2.1, a3.2.2.2⟩⟩
  · rw [e 16 (by decide), w 1 (by decide)]
    exact a6.m (i 17 (by decide)) (fun e X t he _ hx hd => hdk e X t _ _ (by omega) hx hd)
  · rw [e 15 (by decide)]
    exact a7.s (fun k hk hk2 => cp_k (Or.inr (by omega))) (i 26 (by decide)) (i 27 (by decide))
  · rw [uG_s]
    exact TPr.s (N := gI (C.1 0) 1 1) a8 (sm2 0 (by decide)) (i 1 (by decide))
  · rw [e 3 (by decide)]
    exact ⟨a9.1.trans (i 11 (by decide)).symm, a9.2.trans (i 12 (by decide)).symm⟩
  · obtain ⟨g1, g2, g3, g4, g5, g6, g7, g8⟩ := a10
    refine ⟨?_, ?_, ?_, ?_, ?_, fun k hk => ?_, fun τ => ?_, ?_⟩
    · rw [e _ (kSn _)]; exact g1
    · rw [e _ (kLn _)]; exact g2
    · rw [w _ (kFn _)]; exact g3
    · rw [e 7 (by decide)]; exact g4
    · rw [e 6 (by decide)]; exact g5
    · by_cases ek : k = 2
      · subst ek; rw [uG_2, uW_s]; exact g6 1 (by decide)
      · rw [w k ek]; exact g6 k hk
    · rw [e _ (kSn _)]; exact g7 τ
    · rw [e 16 (by decide)]; exact g8
  · rw [w 5 (by decide)]; exact a11
  · have fx3 : fx x (uG (uW C 2 (C.2 1)) 0 (gI ((uW C 2 (C.2 1)).1 0) 1 1)) σ := fx2
    rw [iu_Eng_keep, iq_Eng_keep_0]
    simp only [↓tN_Rb a1, ↓tW_clsb (show 2 < 7 by decide), ↓cV_of hb, ↓ok1, ↓tN_pfb, ↓tN_Rb fx3, ↓tW_Ib (show 1 < 7 by decide)]
    rfl
  · rw [iu_Mod_keep, iq_Mod_keep_0]
    simp only [↓pM_pfb, ↓pM_clsb, ↓cV_of hcp, ↓ok1, ↓pM_Rb, ↓pM_ldb, ↓bs (d0_18 hN hl2)]
end O36
