/-! text: what holds as the first line begins. -/
/-- the bytes as the reference has them -/
def byM (M : aG) (i : Nat) : Nat := (fG M 0 i).toNatClampNeg
section HX7
variable {x : Nat} {C : aC} {σ : Bool} {M : aG} {T : Nat}
theorem by_ok {N : aG} {T0 : Nat} (hN : (N.2.1 0).length = 700) (hM : (M.2.1 0).length = 700) (hT : T ≤ T0) (h700 : T0 ≤ 700) (hb : ∀ i, i < T0 → ∃ b, b < 256 ∧ (fG N 0 i) &&& 255 = nI b ∧ fG M 0 i = nI b) : txB N M (byM M) T := by
  refine ⟨by omega, hN, hM, fun i hi => ?_⟩
  obtain ⟨b, b1, b2, b3⟩ := hb i (by omega)
  have e : byM M i = b := by unfold byM; rw [b3, nI_clamp (by omega)]
  rw [e]
  exact ⟨b1, b2, b3⟩
theorem up_get6 {l : List Int32} (hl : l.length = 6) (i : Nat) : (updTo l zF 6).getD i 0 = if i < 6 then 0 else l.getD i 0 := by
  rw [updTo_get 6 i (by omega)]; rfl
theorem hR_0 {S L : aG} {F : aW} {M0 : aG} (hS : ∀ k, k < 4 → (S.2.1 k).length = 6) (hL : wfL L) (hF : lnX F) (hp : ∀ i, pcX F i) (hv : ∀ i, vpS S i) (hl : lnM M0) (e2 : M0.1 2 = 0) (e13 : M0.1 13 = 0) (e14 : M0.1 14 = 0) (e1 : ∀ j, j < 8 → fG M0 1 (8 + j) = nfN j) (e14r : ∀ k, k < 3 → fG M0 14 (3 + k) = 0 ∧ fG M0 15 (3 + k) = 0) : hR (wiS S) (wpL (wiL L) 3) (wpX (wiX F) 6) M0 0 0 0 0 0 := by
  obtain ⟨w0, w1, w2, w3, w4⟩ := hL
  have l0 : (F.2 0).length = 6 := hF.1 0 (by decide)
  have l1 : (F.2 1).length = 6 := hF.1 1 (by decide)
  have f0 : ∀ i, fA (wpX (wiX F) 6) 0 i = if i < 6 then 0 else fA F 0 i := fun i => up_get6 l0 i
  have f1 : ∀ i, fA (wpX (wiX F) 6) 1 i = if i < 6 then 0 else fA F 1 i := fun i => up_get6 l1 i
  have f4 : ∀ i, fA (wpX (wiX F) 6) 4 i = fA F 4 i := fun i => rfl
  have g2 : ∀ k, k < 3 → fG (wpL (wiL L) 3) 2 k = 0 := fun k hk => by
    show (updTo (L.2.1 2) zF 3).getD k 0 = 0
    rw [updTo_get 3 k (by omega), if_pos hk]; rfl
  have g3 : ∀ k, k < 3 → fG (wpL (wiL L) 3) 3 k = 0 := fun k hk => by
    show (updTo (L.2.1 3) zF 3).getD k 0 = 0
    rw [updTo_get 3 k (by omega), if_pos hk]; rfl
  refine ⟨⟨⟨rfl, rfl, by decide, by decide, hS 0 (by decide), hS 1 (by decide), hS 2 (by decide), hS 3 (by decide)⟩, ⟨w0, w1, by show (updTo (L.2.1 2) zF 3).length = 3; rw [updTo_len]; exact w2, by show (updTo (L.2.1 3) zF 3).length = 3; rw [updTo_len]; exact w3, w4⟩, ⟨rfl, rfl, by decide, by decide, ?_⟩, rfl, rfl, fun i hi => by rw [f1, if_pos hi], fun i => ?_, hv⟩, ⟨e1 0 (by decide), e1 1 (by decide), e1 2 (by decide), e1 3 (by decide)⟩, fun i hi => absurd hi (by omega), fun i hi => absurd hi (by omega), fun i hi => absurd hi (by omega), fun i hi => absurd hi (by omega), ?_, ?_⟩
  · exact lnX_sA (lnX_sA hF (updTo_len 6)) (updTo_len 6)
  · refine ⟨?_, by rw [f4]; exact (hp i).2⟩
    rw [f0]
    by_cases c : i < 6
    · rw [if_pos c]; exact ⟨0, by decide, rfl⟩
    · rw [if_neg c]; exact (hp i).1
  · have nb : ∀ k, k < 19 → ¬ tB (M0.1 2) k := fun k hk => by rw [e2]; exact tB_0 k hk
    exact ⟨Or.inl ⟨rfl, e1 4 (by decide), nb 4 (by decide)⟩, Or.inl ⟨rfl, e1 5 (by decide), nb 5 (by decide)⟩, Or.inl ⟨rfl, nb 6 (by decide)⟩⟩
  · refine ⟨rfl, rfl, e14, e1 7 (by decide), by decide, e13, fun k hk => ⟨by rw [(e14r k hk).1, g2 k hk], by rw [(e14r k hk).2, g3 k hk], 0, 0, by rw [g2 k hk]; rfl, by rw [g3 k hk]; rfl, Nat.le_refl _, Nat.le_refl _, ⟨fun z => ?_, fun z => absurd z (by omega)⟩, fun z => absurd z (by omega)⟩⟩
    rw [e2] at z
    exact absurd z (tB_0 (16 + k) (by omega))
/-- the reference's numbers once it has begun -/
theorem bg_f (hl : lnM M) : lnM (bgU (bgR (bgM (gI M 0 0) T))) ∧ (∀ j, j < 8 → fG (bgU (bgR (bgM (gI M 0 0) T))) 1 (8 + j) = nfN j) ∧ (∀ k, k < 3 → fG (bgU (bgR (bgM (gI M 0 0) T))) 14 (3 + k) = 0 ∧ fG (bgU (bgR (bgM (gI M 0 0) T))) 15 (3 + k) = 0) ∧ (∀ i, fG (bgU (bgR (bgM (gI M 0 0) T))) 0 i = fG M 0 i) ∧ (bgU (bgR (bgM (gI M 0 0) T))).2.1 0 = M.2.1 0 := by
  have l1 : (M.2.1 1).length = 16 := hl 1 (by decide)
  have l14 : (M.2.1 14).length = 6 := hl 14 (by decide)
  have l15 : (M.2.1 15).length = 6 := hl 15 (by decide)
  have row : ∀ k, (bgU (bgR (bgM (gI M 0 0) T))).2.1 k = if k = 15 then slL (M.2.1 15) 3 else if k = 14 then slL (M.2.1 14) 3 else if k = 1 then nrL (M.2.1 1) 8 else M.2.1 k := fun k => rfl
  refine ⟨fun k hk => ?_, fun j hj => ?_, fun k hk => ⟨?_, ?_⟩, fun i => rfl, rfl⟩
  · rw [row]
    by_cases c15 : k = 15
    · rw [if_pos c15, sl_l, c15]; exact hl 15 (by decide)
    · rw [if_neg c15]
      by_cases c14 : k = 14
      · rw [if_pos c14, sl_l, c14]; exact hl 14 (by decide)
      · rw [if_neg c14]
        by_cases c1 : k = 1
        · rw [if_pos c1, nr_l, c1]; exact hl 1 (by decide)
        · rw [if_neg c1]; exact hl k hk
  · show (nrL (M.2.1 1) 8).getD (8 + j) 0 = _
    rw [nr_g 8 _ (by omega), if_pos (by omega), Nat.add_sub_cancel_left]
  · show (slL (M.2.1 14) 3).getD (3 + k) 0 = _
    rw [sl_g 3 _ (by omega), if_pos (by omega)]
  · show (slL (M.2.1 15) 3).getD (3 + k) 0 = _
    rw [sl_g 3 _ (by omega), if_pos (by omega)]
theorem bg_rsc (hl : lnM M) : (∀ k, (k = 11 ∨ k = 12 ∨ 14 < k) → (bgU (bgR (bgM (gI M 0 0) T))).1 k = M.1 k) ∧ (bgU (bgR (bgM (gI M 0 0) T))).2.2 = M.2.2 ∧ (∀ k, (k = 0 ∨ 17 < k) → (bgU (bgR (bgM (gI M 0 0) T))).2.1 k = M.2.1 k) ∧ ∀ k, 0 < k → k < 18 → ∀ i, i < mlen k / 2 → fG (bgU (bgR (bgM (gI M 0 0) T))) k i = fG M k i := by
  have l1 : (M.2.1 1).length = 16 := hl 1 (by decide)
  have l14 : (M.2.1 14).length = 6 := hl 14 (by decide)
  have l15 : (M.2.1 15).length = 6 := hl 15 (by decide)
  have row : ∀ k, (bgU (bgR (bgM (gI M 0 0) T))).2.1 k = if k = 15 then slL (M.2.1 15) 3 else if k = 14 then slL (M.2.1 14) 3 else if k = 1 then nrL (M.2.1 1) 8 else M.2.1 k := fun k => rfl
  refine ⟨fun k hk => ?_, rfl, fun k hk => ?_, fun k h0 h1 i hi => ?_⟩
  · show (gI (gI (gI (gI (bgR (bgM (gI M 0 0) T)) 2 0) 3 0) 13 0) 14 0).1 k = _
    rw [gI_n (by omega), gI_n (by omega), gI_n (by omega), gI_n (by omega)]
    show (gI (gI (gI (gI (gI (gI M 0 0) 4 (nI T)) 1 0) 5 0) 9 0) 10 (-1)).1 k = _
    rw [gI_n (by omega), gI_n (by omega), gI_n (by omega), gI_n (by omega), gI_n (by omega), gI_n (by omega)]
  · rw [row, if_neg (by omega), if_neg (by omega), if_neg (by omega)]
  · unfold fG
    rw [row]
    by_cases c15 : k = 15
    · subst c15
      have : mlen 15 / 2 = 3 := rfl
      rw [if_pos rfl, sl_g 3 _ (by omega), if_neg (by omega)]
    · rw [if_neg c15]
      by_cases c14 : k = 14
      · subst c14
        have : mlen 14 / 2 = 3 := rfl
        rw [if_pos rfl, sl_g 3 _ (by omega), if_neg (by omega)]
      · rw [if_neg c14]
        by_cases c1 : k = 1
        · subst c1
          have : mlen 1 / 2 = 8 := rfl
          rw [if_pos rfl, nr_g 8 _ (by omega), if_neg (by omega)]
        · rw [if_neg c1]
theorem LS_0 (hq : fx x C σ) (hb : txB (C.1 0) M (byM M) T) (hl : lnM M) (hj : jkD σ C) (h72 : ((C.1 7).2.1 0).length = 72) (hwd : (C.1 6).2.1 1 = wordL) {W : Int32} (hW : vOK (tkK (byM M) T 0) (tkV (byM M) T 0) W) : LnS x (bgC C σ x (byM M) T) σ (tkM (bgU (bgR (bgM (gI M 0 0) T))) (tkK (byM M) T 0) (tkP (byM M) T 0) (tkJ (byM M) T 0) W) (byM M) T 0 0 0 0 0 0 := by
  obtain ⟨b1, b2, b3, b4, b5⟩ := bg_f (T := T) hl
  have nS := kS_n (ρ := !σ) (τ := !σ)
  have nL := kL_n (τ := !σ)
  obtain ⟨j1, j2, j3, j4, j5⟩ := hj
  generalize hM0 : bgU (bgR (bgM (gI M 0 0) T)) = M0 at *
  have m4 : M0.1 4 = nI T := by rw [← hM0]; rfl
  have m9 : M0.1 9 = 0 := by rw [← hM0]; rfl
  have m2 : M0.1 2 = 0 := by rw [← hM0]; rfl
  have m10 : M0.1 10 = -1 := by rw [← hM0]; rfl
  have m13 : M0.1 13 = 0 := by rw [← hM0]; rfl
  have m14 : M0.1 14 = 0 := by rw [← hM0]; rfl
  have t0 : tsc M0 (tkM M0 (tkK (byM M) T 0) (tkP (byM M) T 0) (tkJ (byM M) T 0) W) := tsc_tk
  have hb0 : txB (C.1 0) M0 (byM M) T := ⟨hb.1, hb.2.1, by rw [b5]; exact hb.2.2.1, fun i hi => by rw [b4]; exact hb.2.2.2 i hi⟩
  have bm : bM (C.1 0) (tkM M0 (tkK (byM M) T 0) (tkP (byM M) T 0) (tkJ (byM M) T 0) W) (byM M) T := t0.b ⟨hb0, m4, b1⟩
  have d6 : (bgC C σ x (byM M) T).1 6 = tkA (bgZ (C.1 6) x T) (byM M) T 0 := uG_s
  have d3 : (bgC C σ x (byM M) T).1 3 = bgQ (C.1 3) := by unfold bgC; rw [uG_n (by decide), uG_s]
  have dn : ∀ k, k ≠ 6 → k ≠ 3 → k ≠ kL (!σ) → k ≠ kS (!σ) → (bgC C σ x (byM M) T).1 k = C.1 k := fun k h6 h3 hL hS => by
    unfold bgC; rw [uG_n h6, uG_n h3, uG_n hL, uW_1, uG_n hS]
  have dL : (bgC C σ x (byM M) T).1 (kL (!σ)) = wpL (wiL (C.1 (kL (!σ)))) 3 := by unfold bgC; rw [uG_n nL.1, uG_n nL.2.1, uG_s]
  have dS : (bgC C σ x (byM M) T).1 (kS (!σ)) = wiS (C.1 (kS (!σ))) := by unfold bgC; rw [uG_n nS.1, uG_n nS.2.1, uG_n nS.2.2.2.2.2, uW_1, uG_s]
  have dF : (bgC C σ x (byM M) T).2 (kF (!σ)) = wpX (wiX (C.2 (kF (!σ)))) 6 := by
    show (uW (uG C (kS (!σ)) (wiS (C.1 (kS (!σ))))) (kF (!σ)) (wpX (wiX (C.2 (kF (!σ)))) 6)).2 (kF (!σ)) = _
    exact uW_s
  have d0 : (bgC C σ x (byM M) T).1 0 = C.1 0 := dn 0 (by decide) (by decide) (Ne.symm nL.2.2.2) (Ne.symm nS.2.2.2.1)
  have d7 : (bgC C σ x (byM M) T).1 7 = C.1 7 := dn 7 (by decide) (by decide) (Ne.symm nL.2.2.1) (Ne.symm nS.2.2.1)
  have d11 : (bgC C σ x (byM M) T).1 11 = C.1 11 := dn 11 (by decide) (by decide) (by cases σ <;> decide) (Ne.symm nS.2.2.2.2.1)
  have fx' : fx x (bgC C σ x (byM M) T) σ := by
    obtain ⟨x1, x2, x3, x4⟩ := hq
    refine ⟨by rw [d0]; exact x1, by rw [d3]; exact x2, by rw [d11]; exact x3, fun ρ => ?_⟩
    by_cases c : ρ = !σ
    · rw [c, dS]; exact x4 (!σ)
    · have : kS ρ ≠ kS (!σ) := by
        revert c
        cases ρ <;> cases σ <;> decide
      have nρ := kS_n (ρ := ρ) (τ := !σ)
      rw [dn (kS ρ) nρ.1 nρ.2.1 nρ.2.2.2.2.2 this]; exact x4 ρ
  refine ⟨⟨fx', by rw [d0]; exact bm.1, by rw [d6]; rfl, by rw [d6]; rfl, by rw [d6]; exact hwd⟩, by rw [d0]; exact bm, by rw [d6]; exact tkZ_Z.symm, ⟨m9, ⟨rfl, rfl, rfl, hW⟩, Nat.zero_le _, m10⟩, ?_, by rw [d7]; exact h72⟩
  rw [dS, dL, dF]
  exact hR_0 j1 j2 j3 j4 j5 b1 m2 m13 m14 b2 b3
end HX7
