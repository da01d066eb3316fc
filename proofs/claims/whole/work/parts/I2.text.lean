/-! text: both answer alike. -/
section IX2
variable (xs : List Int32) (d : Nat) {H h : ia_H} {x a : Nat} {C D : aC} {σ : Bool} {M M2 : aG} {p n r t t0 q : Nat}
theorem u_wipe : ia_cal xs (d + 1) im_Rumours_wipe [.ref (x + 149)] (tot H x C) = some (none, tot H x (uG C 15 (gI (gI (C.1 15) 0 0) 1 (-1)))) := by
  rw [iu_Rumours_wipe, iq_Rumours_wipe_0]
  simp only [↓tU_pfb, uG_s, uG_G]
theorem r_over (hq : fx x D σ) : ia_cal xs (d + 1) im_Reader_handOver [.ref (x + 53), .ref (sd x σ)] (tot H x D) = some (some (.ref (sd x (!σ))), tot H x (uG D 3 (gR (D.1 3) 0 (sd x σ)))) := by
  rw [iu_Reader_handOver, iq_Reader_handOver_0]
  simp only [↓tQ_Rb hq, ↓tQ_pfb]
theorem p_begins (hl : lnM M) (F : aW) (hF : lnX F) : ia_cal xs (d + 2) im_Mod_begins [.ref a] (pM h a (enM M)) = some (none, pM h a (nwM M F)) := by
  have hle := en_ln hl
  have st := m_starts xs d (h := h) (a := a) (M := enM M) (b := 0) (Y := dkW (enM M) 0 F) (dr := (enM M).1 22) (wk := (enM M).1 15) (sc := ((enM M).2.2.2.1 0, (enM M).2.2.2.1 1)) hle (by decide) (dk_len hle (by decide) hF) F (bI := 0) rfl
  rw [my_dk hle (by decide)] at st
  rw [iu_Mod_begins, iq_Mod_begins_0]
  simp only [↓pM_clsb, ↓cV_of st]
  rfl
theorem frE.fx {D0 : aC} (h : frE D0 σ D) (hq : fx x D0 σ) : fx x D σ := by
  obtain ⟨a1, a2, a3, a4, a5, a6, a7⟩ := h
  obtain ⟨f1, f2, f3, f4⟩ := hq
  have n := kS_n (ρ := !σ) (τ := !σ)
  have nL := kL_n (τ := !σ)
  have e0 : D.1 0 = D0.1 0 := a1 0 (by decide) (by decide) (by decide) (Ne.symm n.2.2.2.1) (Ne.symm nL.2.2.2)
  have e11 : D.1 11 = D0.1 11 := a1 11 (by decide) (by decide) (by decide) (Ne.symm n.2.2.2.2.1) (by cases σ <;> decide)
  refine ⟨by rw [e0]; exact f1, by rw [a3]; exact f2, by rw [e11]; exact f3, fun ρ => ?_⟩
  have f4' := f4 ρ
  by_cases c : ρ = !σ
  · rw [c, a6]
    rw [c] at f4'
    exact f4'
  · have : kS ρ ≠ kS (!σ) := by
      revert c
      cases ρ <;> cases σ <;> decide
    rw [a1 (kS ρ) (kS_n (ρ := ρ) (τ := !σ)).2.1 (kS_n (ρ := ρ) (τ := !σ)).1 (kS_n (ρ := ρ) (τ := !σ)).2.2.1 this (kS_n (ρ := ρ) (τ := !σ)).2.2.2.2.2]
    exact f4'
/-- where the reader has worked, and where not -/
theorem bg_fr {T : Nat} {by_ : Nat → Nat} (h : frE (bgC (uG C 0 (gI (C.1 0) 0 0)) σ x by_ T) σ D) : (∀ k, k ≠ 0 → k ≠ 3 → k ≠ 6 → k ≠ 7 → k ≠ kS (!σ) → k ≠ kL (!σ) → D.1 k = C.1 k) ∧ D.1 0 = gI (C.1 0) 0 0 ∧ (∀ k, k ≠ kF (!σ) → D.2 k = C.2 k) ∧ (D.1 6).2.1 1 = (C.1 6).2.1 1 := by
  have n := kS_n (ρ := !σ) (τ := !σ)
  have nL := kL_n (τ := !σ)
  have dn : ∀ k, k ≠ 6 → k ≠ 3 → k ≠ kL (!σ) → k ≠ kS (!σ) → (bgC (uG C 0 (gI (C.1 0) 0 0)) σ x by_ T).1 k = (uG C 0 (gI (C.1 0) 0 0)).1 k := fun k h6 h3 hL hS => by
    unfold bgC; rw [uG_n h6, uG_n h3, uG_n hL, uW_1, uG_n hS]
  obtain ⟨a1, a2, a3, a4, a5, a6, a7⟩ := h
  refine ⟨fun k h0 h3 h6 h7 hS hL => ?_, ?_, fun k hk => ?_, ?_⟩
  · rw [a1 k h3 h6 h7 hS hL, dn k h6 h3 hL hS, uG_n h0]
  · rw [a1 0 (by decide) (by decide) (by decide) (Ne.symm n.2.2.2.1) (Ne.symm nL.2.2.2), dn 0 (by decide) (by decide) (Ne.symm nL.2.2.2) (Ne.symm n.2.2.2.1), uG_s]
  · rw [a2 k hk]
    show (uW (uG (uG C 0 (gI (C.1 0) 0 0)) (kS (!σ)) (wiS ((uG C 0 (gI (C.1 0) 0 0)).1 (kS (!σ))))) (kF (!σ)) (wpX (wiX ((uG C 0 (gI (C.1 0) 0 0)).2 (kF (!σ)))) 6)).2 k = _
    rw [uW_n hk]; rfl
  · rw [a4]
    have : (bgC (uG C 0 (gI (C.1 0) 0 0)) σ x by_ T).1 6 = tkA (bgZ ((uG C 0 (gI (C.1 0) 0 0)).1 6) x T) by_ T 0 := uG_s
    rw [this]
    show ((uG C 0 (gI (C.1 0) 0 0)).1 6).2.1 1 = _
    rw [uG_n (by decide)]
theorem bg_low {T : Nat} {K P J : Nat} {W : Int32} (hl : lnM M) (hr : rsc (tkM (bgU (bgR (bgM (gI M 0 0) T))) K P J W) M2) (hl2 : lnM M2) : lowM M M2 ∧ M2.1 1 = 0 := by
  obtain ⟨b1, b2, b3, b4⟩ := bg_rsc (T := T) hl
  have t0 : tsc (bgU (bgR (bgM (gI M 0 0) T))) (tkM (bgU (bgR (bgM (gI M 0 0) T))) K P J W) := tsc_tk
  refine ⟨⟨hl2, fun k hk => ?_, ?_, fun k hk => ?_, fun k h0 h1 i hi => ?_⟩, ?_⟩
  · rw [hr.1 k (by omega), t0.2 k (by omega)]; exact b1 k (by omega)
  · rw [hr.2.1, t0.1]; exact b2
  · rw [hr.2.2.1 k (by omega), t0.1]; exact b3 k (by omega)
  · rw [(hr.2.2.2 k h0 h1).2 i hi, t0.f]; exact b4 k h0 h1 i hi
  · rw [hr.1 1 (by omega), t0.2 1 (by omega)]; rfl
end IX2
