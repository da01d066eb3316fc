/-! through, ahead. -/
section O2
variable (xs : List Int32) (d : Nat) {H h : ia_H} {x a : Nat} {C : aC} {M : aG} {σ : Bool} {p n r t t0 q : Nat}
/-- the reference on desk 1 -/
theorem r1 (hR : Rp x C M σ p n r t t0 q) : pM h a M = my h a M 1 (dkW M 1 (C.2 1)) (M.1 22) (M.1 15) (M.2.2.2.1 0, M.2.2.2.1 1) ∧ lnX (dkW M 1 (C.2 1)) ∧ scw (M.2.2.2.1 0, M.2.2.2.1 1) :=
  ⟨(my_dk hR.2.1.2.2.1.1 (by decide)).symm, dk_len hR.2.1.2.2.1.1 (by decide) hR.2.2.1.1.1.lnX, hR.2.2.2.1.2.2.2.2⟩
theorem Rp.bd1 (hR : Rp x C M σ p n r t t0 q) : bdX (dkW M 0 (C.2 1)) r q ∧ wfX (dkW M 0 (C.2 1)) t r p ∧ cmM M (dkW M 0 (C.2 1)) r ∧ agW (dkW M 0 (C.2 1)) (C.2 1) t r p :=
  ⟨ag_bd hR.2.2.1.ag hR.2.2.1.2.2.2.1, hR.2.2.1.wf hR.2.1.2.2.1.1, dk_cm hR.2.2.1.2.1, hR.2.2.1.ag⟩
/-- both see the same quarters ahead -/
theorem both {E S L : aG} {X Y : aW} {dr : Int64} (hX : wfX X t r p) (hY : wfX Y t r p) (hg : agW Y X t r p) (h4 : E.1 4 = 0) (i : Nat) : agW (stN E S L t r p n (Y, dr) i).1 (stN E S L t r p n (X, 0) i).1 t r p := by
  rw [(stN_d h4 (X := Y) (dr := dr) (dr' := 0) i).1]
  exact (stN_ag hY hX hg i).1
theorem op_through (hR : Rp x C M σ p n r t t0 q) (v : Int32) : opI xs d H h x a C M im_Eng_through im_Mod_through [.int v] := by
  have hR0 := hR.t 0
  have hT := hR0.2.1
  have hs := hT.2.2.1
  have hn := hR0.2.2.1
  have hX := hn.1
  have hr10 := hX.1.2.2.2.1
  have hl := hs.1
  rcases inI_c v (show r < 2 ^ 31 by omega) with c0 | ⟨c0, c, hc, rfl⟩
  · refine opI_of (-1) hR0.l ?_ ?_
    · rw [iu_Eng_through, iq_Eng_through_0]
      simp only [↓tN_clsb, ↓cI_of (e_isRing xs (d + 18) hR.1 hX.1 v), ↓if_p c0]
    · rw [iu_Mod_through, iq_Mod_through_0]
      simp only [↓pM_pfb, ↓pM_clsb, ↓cI_of (p_isCall xs (d + 18) hs v), ↓if_p c0]
  · have c1 : ¬ inI (nI c) r = 0 := by rw [c0]; decide
    have u10 : rd ((gI M 0 0).2.1 29) (nI c) = some (fA (C.2 1) 10 c) := d0_r hn hl (k := 10) (by decide) (by decide) hc
    by_cases ct : thruI (fA (C.2 1) 10 c) = 0
    · obtain ⟨C2, f1, f2, f3, f4⟩ := fo_lk xs (d + 16) (H := H) hR hR.sr (j := 1) (by decide) (by decide) hX.1.lnX
      have hX2 : wfX (C2.2 5) t r p := by rw [f2]; exact hX
      obtain ⟨C4, g1, g2⟩ := g_qThrough xs (d + 13) (H := H) f1 hX2 hc
      rw [f2, f3] at g2
      obtain ⟨e1, e2, e3⟩ := r1 (h := h) (a := a) hR0
      obtain ⟨b1, b2, b3, b4⟩ := hR0.bd1
      have ho : opM (gI M 0 0) (dE (C.1 (kS σ))) := op0 hR0.2.2.2.1 hT
      obtain ⟨Y', dr', wk', sc', k1, k2, k3⟩ := m_throughIn xs (d + 10) (h := h) (a := a) (dr := (gI M 0 0).1 22) (wk := (gI M 0 0).1 15) hs hT.2.1 ho b3 b2 e3 b1 (by have := hn.2.2.2.2; omega) hc (cI := nI c) rfl
      have ef : ∀ i, fA (stN (dE (C.1 (kS σ))) (C.1 (kS σ)) (C.1 (kL σ)) t r p n (dkW (gI M 0 0) 0 (C.2 1), ((gI M 0 0).1 22).toInt64) i).1 10 c = fA (stN (dE (C.1 (kS σ))) (C.1 (kS σ)) (C.1 (kL σ)) t r p n (C.2 1, 0) i).1 10 c := fun i => (both hX b2 b4 rfl i).2.2.2.2 10 (by decide) (by decide) c hc
      rw [rT_c 99 1 ef] at k3
      have hcp := m_copies xs (d + 18) (h := h) (a := a) (dr := (gI M 0 0).1 22) (wk := (gI M 0 0).1 15) (sc := ((gI M 0 0).2.2.2.1 0, (gI M 0 0).2.2.2.1 1)) hl (show 1 < 23 by decide) (show 0 < 23 by decide) (by decide) e2 (C.2 1) (bI := 1) (cI := 0) rfl rfl
      rw [← e1] at hcp
      have eq : qT (fun i => fA (stN (dE (C.1 (kS σ))) (C.1 (kS σ)) (C.1 (kL σ)) t r p n (C.2 1, 0) i).1 10 c) 99 1 = rT (fun i => fA (stN (dE (C.1 (kS σ))) (C.1 (kS σ)) (C.1 (kL σ)) t r p n (C.2 1, 0) i).1 10 c) 99 1 := qT_rT (stN_hs (E := dE (C.1 (kS σ))) (S := C.1 (kS σ)) (L := C.1 (kL σ)) (n := n) (Y := (C.2 1, 0)) hX hc) 99 0 ct
      by_cases c3 : fA (C.2 1) 10 c = 3
      · have e32 : qT (fun i => fA (stN (dE (C.1 (kS σ))) (C.1 (kS σ)) (C.1 (kL σ)) t r p n (C.2 1, 0) i).1 10 c) 99 1 = -2 := by
          rw [qT]
          have : ¬ fA (stN (dE (C.1 (kS σ))) (C.1 (kS σ)) (C.1 (kL σ)) t r p n (C.2 1, 0) (1 - 1)).1 10 c = 0 := by
            show ¬ fA (C.2 1) 10 c = 0
            rw [c3]; decide
          rw [if_neg this]
        refine ⟨-2, C4, gI M 0 0, (hR0.sc g1 hR0.sm).l, ?_, ?_⟩
        · rw [e32] at g2
          rw [iu_Eng_through, iq_Eng_through_0]
          simp only [↓tN_clsb, ↓cI_of (e_isRing xs (d + 18) hR.1 hX.1 _), ↓if_n c1, ↓tN_Rb hR.1, ↓tW_clsb (show 1 < 7 by decide), ↓cI_of (w_isThrough xs (d + 18) (show 1 < 7 by decide) hX.1 hc), ↓if_p ct, ↓tF_clsb, ↓cV_of f4, ↓tN_Rb f1.2.1, ↓cI_of g2]
        · rw [iu_Mod_through, iq_Mod_through_0]
          simp only [↓pM_pfb, ↓pM_clsb, ↓cI_of (p_isCall xs (d + 18) hs _), ↓if_n c1, ↓pM_Rb, ↓pM_ldb, ↓bs u10, ↓cI_of (m_isThrough xs (d + 18) _ _), ↓if_p ct, ↓if_p c3]
      · refine ⟨qT (fun i => fA (stN (dE (C.1 (kS σ))) (C.1 (kS σ)) (C.1 (kL σ)) t r p n (C.2 1, 0) i).1 10 c) 99 1, C4, mz (gI M 0 0) 1 Y' dr' wk' sc', (hR0.sc g1 (smM.mz hl k2 k1)).l, ?_, ?_⟩
        · rw [iu_Eng_through, iq_Eng_through_0]
          simp only [↓tN_clsb, ↓cI_of (e_isRing xs (d + 18) hR.1 hX.1 _), ↓if_n c1, ↓tN_Rb hR.1, ↓tW_clsb (show 1 < 7 by decide), ↓cI_of (w_isThrough xs (d + 18) (show 1 < 7 by decide) hX.1 hc), ↓if_p ct, ↓tF_clsb, ↓cV_of f4, ↓tN_Rb f1.2.1, ↓cI_of g2]
        · rw [iu_Mod_through, iq_Mod_through_0]
          simp only [↓pM_pfb, ↓pM_clsb, ↓cI_of (p_isCall xs (d + 18) hs _), ↓if_n c1, ↓pM_Rb, ↓pM_ldb, ↓bs u10, ↓cI_of (m_isThrough xs (d + 18) _ _), ↓if_p ct, ↓if_n c3, ↓cV_of hcp, ↓my_clsb, ↓cI_of k3]
          rw [← eq]
          rfl
    · refine opI_of 0 hR0.l ?_ ?_
      · rw [iu_Eng_through, iq_Eng_through_0]
        simp only [↓tN_clsb, ↓cI_of (e_isRing xs (d + 18) hR.1 hX.1 _), ↓if_n c1, ↓tN_Rb hR.1, ↓tW_clsb (show 1 < 7 by decide), ↓cI_of (w_isThrough xs (d + 18) (show 1 < 7 by decide) hX.1 hc), ↓if_n ct]
      · rw [iu_Mod_through, iq_Mod_through_0]
        simp only [↓pM_pfb, ↓pM_clsb, ↓cI_of (p_isCall xs (d + 18) hs _), ↓if_n c1, ↓pM_Rb, ↓pM_ldb, ↓bs u10, ↓cI_of (m_isThrough xs (d + 18) _ _), ↓if_n ct]
end O2
