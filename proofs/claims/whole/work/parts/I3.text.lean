/-! text: op_text. -/
section IX3
variable (xs : List Int32) (d : Nat) {H h : ia_H} {x a : Nat} {C : aC} {σ : Bool} {M : aG} {p n r t t0 q : Nat}
theorem e_end {D : aC} (hq : fx x D σ) (hF : lnX (D.2 (kF (!σ)))) (hX : lnX (D.2 1)) : (ia_getR (tot H x D) x 9 6).bind (fun r7 => ((ia_getR (tot H x D) x 9 2).bind fun r8 => (if ia_cls (tot H x D) r7 = 4 then (ia_cR (ia_cal xs (d + 1) im_Reader_handOver [.ref r7, .ref r8] (tot H x D)) fun r10 h9 => ((ia_putf h9 x 9 2 (.ref r10)).bind fun h11 => ((ia_getR h11 x 9 3).bind fun r12 => ((ia_getR h11 x 9 2).bind fun r13 => ((ia_getR h11 r13 6 9).bind fun r14 => (if ia_cls h11 r12 = 8 then (ia_cV (ia_cal xs (d + 1) im_World_become [.ref r12, .ref r14] h11) fun h15 => ((ia_getR h15 x 9 9).bind fun r16 => (if ia_cls h15 r16 = 5 then (ia_cV (ia_cal xs (d + 1) im_Rumours_wipe [.ref r16] h15) fun h17 => ((ia_getR h17 x 9 10).bind fun r18 => (if ia_cls h17 r18 = 0 then (ia_cV (ia_cal xs (d + 1) im_Deeds_wipe [.ref r18] h17) fun h19 => (if (0 : Int32) = (0 : Int32) ∨ (0 : Int32) = (1 : Int32) then ((ia_putf h19 x 9 5 (.int (0 : Int32))).bind fun h20 => ((ia_getR h20 x 9 6).bind fun r21 => ((ia_getI h20 r21 4 2).bind fun x22 => (some (some (.int x22), h20))))) else none)) else none))) else none))) else none)))))) else none))) = some (some (.int ((D.1 3).1 2)), tot H x (nwC D σ x)) := by
  have nF : kF (!σ) < 7 ∧ kF (!σ) ≠ 1 := by cases σ <;> decide
  have ov := r_over xs d (H := H) hq
  -- after told
  have f1 : fx x (uG (uG D 3 (gR (D.1 3) 0 (sd x σ))) 0 (gR (D.1 0) 0 (sd x (!σ)))) (!σ) := by
    obtain ⟨x1, x2, x3, x4⟩ := hq
    refine ⟨?_, ?_, ?_, fun ρ => ?_⟩
    · rw [uG_s]; exact ⟨rfl, x1.2⟩
    · rw [uG_n (by decide), uG_s, Bool.not_not]; exact ⟨rfl, x2.2⟩
    · rw [uG_n (by decide), uG_n (by decide)]; exact x3
    · rw [uG_n (by cases ρ <;> decide), uG_n (by cases ρ <;> decide)]; exact x4 ρ
  have d0 : (uG D 3 (gR (D.1 3) 0 (sd x σ))).1 0 = D.1 0 := uG_n (by decide)
  generalize hE : uG (uG D 3 (gR (D.1 3) 0 (sd x σ))) 0 (gR (D.1 0) 0 (sd x (!σ))) = E at *
  have e2 : E.2 = D.2 := by rw [← hE]; rfl
  have bc := k_become (H := H) (x := x) (C := E) xs d (j := kF (!σ)) (k := 1) nF.1 (by decide) nF.2 (by rw [e2]; exact hF) (by rw [e2]; exact hX)
  have f2 : ∀ X, fx x (uW E 1 X) (!σ) := fun X => f1
  have uw := u_wipe xs d (H := H) (x := x) (C := uW E 1 (E.2 (kF (!σ))))
  have f3 : ∀ U, fx x (uG (uW E 1 (E.2 (kF (!σ)))) 15 U) (!σ) := fun U => by
    obtain ⟨x1, x2, x3, x4⟩ := f2 (E.2 (kF (!σ)))
    exact ⟨by rw [uG_n (by decide)]; exact x1, by rw [uG_n (by decide)]; exact x2, by rw [uG_n (by decide)]; exact x3, fun ρ => by rw [uG_n (by cases ρ <;> decide)]; exact x4 ρ⟩
  have dw := d_wipe xs d (H := H) (x := x) (C := uG (uW E 1 (E.2 (kF (!σ)))) 15 (gI (gI ((uW E 1 (E.2 (kF (!σ)))).1 15) 0 0) 1 (-1)))
  generalize hG : uG (uG (uW E 1 (E.2 (kF (!σ)))) 15 (gI (gI ((uW E 1 (E.2 (kF (!σ)))).1 15) 0 0) 1 (-1))) 16 (gI ((uG (uW E 1 (E.2 (kF (!σ)))) 15 (gI (gI ((uW E 1 (E.2 (kF (!σ)))).1 15) 0 0) 1 (-1))).1 16) 0 0) = G at *
  have g0 : G.1 0 = gR (D.1 0) 0 (sd x (!σ)) := by rw [← hG, uG_n (by decide), uG_n (by decide), uW_1, ← hE, uG_s]
  have g3 : G.1 3 = gR (D.1 3) 0 (sd x σ) := by rw [← hG, uG_n (by decide), uG_n (by decide), uW_1, ← hE, uG_n (by decide), uG_s]
  have f4 : fx x (uG G 0 (gI (G.1 0) 1 0)) (!σ) := by
    obtain ⟨x1, x2, x3, x4⟩ := f1
    refine ⟨?_, ?_, ?_, fun ρ => ?_⟩
    · rw [uG_s, g0]; rw [← hE, uG_s] at x1; exact x1
    · rw [uG_n (by decide), ← hG, uG_n (by decide), uG_n (by decide)]; exact x2
    · rw [uG_n (by decide), ← hG, uG_n (by decide), uG_n (by decide)]; exact x3
    · rw [uG_n (by cases ρ <;> decide), ← hG, uG_n (by cases ρ <;> decide), uG_n (by cases ρ <;> decide)]; exact x4 ρ
  have q3 : ((uG G 0 (gI (G.1 0) 1 0)).1 3).1 2 = (D.1 3).1 2 := by rw [uG_n (by decide), g3]; rfl
  have fin : uG G 0 (gI (G.1 0) 1 0) = nwC D σ x := by
    rw [g0, ← hG, ← hE]
    have e15 : (uW (uG (uG D 3 (gR (D.1 3) 0 (sd x σ))) 0 (gR (D.1 0) 0 (sd x (!σ)))) 1 ((uG (uG D 3 (gR (D.1 3) 0 (sd x σ))) 0 (gR (D.1 0) 0 (sd x (!σ)))).2 (kF (!σ)))).1 15 = D.1 15 := by rw [uW_1, uG_n (by decide), uG_n (by decide)]
    rw [e15]
    have e16 : (uG (uW (uG (uG D 3 (gR (D.1 3) 0 (sd x σ))) 0 (gR (D.1 0) 0 (sd x (!σ)))) 1 ((uG (uG D 3 (gR (D.1 3) 0 (sd x σ))) 0 (gR (D.1 0) 0 (sd x (!σ)))).2 (kF (!σ)))) 15 (gI (gI (D.1 15) 0 0) 1 (-1))).1 16 = D.1 16 := by rw [uG_n (by decide), uW_1, uG_n (by decide), uG_n (by decide)]
    rw [e16]
    rfl
  simp only [↓tN_Rb hq, ↓tQ_clsb, ↓cR_of ov, ↓tN_pfb, d0, hE, ↓tN_Rb f1, ↓tS_Rb f1, ↓tW_clsb (show 1 < 7 by decide), ↓cV_of bc, ↓tN_Rb (f2 _), ↓tU_clsb, ↓cV_of uw, ↓tN_Rb (f3 _), ↓tD_clsb, ↓cV_of dw, ↓if_p (show (0 : Int32) = 0 ∨ (0 : Int32) = 1 from Or.inl rfl), ↓tN_Rb f4, ↓tQ_Ib, fin]
  rw [fin] at q3
  rw [q3]
theorem op_text (hR0 : Rp x C M σ p n r t t0 q) (v : Int32) : opI xs (d + 120) H h x a C M im_Eng_text im_Mod_text [.int v] := by
  have hR1 := hR0.t 0
  obtain ⟨r1, r2, r3, r4, r5, r6, r7, r8, r9, r10, r11⟩ := hR0
  have hR0 : Rp x C M σ p n r t t0 q := ⟨r1, r2, r3, r4, r5, r6, r7, r8, r9, r10, r11⟩
  obtain ⟨hN7, T0, hT0, eN, eM, hby⟩ := r8
  have hlM : lnM M := r2.2.2.1.1
  have q1 : (gI M 0 0).1 1 = nI T0 := eM
  by_cases cneg : v < 0
  · refine opI_of (-2) hR1.l ?_ ?_
    · rw [iu_Eng_text, iq_Eng_text_0, if_pos cneg]
    · rw [iu_Mod_text, iq_Mod_text_0]
      simp only [↓pM_pfb]
      rw [if_pos cneg]
  · obtain ⟨T, hT31, hv⟩ := nI_of cneg
    by_cases cT : T0 < T
    · refine opI_of (-2) hR1.l ?_ ?_
      · rw [iu_Eng_text, iq_Eng_text_0, if_neg cneg]
        simp only [↓tN_Ib, eN]
        rw [if_pos (by rw [hv]; exact nI_lt cT (by omega))]
      · rw [iu_Mod_text, iq_Mod_text_0]
        simp only [↓pM_pfb, ↓pM_Ib, q1]
        rw [if_neg cneg, if_pos (by rw [hv]; exact nI_lt cT (by omega))]
    · have hTT : T ≤ T0 := by omega
      have n0 : kS (!σ) ≠ 0 ∧ kL (!σ) ≠ 0 := by cases σ <;> decide
      have hjk : jkD σ (uG C 0 (gI (C.1 0) 0 0)) := by
        obtain ⟨p1, p2, p3, p4, p5, p6, p7, p8⟩ := r10
        unfold jkD
        rw [uG_n n0.1, uG_n n0.2]
        exact ⟨p1, p2, p3, fun i => p6 (kF (!σ)) (by cases σ <;> decide) i, fun i => p7 (!σ) i⟩
      have hq' : fx x (uG C 0 (gI (C.1 0) 0 0)) σ := by
        obtain ⟨x1, x2, x3, x4⟩ := r1
        exact ⟨by rw [uG_s]; exact x1, by rw [uG_n (by decide)]; exact x2, by rw [uG_n (by decide)]; exact x3, fun ρ => by rw [uG_n (by cases ρ <;> decide)]; exact x4 ρ⟩
      have hb : txB ((uG C 0 (gI (C.1 0) 0 0)).1 0) M (byM M) T := by
        rw [uG_s]
        exact by_ok (N := gI (C.1 0) 0 0) hN7 (hlM 0 (by decide)) hTT hT0 hby
      have h72 : (((uG C 0 (gI (C.1 0) 0 0)).1 7).2.1 0).length = 72 := by rw [uG_n (by decide)]; exact r10.2.2.2.1
      have hwd : ((uG C 0 (gI (C.1 0) 0 0)).1 6).2.1 1 = wordL := by rw [uG_n (by decide)]; exact r10.2.2.2.2.1
      have cb := c_begin xs (d + 130) (H := H) (x := x) (C := uG C 0 (gI (C.1 0) 0 0)) (σ := σ) (M := M) (by_ := byM M) (T := T) hq' (hjk.2.2.1.1 0 (by decide)) (hjk.2.2.1.1 1 (by decide)) hjk.2.1 hb hwd
      obtain ⟨bf1, -, -, bf4, bf5⟩ := bg_f (T := T) hlM
      have hb0 : txB ((uG C 0 (gI (C.1 0) 0 0)).1 0) (bgU (bgR (bgM (gI M 0 0) T))) (byM M) T := ⟨hb.1, hb.2.1, by rw [bf5]; exact hb.2.2.1, fun i hi => by rw [bf4]; exact hb.2.2.2 i hi⟩
      obtain ⟨W, hW, tk⟩ := p_token xs (d + 135) (h := h) (a := a) (M := bgU (bgR (bgM (gI M 0 0) T))) hb0 rfl 0 (Nat.zero_le _) rfl
      obtain ⟨F', hF', tb⟩ := t_begin xs (d + 138) (h := h) (a := a) hlM hv (T := T) (by omega) (T0 := T0) eM hTT hT0
      have tb' := tb _ tk
      have ls := LS_0 (x := x) hq' hb hlM hjk h72 hwd hW
      generalize hD0 : bgC (uG C 0 (gI (C.1 0) 0 0)) σ x (byM M) T = D0 at *
      have d3 : D0.1 3 = bgQ ((uG C 0 (gI (C.1 0) 0 0)).1 3) := by rw [← hD0]; unfold bgC; rw [uG_n (by decide), uG_s]
      obtain ⟨rr, D2, M2, G', g1, g2, g3, g4⟩ := read_sim xs (d + 12) (d + 13) (H := H) (h := h) (a := a) T 0 D0 _ 0 0 0 0 0 0 0 999999 F' (Nat.sub_le _ _) ls (Nat.le_refl _) (Nat.le_refl _) (by rw [d3]; rfl) rfl (by omega) (by omega)
      have hrd : ia_cal xs (d + 139) im_Reader_read [.ref (x + 53), .ref (x + 1), .int v] (tot H x (uG C 0 (gI (C.1 0) 0 0))) = some (some (.int rr), tot H x D2) := by
        rw [hv]
        exact cb.trans g1
      have hmt : ia_cal xs (d + 140) im_Mod_text [.ref a, .int v] (pM h a M) = ia_qr xs (ia_cal xs (d + 139)) im_Mod_text (G' + 1) 86 [.ref a, .float 0, .float 0] [] (pM h a M2) := tb'.trans g2
      rcases g4 with ⟨z1, k, pl, z2, z3, ⟨z4, z5, z6, z7⟩, z8, z9⟩ | ⟨z1, j, p', n', t', r', kn, l', z2, z3, zq, z4, z5, z6⟩
      · rw [← hD0] at z4
        obtain ⟨b1, b2, b3, b4⟩ := bg_fr z4
        obtain ⟨lo, lo1⟩ := bg_low hlM g3 z8.2.2
        have fxD : fx x D2 σ := z4.fx (by rw [hD0]; exact ls.1.1)
        have lo' : lowM M (gI (gI M2 11 (M2.1 9)) 12 (M2.1 10)) := ⟨lo.1, fun k hk => by rw [gI_n (by omega), gI_n (by omega)]; exact lo.2.1 k hk, lo.2.2.1, lo.2.2.2.1, lo.2.2.2.2⟩
        have res := Rp_fail (M' := gI (gI M2 11 (M2.1 9)) 12 (M2.1 10)) hR0 lo' lo1 fxD b1 b2 b3 z4.2.2.2.2.2.2 (by rw [b4]; exact r10.2.2.2.2.1) z5 (by rw [z6]; exact z9.1.symm) (by rw [z7]; exact z9.2.1.symm)
        refine ⟨-1, D2, _, res.l, ?_, hmt.trans (t_fail xs (d + 137) z9.n9)⟩
        rw [iu_Eng_text, iq_Eng_text_0, if_neg cneg]
        simp only [↓tN_Ib, eN]
        rw [if_neg (by rw [hv]; exact nI_nlt hTT (by omega))]
        simp only [↓tN_pfb, ↓tN_Rb hq', ↓tQ_clsb, ↓cI_of hrd]
        rw [z1, if_pos rfl]
      · have z3' := z3
        rw [← hD0] at z3
        obtain ⟨b1, b2, b3, b4⟩ := bg_fr z3
        obtain ⟨lo, lo1⟩ := bg_low hlM g3 z2.2.1.2.2
        obtain ⟨c1, c2, c3, c4, c5, c6⟩ := z2
        have hF : lnX (D2.2 (kF (!σ))) := c5.jk.2.2.1
        have n1 : (1 : Nat) ≠ kF (!σ) := by cases σ <;> decide
        have hX : lnX (D2.2 1) := by
          rw [b3 1 n1]
          obtain ⟨-, -, -, -, l1, l2, l3⟩ := r3.1.1
          exact ⟨l1, l2, l3⟩
        have res := Rp_new (M2 := M2) hR0 lo lo1 c4.1 c4.2.2.2 c1.1 b1 b2 b3 c6 (by rw [b4]; exact r10.2.2.2.2.1) (by rw [zq.1, d3]; rfl) (by rw [zq.2, d3]; rfl) c5
        have en := t_end xs (d + 137) (h := h) (a := a) (F := G') lo.1 c4.1 (p_begins xs (d + 137) (h := h) (a := a) lo.1 (D2.2 (kF (!σ))) hF)
        have v3 : (nwM M2 (D2.2 (kF (!σ)))).1 3 = nI l' := by
          rw [nw_i (by decide) (by decide)]
          exact z6
        rw [v3] at en
        refine ⟨nI l', nwC D2 σ x, _, res.l, ?_, hmt.trans en⟩
        have ee := e_end xs (d + 138) (H := H) c1.1 hF hX
        rw [z5] at ee
        rw [iu_Eng_text, iq_Eng_text_0, if_neg cneg]
        simp only [↓tN_Ib, eN]
        rw [if_neg (by rw [hv]; exact nI_nlt hTT (by omega))]
        simp only [↓tN_pfb, ↓tN_Rb hq', ↓tQ_clsb, ↓cI_of hrd]
        rw [z1, if_neg (show ¬ (1 : Int32) = 0 by decide)]
        exact ee
end IX3
