/-! put, hang, lend, buy. -/
section O31
variable (xs : List Int32) (d : Nat) {H h : ia_H} {x a : Nat} {C : aC} {M M' D D' : aG} {σ : Bool} {p n r t t0 q : Nat}
theorem sA_back {X : aW} {k c : Nat} {v : Int32} : sA (sA X k ((X.2 k).set c v)) k (((sA X k ((X.2 k).set c v)).2 k).set c (fA X k c)) = X := by
  have e : ((X.2 k).set c v).set c (fA X k c) = X.2 k := by
    rw [List.set_set]
    exact set_id rfl
  rw [sA_2, sA_sA, e, sA_self]
theorem z10 (c : Nat) : (10 : Int32) * nI 0 + nI c = nI c := by rw [show (10 : Int32) * nI 0 = 0 from rfl, Int32.zero_add]
theorem z8 (c : Nat) : (8 : Int32) * nI 0 + nI c = nI c := by rw [show (8 : Int32) * nI 0 = 0 from rfl, Int32.zero_add]
theorem z6 (c : Nat) : (6 : Int32) * nI 0 + nI c = nI c := by rw [show (6 : Int32) * nI 0 = 0 from rfl, Int32.zero_add]
/-- before a deed: what both keep of the world as it is -/
theorem pre (hR : Rp x C M σ p n r t t0 q) (v1 v2 v3 : Int32) :
    ∃ M' D' k' s, smK M M' ∧ k' < 20 ∧ (∃ k, k' + s = k ∧ M.1 17 = nI k ∧ k ≤ 20) ∧ M'.1 17 = nI (k' + 1) ∧ (∀ i X t r p, i < k' → wfX X t r p → dkA M (3 + (i + s)) X t r p → dkA M' (3 + i) X t r p) ∧ (∀ X t r p, wfX X t r p → dkA M 0 X t r p → dkA M' (3 + k') X t r p) ∧ DP (C.1 16) D' k' s v1 v2 v3 ∧ dkA M' 0 (C.2 1) t r p ∧ pM h a M' = my h a M' 0 (dkW M' 0 (C.2 1)) (M'.1 22) (M'.1 15) (M'.2.2.2.1 0, M'.2.2.2.1 1) ∧ wfX (dkW M' 0 (C.2 1)) t r p ∧ agW (dkW M' 0 (C.2 1)) (C.2 1) t r p ∧ ia_cal xs (d + 19) im_Mod_keepNow [.ref a] (pM h a M) = some (none, pM h a M') ∧ ia_cal xs (d + 19) im_Deeds_add [.ref (x + 154), .int v1, .int v2, .int v3] (tot H x C) = some (none, tot H x (uG C 16 D')) := by
  obtain ⟨dl, k, hk, dk1, dk2, dkc⟩ := hR.2.2.2.2.2.1
  have hn := hR.2.2.1
  obtain ⟨M', k', s, g1, g2, g3, g4, g5, g6, g7, g8⟩ := p_keepNow xs (d + 17) (h := h) (a := a) hR.2.1.2.2.1.1 hk dk2
  obtain ⟨D', f1, f2⟩ := d_add xs (d + 17) (H := H) (x := x) (C := C) dl dk1 g2 g3 g4 v1 v2 v3
  have hd := g1.2.2.2.2 0 _ _ _ _ (by decide) hn.1 hn.2.2.1
  exact ⟨M', D', k', s, g1, g2, ⟨k, g3, dk2, hk⟩, g5, g6, g7, f1, hd, (my_dk g1.1 (by decide)).symm, dk_wf g1.1 (by decide) hn.1 hd, dk_ag hn.1.2.1 hn.1.1.2.2.1 hn.1.1.2.2.2.1 hd, g8, f2⟩
theorem smK.cm (hK : smK M M') {X : aW} (h : cmM M X r) : cmM M' X r := cm_s h (fun k hk => hK.2.1 k (Or.inl hk))
theorem op_put (hR : Rp x C M σ p n r t t0 q) (v w : Int32) : opI xs d H h x a C M im_Eng_put im_Mod_put [.int v, .int w] := by
  have hR0 := hR.t 0
  have hT := hR0.2.1
  have hs := hT.2.2.1
  have hn := hR0.2.2.1
  have hX := hn.1
  have hl := hs.1
  have hr10 := hX.1.2.2.2.1
  obtain ⟨g6, g7, g8⟩ := hR0.2.2.2.2.2.2.2.2.2.1.2.2.2.2.2
  rcases inI_c v (show r < 2 ^ 31 by omega) with c0 | ⟨c0, c, hc, rfl⟩
  · have ew : ia_cal xs (d + 19) im_Eng_isWaiting [.ref x, .int v] (tot H x C) = some (some (.int 0), tot H x C) := by
      rw [iu_Eng_isWaiting, iq_Eng_isWaiting_0]
      simp only [↓tN_clsb, ↓cI_of (e_isRing xs (d + 17) hR.1 hX.1 _), ↓if_p c0, ↓ok0]
    refine opI_of 0 hR0.l ?_ ?_
    · rw [iu_Eng_put, iq_Eng_put_0]
      simp only [↓tN_clsb, ↓cI_of ew, ↓ok0]
      rfl
    · rw [iu_Mod_put, iq_Mod_put_0]
      simp only [↓pM_pfb, ↓pM_clsb, ↓cI_of (p_isCall xs (d + 18) hs _), ↓if_p c0, ↓ok0]
  have c1 : ¬ inI (nI c) r = 0 := by rw [c0]; decide
  obtain ⟨y6, y7, y8, y9, y10, y11⟩ := hX.1.rr hc
  have u10 : rd ((gI M 0 0).2.1 29) (nI c) = some (fA (C.2 1) 10 c) := d0_r hn hl (k := 10) (by decide) (by decide) hc
  have u8 : rd ((gI M 0 0).2.1 27) (nI c) = some (fA (C.2 1) 8 c) := d0_r hn hl (k := 8) (by decide) (by decide) hc
  have ew : ia_cal xs (d + 19) im_Eng_isWaiting [.ref x, .int (nI c)] (tot H x C) = some (some (.int (if fA (C.2 1) 10 c = 0 then 1 else 0)), tot H x C) := by
    rw [iu_Eng_isWaiting, iq_Eng_isWaiting_0]
    simp only [↓tN_clsb, ↓cI_of (e_isRing xs (d + 17) hR.1 hX.1 _), ↓if_n c1, ↓tN_Rb hR.1, ↓tW_Rb (show 1 < 7 by decide), ↓tW_ldb (show 1 < 7 by decide), ↓bs y10, ↓ok0, ↓ok1]
    split <;> rfl
  rw [opI, iu_Eng_put, iq_Eng_put_0, iu_Mod_put, iq_Mod_put_0]
  simp only [↓pM_pfb, ↓tN_clsb, ↓cI_of ew, ↓pM_clsb, ↓cI_of (p_isCall xs (d + 18) hs _), ↓if_n c1, ↓ok0, ↓ok1, ↓tN_Rb hR.1, ↓tW_Ib (show 1 < 7 by decide), ↓tW_Rb (show 1 < 7 by decide), ↓tW_ldb (show 1 < 7 by decide), ↓bs y8, ↓pM_Rb, ↓pM_ldb, ↓bs (d0_18 hn hl), ↓bs u10, ↓bs u8]
  by_cases a1 : fA (C.2 1) 10 c = 0
  rotate_left
  · refine ⟨0, C, gI M 0 0, hR0.l, ?_, ?_⟩
    · rw [if_neg a1, if_pos rfl]
    · rw [if_neg a1]
      split
      · rfl
      · split <;> rfl
  rw [if_pos a1, if_neg (show ¬ (1 : Int32) = 0 by decide)]
  by_cases a2 : w < (C.2 1).1 0
  · exact ⟨0, C, gI M 0 0, hR0.l, by rw [if_pos a2], by rw [if_pos a2]⟩
  by_cases a3 : 9999 < w
  · exact ⟨0, C, gI M 0 0, hR0.l, by rw [if_neg a2, if_pos a3], by rw [if_neg a2, if_pos a3]⟩
  by_cases a4 : fA (C.2 1) 8 c = w
  · exact ⟨0, C, gI M 0 0, hR0.l, by rw [if_neg a2, if_neg a3, if_pos a4], by rw [if_neg a2, if_neg a3, if_pos a1, if_pos a4]⟩
  rw [if_neg a2, if_neg a3, if_neg a4, if_neg a2, if_neg a3, if_pos a1, if_neg a4]
  obtain ⟨u, hu, ew⟩ : ∃ u, u ≤ 9999 ∧ w = nI u := by
    refine in_le (k := 9999) rfl (fun z => a2 ?_) a3
    rw [hn.2.2.2.1.1]
    exact Int32.lt_of_lt_of_le z (Int32.not_lt.mp (nI_pos (show q < 2 ^ 31 by have := hn.2.2.2.2; omega)))
  obtain ⟨u8v, hu8, eu8⟩ := hn.2.2.2.1.2.1 c hc
  obtain ⟨M', D', k', s, b1, b2, b3, b4, b5, b6, b7, b8, b9, b10, b11, b12, b13⟩ := pre xs d (H := H) (h := h) (a := a) hR0 1 (nI c) (fA (C.2 1) 8 c)
  have l8 := hX.1.lnX.2.2 8 (by decide) (by decide)
  have wX : wfX (sA (C.2 1) 8 (((C.2 1).2 8).set c w)) t r p := wfX_sA hX (List.length_set ..) (by decide) (by decide) (by decide)
  have wW : wfX (sA (dkW M' 0 (C.2 1)) 8 (((dkW M' 0 (C.2 1)).2 8).set c w)) t r p := wfX_sA b10 (List.length_set ..) (by decide) (by decide) (by decide)
  have w8 : wr (((uG C 16 D').2 1).2 8) (nI c) w = some (((C.2 1).2 8).set c w) := wr_nI (l := (C.2 1).2 8) (by omega) (by omega)
  refine ⟨1, uG (uW C 1 (sA (C.2 1) 8 (((C.2 1).2 8).set c w))) 16 D', mz M' 0 (sA (dkW M' 0 (C.2 1)) 8 (((dkW M' 0 (C.2 1)).2 8).set c w)) (M'.1 22) (M'.1 15) (M'.2.2.2.1 0, M'.2.2.2.1 1), ?_, ?_, ?_⟩
  · refine hR0.deed b1 b2 b3 b4 b5 b6 b7 (X' := C.2 1) (Or.inr (Or.inl ⟨b7.2.2.2.1, rfl, c, hc, b7.2.2.2.2.1, ?_⟩)) eqT.rf wX (cm_sA hn.2.1 (by decide) (by decide)) ⟨hn.2.2.2.1.1, fun i hi => ?_, fun i hi => ?_⟩ wW.1.lnX ?_ ?_ ?_ (fun i => ?_)
    · rw [b7.2.2.2.2.2.1]; exact sA_back.symm
    · rw [fA_set (by omega)]
      by_cases e : i = c
      · rw [if_pos e]; exact ⟨u, by omega, ew⟩
      · rw [if_neg e]; exact hn.2.2.2.1.2.1 i hi
    · rw [fA_n (by decide)]; exact hn.2.2.2.1.2.2 i hi
    · exact b10.1.1.trans hX.1.1.symm
    · exact aw_set b11 (by rw [b10.1.lnX.2.2 8 (by decide) (by decide)]; omega) (by omega) rfl
    · exact ⟨u8v, hu8, eu8⟩
    · exact pcX_sA (g6 1 (by decide) i) (by decide) (by decide)
  · have fx1 : fx x (uG C 16 D') σ := fx_s hR.1 (uG_n (by decide)) (uG_n (by decide)) (uG_n (by decide)) (fun τ => uG_n (by cases τ <;> decide))
    simp only [↓tD_clsb, ↓cV_of b13, ↓tN_Rb fx1, ↓tW_Rb (show 1 < 7 by decide), ↓tW_stb (show 1 < 7 by decide), ↓bs w8]
    rfl
  · have ww := my_w27 (h := h) (a := a) (dr := M'.1 22) (wk := M'.1 15) (sc := (M'.2.2.2.1 0, M'.2.2.2.1 1)) (b10.y b1.1 (show 0 < 23 by decide)) (show c < 10 by omega)
    rw [z10] at ww
    simp only [↓cV_of b12]
    rw [b9]
    simp only [↓my_Rb, ↓ww]
    rfl
end O31
