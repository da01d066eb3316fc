/-! law, the answer. -/
def opL (xs : List Int32) (d : Nat) (H h : ia_H) (x a : Nat) (C : aC) (M : aG) (jc jm : Nat) (as : List Value) : Prop := ∃ v C' M', Rl x C' M' ∧ ia_cal xs (d + 20) jc (.ref x :: as) (tot H x C) = some (some (.long v), tot H x C') ∧ ia_cal xs (d + 20) jm (.ref a :: as) (pM h a M) = some (some (.long v), pM h a M')
section O26
variable (xs : List Int32) (d : Nat) {H h : ia_H} {x a : Nat} {C : aC} {M M' : aG} {σ : Bool} {p n r t t0 q : Nat}
theorem p_hasLaw {S L : aG} (hs : rsM M S L r p n) {k : Nat} (hk : k < 3) {kI : Int32} (hkI : kI = nI k) : ia_cal xs (d + 1) im_Mod_hasLaw [.ref a, .int kI] (pM h a M) = some (some (.int (tldI L k)), pM h a M) := by
  have this := m_hasLaw xs d (h := h) (a := a) (b := 0) (X := dkW M 0 (fun _ => 0, fun _ => [])) (dr := M.1 22) (wk := M.1 15) (sc := (M.2.2.2.1 0, M.2.2.2.1 1)) hs hk hkI
  rw [my_dk hs.1 (by decide)] at this
  exact this
theorem op_law (hR : Rp x C M σ p n r t t0 q) (v w : Int32) : opL xs d H h x a C M im_Eng_law im_Mod_law [.int v, .int w] := by
  have hR0 := hR.t 0
  have hT := hR0.2.1
  have hs := hT.2.2.1
  have hn := hR0.2.2.1
  have hX := hn.1
  have hl := hs.1
  have hr10 := hX.1.2.2.2.1
  have ht8 := hX.1.2.2.1
  have hp6 := hX.2.1
  have hop := t_open xs (d + 17) (H := H) (x := x) (C := C) (ε := false) (σ := σ)
  have hc := scC.openE (C := C) false hR.2.1.2.1 hR.2.2.2.2.2.2.2.2.2.2 (opE (C.1 (kE false)) (sd x σ) (C.1 (kS σ)))
  have hv := fun (j m : Nat) (hj : j < 3) (hm : m < p) (jI : Int32) (hjI : jI = nI j) (turn : Int32) => e_val xs d (H := H) hR hj hm hjI turn
  have hR1 := hR0.sc hc hR0.sm
  have eX : (uG C (kE false) (opE (C.1 (kE false)) (sd x σ) (C.1 (kS σ)))).2 1 = C.2 1 := rfl
  rw [opL, iu_Eng_law, iq_Eng_law_0, iu_Mod_law, iq_Mod_law_0]
  simp only [↓tN_Rb hR.1, ↓tE_clsb (ε := false), ↓cV_of hop, ↓pM_pfb]
  generalize hC1 : uG C (kE false) (opE (C.1 (kE false)) (sd x σ) (C.1 (kS σ))) = C1 at *
  have e1 := e_isRing xs (d + 18) (H := H) hR1.1 hR1.2.2.1.1.1 w
  have e2 := e_isPerson xs (d + 18) (H := H) hR1.1 hR1.2.1.1 w
  have e3 := e_isTone xs (d + 18) (H := H) hR1.1 hR1.2.2.1.1.1 w
  have hRl := hR1.l
  -- an untold law
  have unt : ∀ j m turn, tldI (C.1 (kL σ)) j = 0 → valX (dE (C.1 (kS σ))) (C.1 (kS σ)) (C.1 (kL σ)) (C.2 1) t r n j m turn = -9223372036854775808 := fun j m turn hj => by
    unfold valX
    rw [if_pos hj]
  have hl0 := p_hasLaw xs (d + 18) (h := h) (a := a) hs (k := 0) (kI := 0) (by decide) rfl
  have hl1 := p_hasLaw xs (d + 18) (h := h) (a := a) hs (k := 1) (kI := 1) (by decide) rfl
  have hl2 := p_hasLaw xs (d + 18) (h := h) (a := a) hs (k := 2) (kI := 2) (by decide) rfl
  have hX1 : wfW (C1.2 1) t r := by rw [eX]; exact hX.1
  by_cases c0 : v = 0
  · subst c0
    rw [if_pos rfl, if_neg (show ¬ (0 : Int32) < 0 by decide), if_neg (show ¬ (2 : Int32) < 0 by decide)]
    simp only [↓tN_clsb, ↓cI_of e1, ↓pM_clsb, ↓cI_of hl0, ↓cI_of (p_isCall xs (d + 18) hs w)]
    rcases inI_c w (show r < 2 ^ 31 by omega) with c | ⟨c, m, hm, rfl⟩
    · refine ⟨_, C1, gI M 0 0, hRl, by rw [if_pos c], ?_⟩
      split
      · rfl
      · rw [if_pos trivial]
    · have c1 : ¬ inI (nI m) r = 0 := by rw [c]; decide
      obtain ⟨f, hf, ef⟩ := hX.2.2.2.1 m hm
      obtain ⟨y6, -, -, -, -, y11⟩ := hX1.rr hm
      rw [eX] at y6 y11
      obtain ⟨C2, g1, g2⟩ := hv 0 f (by decide) hf 0 rfl (fA (C.2 1) 11 m + 1)
      have k6 : rd ((gI M 0 0).2.1 10) (nI m) = some (fA (C.2 1) 6 m) := by
        have := rdk (k := 10) (i := m) hl (by decide) (show m < 20 by omega) (by decide)
        rw [(hn.2.1 m hm).1] at this
        exact this
      have k11 : rd ((gI M 0 0).2.1 30) (nI m) = some (fA (C.2 1) 11 m) := d0_r hn hl (k := 11) (by decide) (by decide) hm
      rw [ef] at y6 k6
      rw [if_neg c1, if_neg c1]
      simp only [↓tN_Rb hR1.1, ↓tW_Rb (show 1 < 7 by decide), ↓tW_ldb (show 1 < 7 by decide), eX, ↓bs y6, ↓bs y11, ↓tE_clsb (ε := false), ↓cL_of g2]
      by_cases ct : tldI (C.1 (kL σ)) 0 = 0
      · exact ⟨_, C2, gI M 0 0, (hR0.sc g1 hR0.sm).l, rfl, by rw [if_pos ct, unt 0 f _ ct]⟩
      · obtain ⟨M2, k1, k2⟩ := p_val xs d (h := h) (a := a) hR0 (j := 0) (by decide) hf (jI := 0) rfl (fA (C.2 1) 11 m + 1) ct
        refine ⟨_, C2, M2, (hR0.sc g1 k1).l, rfl, ?_⟩
        rw [if_neg ct, if_pos trivial, iq_Mod_law_33, if_pos rfl]
        simp only [↓pM_Rb, ↓pM_ldb, ↓bs k6]
        rw [iq_Mod_law_51, if_pos rfl]
        simp only [↓pM_Rb, ↓pM_ldb, ↓bs k11]
        exact k2 _
  by_cases c1 : v = 1
  · subst c1
    rw [if_neg (show ¬ (1 : Int32) = 0 by decide), if_pos rfl, if_neg (show ¬ (1 : Int32) < 0 by decide), if_neg (show ¬ (2 : Int32) < 1 by decide)]
    simp only [↓tN_clsb, ↓cI_of e2, ↓pM_clsb, ↓cI_of hl1, ↓cI_of (p_isMan xs (d + 18) hs w), ↓if_n (show ¬ (1 : Int32) = 0 by decide)]
    rcases inI_c w (show p < 2 ^ 31 by omega) with c | ⟨c, m, hm, rfl⟩
    · refine ⟨_, C1, gI M 0 0, hRl, by rw [if_pos c], ?_⟩
      split
      · rfl
      · rw [if_pos trivial]
    · have c1 : ¬ inI (nI m) p = 0 := by rw [c]; decide
      obtain ⟨C2, g1, g2⟩ := hv 1 m (by decide) hm 1 rfl 0
      rw [if_neg c1, if_neg c1]
      simp only [↓tN_Rb hR1.1, ↓tE_clsb (ε := false), ↓cL_of g2]
      by_cases ct : tldI (C.1 (kL σ)) 1 = 0
      · exact ⟨_, C2, gI M 0 0, (hR0.sc g1 hR0.sm).l, rfl, by rw [if_pos ct, unt 1 m _ ct]⟩
      · obtain ⟨M2, k1, k2⟩ := p_val xs d (h := h) (a := a) hR0 (j := 1) (by decide) hm (jI := 1) rfl 0 ct
        refine ⟨_, C2, M2, (hR0.sc g1 k1).l, rfl, ?_⟩
        rw [if_neg ct, if_pos trivial, iq_Mod_law_33, if_neg (show ¬ (1 : Int32) = 0 by decide), if_pos rfl, iq_Mod_law_51, if_neg (show ¬ (1 : Int32) = 0 by decide)]
        exact k2 _
  by_cases c2 : v = 2
  · subst c2
    rw [if_neg (show ¬ (2 : Int32) = 0 by decide), if_neg (show ¬ (2 : Int32) = 1 by decide), if_pos rfl, if_neg (show ¬ (2 : Int32) < 0 by decide), if_neg (show ¬ (2 : Int32) < 2 by decide)]
    simp only [↓tN_clsb, ↓cI_of e3, ↓pM_clsb, ↓cI_of hl2, ↓cI_of (p_isTone xs (d + 18) hl hn w), ↓if_n (show ¬ (2 : Int32) = 0 by decide), ↓if_n (show ¬ (2 : Int32) = 1 by decide)]
    rcases inI_c w (show t < 2 ^ 31 by omega) with c | ⟨c, m, hm, rfl⟩
    · refine ⟨_, C1, gI M 0 0, hRl, by rw [if_pos c], ?_⟩
      split
      · rfl
      · rfl
    · have c1 : ¬ inI (nI m) t = 0 := by rw [c]; decide
      obtain ⟨f, hf, ef⟩ := hX.2.2.1 m hm
      obtain ⟨y2, -⟩ := hX1.rt hm
      rw [eX] at y2
      obtain ⟨C2, g1, g2⟩ := hv 2 f (by decide) hf 2 rfl 0
      have k2' : rd ((gI M 0 0).2.1 23) (nI m) = some (fA (C.2 1) 2 m) := d0_t hn hl (k := 2) (by decide) (by decide) hm
      rw [ef] at y2 k2'
      rw [if_neg c1, if_neg c1]
      simp only [↓tN_Rb hR1.1, ↓tW_Rb (show 1 < 7 by decide), ↓tW_ldb (show 1 < 7 by decide), eX, ↓bs y2, ↓tE_clsb (ε := false), ↓cL_of g2]
      by_cases ct : tldI (C.1 (kL σ)) 2 = 0
      · exact ⟨_, C2, gI M 0 0, (hR0.sc g1 hR0.sm).l, rfl, by rw [if_pos ct, unt 2 f _ ct]⟩
      · obtain ⟨M2, k1, k2⟩ := p_val xs d (h := h) (a := a) hR0 (j := 2) (by decide) hf (jI := 2) rfl 0 ct
        refine ⟨_, C2, M2, (hR0.sc g1 k1).l, rfl, ?_⟩
        rw [if_neg ct, iq_Mod_law_33, if_neg (show ¬ (2 : Int32) = 0 by decide), if_neg (show ¬ (2 : Int32) = 1 by decide)]
        simp only [↓pM_Rb, ↓pM_ldb, ↓bs k2']
        rw [iq_Mod_law_51, if_neg (show ¬ (2 : Int32) = 0 by decide)]
        exact k2 _
  · refine ⟨_, C1, gI M 0 0, hRl, by rw [if_neg c0, if_neg c1, if_neg c2], ?_⟩
    by_cases d1 : v < 0
    · rw [if_pos d1]
    · by_cases d2 : 2 < v
      · rw [if_neg d1, if_pos d2]
      · exfalso
        obtain ⟨j, hj, rfl⟩ := in_le (k := 2) rfl d1 d2
        have : j = 0 ∨ j = 1 ∨ j = 2 := by omega
        rcases this with rfl | rfl | rfl
        · exact c0 rfl
        · exact c1 rfl
        · exact c2 rfl
end O26
