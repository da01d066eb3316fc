/-! chance. -/
def thN (X : aW) (r : Nat) : Int32 := nI (cntF (fA X 10) 1 r) + nI (cntF (fA X 10) 2 r)
def chF (E S L : aG) (X : aW) (t r p n m : Nat) (th : Int32) (sd0 : Int64) : Nat → Int32 × Int64
  | 0 => (0, sd0)
  | i + 1 => (if thN (stN E S L t r p n (X, (chF E S L X t r p n m th sd0 i).2) m).1 r - thN X r < th then (chF E S L X t r p n m th sd0 i).1 else (chF E S L X t r p n m th sd0 i).1 + 1, (stN E S L t r p n (X, (chF E S L X t r p n m th sd0 i).2) m).2)
section O7
variable (xs : List Int32) (d : Nat) {H h : ia_H} {x a : Nat} {C : aC} {M : aG} {σ : Bool} {p n r t t0 q : Nat}
theorem op_chance (hR : Rp x C M σ p n r t t0 q) (v1 v2 v3 : Int32) : opI xs d H h x a C M im_Eng_chance im_Mod_chance [.int v1, .int v2, .int v3] := by
  have hR0 := hR.t 0
  have hT := hR0.2.1
  have hs := hT.2.2.1
  have hn := hR0.2.2.1
  have hX := hn.1
  obtain ⟨o1, o2, o3, o4, o5⟩ := hR0.2.2.2.1
  rw [opI, iu_Eng_chance, iq_Eng_chance_0, iu_Mod_chance, iq_Mod_chance_0]
  simp only [↓pM_pfb]
  by_cases a1 : v1 < 0
  · exact ⟨-1, C, gI M 0 0, hR0.l, by rw [if_pos a1], by rw [if_pos a1]⟩
  by_cases a2 : v2 < 1
  · exact ⟨-1, C, gI M 0 0, hR0.l, by rw [if_neg a1, if_pos a2], by rw [if_neg a1, if_pos a2]⟩
  by_cases a3 : 99 < v2
  · exact ⟨-1, C, gI M 0 0, hR0.l, by rw [if_neg a1, if_neg a2, if_pos a3], by rw [if_neg a1, if_neg a2, if_pos a3]⟩
  by_cases a4 : v3 < 0
  · exact ⟨-1, C, gI M 0 0, hR0.l, by rw [if_neg a1, if_neg a2, if_neg a3, if_pos a4], by rw [if_neg a1, if_neg a2, if_neg a3, if_pos a4]⟩
  by_cases a5 : 10 < v3
  · exact ⟨-1, C, gI M 0 0, hR0.l, by rw [if_neg a1, if_neg a2, if_neg a3, if_neg a4, if_pos a5], by rw [if_neg a1, if_neg a2, if_neg a3, if_neg a4, if_pos a5]⟩
  have a2' : ¬ v2 < 0 := fun z => a2 (Int32.lt_trans z (by decide))
  obtain ⟨m, hm, rfl⟩ := in_le (k := 99) rfl a2' a3
  simp only [if_neg a1, if_neg a2, if_neg a3, if_neg a4, if_neg a5, ↓ok1, ↓pM_pfb]
  have hcls : ∀ k i C1 N, i + k = 10 → scC C C1 σ → k + 1 ≤ N → ∃ C4, scC C C4 σ ∧ ia_qr xs (ia_cal xs (d + 19)) im_Eng_chance N 22 [.ref x, .float 0, .int (nI m), .int v3, .int (chF (gI (dE (C.1 (kS σ))) 4 1) (C.1 (kS σ)) (C.1 (kL σ)) (C.2 1) t r p n m v3 v1.toInt64 i).1, .long (chF (gI (dE (C.1 (kS σ))) 4 1) (C.1 (kS σ)) (C.1 (kL σ)) (C.2 1) t r p n m v3 v1.toInt64 i).2, .float 0, .int (nI i)] [] (tot H x C1) = some (some (.int (chF (gI (dE (C.1 (kS σ))) 4 1) (C.1 (kS σ)) (C.1 (kL σ)) (C.2 1) t r p n m v3 v1.toInt64 10).1), tot H x C4) := by
    intro k
    induction k with
    | zero =>
      intro i C1 N hi hc hN
      obtain ⟨N, rfl⟩ : ∃ k, N = k + 1 := ⟨N - 1, by omega⟩
      refine ⟨C1, hc, ?_⟩
      rw [show i = 10 by omega, iq_Eng_chance_22, if_n (show ¬ nI 10 < (10 : Int32) by decide)]
    | succ k ih =>
      intro i C1 N hi hc hN
      obtain ⟨N, rfl⟩ : ∃ k, N = k + 1 := ⟨N - 1, by omega⟩
      have hR1 := hR.sc hc hR.sm
      obtain ⟨C2, f1, f2, f3, f4⟩ := fo_lk xs (d + 16) (H := H) hR hc (j := 1) (by decide) (by decide) hX.1.lnX
      have hu := ih (i + 1)
      rw [chF] at hu
      generalize chF (gI (dE (C.1 (kS σ))) 4 1) (C.1 (kS σ)) (C.1 (kL σ)) (C.2 1) t r p n m v3 v1.toInt64 i = Q at *
      have fe := f1.e (k := 4) (v := 1)
      have fj := fe.j (v := Q.2)
      have e3 : (uG (uG C2 12 (gI (C2.1 12) 4 1)) 12 (gJ ((uG C2 12 (gI (C2.1 12) 4 1)).1 12) 0 Q.2)).2 5 = C.2 1 := by rw [uG_2, uG_2, f2]
      have e4 : ((uG (uG C2 12 (gI (C2.1 12) 4 1)) 12 (gJ ((uG C2 12 (gI (C2.1 12) 4 1)).1 12) 0 Q.2)).1 12).2.2.1 0 = Q.2 := by rw [uG_s, gJ_s]
      obtain ⟨C4, g1, g2, g3, g4⟩ := g_run xs (d + 13) (H := H) fj (t := t) (r := r) (by rw [e3]; exact hX) hm (mI := nI m) rfl
      rw [e3, e4] at g2 g3
      have hZ := stN_wf (E := gI (dE (C.1 (kS σ))) 4 1) (S := C.1 (kS σ)) (L := C.1 (kL σ)) (n := n) (Y := (C.2 1, Q.2)) hX m
      have e41 : C4.2 1 = C.2 1 := g1.1.2.2.2.2.2.2.2.2.2.2.1 1 (by decide)
      have t1 := w_throughs xs (d + 17) (H := H) (x := x) (C := C4) (k := 1) (t := t) (r := r) (by decide) (by rw [e41]; exact hX.1)
      have t5 := w_throughs xs (d + 17) (H := H) (x := x) (C := C4) (k := 5) (t := t) (r := r) (by decide) (by rw [g2]; exact hZ.1)
      rw [e41] at t1
      rw [g2] at t5
      have t1' : ia_cal xs (d + 19) im_World_throughs [.ref (wA x 1)] (tot H x C4) = some (some (.int (thN (C.2 1) r)), tot H x C4) := t1
      have t5' : ia_cal xs (d + 19) im_World_throughs [.ref (wA x 5)] (tot H x C4) = some (some (.int (thN (stN (gI (dE (C.1 (kS σ))) 4 1) (C.1 (kS σ)) (C.1 (kL σ)) t r p n (C.2 1, Q.2) m).1 r)), tot H x C4) := t5
      have fe2 : fx x (uG C2 (kE true) (gI (C2.1 (kE true)) 4 1)) σ := fe.2.1
      have fj2 : fx x (uG (uG C2 (kE true) (gI (C2.1 (kE true)) 4 1)) (kE true) (gJ ((uG C2 (kE true) (gI (C2.1 (kE true)) 4 1)).1 (kE true)) 0 Q.2)) σ := fj.2.1
      have g4' : ia_cal xs (d + 19) im_Foresight_run [.ref (x + 109), .int (nI m)] (tot H x (uG (uG C2 (kE true) (gI (C2.1 (kE true)) 4 1)) (kE true) (gJ ((uG C2 (kE true) (gI (C2.1 (kE true)) 4 1)).1 (kE true)) 0 Q.2))) = some (none, tot H x C4) := g4
      have g3' : (C4.1 (kE true)).2.2.1 0 = (stN (gI (dE (C.1 (kS σ))) 4 1) (C.1 (kS σ)) (C.1 (kL σ)) t r p n (C.2 1, Q.2) m).2 := g3
      rw [iq_Eng_chance_22]
      simp only [↓if_p (show nI i < (10 : Int32) from nI_lt (b := 10) (by omega) (by decide)), ↓tN_Rb hR1.1, ↓tF_clsb, ↓cV_of f4, ↓tN_Rb f1.2.1, ↓tF_Rb f1.2.1, ↓ok1, ↓tE_pfb, ↓tN_Rb fe2, ↓tF_Rb fe2, ↓tN_Rb fj2, ↓cV_of g4', ↓tN_Rb g1.2.1, ↓tF_Rb g1.2.1, ↓tE_Jb, g3', ↓tW_clsb (show 5 < 7 by decide), ↓cI_of t5', ↓tW_clsb (show 1 < 7 by decide), ↓cI_of t1', nI_1]
      by_cases c : thN (stN (gI (dE (C.1 (kS σ))) 4 1) (C.1 (kS σ)) (C.1 (kL σ)) t r p n (C.2 1, Q.2) m).1 r - thN (C.2 1) r < v3
      · rw [if_pos c]
        have := hu C4 N (by omega) g1.1 (by omega)
        rw [if_pos c] at this
        exact this
      · rw [if_neg c]
        have := hu C4 N (by omega) g1.1 (by omega)
        rw [if_neg c] at this
        exact this
  have href : ∀ k i Mi N, i + k = 10 → smM (gI M 0 0) (gI Mi 21 0) → Mi.1 21 = 1 → (Mi.1 22).toInt64 = (chF (gI (dE (C.1 (kS σ))) 4 1) (C.1 (kS σ)) (C.1 (kL σ)) (C.2 1) t r p n m v3 v1.toInt64 i).2 → k + 1 ≤ N → ∃ M4, smM (gI M 0 0) M4 ∧ ia_qr xs (ia_cal xs (d + 19)) im_Mod_chance N 28 [.ref a, .float 0, .int (nI m), .int v3, .int (chF (gI (dE (C.1 (kS σ))) 4 1) (C.1 (kS σ)) (C.1 (kL σ)) (C.2 1) t r p n m v3 v1.toInt64 i).1, .int (nI i)] [] (pM h a Mi) = some (some (.int (chF (gI (dE (C.1 (kS σ))) 4 1) (C.1 (kS σ)) (C.1 (kL σ)) (C.2 1) t r p n m v3 v1.toInt64 10).1), pM h a M4) := by
    intro k
    induction k with
    | zero =>
      intro i Mi N hi hc h21 hd hN
      obtain ⟨N, rfl⟩ : ∃ k, N = k + 1 := ⟨N - 1, by omega⟩
      refine ⟨gI Mi 21 0, hc, ?_⟩
      rw [show i = 10 by omega, iq_Mod_chance_28, if_n (show ¬ nI 10 < (10 : Int32) by decide)]
      simp only [↓ok0, ↓pM_pfb]
    | succ k ih =>
      intro i Mi N hi hc h21 hd hN
      obtain ⟨N, rfl⟩ : ∃ k, N = k + 1 := ⟨N - 1, by omega⟩
      have hu := ih (i + 1)
      rw [chF] at hu
      generalize chF (gI (dE (C.1 (kS σ))) 4 1) (C.1 (kS σ)) (C.1 (kL σ)) (C.2 1) t r p n m v3 v1.toInt64 i = Q at *
      have hR1 := hR0.sc hR.sr hc
      have hs1 : rsM Mi (C.1 (kS σ)) (C.1 (kL σ)) r p n := hR1.2.1.2.2.1
      have hn1 : NWr (C.2 1) Mi t r p q := hR1.2.2.1
      have hsc1 : scw (Mi.2.2.2.1 0, Mi.2.2.2.1 1) := hR1.2.2.2.1.2.2.2.2
      have q18 : Mi.1 18 = 0 := hR1.2.2.2.1.1
      have q20 : Mi.1 20 = -1 := hR1.2.2.2.1.2.2.1
      have ho : opM Mi (gI (dE (C.1 (kS σ))) 4 1) := by
        refine ⟨?_, ?_, ?_, ?_, ?_⟩
        · rw [if_pos q20, q18, if_neg (by decide)]
          exact hR1.2.1.2.2.2.2.1
        · rw [q18, if_neg (by decide)]
          exact hR1.2.1.2.2.2.2.2.1
        · rw [q18]
          exact ⟨fun e => absurd e (by decide), fun e => absurd rfl e⟩
        · rw [q18, if_neg (by decide)]
          rfl
        · rw [h21]
          exact ⟨fun e => absurd e (by decide), fun e => absurd (show (1 : Int32) = 0 from e) (by decide)⟩
      obtain ⟨Y, dr', wk', sc', k1, k2, k3, k4, k5⟩ := r_runs3 xs (d + 9) (h := h) (a := a) hs1 hR1.2.1.2.1 hn1 hsc1 ho hm (mI := nI m) rfl
      rw [hd] at k3 k4
      have hm1 : smM (gI M 0 0) (gI (mz Mi 1 Y dr' wk' sc') 21 0) := by
        rw [mz_gI (by decide) (by decide)]
        exact hc.trans (smM.mz hc.1 k2.1.lnX k1)
      have hR2 := hR0.sc hR.sr hm1
      have hs2 : rsM (mz Mi 1 Y dr' wk' sc') (C.1 (kS σ)) (C.1 (kL σ)) r p n := hR2.2.1.2.2.1
      have hn2 : NWr (C.2 1) (mz Mi 1 Y dr' wk' sc') t r p q := hR2.2.2.1
      have gg : ia_cal xs (d + 19) im_Mod_gotThrough [.ref a, .int 1] (pM h a (mz Mi 1 Y dr' wk' sc')) = some (some (.int (thN (stN (gI (dE (C.1 (kS σ))) 4 1) (C.1 (kS σ)) (C.1 (kL σ)) t r p n (C.2 1, Q.2) m).1 r)), pM h a (mz Mi 1 Y dr' wk' sc')) := by
        have := m_gotThrough xs (d + 17) (h := h) (a := a) (b := 1) (dr := dr') (wk := wk') (sc := sc') hs1 (k2.y hs1.1 (by decide)) (bI := 1) rfl
        rw [ag_cnt k3, ag_cnt k3] at this
        exact this
      have g0 : ia_cal xs (d + 19) im_Mod_gotThrough [.ref a, .int 0] (pM h a (mz Mi 1 Y dr' wk' sc')) = some (some (.int (thN (C.2 1) r)), pM h a (mz Mi 1 Y dr' wk' sc')) := p_gotThrough xs (d + 17) hs2 hn2
      rw [iq_Mod_chance_28]
      simp only [↓if_p (show nI i < (10 : Int32) from nI_lt (b := 10) (by omega) (by decide)), ↓pM_clsb, ↓cV_of k5, ↓cI_of gg, ↓cI_of g0, nI_1, a0]
      have h22 : ((mz Mi 1 Y dr' wk' sc').1 22).toInt64 = (stN (gI (dE (C.1 (kS σ))) 4 1) (C.1 (kS σ)) (C.1 (kL σ)) t r p n (C.2 1, Q.2) m).2 := k4
      have h21' : (mz Mi 1 Y dr' wk' sc').1 21 = 1 := h21
      have := hu (mz Mi 1 Y dr' wk' sc') N (by omega) hm1 h21' h22 (by omega)
      by_cases c : thN (stN (gI (dE (C.1 (kS σ))) 4 1) (C.1 (kS σ)) (C.1 (kL σ)) t r p n (C.2 1, Q.2) m).1 r - thN (C.2 1) r < v3
      · rw [if_pos c] at this ⊢
        exact this
      · rw [if_neg c] at this ⊢
        exact this
  obtain ⟨C4, c1, c2⟩ := hcls 10 0 C 999999 (by omega) hR.sr (by omega)
  obtain ⟨M4, m1, m2⟩ := href 10 0 (gI (gI (gI M 0 0) 22 v1) 21 1) 999999 (by omega) (by
    have e : gI (gI (gI (gI M 0 0) 22 v1) 21 1) 21 0 = gI (gI M 0 0) 22 v1 := by
      rw [gI_I]
      have : (gI (gI M 0 0) 22 v1).1 21 = 0 := o4
      rw [← this]
      exact gI_id
    rw [e]
    exact hR0.sm.i (by simp)) rfl rfl (by omega)
  exact ⟨_, C4, M4, (hR0.sc c1 m1).l, c2, m2⟩
end O7
