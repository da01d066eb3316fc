/-! ahead, tried. -/
theorem in_le {v K : Int32} {k : Nat} (hK : K.toInt = k) (h0 : ¬ v < 0) (h1 : ¬ K < v) : ∃ m, m ≤ k ∧ v = nI m := nI_of2 hK h0 (Int32.not_lt.mp h1)
section O3
variable (xs : List Int32) (d : Nat) {H h : ia_H} {x a : Nat} {C : aC} {M : aG} {σ : Bool} {p n r t t0 q : Nat}
theorem p_gotThrough {S L : aG} {X : aW} (hs : rsM M S L r p n) (hn : NWr X M t r p q) : ia_cal xs (d + 2) im_Mod_gotThrough [.ref a, .int 0] (pM h a M) = some (some (.int (nI (cntF (fA X 10) 1 r) + nI (cntF (fA X 10) 2 r))), pM h a M) := by
  rw [iu_Mod_gotThrough, iq_Mod_gotThrough_0]
  simp only [↓pM_clsb, ↓cI_of (p_callsOf xs d hs hn _)]
/-- the reference runs ahead -/
theorem r_runs (hR : Rp x C M σ p n r t t0 q) {E : aG} (ho : opM M E) (h4 : E.1 4 = 0) {m : Nat} (hm : m ≤ 99) {mI : Int32} (hmI : mI = nI m) :
    ∃ M1 Y dr' wk' sc', M1 = mz M 1 Y dr' wk' sc' ∧ smM M M1 ∧ wfX Y t r p ∧ agW Y (stN E (C.1 (kS σ)) (C.1 (kL σ)) t r p n (C.2 1, 0) m).1 t r p ∧ ia_cal xs (d + 10) im_Mod_runs [.ref a, .int mI] (pM h a M) = some (none, pM h a M1) := by
  obtain ⟨e1, e2, e3⟩ := r1 (h := h) (a := a) hR
  obtain ⟨b1, b2, b3, b4⟩ := hR.bd1
  have hn := hR.2.2.1
  obtain ⟨dr', wk', sc', k1, k2, k3⟩ := m_runs xs d (h := h) (a := a) (dr := M.1 22) (wk := M.1 15) hR.2.1.2.2.1 hR.2.1.2.1 ho hn.2.1 hn.1 hn.2.2.1 e2 e3 hn.2.2.2.1 hm (by have := hn.2.2.2.2; omega) hmI
  rw [← e1] at k3
  have hw := stN_wf (E := E) (S := C.1 (kS σ)) (L := C.1 (kL σ)) (n := n) (Y := (dkW M 0 (C.2 1), (M.1 22).toInt64)) b2 m
  exact ⟨_, _, dr', wk', sc', rfl, smM.mz hR.2.1.2.2.1.1 hw.1.lnX k1, hw, both hn.1 b2 b4 h4 m, k3⟩
theorem op_ahead (hR : Rp x C M σ p n r t t0 q) (v1 v2 v3 : Int32) : opI xs d H h x a C M im_Eng_ahead im_Mod_ahead [.int v1, .int v2, .int v3] := by
  have hR0 := hR.t 0
  have hT := hR0.2.1
  have hs := hT.2.2.1
  have hn := hR0.2.2.1
  have hX := hn.1
  have hp6 := hX.2.1
  have hl := hs.1
  rw [opI]
  rw [iu_Eng_ahead, iq_Eng_ahead_0, iu_Mod_ahead, iq_Mod_ahead_0]
  simp only [↓pM_pfb]
  by_cases a1 : v1 < 0
  · exact ⟨-1, C, gI M 0 0, hR0.l, by rw [if_pos a1], by rw [if_pos a1]⟩
  by_cases a2 : 99 < v1
  · exact ⟨-1, C, gI M 0 0, hR0.l, by rw [if_neg a1, if_pos a2], by rw [if_neg a1, if_pos a2]⟩
  by_cases a3 : v2 < 0
  · exact ⟨-1, C, gI M 0 0, hR0.l, by rw [if_neg a1, if_neg a2, if_pos a3], by rw [if_neg a1, if_neg a2, if_pos a3]⟩
  by_cases a4 : 3 < v2
  · exact ⟨-1, C, gI M 0 0, hR0.l, by rw [if_neg a1, if_neg a2, if_neg a3, if_pos a4], by rw [if_neg a1, if_neg a2, if_neg a3, if_pos a4]⟩
  obtain ⟨m, hm, rfl⟩ := in_le (k := 99) rfl a1 a2
  obtain ⟨j, hj, rfl⟩ := in_le (k := 3) rfl a3 a4
  simp only [if_neg a1, if_neg a2, if_neg a3, if_neg a4]
  obtain ⟨C2, f1, f2, f3, f4⟩ := fo_lk xs (d + 16) (H := H) hR hR.sr (j := 1) (by decide) (by decide) hX.1.lnX
  have hX2 : wfX (C2.2 5) t r p := by rw [f2]; exact hX
  obtain ⟨C4, g1, g2, -, g3⟩ := g_run xs (d + 13) (H := H) f1 hX2 hm (mI := nI m) rfl
  rw [f2, f3] at g2
  have ho : opM (gI M 0 0) (dE (C.1 (kS σ))) := op0 hR0.2.2.2.1 hT
  obtain ⟨M1, Y, dr', wk', sc', m1, m2, m3, m4, m5⟩ := r_runs xs (d + 9) (h := h) (a := a) hR0 ho rfl hm (mI := nI m) rfl
  have hZ := stN_wf (E := dE (C.1 (kS σ))) (S := C.1 (kS σ)) (L := C.1 (kL σ)) (n := n) (Y := (C.2 1, 0)) hX m
  rw [← g2] at hZ m4
  have hR1 := hR0.sc g1.1 m2
  have hR1' := hR0.sc hR.sr m2
  have hs1 := hR1'.2.1.2.2.1
  have hn1 := hR1'.2.2.1
  have e4 : C4.2 1 = C.2 1 := g1.1.2.2.2.2.2.2.2.2.2.2.1 1 (by decide)
  have hX4 : wfW (C4.2 1) t r := by rw [e4]; exact hX.1
  have hy : wfY (gI M 0 0) 1 Y := m3.y hl (by decide)
  have cg : ∀ st, ia_cal xs (d + 19) im_Mod_callsOf [.ref a, .int 1, .int st] (pM h a M1) = some (some (.int (nI (cntF (fA (C4.2 5) 10) st r))), pM h a M1) := fun st => by
    have := m_callsOf xs (d + 18) (h := h) (a := a) (b := 1) (dr := dr') (wk := wk') (sc := sc') hs hy st
    rw [ag_cnt m4] at this
    rw [m1]
    exact this
  have gg : ia_cal xs (d + 19) im_Mod_gotThrough [.ref a, .int 1] (pM h a M1) = some (some (.int (nI (cntF (fA (C4.2 5) 10) 1 r) + nI (cntF (fA (C4.2 5) 10) 2 r))), pM h a M1) := by
    have := m_gotThrough xs (d + 17) (h := h) (a := a) (b := 1) (dr := dr') (wk := wk') (sc := sc') hs hy (bI := 1) rfl
    rw [ag_cnt m4, ag_cnt m4] at this
    rw [m1]
    exact this
  have pd : ∀ f : Int32 → Option ia_R, (ia_ald (pM h a M1) (a + 22) 0 (1 : Int32)).bind f = f ((C4.2 5).1 1) := fun f => by
    have := my_r19 (h := h) (a := a) (dr := dr') (wk := wk') (sc := sc') hy f
    rw [m4.2.1] at this
    rw [m1]
    exact this
  have pd0 : ∀ f : Int32 → Option ia_R, (ia_ald (pM h a M1) (a + 22) 0 (0 : Int32)).bind f = f ((C.2 1).1 1) := fun f => by
    simp only [↓pM_ldb, ↓bs (d0_19 hn1 hs1.1)]
  have kE19 : ∀ (res : Int32) (w : Int32), (∀ m, v3 = nI m → w = 3 → m < p → res = fA (C4.2 5) 1 m) → ((w = 3 → ∃ m, m < p ∧ v3 = nI m)) → res = (if w = 0 then (nI (cntF (fA (C4.2 5) 10) 1 r) + nI (cntF (fA (C4.2 5) 10) 2 r)) - (nI (cntF (fA (C.2 1) 10) 1 r) + nI (cntF (fA (C.2 1) 10) 2 r)) else if w = 1 then nI (cntF (fA (C4.2 5) 10) 3 r) - nI (cntF (fA (C.2 1) 10) 3 r) else if w = 2 then (C4.2 5).1 1 - (C.2 1).1 1 else res) → (w = 0 ∨ w = 1 ∨ w = 2 ∨ w = 3) → ∀ N, ia_qr xs (ia_cal xs (d + 19)) im_Eng_ahead (N + 1) 19 [.ref x, .int (nI m), .int w, .int v3, .float 0] [] (tot H x C) = some (some (.int res), tot H x C4) ∧ ia_qr xs (ia_cal xs (d + 19)) im_Mod_ahead (N + 1) 22 [.ref a, .int (nI m), .int w, .int v3] [] (pM h a (gI M 0 0)) = some (some (.int res), pM h a M1) := by
    intro res w h3 h3' hres hw N
    have wt := fun (k : Nat) (hk : k < 7) (hw : wfW (C4.2 k) t r) => w_throughs xs (d + 17) (H := H) (x := x) (C := C4) hk hw
    have wc := fun (k : Nat) (hk : k < 7) (hw : wfW (C4.2 k) t r) => w_rings xs (d + 18) (H := H) (x := x) (C := C4) hk hw 3
    have t1 := wt 1 (by decide) hX4
    have t5 := wt 5 (by decide) hZ.1
    have c1 := wc 1 (by decide) hX4
    have c5 := wc 5 (by decide) hZ.1
    rw [e4] at t1 c1
    rw [iq_Eng_ahead_19, iq_Mod_ahead_22]
    simp only [↓tN_Rb hR.1, ↓tF_clsb, ↓cV_of f4, ↓tN_Rb f1.2.1, ↓cV_of g3, ↓tN_Rb g1.2.1, ↓tF_Rb g1.2.1, ↓pM_clsb, ↓cV_of m5]
    rcases hw with rfl | rfl | rfl | rfl
    · rw [if_pos rfl] at hres
      simp only [if_true, ↓tW_clsb (show 5 < 7 by decide), ↓cI_of t5, ↓tN_Rb g1.2.1, ↓tW_clsb (show 1 < 7 by decide), ↓cI_of t1, ↓pM_clsb, ↓cI_of gg, ↓cI_of (p_gotThrough xs (d + 17) hs1 hn1), ← hres]
      exact ⟨trivial, trivial⟩
    · rw [if_neg (by decide), if_pos rfl] at hres
      simp only [show ¬ (1 : Int32) = 0 by decide, if_false, if_true, ↓tW_clsb (show 5 < 7 by decide), ↓cI_of c5, ↓tN_Rb g1.2.1, ↓tW_clsb (show 1 < 7 by decide), ↓cI_of c1, ↓pM_clsb, ↓cI_of (cg 3), ↓cI_of (p_callsOf xs (d + 18) hs1 hn1 3), ← hres]
      exact ⟨trivial, trivial⟩
    · rw [if_neg (by decide), if_neg (by decide), if_pos rfl] at hres
      simp only [show ¬ (2 : Int32) = 0 by decide, show ¬ (2 : Int32) = 1 by decide, if_false, if_true, ↓tW_Ib (show 5 < 7 by decide), ↓tN_Rb g1.2.1, ↓tW_Ib (show 1 < 7 by decide), e4, ↓pM_Rb, ↓pd, ↓pd0, ← hres]
      exact ⟨trivial, trivial⟩
    · obtain ⟨m', hm', rfl⟩ := h3' rfl
      have hres' := h3 m' rfl rfl hm'
      have w1 : rd ((C4.2 5).2 1) (nI m') = some (fA (C4.2 5) 1 m') := rdA (by rw [hZ.1.ln.2.1]; omega) (by rw [hZ.1.ln.2.1]; decide)
      have rr : ∀ f : Int32 → Option ia_R, (ia_ald (pM h a M1) (a + 25) 0 ((6 : Int32) + nI m')).bind f = f (fA (C4.2 5) 1 m') := fun f => by
        have := my_r22 (h := h) (a := a) (dr := dr') (wk := wk') (sc := sc') hy (show m' < 6 by omega) f
        rw [m4.2.2.1 1 (by decide) m' hm'] at this
        rw [m1]
        exact this
      simp only [show ¬ (3 : Int32) = 0 by decide, show ¬ (3 : Int32) = 1 by decide, show ¬ (3 : Int32) = 2 by decide, if_false, ↓tW_Rb (show 5 < 7 by decide), ↓tW_ldb (show 5 < 7 by decide), ↓bs w1, ↓pM_Rb, ↓rr, hres']
      exact ⟨trivial, trivial⟩
  have hj4 : j = 0 ∨ j = 1 ∨ j = 2 ∨ j = 3 := by omega
  by_cases c3 : nI j = 3
  · simp only [if_pos c3]
    rcases inI_c v3 (show p < 2 ^ 31 by omega) with c0 | ⟨c0, m', hm', hv⟩
    · refine ⟨-1, C, gI M 0 0, hR0.l, ?_, ?_⟩
      · simp only [↓tN_clsb, ↓cI_of (e_isPerson xs (d + 18) hR.1 hT.1 v3), ↓if_p c0]
      · simp only [↓pM_clsb, ↓cI_of (p_isMan xs (d + 18) hs v3), ↓if_p c0]
    · have c1 : ¬ inI v3 p = 0 := by rw [c0]; decide
      have key := kE19 (fA (C4.2 5) 1 m') (nI j) (fun m2 e _ hm2 => by rw [hv, nI_eq (by omega) (by omega)] at e; rw [e]) (fun _ => ⟨m', hm', hv⟩) (by rw [c3, if_neg (by decide), if_neg (by decide), if_neg (by decide)]) (Or.inr (Or.inr (Or.inr c3)))
      refine ⟨fA (C4.2 5) 1 m', C4, M1, hR1.l, ?_, ?_⟩
      · simp only [↓tN_clsb, ↓cI_of (e_isPerson xs (d + 18) hR.1 hT.1 v3), ↓if_n c1]
        exact (key _).1
      · simp only [↓pM_clsb, ↓cI_of (p_isMan xs (d + 18) hs v3), ↓if_n c1]
        exact (key _).2
  · simp only [if_neg c3]
    have hw : nI j = 0 ∨ nI j = 1 ∨ nI j = 2 := by
      rcases hj4 with rfl | rfl | rfl | rfl
      · exact Or.inl rfl
      · exact Or.inr (Or.inl rfl)
      · exact Or.inr (Or.inr rfl)
      · exact absurd rfl c3
    have key := kE19 (if nI j = 0 then (nI (cntF (fA (C4.2 5) 10) 1 r) + nI (cntF (fA (C4.2 5) 10) 2 r)) - (nI (cntF (fA (C.2 1) 10) 1 r) + nI (cntF (fA (C.2 1) 10) 2 r)) else if nI j = 1 then nI (cntF (fA (C4.2 5) 10) 3 r) - nI (cntF (fA (C.2 1) 10) 3 r) else (C4.2 5).1 1 - (C.2 1).1 1) (nI j) (fun _ _ e => absurd e c3) (fun e => absurd e c3) (by
      rcases hw with e | e | e <;> rw [e] <;> rfl) (by rcases hw with e | e | e <;> simp [e])
    exact ⟨_, C4, M1, hR1.l, (key _).1, (key _).2⟩
end O3
