/-! when. -/
section O9
variable (xs : List Int32) (d : Nat) {H h : ia_H} {x a : Nat} {C : aC} {M : aG} {σ : Bool} {p n r t t0 q : Nat}
theorem rO_cut {f : Nat → Int32} (k : Nat) : ∀ m i, (rO f m i = -2 ∧ (rO f (m + k) i = -2 ∨ ∃ j, m + i ≤ j ∧ j < i + m + k ∧ rO f (m + k) i = nI j)) ∨ ∃ j, i ≤ j ∧ j < i + m ∧ rO f m i = nI j ∧ rO f (m + k) i = nI j
  | 0, i => by
    refine Or.inl ⟨rfl, ?_⟩
    rw [Nat.zero_add]
    have key : ∀ k i, rO f k i = -2 ∨ ∃ j, i ≤ j ∧ j < i + k ∧ rO f k i = nI j := by
      intro k
      induction k with
      | zero => exact fun i => Or.inl rfl
      | succ k ih =>
        intro i
        rw [rO]
        by_cases c : f i = 2
        · rw [if_pos c]; exact Or.inr ⟨i, by omega, by omega, rfl⟩
        · rw [if_neg c]
          rcases ih (i + 1) with e | ⟨j, h1, h2, h3⟩
          · exact Or.inl e
          · exact Or.inr ⟨j, by omega, by omega, h3⟩
    rcases key k i with e | ⟨j, h1, h2, h3⟩
    · exact Or.inl e
    · exact Or.inr ⟨j, by omega, by omega, h3⟩
  | m + 1, i => by
    rw [rO, show m + 1 + k = m + k + 1 by omega, rO]
    by_cases c : f i = 2
    · rw [if_pos c, if_pos c]; exact Or.inr ⟨i, by omega, by omega, rfl, rfl⟩
    · rw [if_neg c, if_neg c]
      rcases rO_cut k m (i + 1) with ⟨h1, e | ⟨j, h2, h3, h4⟩⟩ | ⟨j, h1, h2, h3, h4⟩
      · exact Or.inl ⟨h1, Or.inl e⟩
      · exact Or.inl ⟨h1, Or.inr ⟨j, by omega, by omega, h4⟩⟩
      · exact Or.inr ⟨j, by omega, by omega, h3, h4⟩
/-- a call put elsewhere, as if never tried -/
def whX (X : aW) (c : Nat) (v : Int32) : aW := sA (sA X 8 ((X.2 8).set c v)) 11 ((X.2 11).set c 0)
theorem wh_wf {X : aW} {c : Nat} {v : Int32} (hX : wfX X t r p) : wfX (whX X c v) t r p :=
  wfX_sA (wfX_sA hX (List.length_set ..) (by decide) (by decide) (by decide)) (by rw [sA_n (by decide), List.length_set]) (by decide) (by decide) (by decide)
theorem wh_ag {X Y : aW} {c : Nat} {v : Int32} (hX : wfX X t r p) (hY : wfX Y t r p) (h : agW Y X t r p) (hc : c < r) : agW (whX Y c v) (whX X c v) t r p := by
  have hr := hX.1.2.2.2.1
  have lx := hX.1.lnX.2.2
  have ly := hY.1.lnX.2.2
  have h1 := aw_set (k := 8) (i := c) (v := v) (w := v) h (by rw [ly 8 (by decide) (by decide)]; omega) (by rw [lx 8 (by decide) (by decide)]; omega) rfl
  have h2 := aw_set (k := 11) (i := c) (v := 0) (w := 0) h1 (by rw [sA_n (by decide), ly 11 (by decide) (by decide)]; omega) (by rw [sA_n (by decide), lx 11 (by decide) (by decide)]; omega) rfl
  rw [sA_n (by decide), sA_n (by decide)] at h2
  exact h2
theorem wh_bd {X : aW} {c u : Nat} {v : Int32} (hX : wfX X t r p) (h : bdX X r q) (hc : c < r) (hu : u ≤ 12000) (hv : v = nI u) : bdX (whX X c v) r q := by
  have hr := hX.1.2.2.2.1
  have lx := hX.1.lnX.2.2 8 (by decide) (by decide)
  refine ⟨h.1, fun i hi => ?_, fun i hi => ?_⟩
  · unfold whX
    rw [fA_n (by decide), fA_set (by rw [lx]; omega)]
    by_cases e : i = c
    · exact ⟨u, hu, by rw [if_pos e, hv]⟩
    · rw [if_neg e]; exact h.2.1 i hi
  · unfold whX
    rw [fA_n (by decide), fA_n (by decide)]
    exact h.2.2 i hi
theorem wh_in {S L E : aG} {Y : aW} {dr0 : Int64} (hs : rsM M S L r p n) (hq : wfQ L) (ho : opM M E) (hcm : cmM M Y r) (hw : wfX Y t r p) (hbd : bdX Y r q) (hq9 : q ≤ 9900) {c : Nat} (hc : c < r) (w v3 v4 v5 : Int32) :
    ∀ k i dr wk sc, i + k = 99 → scw sc → dr.toInt64 = (stN E S L t r p n (Y, dr0) i).2 → bdX (stN E S L t r p n (Y, dr0) i).1 r (q + i) → ∃ e Y' dr' wk' sc', e ≤ k + 2 ∧ scw sc' ∧ lnX Y' ∧ ∀ N, ia_qr xs (ia_cal xs (d + 19)) im_Mod_when (N + e) 57 [.ref a, .int (nI c), .int w, .int v3, .int v4, .int v5, .int (-1), .int (nI (i + 1))] [] (my h a M 1 (stN E S L t r p n (Y, dr0) i).1 dr wk sc) = ia_qr xs (ia_cal xs (d + 19)) im_Mod_when N 78 [.ref a, .int (nI c), .int w, .int v3, .int v4, .int v5, .int (if rO (fun i => fA (stN E S L t r p n (Y, dr0) i).1 10 c) k (i + 1) = -2 then -1 else rO (fun i => fA (stN E S L t r p n (Y, dr0) i).1 10 c) k (i + 1)), .float 0] [] (my h a M 1 Y' dr' wk' sc') := by
  intro k
  have hr := hw.1.2.2.2.1
  induction k with
  | zero =>
    intro i dr wk sc hi hsc hdr hb
    refine ⟨1, _, dr, wk, sc, by omega, hsc, (stN_wf (E := E) (S := S) (L := L) (n := n) (Y := (Y, dr0)) hw i).1.lnX, fun N => ?_⟩
    rw [iq_Mod_when_57, if_p (show (99 : Int32) < nI (i + 1) from nI_lt (a := 99) (by omega) (by omega)), rO, if_pos rfl]
  | succ k ih =>
    intro i dr wk sc hi hsc hdr hb
    have hwi := stN_wf (E := E) (S := S) (L := L) (n := n) (Y := (Y, dr0)) hw i
    have hwj := stN_wf (E := E) (S := S) (L := L) (n := n) (Y := (Y, dr0)) hw (i + 1)
    have hci := stN_cm (E := E) (S := S) (L := L) (t := t) (p := p) (n := n) (Y := (Y, dr0)) hcm i
    obtain ⟨dr1, wk1, sc1, k1, k2, k3, k4⟩ := m_passes xs (d + 11) (h := h) (a := a) (b := 1) (dr := dr) (wk := wk) (sc := sc) hs hq ho hci hwi (by decide) hsc hb (by omega)
    have est : stN E S L t r p n (Y, dr0) (i + 1) = stX E S L t r p n ((stN E S L t r p n (Y, dr0) i).1, dr.toInt64) := by
      rw [hdr]; rfl
    rw [← est] at k2 k3 k4
    have k4' : ia_cal xs (d + 19) im_Mod_passes [.ref a, .int 1] (my h a M 1 (stN E S L t r p n (Y, dr0) i).1 dr wk sc) = _ := k4
    have rr : ∀ f : Int32 → Option ia_R, (ia_ald (my h a M 1 (stN E S L t r p n (Y, dr0) (i + 1)).1 dr1 wk1 sc1) (a + 32) 0 ((10 : Int32) + nI c)).bind f = f (fA (stN E S L t r p n (Y, dr0) (i + 1)).1 10 c) := my_r29 (d := 1) (hwj.y hs.1 (by decide)) (show c < 10 by omega)
    rw [rO]
    by_cases c2 : fA (stN E S L t r p n (Y, dr0) (i + 1)).1 10 c = 2
    · have nm : ¬ nI (i + 1) = -1 := by
        intro e
        have := congrArg Int32.toInt e
        rw [nI_toInt (by omega)] at this
        have e2 : (-1 : Int32).toInt = -1 := rfl
        omega
      have nm2 : ¬ nI (i + 1) = -2 := by
        intro e
        have := congrArg Int32.toInt e
        rw [nI_toInt (by omega)] at this
        have e2 : (-2 : Int32).toInt = -2 := rfl
        omega
      refine ⟨2, _, dr1, wk1, sc1, by omega, k1, hwj.1.lnX, fun N => ?_⟩
      rw [show N + 2 = N + 1 + 1 from rfl, iq_Mod_when_57]
      simp only [↓if_n (show ¬ (99 : Int32) < nI (i + 1) from nI_nlt (a := 99) (by omega) (by omega)), ↓my_clsb, ↓cV_of k4', ↓my_Rb, ↓rr, ↓if_p c2, if_pos c2, if_neg nm2]
      rw [if_pos trivial, iq_Mod_when_57]
      by_cases c9 : (99 : Int32) < nI (i + 1) + 1
      · rw [if_pos c9]
      · rw [if_neg c9, if_neg nm]
    · obtain ⟨e, Y', dr', wk', sc', g1, g2, g3, g4⟩ := ih (i + 1) dr1 wk1 sc1 (by omega) k1 k2 (by rw [show q + (i + 1) = q + i + 1 by omega]; exact k3)
      refine ⟨e + 1, Y', dr', wk', sc', by omega, g2, g3, fun N => ?_⟩
      rw [show N + (e + 1) = N + e + 1 from rfl, iq_Mod_when_57]
      simp only [↓if_n (show ¬ (99 : Int32) < nI (i + 1) from nI_nlt (a := 99) (by omega) (by omega)), ↓my_clsb, ↓cV_of k4', ↓my_Rb, ↓rr, ↓if_n c2, if_neg c2, nI_1]
      rw [if_pos trivial]
      exact g4 N
theorem op_when (hR : Rp x C M σ p n r t t0 q) (v w : Int32) : opI xs d H h x a C M im_Eng_when im_Mod_when [.int v, .int w] := by
  have hR0 := hR.t 0
  have hT := hR0.2.1
  have hs := hT.2.2.1
  have hn := hR0.2.2.1
  have hX := hn.1
  have hr10 := hX.1.2.2.2.1
  have hl := hs.1
  have hq9 := hn.2.2.2.2
  rw [opI, iu_Eng_when, iq_Eng_when_0, iu_Mod_when, iq_Mod_when_0]
  simp only [↓pM_pfb, ↓tN_clsb, ↓cI_of (e_isRing xs (d + 18) hR.1 hX.1 v), ↓pM_clsb, ↓cI_of (p_isCall xs (d + 18) hs v)]
  rcases inI_c v (show r < 2 ^ 31 by omega) with c0 | ⟨c0, c, hc, rfl⟩
  · exact ⟨-1, C, gI M 0 0, hR0.l, by rw [if_pos c0], by rw [if_pos c0]⟩
  have c1 : ¬ inI (nI c) r = 0 := by rw [c0]; decide
  by_cases a2 : w < 0
  · exact ⟨-1, C, gI M 0 0, hR0.l, by rw [if_neg c1, if_pos a2], by rw [if_neg c1, if_pos a2]⟩
  by_cases a3 : 1 < w
  · exact ⟨-1, C, gI M 0 0, hR0.l, by rw [if_neg c1, if_neg a2, if_pos a3], by rw [if_neg c1, if_neg a2, if_pos a3]⟩
  have u10 : rd ((gI M 0 0).2.1 29) (nI c) = some (fA (C.2 1) 10 c) := d0_r hn hl (k := 10) (by decide) (by decide) hc
  have y10 : rd ((C.2 1).2 10) (nI c) = some (fA (C.2 1) 10 c) := (hX.1.rr hc).2.2.2.2.1
  simp only [↓if_n c1, ↓if_n a2, ↓if_n a3, ↓tN_Rb hR.1, ↓tW_Rb (show 1 < 7 by decide), ↓tW_ldb (show 1 < 7 by decide), ↓bs y10, ↓pM_Rb, ↓pM_ldb, ↓bs u10]
  by_cases a4 : fA (C.2 1) 10 c = 0
  rotate_left
  · exact ⟨-2, C, gI M 0 0, hR0.l, by rw [if_neg a4], by rw [if_neg a4]⟩
  rw [if_pos a4, if_pos a4]
  have ho0 : ∀ Mi, smM (gI M 0 0) Mi → opM Mi (dE (C.1 (kS σ))) := fun Mi hm => op0 (hR0.sc hR.sr hm).2.2.2.1 (hR0.sc hR.sr hm).2.1
  have key : ∀ k l C1 Mi s b ro, l + k = 20 → scC C C1 σ → smM (gI M 0 0) Mi → ((s = nI 100 ∧ b = -2 ∧ ro = -2) ∨ ∃ u j, 1 ≤ u ∧ u ≤ 99 ∧ j < 20 ∧ s = nI u ∧ b = nI j ∧ ro = nI u) → ∀ N1 N2, k + 1 ≤ N1 → 110 * k + 110 ≤ N2 → ∃ v C4 M4, scC C C4 σ ∧ smM (gI M 0 0) M4 ∧ ia_qr xs (ia_cal xs (d + 19)) im_Eng_when N1 25 [.ref x, .int (nI c), .int w, .int s, .int b, .int (nI l), .float 0] [] (tot H x C1) = some (some (.int v), tot H x C4) ∧ ia_qr xs (ia_cal xs (d + 19)) im_Mod_when N2 27 [.ref a, .int (nI c), .int w, .int b, .int ro, .int (nI l), .float 0, .float 0] [] (pM h a Mi) = some (some (.int v), pM h a M4) := by
    intro k
    induction k with
    | zero =>
      intro l C1 Mi s b ro hl20 hc1 hm1 hsb N1 N2 hN1 hN2
      obtain ⟨N1, rfl⟩ : ∃ k, N1 = k + 1 := ⟨N1 - 1, by omega⟩
      obtain ⟨N2, rfl⟩ : ∃ k, N2 = k + 1 := ⟨N2 - 1, by omega⟩
      have n20 : ¬ nI l < (20 : Int32) := nI_nlt (b := 20) (by omega) (by omega)
      rw [iq_Eng_when_25, iq_Mod_when_27, if_n n20, if_n n20]
      rcases hsb with ⟨e1, e2, e3⟩ | ⟨u, j, g1, g2, g3, e1, e2, e3⟩
      · subst e2
        subst e3
        exact ⟨-2, C1, Mi, hc1, hm1, by rw [if_pos rfl], by split <;> rfl⟩
      · subst e1
        subst e2
        subst e3
        have nm : ¬ nI j = -2 := by
          intro e
          have := congrArg Int32.toInt e
          rw [nI_toInt (by omega)] at this
          have e2 : (-2 : Int32).toInt = -2 := rfl
          omega
        rw [if_neg nm]
        by_cases cw : w = 0
        · exact ⟨nI j, C1, Mi, hc1, hm1, by rw [if_pos cw], by rw [if_pos cw]⟩
        · exact ⟨nI u, C1, Mi, hc1, hm1, by rw [if_neg cw], by rw [if_neg cw]⟩
    | succ k ih =>
      intro l C1 Mi s b ro hl20 hc1 hm1 hsb N1 N2 hN1 hN2
      obtain ⟨N1, rfl⟩ : ∃ k, N1 = k + 1 := ⟨N1 - 1, by omega⟩
      have n20 : nI l < (20 : Int32) := nI_lt (b := 20) (by omega) (by decide)
      -- the class
      have hR1 := hR.sc hc1 hR.sm
      have hR2 := hR0.sc hR.sr hm1
      have hs2 := hR2.2.1.2.2.1
      have hn2 := hR2.2.2.1
      obtain ⟨C2, f1, f2, f3, f4⟩ := fo_lk xs (d + 16) (H := H) hR hc1 (j := 1) (by decide) (by decide) hX.1.lnX
      have eQ : (C.2 1).1 0 + nI l = nI (q + l) := by rw [hn.2.2.2.1.1, nI_add]
      have hwX := wh_wf (c := c) (v := nI (q + l)) hX
      have fw := f1.w (X := whX (C.2 1) c (nI (q + l))) hwX.1.lnX
      obtain ⟨m, hm, em, hsm⟩ : ∃ m, m ≤ 99 ∧ s - 1 = nI m ∧ s = nI (m + 1) := by
        rcases hsb with ⟨e1, -⟩ | ⟨u, j, g1, g2, g3, e1, -⟩
        · exact ⟨99, by omega, by rw [e1]; rfl, e1⟩
        · obtain ⟨m, rfl⟩ : ∃ k, u = k + 1 := ⟨u - 1, by omega⟩
          exact ⟨m, by omega, by rw [e1]; exact (pk_sub (a := m + 1) (b := 1) (by omega)).trans (by rw [Nat.add_sub_cancel]), e1⟩
      obtain ⟨C4, g1, g2⟩ := g_qOver xs (d + 13) (H := H) fw (by rw [uW_s]; exact hwX) hc hm (mI := s - 1) em
      rw [uW_s, show ((uW C2 5 (whX (C.2 1) c (nI (q + l)))).1 12).2.2.1 0 = 0 from f3, qO_rO (stN_hs (E := dE (C.1 (kS σ))) (S := C.1 (kS σ)) (L := C.1 (kL σ)) (n := n) (Y := (whX (C.2 1) c (nI (q + l)), 0)) hwX hc) m 0] at g2
      have l8 := hX.1.lnX.2.2 8 (by decide) (by decide)
      have l11 := hX.1.lnX.2.2 11 (by decide) (by decide)
      have w8 : wr ((C2.2 5).2 8) (nI c) ((C.2 1).1 0 + nI l) = some (((C.2 1).2 8).set c (nI (q + l))) := by
        rw [f2, eQ, wr_nI (by omega) (by rw [l8]; omega)]
      have w11 : wr (((uW C2 5 (sA (C2.2 5) 8 (((C.2 1).2 8).set c (nI (q + l))))).2 5).2 11) (nI c) 0 = some (((C.2 1).2 11).set c 0) := by
        rw [uW_s, sA_n (by decide), f2, wr_nI (by omega) (by rw [l11]; omega)]
      have eC : uW (uW C2 5 (sA (C2.2 5) 8 (((C.2 1).2 8).set c (nI (q + l))))) 5 (sA ((uW C2 5 (sA (C2.2 5) 8 (((C.2 1).2 8).set c (nI (q + l))))).2 5) 11 (((C.2 1).2 11).set c 0)) = uW C2 5 (whX (C.2 1) c (nI (q + l))) := by
        rw [uW_s, uW_W, f2]; rfl
      have rc : ∀ o : Int32, (o = rO (fun i => fA (stN (dE (C.1 (kS σ))) (C.1 (kS σ)) (C.1 (kL σ)) t r p n (whX (C.2 1) c (nI (q + l)), 0) i).1 10 c) m 1) → ia_qr xs (ia_cal xs (d + 19)) im_Eng_when (N1 + 1) 25 [.ref x, .int (nI c), .int w, .int s, .int b, .int (nI l), .float 0] [] (tot H x C1) = if o = -2 then ia_qr xs (ia_cal xs (d + 19)) im_Eng_when N1 25 [.ref x, .int (nI c), .int w, .int s, .int b, .int (nI (l + 1)), .float 0] [] (tot H x C4) else ia_qr xs (ia_cal xs (d + 19)) im_Eng_when N1 25 [.ref x, .int (nI c), .int w, .int o, .int (nI l), .int (nI (l + 1)), .float 0] [] (tot H x C4) := by
        intro o eo
        rw [← eo] at g2
        rw [iq_Eng_when_25]
        have q1 : (C2.2 1).1 0 = (C.2 1).1 0 := by rw [f1.1.2.2.2.2.2.2.2.2.2.2.1 1 (by decide)]
        have fx8 : fx x (uW C2 5 (sA (C2.2 5) 8 (((C.2 1).2 8).set c (nI (q + l))))) σ := f1.2.1
        simp only [↓if_p n20, ↓tN_Rb hR1.1, ↓tF_clsb, ↓cV_of f4, ↓tN_Rb f1.2.1, ↓tF_Rb f1.2.1, ↓tW_Rb (show 5 < 7 by decide), ↓tW_Ib (show 1 < 7 by decide), q1, ↓tW_stb (show 5 < 7 by decide), ↓bs w8, ↓tN_Rb fx8, ↓tF_Rb fx8, ↓bs w11, eC, ↓tN_Rb fw.2.1, ↓cI_of g2, nI_1]
      -- the reference
      obtain ⟨b1, b2, b3, b4⟩ := hR2.bd1
      obtain ⟨e1, e2, e3⟩ := r1 (h := h) (a := a) hR2
      have hcp := m_copies xs (d + 18) (h := h) (a := a) (dr := Mi.1 22) (wk := Mi.1 15) (sc := (Mi.2.2.2.1 0, Mi.2.2.2.1 1)) hm1.1 (show 1 < 23 by decide) (show 0 < 23 by decide) (by decide) e2 (C.2 1) (bI := 1) (cI := 0) rfl rfl
      rw [← e1] at hcp
      have hw2 := wh_wf (c := c) (v := nI (q + l)) b2
      have hbd2 := wh_bd (c := c) (u := q + l) (v := nI (q + l)) b2 b1 hc (by omega) rfl
      have hcm2 : cmM Mi (whX (dkW Mi 0 (C.2 1)) c (nI (q + l))) r := cm_sA (cm_sA b3 (by decide) (by decide)) (by decide) (by decide)
      have hin := wh_in xs d (h := h) (a := a) (dr0 := (Mi.1 22).toInt64) hs2 hR2.2.1.2.1 (ho0 Mi hm1) hcm2 hw2 hbd2 hq9 hc w b ro (nI l) 99 0 (Mi.1 22) (Mi.1 15) (Mi.2.2.2.1 0, Mi.2.2.2.1 1) (by omega) e3 rfl hbd2
      obtain ⟨e, Y', dr', wk', sc', he, hsc', hlY, hrun⟩ := hin
      have ef : (fun i => fA (stN (dE (C.1 (kS σ))) (C.1 (kS σ)) (C.1 (kL σ)) t r p n (whX (dkW Mi 0 (C.2 1)) c (nI (q + l)), (Mi.1 22).toInt64) i).1 10 c) = fun i => fA (stN (dE (C.1 (kS σ))) (C.1 (kS σ)) (C.1 (kL σ)) t r p n (whX (C.2 1) c (nI (q + l)), 0) i).1 10 c := by
        funext i
        exact (both (n := n) hwX hw2 (wh_ag hX b2 b4 hc) rfl i).2.2.2.2 10 (by decide) (by decide) c hc
      rw [ef] at hrun
      have hmz := hm1.trans (smM.mz (M := Mi) (Y := Y') (dr := dr') (wk := wk') hm1.1 hlY hsc')
      obtain ⟨N, hN⟩ : ∃ N, N2 = N + 2 + e + 1 := ⟨N2 - (e + 3), by omega⟩
      subst hN
      have hr27 : ia_qr xs (ia_cal xs (d + 19)) im_Mod_when (N + 2 + e + 1) 27 [.ref a, .int (nI c), .int w, .int b, .int ro, .int (nI l), .float 0, .float 0] [] (pM h a Mi) = ia_qr xs (ia_cal xs (d + 19)) im_Mod_when (N + 2) 78 [.ref a, .int (nI c), .int w, .int b, .int ro, .int (nI l), .int (if rO (fun i => fA (stN (dE (C.1 (kS σ))) (C.1 (kS σ)) (C.1 (kL σ)) t r p n (whX (C.2 1) c (nI (q + l)), 0) i).1 10 c) 99 1 = -2 then -1 else rO (fun i => fA (stN (dE (C.1 (kS σ))) (C.1 (kS σ)) (C.1 (kL σ)) t r p n (whX (C.2 1) c (nI (q + l)), 0) i).1 10 c) 99 1), .float 0] [] (pM h a (mz Mi 1 Y' dr' wk' sc')) := by
        have r18 : ∀ f : Int32 → Option ia_R, (ia_ald (my h a Mi 1 (dkW Mi 0 (C.2 1)) (Mi.1 22) (Mi.1 15) (Mi.2.2.2.1 0, Mi.2.2.2.1 1)) (a + 21) 0 (0 : Int32)).bind f = f (nI q) := fun f => by
          have := my_o18 (h := h) (a := a) (M := Mi) (d := 1) (d' := 0) (X := dkW Mi 0 (C.2 1)) (dr := Mi.1 22) (wk := Mi.1 15) (sc := (Mi.2.2.2.1 0, Mi.2.2.2.1 1)) hm1.1 (by decide) (by decide) (by decide) f
          rw [hn2.2.2.1.1, hn.2.2.2.1.1] at this
          exact this
        have hy0 := b2.y hm1.1 (show 1 < 23 by decide)
        have ww : ∀ (v : Int32) (f : ia_H → Option ia_R), (ia_ast (my h a Mi 1 (dkW Mi 0 (C.2 1)) (Mi.1 22) (Mi.1 15) (Mi.2.2.2.1 0, Mi.2.2.2.1 1)) (a + 30) 0 ((10 : Int32) + nI c) v).bind f = f (my h a Mi 1 (sA (dkW Mi 0 (C.2 1)) 8 (((dkW Mi 0 (C.2 1)).2 8).set c v)) (Mi.1 22) (Mi.1 15) (Mi.2.2.2.1 0, Mi.2.2.2.1 1)) := my_w27 (d := 1) hy0 (show c < 10 by omega)
        have hy1 : wfY Mi 1 (sA (dkW Mi 0 (C.2 1)) 8 (((dkW Mi 0 (C.2 1)).2 8).set c (nI (q + l)))) := (wfX_sA b2 (List.length_set ..) (by decide) (by decide) (by decide)).y hm1.1 (by decide)
        have ww2 : ∀ (v : Int32) (f : ia_H → Option ia_R), (ia_ast (my h a Mi 1 (sA (dkW Mi 0 (C.2 1)) 8 (((dkW Mi 0 (C.2 1)).2 8).set c (nI (q + l)))) (Mi.1 22) (Mi.1 15) (Mi.2.2.2.1 0, Mi.2.2.2.1 1)) (a + 33) 0 ((10 : Int32) + nI c) v).bind f = f (my h a Mi 1 (sA (sA (dkW Mi 0 (C.2 1)) 8 (((dkW Mi 0 (C.2 1)).2 8).set c (nI (q + l)))) 11 (((dkW Mi 0 (C.2 1)).2 11).set c v)) (Mi.1 22) (Mi.1 15) (Mi.2.2.2.1 0, Mi.2.2.2.1 1)) := fun v f => by
          have := my_w30 (h := h) (a := a) (d := 1) (dr := Mi.1 22) (wk := Mi.1 15) (sc := (Mi.2.2.2.1 0, Mi.2.2.2.1 1)) hy1 (show c < 10 by omega) v f
          rw [sA_n (show 11 ≠ 8 by decide)] at this
          exact this
        rw [iq_Mod_when_27]
        simp only [↓if_p n20, ↓pM_clsb, ↓cV_of hcp, ↓my_Rb, ↓r18, nI_add, ↓ww, ↓ww2]
        exact hrun (N + 2)
      have nm : ∀ j, j < 100 → ¬ nI j = -1 ∧ ¬ nI j = -2 := fun j hj => by
        constructor
        · intro e
          have := congrArg Int32.toInt e
          rw [nI_toInt (by omega)] at this
          have e2 : (-1 : Int32).toInt = -1 := rfl
          omega
        · intro e
          have := congrArg Int32.toInt e
          rw [nI_toInt (by omega)] at this
          have e2 : (-2 : Int32).toInt = -2 := rfl
          omega
      have cut := rO_cut (f := fun i => fA (stN (dE (C.1 (kS σ))) (C.1 (kS σ)) (C.1 (kL σ)) t r p n (whX (C.2 1) c (nI (q + l)), 0) i).1 10 c) (99 - m) m 1
      rw [show m + (99 - m) = 99 by omega] at cut
      generalize rO (fun i => fA (stN (dE (C.1 (kS σ))) (C.1 (kS σ)) (C.1 (kL σ)) t r p n (whX (C.2 1) c (nI (q + l)), 0) i).1 10 c) 99 1 = o9 at *
      generalize rO (fun i => fA (stN (dE (C.1 (kS σ))) (C.1 (kS σ)) (C.1 (kL σ)) t r p n (whX (C.2 1) c (nI (q + l)), 0) i).1 10 c) m 1 = om at *
      rw [hr27, rc om rfl, show N + 2 = N + 1 + 1 from rfl, iq_Mod_when_78]
      rcases cut with ⟨h1, e0 | ⟨j, h2, h3, h4⟩⟩ | ⟨j, h2, h3, h4, h5⟩
      · rw [if_pos h1, if_pos e0, if_pos rfl, nI_1]
        exact ih (l + 1) C4 _ s b ro (by omega) g1 hmz hsb N1 (N + 1) (by omega) (by omega)
      · subst h4
        have hj := nm j (by omega)
        rw [if_pos h1, if_neg hj.2, if_neg hj.1, nI_1]
        rcases hsb with ⟨e1, -⟩ | ⟨u, j', k1, k2, k3, e1, e2, e3⟩
        · rw [e1] at hsm
          have := (nI_eq (by omega) (by omega)).mp hsm
          omega
        · have hu : u = m + 1 := (nI_eq (by omega) (by omega)).mp (e1.symm.trans hsm)
          rw [e3, if_neg (nm u (by omega)).2, if_neg (nI_nlt (by omega) (by omega))]
          exact ih (l + 1) C4 _ s b (nI u) (by omega) g1 hmz (Or.inr ⟨u, j', k1, k2, k3, e1, e2, rfl⟩) N1 (N + 1) (by omega) (by omega)
      · subst h4
        subst h5
        have hj := nm j (by omega)
        rw [if_neg hj.2, if_neg hj.2, if_neg hj.1, iq_Mod_when_88, nI_1]
        have fin := ih (l + 1) C4 _ (nI j) (nI l) (nI j) (by omega) g1 hmz (Or.inr ⟨j, l, by omega, by omega, by omega, rfl, rfl, rfl⟩) N1 N (by omega) (by omega)
        rcases hsb with ⟨e1, e2, e3⟩ | ⟨u, j', k1, k2, k3, e1, e2, e3⟩
        · rw [if_pos e3]
          exact fin
        · have hu : u = m + 1 := (nI_eq (by omega) (by omega)).mp (e1.symm.trans hsm)
          rw [e3, if_neg (nm u (by omega)).2, if_pos (nI_lt (by omega) (by omega))]
          exact fin
  obtain ⟨v, C4, M4, k1, k2, k3, k4⟩ := key 20 0 C (gI M 0 0) (nI 100) (-2) (-2) (by omega) hR.sr hR0.sm (Or.inl ⟨rfl, rfl, rfl⟩) 999999 999999 (by omega) (by omega)
  exact ⟨v, C4, M4, (hR0.sc k1 k2).l, k3, k4⟩
end O9
