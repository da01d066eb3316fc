/-! spans, the answer. -/
section O45
variable (xs : List Int32) (d : Nat) {H h : ia_H} {x a : Nat} {C : aC} {M M' U : aG} {σ : Bool} {p n r t t0 q w : Nat}
theorem lq_R (hw24 : w ≤ 24) (hU : ∀ i, i < w → RUi U M p i) (hst : ∀ i, i < w → fG U 3 i = fG M 38 i) : ∀ i, i ≤ w → lqF U i = lqR M i ∧ ∃ m, m ≤ 61 ∧ lqF U i = nI m - 1
  | 0, _ => ⟨rfl, 0, by omega, show (-1 : Int32) = nI 0 - 1 by decide⟩
  | i + 1, hi => by
    obtain ⟨h1, m, hm, h2⟩ := lq_R hw24 hU hst i (by omega)
    rw [lqF, lqR, hst i (by omega)]
    rcases hU i (by omega) with ⟨e0, l, hl, e1, e2⟩ | ⟨e0, e1, e2, ⟨v, hv, e3, e4⟩, -⟩
    · rw [e0, e2, if_neg (fun z => z.1 rfl), if_neg (fun z => m1_ne (show l < 2 ^ 31 by omega) z.2)]
      exact ⟨h1, m, hm, h2⟩
    · have n2 : ¬ fG U 0 i = 2 := by rcases e0 with e | e <;> rw [e] <;> decide
      rw [e1, e3, e4, ← h1]
      by_cases c : fG M 38 i = 0
      · rw [if_pos (show ¬ fG U 0 i = 2 ∧ fG M 38 i = 0 from ⟨n2, c⟩), if_pos (show fG M 38 i = 0 ∧ (-1 : Int32) = -1 from ⟨c, rfl⟩)]
        by_cases cl : lqF U i < nI v
        · rw [if_pos cl]
          exact ⟨rfl, v + 1, by omega, ((pk_sub (a := v + 1) (b := 1) (by omega)).trans (by rw [Nat.add_sub_cancel])).symm⟩
        · rw [if_neg cl]
          exact ⟨rfl, m, hm, h2⟩
      · rw [if_neg (fun z => c z.2), if_neg (fun z => c z.1)]
        exact ⟨rfl, m, hm, h2⟩
theorem op_spans (hR : Rp x C M σ p n r t t0 q) (v : Int32) : opI xs d H h x a C M im_Eng_spans im_Mod_spans [.int v] := by
  have hR0 := hR.t 0
  have hT := hR0.2.1
  have hs := hT.2.2.1
  have hl := hs.1
  have hF := hT.2.2.2.2.2.2.2.2.1
  have ht8 := hF.1.2.2.1
  have hU := hR0.2.2.2.2.2.2.1
  have kF7 : kF σ < 7 := by cases σ <;> decide
  have n1 : rd ((gI M 0 0).2.1 1) (1 : Int32) = some (nI t0) := by rw [(num_M hl).2.1, hT.2.2.2.2.2.2.2.1]
  rw [opI, iu_Eng_spans, iq_Eng_spans_0, iu_Mod_spans, iq_Mod_spans_0]
  simp only [↓pM_pfb, ↓tN_Rb hR.1, ↓tS_Rb hR.1, ↓tW_Ib kF7, hF.1.1, ↓pM_Rb, ↓pM_ldb, ↓bs n1]
  by_cases a1 : v < 0
  · exact ⟨-1, C, gI M 0 0, hR0.l, by rw [if_pos a1], by rw [if_pos a1]⟩
  by_cases a2 : v < nI t0
  rotate_left
  · exact ⟨-1, C, gI M 0 0, hR0.l, by rw [if_neg a1, if_neg a2], by rw [if_neg a1, if_neg a2]⟩
  obtain ⟨c, hc0, rfl⟩ := nI_of a1
  have hc : c < t0 := (nI_ltI hc0 (by omega)).mp a2
  rw [if_neg a1, if_pos a2, if_neg a1, if_pos a2]
  obtain ⟨w, hw24, hbw, hUi⟩ := ru_w hU
  have ul := hU.1
  have hUw0 : wfU (C.1 15) w := ⟨ul 0 (by decide), ul 1 (by decide), ul 2 (by decide), ul 3 (by decide), hbw, hw24⟩
  have hj := u_judge xs (d + 17) (H := H) (x := x) (C := C) hUw0
  have l38 : ((gI M 0 0).2.1 38).length = 24 := hl 38 (by decide)
  have l3 : ((C.1 15).2.1 3).length = 24 := ul 3 (by decide)
  have lj : (jd (fG (C.1 15) 0) (fG (C.1 15) 2) w (updTo ((C.1 15).2.1 3) (fun _ => 0) w)).length = 24 := by rw [jd_len, updTo_len]; exact l3
  have lr : (jdR (fG (gI M 0 0) 37) w (updTo ((gI M 0 0).2.1 38) (fun _ => 0) w)).length = 24 := by rw [jdR_len, updTo_len]; exact l38
  have hst0 := jd_R hUi hw24 w (updTo ((C.1 15).2.1 3) (fun _ => 0) w) (updTo ((gI M 0 0).2.1 38) (fun _ => 0) w) (Nat.le_refl _) (by rw [updTo_len]; exact l3) (by rw [updTo_len]; exact l38) (fun i hi => by rw [updTo_get w i (by omega), updTo_get w i (by omega), if_pos hi, if_pos hi])
  obtain ⟨N1, s1, s2⟩ := sp_17 xs d (h := h) (a := a) hl hU hbw hw24 (nI c) (-1) w 0 999999 (by omega) (by omega)
  rw [show gA (gI M 0 0) 38 (updTo ((gI M 0 0).2.1 38) (fun _ => 0) 0) = gI M 0 0 from gA_id] at s2
  obtain ⟨N2, s3, s4⟩ := sp_33 xs d (h := h) (a := a) (M := gI M 0 0) hl hUi hw24 (nI c) (-1) w (updTo ((gI M 0 0).2.1 38) (fun _ => 0) w) N1 (Nat.le_refl _) (by rw [updTo_len]; exact l38) (by omega)
  generalize jd (fG (C.1 15) 0) (fG (C.1 15) 2) w (updTo ((C.1 15).2.1 3) (fun _ => 0) w) = J at *
  generalize jdR (fG (gI M 0 0) 37) w (updTo ((gI M 0 0).2.1 38) (fun _ => 0) w) = R at *
  -- judged
  have lenU : ∀ k, k < 4 → ((gA (C.1 15) 3 J).2.1 k).length = 24 := fun k hk => by
    by_cases e : k = 3
    · subst e; rw [gA_s]; exact lj
    · rw [gA_n e]; exact ul k hk
  have hU1 : RUr (gA (C.1 15) 3 J) (gI M 0 0) p := ⟨lenU, hU.2⟩
  have hR1 : Rp x (uG C 15 (gA (C.1 15) 3 J)) (gI M 0 0) σ p n r t t0 q := hR0.u ⟨hl, fun _ _ => rfl, fun _ _ _ => rfl, rfl⟩ hU1
  have smZ : smM (gI M 0 0) (gA (gI M 0 0) 38 R) := hR0.sm.a38 lr
  have hR2 := hR1.sc hR1.sr smZ
  have eU : (uG C 15 (gA (C.1 15) 3 J)).1 15 = gA (C.1 15) 3 J := uG_s
  have hUw1 : wfU ((uG C 15 (gA (C.1 15) 3 J)).1 15) w := by
    rw [eU]
    exact ⟨lenU 0 (by decide), lenU 1 (by decide), lenU 2 (by decide), lenU 3 (by decide), hbw, hw24⟩
  have hUi1 : ∀ i, i < w → RUi ((uG C 15 (gA (C.1 15) 3 J)).1 15) (gA (gI M 0 0) 38 R) p i := fun i hi => by
    rw [eU]; exact hUi i hi
  have hst1 : ∀ i, i < w → fG ((uG C 15 (gA (C.1 15) 3 J)).1 15) 3 i = fG (gA (gI M 0 0) 38 R) 38 i := fun i hi => by
    rw [eU]; exact hst0 i hi
  obtain ⟨lq1, m, hm, lq2⟩ := lq_R hw24 hUi1 hst1 w (Nat.le_refl _)
  have hU2 := hR2.2.2.2.2.2.2.1
  obtain ⟨N3, s5, s6⟩ := sp_58 xs d (h := h) (a := a) (M := gA (gI M 0 0) 38 R) smZ.1 hU2 hUw1.2.2.2.2.1 hw24 (nI c) w 0 N2 (by omega) (by omega)
  rw [← lq1, lq2] at s6
  obtain ⟨v, C4, M4, k1, k2, k3, k4⟩ := sp_lp xs d (H := H) (h := h) (a := a) hR2 hUw1 hUi1 hst1 (show m ≤ 99 by omega) lq2 hc 10 0 0 (uG C 15 (gA (C.1 15) 3 J)) (gA (gI M 0 0) 38 R) 999999 N3 (by omega) hR2.sr hR2.sm rfl (by omega) (by omega)
  refine ⟨v, C4, M4, (hR2.sc k1 k2).l, ?_, s2.trans (s4.trans (s6.trans k4))⟩
  simp only [↓tU_clsb, ↓cV_of hj]
  exact k3
end O45
