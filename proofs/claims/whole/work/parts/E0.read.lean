/-! text: the reference reads conditions joined by words. -/
section EX0
variable (xs : List Int32) (d : Nat) {h : ia_H} {a : Nat} {M N : aG} {by_ : Nat → Nat} {T : Nat} {w0 i : Nat} {W : Int32} {op kn : Nat} {out : List (Nat × Nat)}
theorem f_conjunctionL {F : Nat} (h9 : M.1 9 ≠ 0) : ia_qr xs (ia_cal xs (d + 1)) im_Mod_conjunction (F + 1) 2 [.ref a] [] (pM h a M) = some (none, pM h a M) := by
  rw [iq_Mod_conjunction_2]
  simp only [↓pM_clsb, ↓cI_of (f_isWord xs d h9 _)]
  rw [if_pos trivial]
theorem r_conjunctionL (hb : rB N M by_ T) {c : Nat} (hc : 6 ≤ c) (hsub : lvT xs h a M by_ T w0 im_Mod_negation 3 op c) (hw : w0 + out.length ≤ kn) {D : Nat} (hD : c + (64 - kn) ≤ D) : ∀ m i1 W1 kn1 out1 F, T - i1 ≤ m → i ≤ i1 → i1 ≤ T → vOK (tkK by_ T i1) (tkV by_ T i1) W1 → out1.length + kn = kn1 + out.length → kn ≤ kn1 → kn1 ≤ 64 → sF (tkK by_ T) (tkV by_ T) (tkP by_ T) (tkJ by_ T) T 1 i op kn out i1 kn1 out1 → nxL 3 (rkK (tkK by_ T i1)) → pfX out out1 → 2 * m + 4 ≤ F → ∃ M', ia_qr xs (ia_cal xs D) im_Mod_conjunction F 2 [.ref a] [] (pM h a (rSt M by_ T w0 i1 W1 op kn1 out1)) = some (none, pM h a M') ∧ lvR M by_ T w0 1 op i kn out M' := by
  have hJ := hb.j
  obtain ⟨D, rfl⟩ : ∃ k, D = k + 6 := ⟨D - 6, by omega⟩
  intro m
  induction m with
  | zero =>
    intro i1 W1 kn1 out1 F hm hii hi hv hl hk hk2 hs hn hp hF
    obtain ⟨F, rfl⟩ : ∃ k, F = k + 1 := ⟨F - 1, by omega⟩
    have k0 : tkK by_ T i1 = 0 := by
      by_cases c : tkK by_ T i1 = 0
      · exact c
      · have := hJ i1 hi c
        omega
    have t1 := r_isWord xs (D + 5) (h := h) (a := a) (w0 := w0) (op := op) (kn := kn1) (out := out1) hb hv (c := 12) (k := 23) (by decide) (by decide) (by decide) (fun K a b => (kw_w K a b).2.2.1) (v := 12) rfl
    rw [if_neg (by omega)] at t1
    refine ⟨_, ?_, Or.inr ⟨i1, kn1, out1, W1, rfl, hii, hi, hv, hl, hk, hk2, hs, ?_, hp⟩⟩
    · rw [iq_Mod_conjunction_2]
      simp only [↓pM_clsb, ↓cI_of t1]
      rw [if_pos trivial]
    · rw [k0]
      exact ⟨fun _ => by decide, fun _ => by decide, fun _ => by decide, fun _ => by decide⟩
  | succ m ih =>
    intro i1 W1 kn1 out1 F hm hii hi hv hl hk hk2 hs hn hp hF
    obtain ⟨F, rfl⟩ : ∃ k, F = k + 1 + 1 := ⟨F - 2, by omega⟩
    have t1 := r_isWord xs (D + 5) (h := h) (a := a) (w0 := w0) (op := op) (kn := kn1) (out := out1) hb hv (c := 12) (k := 23) (by decide) (by decide) (by decide) (fun K a b => (kw_w K a b).2.2.1) (v := 12) rfl
    have hrk := rk_6 (tkK by_ T i1)
    have go : tkK by_ T i1 = 23 → ∃ M', ia_qr xs (ia_cal xs (D + 6)) im_Mod_conjunction (F + 1 + 1) 2 [.ref a] [] (pM h a (rSt M by_ T w0 i1 W1 op kn1 out1)) = some (none, pM h a M') ∧ lvR M by_ T w0 1 op i kn out M' := by
      intro hK
      have hr : rkK (tkK by_ T i1) = 2 := hrk.2.2.1.mpr hK
      have ⟨j1, j2⟩ := hJ i1 hi (by omega)
      have q8 : (rSt M by_ T w0 i1 W1 op kn1 out1).1 8 = W1 := rfl
      have lvo : lvO 1 2 3 := by unfold lvO; omega
      by_cases c64 : kn1 = 64
      · subst c64
        have n9 := fl_9 (M := rSt M by_ T w0 i1 W1 op 64 out1) (k := 2) (p := tkP by_ T i1) (Or.inr rfl)
        refine ⟨flM (rSt M by_ T w0 i1 W1 op 64 out1) 2 (tkP by_ T i1), ?_, Or.inl ⟨2, _, Or.inr rfl, sF_knot hJ hs hi hr (by decide) (by decide) (by decide) (Nat.le_refl 64), _, _, _, _, _, rfl⟩⟩
        rw [iq_Mod_conjunction_2]
        simp only [↓pM_clsb, ↓cI_of t1]
        rw [if_pos hK, if_neg (show ¬ (1 : Int32) = 0 by decide)]
        simp only [↓pM_clsb, ↓cV_of (r_knotF xs (D + 4) (h := h) (a := a) hb), ↓cV_of (f_goOn xs (D + 5) n9), ↓cV_of (f_negation xs (D + 2) n9), ↓cV_of (f_puts xs (D + 5) n9 2 261)]
        exact f_conjunctionL xs (D + 5) n9
      · obtain ⟨W2, v2, g2⟩ := r_goOn xs (D + 1) (h := h) (a := a) (w0 := w0) (W := W1) (op := op) (kn := kn1 + 1) (out := out1) hb hi
        obtain ⟨M2, g3, g4⟩ := hsub (tkJ by_ T i1) W2 (kn1 + 1) out1 (D + 6) j2 v2 (by omega) (by omega) (by omega)
        rw [iq_Mod_conjunction_2]
        simp only [↓pM_clsb, ↓cI_of t1]
        rw [if_pos hK, if_neg (show ¬ (1 : Int32) = 0 by decide)]
        simp only [↓pM_clsb, ↓cV_of (r_knot xs (D + 5) (h := h) (a := a) (w0 := w0) (i := i1) (W := W1) (op := op) (kn := kn1) (out := out1) hb (by omega)), ↓cV_of g2, ↓cV_of g3]
        rcases g4 with ⟨k, p, hkp, hsb, j, W3, o3, n3, l3, e3⟩ | ⟨i2, kn2, out2, W3, e3, hi21, hi2, hv3, hl3, hk3, hk4, hs3, hn3, hp3⟩
        · have n9 : M2.1 9 ≠ 0 := by rw [e3]; exact fl_9 hkp
          refine ⟨M2, ?_, Or.inl ⟨k, p, hkp, sF_bad hJ hs hi hr lvo (by omega) hsb, j, W3, o3, n3, l3, e3⟩⟩
          simp only [↓cV_of (f_puts xs (D + 5) n9 2 261)]
          exact f_conjunctionL xs (D + 5) n9
        · rw [e3]
          have pt := r_puts xs (D + 4) (h := h) (a := a) (w0 := w0) (i := i2) (W := W3) (op := op) (kn := kn2) (out := out2) hb (by omega) (tkK by_ T i1, 0) (v1 := 2) (v2 := 261) (ks_s _ (by omega)).symm (by rw [hK]; rfl)
          simp only [↓cV_of pt]
          exact ih i2 W3 kn2 (out2 ++ [(tkK by_ T i1, 0)]) (F + 1) (by omega) (by omega) hi2 hv3 (by rw [List.length_append, List.length_singleton]; omega) (by omega) hk4 (sF_ok hJ hs hi hr lvo (by omega) hs3 hi2 hn3) hn3 (pf_bin hp hp3 (by omega) (by omega)) (by omega)
    by_cases c1 : tkK by_ T i1 = 23
    · exact go c1
    · rw [if_neg c1] at t1
      refine ⟨_, ?_, Or.inr ⟨i1, kn1, out1, W1, rfl, hii, hi, hv, hl, hk, hk2, hs, ?_, hp⟩⟩
      · rw [iq_Mod_conjunction_2]
        simp only [↓pM_clsb, ↓cI_of t1]
        rw [if_pos trivial]
      · have := rk_le (tkK by_ T i1)
        unfold nxL at hn ⊢
        omega
theorem r_conjunction (hb : rB N M by_ T) {c : Nat} (hc : 6 ≤ c) (hsub : lvT xs h a M by_ T w0 im_Mod_negation 3 op c) : lvT xs h a M by_ T w0 im_Mod_conjunction 1 op (c + 1) := by
  intro i W kn out D hi hv hw hk hD
  have hT7 := hb.1.1
  obtain ⟨D, rfl⟩ : ∃ k, D = k + 1 := ⟨D - 1, by omega⟩
  obtain ⟨M2, g3, g4⟩ := hsub i W kn out D hi hv hw hk (by omega)
  rw [iu_Mod_conjunction, show (1000000 : Nat) = 999999 + 1 from rfl, iq_Mod_conjunction_0]
  simp only [↓pM_clsb, ↓cV_of g3]
  rcases g4 with ⟨k, p, hkp, hsb, j, W3, o3, n3, l3, e3⟩ | ⟨i2, kn2, out2, W3, e3, hi21, hi2, hv3, hl3, hk3, hk4, hs3, hn3, hp3⟩
  · have n9 : M2.1 9 ≠ 0 := by rw [e3]; exact fl_9 hkp
    obtain ⟨D, rfl⟩ : ∃ k, D = k + 1 := ⟨D - 1, by omega⟩
    refine ⟨M2, ?_, Or.inl ⟨k, p, hkp, sB_up (by omega) hsb, j, W3, o3, n3, l3, e3⟩⟩
    rw [show (999999 : Nat) = 999998 + 1 from rfl]
    exact f_conjunctionL xs D n9
  · rw [e3]
    exact r_conjunctionL xs (h := h) (a := a) hb hc hsub hw (by omega) (T - i2) i2 W3 kn2 out2 999999 (Nat.le_refl _) hi21 hi2 hv3 hl3 hk3 hk4 (sF_up (by omega) hs3) hn3 hp3 (by omega)
theorem f_expressionL {F : Nat} (h9 : M.1 9 ≠ 0) : ia_qr xs (ia_cal xs (d + 1)) im_Mod_expression (F + 1) 2 [.ref a] [] (pM h a M) = some (none, pM h a M) := by
  rw [iq_Mod_expression_2]
  simp only [↓pM_clsb, ↓cI_of (f_isWord xs d h9 _)]
  rw [if_pos trivial]
theorem r_expressionL (hb : rB N M by_ T) {c : Nat} (hc : 6 ≤ c) (hsub : lvT xs h a M by_ T w0 im_Mod_conjunction 1 op c) (hw : w0 + out.length ≤ kn) {D : Nat} (hD : c + (64 - kn) ≤ D) : ∀ m i1 W1 kn1 out1 F, T - i1 ≤ m → i ≤ i1 → i1 ≤ T → vOK (tkK by_ T i1) (tkV by_ T i1) W1 → out1.length + kn = kn1 + out.length → kn ≤ kn1 → kn1 ≤ 64 → sF (tkK by_ T) (tkV by_ T) (tkP by_ T) (tkJ by_ T) T 0 i op kn out i1 kn1 out1 → nxL 1 (rkK (tkK by_ T i1)) → pfX out out1 → 2 * m + 4 ≤ F → ∃ M', ia_qr xs (ia_cal xs D) im_Mod_expression F 2 [.ref a] [] (pM h a (rSt M by_ T w0 i1 W1 op kn1 out1)) = some (none, pM h a M') ∧ lvR M by_ T w0 0 op i kn out M' := by
  have hJ := hb.j
  obtain ⟨D, rfl⟩ : ∃ k, D = k + 6 := ⟨D - 6, by omega⟩
  intro m
  induction m with
  | zero =>
    intro i1 W1 kn1 out1 F hm hii hi hv hl hk hk2 hs hn hp hF
    obtain ⟨F, rfl⟩ : ∃ k, F = k + 1 := ⟨F - 1, by omega⟩
    have k0 : tkK by_ T i1 = 0 := by
      by_cases c : tkK by_ T i1 = 0
      · exact c
      · have := hJ i1 hi c
        omega
    have t1 := r_isWord xs (D + 5) (h := h) (a := a) (w0 := w0) (op := op) (kn := kn1) (out := out1) hb hv (c := 11) (k := 22) (by decide) (by decide) (by decide) (fun K a b => (kw_w K a b).2.1) (v := 11) rfl
    rw [if_neg (by omega)] at t1
    refine ⟨_, ?_, Or.inr ⟨i1, kn1, out1, W1, rfl, hii, hi, hv, hl, hk, hk2, hs, ?_, hp⟩⟩
    · rw [iq_Mod_expression_2]
      simp only [↓pM_clsb, ↓cI_of t1]
      rw [if_pos trivial]
    · rw [k0]
      exact ⟨fun _ => by decide, fun _ => by decide, fun _ => by decide, fun _ => by decide⟩
  | succ m ih =>
    intro i1 W1 kn1 out1 F hm hii hi hv hl hk hk2 hs hn hp hF
    obtain ⟨F, rfl⟩ : ∃ k, F = k + 1 + 1 := ⟨F - 2, by omega⟩
    have t1 := r_isWord xs (D + 5) (h := h) (a := a) (w0 := w0) (op := op) (kn := kn1) (out := out1) hb hv (c := 11) (k := 22) (by decide) (by decide) (by decide) (fun K a b => (kw_w K a b).2.1) (v := 11) rfl
    have hrk := rk_6 (tkK by_ T i1)
    have go : tkK by_ T i1 = 22 → ∃ M', ia_qr xs (ia_cal xs (D + 6)) im_Mod_expression (F + 1 + 1) 2 [.ref a] [] (pM h a (rSt M by_ T w0 i1 W1 op kn1 out1)) = some (none, pM h a M') ∧ lvR M by_ T w0 0 op i kn out M' := by
      intro hK
      have hr : rkK (tkK by_ T i1) = 1 := hrk.2.2.2.1.mpr hK
      have ⟨j1, j2⟩ := hJ i1 hi (by omega)
      have q8 : (rSt M by_ T w0 i1 W1 op kn1 out1).1 8 = W1 := rfl
      have lvo : lvO 0 1 1 := by unfold lvO; omega
      by_cases c64 : kn1 = 64
      · subst c64
        have n9 := fl_9 (M := rSt M by_ T w0 i1 W1 op 64 out1) (k := 2) (p := tkP by_ T i1) (Or.inr rfl)
        refine ⟨flM (rSt M by_ T w0 i1 W1 op 64 out1) 2 (tkP by_ T i1), ?_, Or.inl ⟨2, _, Or.inr rfl, sF_knot hJ hs hi hr (by decide) (by decide) (by decide) (Nat.le_refl 64), _, _, _, _, _, rfl⟩⟩
        rw [iq_Mod_expression_2]
        simp only [↓pM_clsb, ↓cI_of t1]
        rw [if_pos hK, if_neg (show ¬ (1 : Int32) = 0 by decide)]
        simp only [↓pM_clsb, ↓cV_of (r_knotF xs (D + 4) (h := h) (a := a) hb), ↓cV_of (f_goOn xs (D + 5) n9), ↓cV_of (f_conjunction xs (D + 1) n9), ↓cV_of (f_puts xs (D + 5) n9 2 262)]
        exact f_expressionL xs (D + 5) n9
      · obtain ⟨W2, v2, g2⟩ := r_goOn xs (D + 1) (h := h) (a := a) (w0 := w0) (W := W1) (op := op) (kn := kn1 + 1) (out := out1) hb hi
        obtain ⟨M2, g3, g4⟩ := hsub (tkJ by_ T i1) W2 (kn1 + 1) out1 (D + 6) j2 v2 (by omega) (by omega) (by omega)
        rw [iq_Mod_expression_2]
        simp only [↓pM_clsb, ↓cI_of t1]
        rw [if_pos hK, if_neg (show ¬ (1 : Int32) = 0 by decide)]
        simp only [↓pM_clsb, ↓cV_of (r_knot xs (D + 5) (h := h) (a := a) (w0 := w0) (i := i1) (W := W1) (op := op) (kn := kn1) (out := out1) hb (by omega)), ↓cV_of g2, ↓cV_of g3]
        rcases g4 with ⟨k, p, hkp, hsb, j, W3, o3, n3, l3, e3⟩ | ⟨i2, kn2, out2, W3, e3, hi21, hi2, hv3, hl3, hk3, hk4, hs3, hn3, hp3⟩
        · have n9 : M2.1 9 ≠ 0 := by rw [e3]; exact fl_9 hkp
          refine ⟨M2, ?_, Or.inl ⟨k, p, hkp, sF_bad hJ hs hi hr lvo (by omega) hsb, j, W3, o3, n3, l3, e3⟩⟩
          simp only [↓cV_of (f_puts xs (D + 5) n9 2 262)]
          exact f_expressionL xs (D + 5) n9
        · rw [e3]
          have pt := r_puts xs (D + 4) (h := h) (a := a) (w0 := w0) (i := i2) (W := W3) (op := op) (kn := kn2) (out := out2) hb (by omega) (tkK by_ T i1, 0) (v1 := 2) (v2 := 262) (ks_s _ (by omega)).symm (by rw [hK]; rfl)
          simp only [↓cV_of pt]
          exact ih i2 W3 kn2 (out2 ++ [(tkK by_ T i1, 0)]) (F + 1) (by omega) (by omega) hi2 hv3 (by rw [List.length_append, List.length_singleton]; omega) (by omega) hk4 (sF_ok hJ hs hi hr lvo (by omega) hs3 hi2 hn3) hn3 (pf_bin hp hp3 (by omega) (by omega)) (by omega)
    by_cases c1 : tkK by_ T i1 = 22
    · exact go c1
    · rw [if_neg c1] at t1
      refine ⟨_, ?_, Or.inr ⟨i1, kn1, out1, W1, rfl, hii, hi, hv, hl, hk, hk2, hs, ?_, hp⟩⟩
      · rw [iq_Mod_expression_2]
        simp only [↓pM_clsb, ↓cI_of t1]
        rw [if_pos trivial]
      · have := rk_le (tkK by_ T i1)
        unfold nxL at hn ⊢
        omega
theorem r_expression (hb : rB N M by_ T) {c : Nat} (hc : 6 ≤ c) (hsub : lvT xs h a M by_ T w0 im_Mod_conjunction 1 op c) : lvT xs h a M by_ T w0 im_Mod_expression 0 op (c + 1) := by
  intro i W kn out D hi hv hw hk hD
  have hT7 := hb.1.1
  obtain ⟨D, rfl⟩ : ∃ k, D = k + 1 := ⟨D - 1, by omega⟩
  obtain ⟨M2, g3, g4⟩ := hsub i W kn out D hi hv hw hk (by omega)
  rw [iu_Mod_expression, show (1000000 : Nat) = 999999 + 1 from rfl, iq_Mod_expression_0]
  simp only [↓pM_clsb, ↓cV_of g3]
  rcases g4 with ⟨k, p, hkp, hsb, j, W3, o3, n3, l3, e3⟩ | ⟨i2, kn2, out2, W3, e3, hi21, hi2, hv3, hl3, hk3, hk4, hs3, hn3, hp3⟩
  · have n9 : M2.1 9 ≠ 0 := by rw [e3]; exact fl_9 hkp
    obtain ⟨D, rfl⟩ : ∃ k, D = k + 1 := ⟨D - 1, by omega⟩
    refine ⟨M2, ?_, Or.inl ⟨k, p, hkp, sB_up (by omega) hsb, j, W3, o3, n3, l3, e3⟩⟩
    rw [show (999999 : Nat) = 999998 + 1 from rfl]
    exact f_expressionL xs D n9
  · rw [e3]
    exact r_expressionL xs (h := h) (a := a) hb hc hsub hw (by omega) (T - i2) i2 W3 kn2 out2 999999 (Nat.le_refl _) hi21 hi2 hv3 hl3 hk3 hk4 (sF_up (by omega) hs3) hn3 hp3 (by omega)
end EX0
