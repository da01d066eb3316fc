/-! text: the reference reads a condition, and all of a law. -/
theorem kw_c : ∀ K, K < 38 → 25 ≤ K → ((svK K = 60 ∨ svK K = 62 ∨ svK K = 61 ∨ 256 ≤ svK K) ↔ 32 ≤ K) := by decide +kernel
section EX2
variable (xs : List Int32) (d : Nat) {h : ia_H} {a : Nat} {M N : aG} {by_ : Nat → Nat} {T : Nat} {w0 i : Nat} {W : Int32} {op kn : Nat} {out : List (Nat × Nat)}
theorem r_neg41 (hb : rB N M by_ T) {c : Nat} (hc : 8 ≤ c) (hsub : lvT xs h a M by_ T w0 im_Mod_sum 4 op c) (hw : w0 + out.length ≤ kn) (hD : c + (64 - kn) ≤ d) (h24 : tkK by_ T i ≠ 24) {i1 kn1 : Nat} {W1 : Int32} {out1 : List (Nat × Nat)} (hii : i ≤ i1) (hi1 : i1 ≤ T) (hv1 : vOK (tkK by_ T i1) (tkV by_ T i1) W1) (hl : out1.length + kn = kn1 + out.length) (hk : kn ≤ kn1) (hk2 : kn1 ≤ 64) (hs : sF (tkK by_ T) (tkV by_ T) (tkP by_ T) (tkJ by_ T) T 4 i op kn out i1 kn1 out1) (hp : pfX out out1) (hr : rkK (tkK by_ T i1) = 4) {F : Nat} : ∃ M', ia_qr xs (ia_cal xs d) im_Mod_negation (F + 1) 41 [.ref a, .float 0] [] (pM h a (rSt M by_ T w0 i1 W1 op kn1 out1)) = some (none, pM h a M') ∧ lvR M by_ T w0 3 op i kn out M' := by
  have hJ := hb.j
  have r4 := (rk_6 (tkK by_ T i1)).2.2.2.2.mp hr
  obtain ⟨D, rfl⟩ : ∃ k, d = k + 8 := ⟨d - 8, by omega⟩
  have q8 : (rSt M by_ T w0 i1 W1 op kn1 out1).1 8 = W1 := rfl
  rw [iq_Mod_negation_41]
  simp only [↓pM_Ib, q8, ↓pM_clsb]
  by_cases c64 : kn1 = 64
  · subst c64
    have n9 := fl_9 (M := rSt M by_ T w0 i1 W1 op 64 out1) (k := 2) (p := tkP by_ T i1) (Or.inr rfl)
    refine ⟨flM (rSt M by_ T w0 i1 W1 op 64 out1) 2 (tkP by_ T i1), ?_, Or.inl ⟨2, _, Or.inr rfl, ng_cfull hJ h24 hs hi1 hr (Nat.le_refl 64), _, _, _, _, _, rfl⟩⟩
    simp only [↓pM_clsb, ↓cV_of (r_knotF xs (D + 6) (h := h) (a := a) hb), ↓cV_of (f_goOn xs (D + 7) n9), ↓cV_of (f_sum xs (D + 5) n9), ↓cV_of (f_puts xs (D + 7) n9 2 W1)]
  · obtain ⟨W2, v2, g2⟩ := r_goOn xs (D + 3) (h := h) (a := a) (w0 := w0) (W := W1) (op := op) (kn := kn1 + 1) (out := out1) hb hi1
    have ⟨j1, j2⟩ := hJ i1 hi1 (by omega)
    obtain ⟨M2, g3, g4⟩ := hsub (tkJ by_ T i1) W2 (kn1 + 1) out1 (D + 8) j2 v2 (by omega) (by omega) (by omega)
    simp only [↓pM_clsb, ↓cV_of (r_knot xs (D + 7) (h := h) (a := a) (w0 := w0) (i := i1) (W := W1) (op := op) (kn := kn1) (out := out1) hb (by omega)), ↓cV_of g2, ↓cV_of g3]
    rcases g4 with ⟨k, p, hkp, hsb, j, W3, o3, n3, l3, e3⟩ | ⟨i2, kn2, out2, W3, e3, hi21, hi2, hv3, hl3, hk3, hk4, hs3, hn3, hp3⟩
    · have n9 : M2.1 9 ≠ 0 := by rw [e3]; exact fl_9 hkp
      refine ⟨M2, ?_, Or.inl ⟨k, p, hkp, ng_cbad hJ h24 hs hi1 hr (by omega) hsb, j, W3, o3, n3, l3, e3⟩⟩
      simp only [↓cV_of (f_puts xs (D + 7) n9 2 W1)]
    · rw [e3]
      have pt := r_puts xs (D + 6) (h := h) (a := a) (w0 := w0) (i := i2) (W := W3) (op := op) (kn := kn2) (out := out2) hb (by omega) (tkK by_ T i1, 0) (v1 := 2) (v2 := W1) (ks_s _ (by omega)).symm (by rw [kv_s _ (by omega)]; exact hv1.2.2.2 (by omega))
      refine ⟨rSt M by_ T w0 i2 W3 op kn2 (out2 ++ [(tkK by_ T i1, 0)]), ?_, Or.inr ⟨i2, kn2, _, W3, rfl, by omega, hi2, hv3, by rw [List.length_append, List.length_singleton]; omega, by omega, hk4, ng_cok hJ h24 hs hi1 hr (by omega) hs3 hi2 hn3, ?_, pf_bin hp hp3 (by omega) (by omega)⟩⟩
      · simp only [↓cV_of pt]
      · unfold nxL at hn3 ⊢
        omega
theorem r_neg0 (hb : rB N M by_ T) {c : Nat} (hc : 8 ≤ c) (hsub : lvT xs h a M by_ T w0 im_Mod_sum 4 op c) (hi : i ≤ T) (hv : vOK (tkK by_ T i) (tkV by_ T i) W) (hw : w0 + out.length ≤ kn) (hk : kn ≤ 64) (hD : c + (64 - kn) ≤ d) (h24 : tkK by_ T i ≠ 24) : ∃ M', ia_cal xs (d + 1) im_Mod_negation [.ref a] (pM h a (rSt M by_ T w0 i W op kn out)) = some (none, pM h a M') ∧ lvR M by_ T w0 3 op i kn out M' := by
  have hJ := hb.j
  obtain ⟨D, rfl⟩ : ∃ k, d = k + 1 := ⟨d - 1, by omega⟩
  have t1 := r_isWord xs D (h := h) (a := a) (w0 := w0) (op := op) (kn := kn) (out := out) hb hv (c := 13) (k := 24) (by decide) (by decide) (by decide) (fun K a b => (kw_w K a b).2.2.2.1) (v := 13) rfl
  rw [if_neg h24] at t1
  obtain ⟨M2, g3, g4⟩ := hsub i W kn out (D + 1) hi hv hw hk (by omega)
  rw [iu_Mod_negation, show (1000000 : Nat) = 999998 + 1 + 1 from rfl, iq_Mod_negation_0]
  simp only [↓pM_clsb, ↓cI_of t1, ↓cV_of g3, ↓pM_Ib]
  rw [if_pos trivial]
  rcases g4 with ⟨k, p, hkp, hsb, j, W3, o3, n3, l3, e3⟩ | ⟨i1, kn1, out1, W1, e3, hi21, hi2, hv3, hl3, hk3, hk4, hs3, hn3, hp3⟩
  · have n9 : M2.1 9 ≠ 0 := by rw [e3]; exact fl_9 hkp
    refine ⟨M2, ?_, Or.inl ⟨k, p, hkp, ng_sB h24 hsb, j, W3, o3, n3, l3, e3⟩⟩
    rw [if_neg n9]
  · have q9 := r_9 (w0 := w0) (i := i1) (W := W1) (op := op) (kn := kn1) (out := out1) hb
    have q7 : (rSt M by_ T w0 i1 W1 op kn1 out1).1 7 = nI (srK (tkK by_ T i1)) := rfl
    have q8 : (rSt M by_ T w0 i1 W1 op kn1 out1).1 8 = W1 := rfl
    have k38 := hb.k i1
    have sK := sr_K _ k38
    have st3 : nI (srK (tkK by_ T i1)) = 3 ↔ 25 ≤ tkK by_ T i1 := by rw [← sK.2.1]; exact nI_eq (b := 3) (by omega) (by decide)
    have nxt : rkK (tkK by_ T i1) ≠ 4 → lvR M by_ T w0 3 op i kn out (rSt M by_ T w0 i1 W1 op kn1 out1) := fun hr => Or.inr ⟨i1, kn1, out1, W1, rfl, hi21, hi2, hv3, hl3, hk3, hk4, ng_sF h24 hs3 hr, (by unfold nxL at hn3 ⊢; omega), hp3⟩
    have cmp : rkK (tkK by_ T i1) = 4 → ∃ M', ia_qr xs (ia_cal xs (D + 1)) im_Mod_negation (999998 + 1) 41 [.ref a, .float 0] [] (pM h a (rSt M by_ T w0 i1 W1 op kn1 out1)) = some (none, pM h a M') ∧ lvR M by_ T w0 3 op i kn out M' := fun hr => r_neg41 xs (D + 1) (h := h) (a := a) hb hc hsub hw hD h24 hi21 hi2 hv3 hl3 hk3 hk4 hs3 hp3 hr
    have r4 := (rk_6 (tkK by_ T i1)).2.2.2.2
    rw [e3, q9, q7, q8, if_pos rfl]
    by_cases c25 : 25 ≤ tkK by_ T i1
    · have w1 := hv3.2.2.2 c25
      have w2 := kw_c _ k38 c25
      have w3 := (kw_s _ k38 c25).1
      rw [if_pos (st3.mpr c25), w1]
      have en : ∀ k, k < 300 → (nI (svK (tkK by_ T i1)) = nI k ↔ svK (tkK by_ T i1) = k) := fun k hk => nI_eq (by omega) (by omega)
      rw [← w1]
      by_cases b1 : svK (tkK by_ T i1) = 60
      · rw [if_pos (show W1 = (60 : Int32) by rw [w1]; exact (en 60 (by decide)).mpr b1)]
        exact cmp (r4.mpr (by omega))
      · rw [if_neg (show ¬ W1 = (60 : Int32) by rw [w1]; exact fun z => b1 ((en 60 (by decide)).mp z))]
        by_cases b2 : svK (tkK by_ T i1) = 62
        · rw [if_pos (show W1 = (62 : Int32) by rw [w1]; exact (en 62 (by decide)).mpr b2)]
          exact cmp (r4.mpr (by omega))
        · rw [if_neg (show ¬ W1 = (62 : Int32) by rw [w1]; exact fun z => b2 ((en 62 (by decide)).mp z))]
          by_cases b3 : svK (tkK by_ T i1) = 61
          · rw [if_pos (show W1 = (61 : Int32) by rw [w1]; exact (en 61 (by decide)).mpr b3)]
            exact cmp (r4.mpr (by omega))
          · rw [if_neg (show ¬ W1 = (61 : Int32) by rw [w1]; exact fun z => b3 ((en 61 (by decide)).mp z))]
            by_cases b4 : 256 ≤ svK (tkK by_ T i1)
            · rw [if_neg (show ¬ W1 < (256 : Int32) by rw [w1]; exact nI_nlt (b := 256) b4 (by omega))]
              exact cmp (r4.mpr (by omega))
            · rw [if_pos (show W1 < (256 : Int32) by rw [w1]; exact nI_lt (b := 256) (by omega) (by decide))]
              exact ⟨_, rfl, nxt (fun z => by have := r4.mp z; omega)⟩
    · rw [if_neg (fun z => c25 (st3.mp z))]
      exact ⟨_, rfl, nxt (fun z => by have := r4.mp z; omega)⟩
theorem r_negation (hb : rB N M by_ T) {c : Nat} (hc : 8 ≤ c) (hsub : lvT xs h a M by_ T w0 im_Mod_sum 4 op c) : lvT xs h a M by_ T w0 im_Mod_negation 3 op (c + 1) := by
  have hJ := hb.j
  suffices hm : ∀ m i W kn out D, 64 - kn ≤ m → i ≤ T → vOK (tkK by_ T i) (tkV by_ T i) W → w0 + out.length ≤ kn → kn ≤ 64 → c + 1 + (64 - kn) ≤ D → ∃ M', ia_cal xs D im_Mod_negation [.ref a] (pM h a (rSt M by_ T w0 i W op kn out)) = some (none, pM h a M') ∧ lvR M by_ T w0 3 op i kn out M' from fun i W kn out D => hm (64 - kn) i W kn out D (Nat.le_refl _)
  intro m
  induction m with
  | zero =>
    intro i W kn out D hm hi hv hw hk hD
    obtain ⟨D, rfl⟩ : ∃ k, D = k + 8 + 1 := ⟨D - 9, by omega⟩
    have t1 := r_isWord xs (D + 7) (h := h) (a := a) (w0 := w0) (op := op) (kn := kn) (out := out) hb hv (c := 13) (k := 24) (by decide) (by decide) (by decide) (fun K a b => (kw_w K a b).2.2.2.1) (v := 13) rfl
    by_cases c24 : tkK by_ T i = 24
    · have e64 : kn = 64 := by omega
      subst e64
      have n9 := fl_9 (M := rSt M by_ T w0 i W op 64 out) (k := 2) (p := tkP by_ T i) (Or.inr rfl)
      refine ⟨flM (rSt M by_ T w0 i W op 64 out) 2 (tkP by_ T i), ?_, Or.inl ⟨2, _, Or.inr rfl, ng_full hJ hi c24 (Nat.le_refl 64), _, _, _, _, _, rfl⟩⟩
      rw [if_pos c24] at t1
      rw [iu_Mod_negation, iq_Mod_negation_0]
      simp only [↓pM_clsb, ↓cI_of t1]
      rw [if_neg (show ¬ (1 : Int32) = 0 by decide)]
      simp only [↓pM_clsb, ↓cV_of (r_knotF xs (D + 6) (h := h) (a := a) hb), ↓cV_of (f_goOn xs (D + 7) n9), ↓cV_of (f_negation xs (D + 4) n9), ↓cV_of (f_puts xs (D + 7) n9 2 260)]
    · exact r_neg0 xs (D + 8) hb (by omega) hsub hi hv hw hk (by omega) c24
  | succ m ih =>
    intro i W kn out D hm hi hv hw hk hD
    obtain ⟨D, rfl⟩ : ∃ k, D = k + 8 + 1 := ⟨D - 9, by omega⟩
    have t1 := r_isWord xs (D + 7) (h := h) (a := a) (w0 := w0) (op := op) (kn := kn) (out := out) hb hv (c := 13) (k := 24) (by decide) (by decide) (by decide) (fun K a b => (kw_w K a b).2.2.2.1) (v := 13) rfl
    by_cases c24 : tkK by_ T i = 24
    · rw [if_pos c24] at t1
      rw [iu_Mod_negation, iq_Mod_negation_0]
      simp only [↓pM_clsb, ↓cI_of t1]
      rw [if_neg (show ¬ (1 : Int32) = 0 by decide)]
      by_cases c64 : kn = 64
      · subst c64
        have n9 := fl_9 (M := rSt M by_ T w0 i W op 64 out) (k := 2) (p := tkP by_ T i) (Or.inr rfl)
        refine ⟨flM (rSt M by_ T w0 i W op 64 out) 2 (tkP by_ T i), ?_, Or.inl ⟨2, _, Or.inr rfl, ng_full hJ hi c24 (Nat.le_refl 64), _, _, _, _, _, rfl⟩⟩
        simp only [↓pM_clsb, ↓cV_of (r_knotF xs (D + 6) (h := h) (a := a) hb), ↓cV_of (f_goOn xs (D + 7) n9), ↓cV_of (f_negation xs (D + 4) n9), ↓cV_of (f_puts xs (D + 7) n9 2 260)]
      · obtain ⟨W2, v2, g2⟩ := r_goOn xs (D + 3) (h := h) (a := a) (w0 := w0) (W := W) (op := op) (kn := kn + 1) (out := out) hb hi
        have ⟨j1, j2⟩ := hJ i hi (by omega)
        obtain ⟨M2, g3, g4⟩ := ih (tkJ by_ T i) W2 (kn + 1) out (D + 8) (by omega) j2 v2 (by omega) (by omega) (by omega)
        simp only [↓pM_clsb, ↓cV_of (r_knot xs (D + 7) (h := h) (a := a) (w0 := w0) (i := i) (W := W) (op := op) (kn := kn) (out := out) hb (by omega)), ↓cV_of g2, ↓cV_of g3]
        rcases g4 with ⟨k, p, hkp, hsb, j, W3, o3, n3, l3, e3⟩ | ⟨i2, kn2, out2, W3, e3, hi21, hi2, hv3, hl3, hk3, hk4, hs3, hn3, hp3⟩
        · have n9 : M2.1 9 ≠ 0 := by rw [e3]; exact fl_9 hkp
          refine ⟨M2, ?_, Or.inl ⟨k, p, hkp, ng_bad hJ hi c24 (by omega) hsb, j, W3, o3, n3, l3, e3⟩⟩
          simp only [↓cV_of (f_puts xs (D + 7) n9 2 260)]
        · rw [e3]
          have pt := r_puts xs (D + 6) (h := h) (a := a) (w0 := w0) (i := i2) (W := W3) (op := op) (kn := kn2) (out := out2) hb (by omega) (24, 0) (v1 := 2) (v2 := 260) rfl rfl
          refine ⟨rSt M by_ T w0 i2 W3 op kn2 (out2 ++ [(24, 0)]), ?_, Or.inr ⟨i2, kn2, _, W3, rfl, by omega, hi2, hv3, by rw [List.length_append, List.length_singleton]; omega, by omega, hk4, ng_ok hJ hi c24 (by omega) hs3 hi2 hn3, hn3, pf_not hp3⟩⟩
          simp only [↓cV_of pt]
    · exact r_neg0 xs (D + 8) hb (by omega) hsub hi hv hw hk (by omega) c24
/-- a law's sum, from anywhere, so many open -/
theorem r_all (hb : rB N M by_ T) : ∀ u op, op + u = 8 → lvT xs h a M by_ T w0 im_Mod_expression 0 op (6 * u + 11) := by
  intro u
  induction u with
  | zero =>
    intro op ho
    have p1 := r_primary xs (h := h) (a := a) (w0 := w0) (op := op) hb (by omega) (c := 0) (fun z => absurd z (by omega))
    have p2 := r_product xs hb (by omega) p1
    have p3 := r_sum xs hb (by omega) p2
    have p4 := r_negation xs hb (by omega) p3
    have p5 := r_conjunction xs hb (by omega) p4
    exact r_expression xs hb (by omega) p5
  | succ u ih =>
    intro op ho
    have p1 := r_primary xs (h := h) (a := a) (w0 := w0) (op := op) hb (by omega) (c := 6 * u + 6) (fun _ => ih (op + 1) (by omega))
    have p2 := r_product xs hb (by omega) p1
    have p3 := r_sum xs hb (by omega) p2
    have p4 := r_negation xs hb (by omega) p3
    have p5 := r_conjunction xs hb (by omega) p4
    have p6 := r_expression xs hb (by omega) p5
    rw [show 6 * (u + 1) + 11 = 6 * u + 6 + 6 + 1 + 1 + 1 + 1 + 1 by omega]
    exact p6
end EX2
