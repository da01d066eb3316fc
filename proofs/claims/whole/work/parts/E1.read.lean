/-! text: the reference reads a value. -/
section EX1
variable (xs : List Int32) (d : Nat) {h : ia_H} {a : Nat} {M N : aG} {by_ : Nat → Nat} {T : Nat} {w0 i : Nat} {W : Int32} {op kn : Nat} {out : List (Nat × Nat)}
theorem f_prim82 {F : Nat} (h9 : M.1 9 ≠ 0) (v : Int32) : ia_qr xs (ia_cal xs (d + 1)) im_Mod_primary (F + 3) 82 [.ref a, .int v] [] (pM h a M) = some (none, pM h a M) := by
  have go : ∀ s w : Int32, ia_qr xs (ia_cal xs (d + 1)) im_Mod_primary (F + 1) 99 [.ref a, .float 0] [.int s, .int w, .ref a] (pM h a M) = some (none, pM h a M) := fun s w => by
    rw [iq_Mod_primary_99]
    simp only [↓pM_clsb, ↓cV_of (f_puts xs d h9 w s), ↓cV_of (f_goOn xs d h9)]
  have go2 : ∀ w : Int32, ia_qr xs (ia_cal xs (d + 1)) im_Mod_primary (F + 1 + 1) 90 [.ref a, .int v] [.int w, .ref a] (pM h a M) = some (none, pM h a M) := fun w => by
    rw [iq_Mod_primary_90]
    simp only [↓pM_Ib, go]
    split <;> rfl
  rw [show F + 3 = F + 1 + 1 + 1 from rfl, iq_Mod_primary_82]
  simp only [↓pM_clsb, ↓cV_of (f_knot xs d h9), go2]
  split <;> rfl
/-- a value that may stand here: counted, written, taken -/
theorem r_prim82 (hb : rB N M by_ T) (hi : i ≤ T) (hw : w0 + out.length ≤ kn) (hk : kn ≤ 64) (h3 : tkK by_ T i = 3 ∨ (15 ≤ tkK by_ T i ∧ tkK by_ T i ≤ 21)) (hm : ¬ (tkK by_ T i = 3 ∧ 9999 < tkV by_ T i)) {v : Int32} (hv : v = if tkK by_ T i = 3 then 1 else 0) (hW : (if tkK by_ T i = 3 then W else W - 14) = kvF (tkK by_ T i, tkV by_ T i)) {F : Nat} : ∃ M', ia_qr xs (ia_cal xs (d + 5)) im_Mod_primary (F + 3) 82 [.ref a, .int v] [] (pM h a (rSt M by_ T w0 i W op kn out)) = some (none, pM h a M') ∧ lvR M by_ T w0 6 op i kn out M' := by
  have hJ := hb.j
  have hon := tk_on (fun i hi => (hb.1.2.2.2 i hi).1) i hi
  by_cases c64 : kn = 64
  · subst c64
    have n9 := fl_9 (M := rSt M by_ T w0 i W op 64 out) (k := 2) (p := tkP by_ T i) (Or.inr rfl)
    refine ⟨flM (rSt M by_ T w0 i W op 64 out) 2 (tkP by_ T i), ?_, Or.inl ⟨2, _, Or.inr rfl, pr_full hJ hi h3 hm (Nat.le_refl 64), _, _, _, _, _, rfl⟩⟩
    have go : ∀ s w : Int32, ia_qr xs (ia_cal xs (d + 5)) im_Mod_primary (F + 1) 99 [.ref a, .float 0] [.int s, .int w, .ref a] (pM h a (flM (rSt M by_ T w0 i W op 64 out) 2 (tkP by_ T i))) = some (none, pM h a (flM (rSt M by_ T w0 i W op 64 out) 2 (tkP by_ T i))) := fun s w => by
      rw [iq_Mod_primary_99]
      simp only [↓pM_clsb, ↓cV_of (f_puts xs (d + 4) n9 w s), ↓cV_of (f_goOn xs (d + 4) n9)]
    have go2 : ∀ w : Int32, ia_qr xs (ia_cal xs (d + 5)) im_Mod_primary (F + 1 + 1) 90 [.ref a, .int v] [.int w, .ref a] (pM h a (flM (rSt M by_ T w0 i W op 64 out) 2 (tkP by_ T i))) = some (none, pM h a (flM (rSt M by_ T w0 i W op 64 out) 2 (tkP by_ T i))) := fun w => by
      rw [iq_Mod_primary_90]
      simp only [↓pM_Ib, go]
      split <;> rfl
    rw [show F + 3 = F + 1 + 1 + 1 from rfl, iq_Mod_primary_82]
    simp only [↓pM_clsb, ↓cV_of (r_knotF xs (d + 3) (h := h) (a := a) hb), go2]
    split <;> rfl
  · have q8 : (rSt M by_ T w0 i W op (kn + 1) out).1 8 = W := rfl
    obtain ⟨W2, v2, g2⟩ := r_goOn xs d (h := h) (a := a) (w0 := w0) (W := W) (op := op) (kn := kn + 1) (out := out ++ [(tkK by_ T i, tkV by_ T i)]) hb hi
    refine ⟨rSt M by_ T w0 (tkJ by_ T i) W2 op (kn + 1) (out ++ [(tkK by_ T i, tkV by_ T i)]), ?_, Or.inr ⟨tkJ by_ T i, kn + 1, _, W2, rfl, hon.2.2.2.2, hon.2.2.1, v2, by rw [List.length_append, List.length_singleton]; omega, by omega, by omega, pr_val hJ hi h3 hm (by omega), ⟨fun z => absurd z (by decide), fun z => absurd z (by decide), fun z => absurd z (by decide), fun z => absurd z (by decide)⟩, pf_val h3⟩⟩
    have go : ia_qr xs (ia_cal xs (d + 5)) im_Mod_primary (F + 1) 99 [.ref a, .float 0] [.int (kvF (tkK by_ T i, tkV by_ T i)), .int (ksF (tkK by_ T i, tkV by_ T i)), .ref a] (pM h a (rSt M by_ T w0 i W op (kn + 1) out)) = some (none, pM h a (rSt M by_ T w0 (tkJ by_ T i) W2 op (kn + 1) (out ++ [(tkK by_ T i, tkV by_ T i)]))) := by
      rw [iq_Mod_primary_99]
      simp only [↓pM_clsb, ↓cV_of (r_puts xs (d + 3) (h := h) (a := a) (w0 := w0) (i := i) (W := W) (op := op) (kn := kn + 1) (out := out) hb (by omega) (tkK by_ T i, tkV by_ T i) rfl rfl), ↓cV_of g2]
    rw [show F + 3 = F + 1 + 1 + 1 from rfl, iq_Mod_primary_82]
    simp only [↓pM_clsb, ↓cV_of (r_knot xs (d + 4) (h := h) (a := a) (w0 := w0) (i := i) (W := W) (op := op) (kn := kn) (out := out) hb (by omega))]
    by_cases c3 : tkK by_ T i = 3
    · rw [if_pos c3] at hv hW
      have ks : ksF (tkK by_ T i, tkV by_ T i) = 0 := by unfold ksF; rw [if_pos c3]
      rw [hv, if_neg (show ¬ (1 : Int32) = 0 by decide), iq_Mod_primary_90, if_neg (show ¬ (1 : Int32) = 0 by decide)]
      simp only [↓pM_Ib, q8]
      rw [ks, ← hW] at go
      exact go
    · rw [if_neg c3] at hv hW
      have ks : ksF (tkK by_ T i, tkV by_ T i) = 1 := by unfold ksF; rw [if_neg c3, if_pos (by rcases h3 with z | z; exact absurd z c3; exact z)]
      rw [hv, if_pos rfl, iq_Mod_primary_90, if_pos rfl]
      simp only [↓pM_Ib, q8]
      rw [ks, ← hW] at go
      exact go
theorem r_primary (hb : rB N M by_ T) (hop : op ≤ 8) {c : Nat} (hE : op < 8 → lvT xs h a M by_ T w0 im_Mod_expression 0 (op + 1) (c + 5)) : lvT xs h a M by_ T w0 im_Mod_primary 6 op (c + 6) := by
  intro i W kn out D hi hv hw hk hD
  have hJ := hb.j
  have hon := tk_on (fun i hi => (hb.1.2.2.2 i hi).1) i hi
  have k38 := hb.k i
  have sK := sr_K _ k38
  obtain ⟨D, rfl⟩ : ∃ k, D = k + 5 + 1 := ⟨D - 6, by omega⟩
  have t1 := r_isSign xs (D + 4) (h := h) (a := a) (w0 := w0) (op := op) (kn := kn) (out := out) hb hv (c := 40) (k := 26) (by decide) (by decide) (fun K a b => (kw_s K a b).2.2.1) (v := 40) rfl
  have q7 : (rSt M by_ T w0 i W op kn out).1 7 = nI (srK (tkK by_ T i)) := rfl
  have q8 : (rSt M by_ T w0 i W op kn out).1 8 = W := rfl
  have q13 : (rSt M by_ T w0 i W op kn out).1 13 = nI op := rfl
  have q9 := r_9 (w0 := w0) (i := i) (W := W) (op := op) (kn := kn) (out := out) hb
  rw [iu_Mod_primary, show (1000000 : Nat) = 999993 + 3 + 1 + 1 + 1 + 1 from rfl, iq_Mod_primary_0]
  simp only [↓pM_Ib, q9, q7, q13, ↓pM_clsb, ↓cI_of t1]
  rw [if_pos trivial]
  have st7 : nI (srK (tkK by_ T i)) = 2 ↔ tkK by_ T i = 3 := by rw [← sK.2.2.1]; exact nI_eq (b := 2) (by omega) (by decide)
  have st0 : nI (srK (tkK by_ T i)) = 0 ↔ (4 ≤ tkK by_ T i ∧ tkK by_ T i < 25) := by rw [← sK.1]; exact nI_eq (b := 0) (by omega) (by decide)
  have nx6 : ∀ r, nxL 6 r := fun r => ⟨fun z => absurd z (by decide), fun z => absurd z (by decide), fun z => absurd z (by decide), fun z => absurd z (by decide)⟩
  by_cases c26 : tkK by_ T i = 26
  · rw [if_pos c26, if_neg (show ¬ (1 : Int32) = 0 by decide)]
    by_cases c8 : op = 8
    · have hwr := p_wrong xs (D + 4) (h := h) (a := a) (M := rSt M by_ T w0 i W op kn out) (k := 2) (p := tkP by_ T i) (r_9 hb) rfl (v := 2) rfl
      have n9 := fl_9 (M := rSt M by_ T w0 i W op kn out) (k := 2) (p := tkP by_ T i) (Or.inr rfl)
      refine ⟨flM (rSt M by_ T w0 i W op kn out) 2 (tkP by_ T i), ?_, Or.inl ⟨2, _, Or.inr rfl, pr_open hJ hi c26 (by omega), _, _, _, _, _, rfl⟩⟩
      rw [if_pos (show nI op = (8 : Int32) by rw [c8]; rfl), cV_of hwr, iq_Mod_primary_15]
      simp only [↓pM_Ib]
      rw [if_neg n9]
    · rw [if_neg (show ¬ nI op = (8 : Int32) from fun z => c8 ((nI_eq (b := 8) (by omega) (by decide)).mp z)), iq_Mod_primary_15]
      obtain ⟨W2, v2, g2⟩ := r_token xs (D + 1) (h := h) (a := a) (w0 := w0) (W := W) (op := op + 1) (kn := kn) (out := out) hb hi
      obtain ⟨M2, g3, g4⟩ := hE (by omega) (tkJ by_ T i) W2 kn out (D + 5) hon.2.2.1 v2 hw hk (by omega)
      simp only [↓pM_Ib, q9, q13, ↓pM_pfb, nI_1, r_open, ↓pM_clsb, ↓cV_of g2, ↓cV_of g3]
      rw [if_pos trivial]
      rcases g4 with ⟨k, p, hkp, hsb, j, W3, o3, n3, l3, e3⟩ | ⟨i2, kn2, out2, W3, e3, hi21, hi2, hv3, hl3, hk3, hk4, hs3, hn3, hp3⟩
      · have n9 : M2.1 9 ≠ 0 := by rw [e3]; exact fl_9 hkp
        refine ⟨M2, ?_, Or.inl ⟨k, p, hkp, pr_pbad hJ hi c26 (by omega) hsb, j, W3, o3, n3, l3, e3⟩⟩
        rw [if_neg n9, iq_Mod_primary_39]
        simp only [↓pM_Ib]
        rw [if_neg n9]
      · have q92 := r_9 (w0 := w0) (i := i2) (W := W3) (op := op + 1) (kn := kn2) (out := out2) hb
        have t2 := r_isSign xs (D + 4) (h := h) (a := a) (w0 := w0) (op := op + 1) (kn := kn2) (out := out2) hb hv3 (c := 41) (k := 27) (by decide) (by decide) (fun K a b => (kw_s K a b).2.2.2.1) (v := 41) rfl
        have q132 : (rSt M by_ T w0 i2 W3 (op + 1) kn2 out2).1 13 = nI (op + 1) := rfl
        rw [e3, q92, if_pos rfl, cI_of t2]
        by_cases c27 : tkK by_ T i2 = 27
        · obtain ⟨W4, v4, g5⟩ := r_token xs (D + 1) (h := h) (a := a) (w0 := w0) (W := W3) (op := op) (kn := kn2) (out := out2) hb hi2
          have hon2 := tk_on (fun i hi => (hb.1.2.2.2 i hi).1) i2 hi2
          have em : nI (op + 1) - 1 = nI op := by
            have : nI (op + 1) - nI 1 = nI (op + 1 - 1) := pk_sub (by omega)
            exact this
          refine ⟨rSt M by_ T w0 (tkJ by_ T i2) W4 op kn2 out2, ?_, Or.inr ⟨tkJ by_ T i2, kn2, out2, W4, rfl, by omega, hon2.2.2.1, v4, hl3, hk3, hk4, pr_pok hJ hi c26 (by omega) hs3 hi2 c27, nx6 _, hp3⟩⟩
          rw [if_pos c27, if_neg (show ¬ (1 : Int32) = 0 by decide), iq_Mod_primary_39]
          simp only [↓pM_Ib, q92, q132, em, ↓pM_pfb, r_open, ↓pM_clsb, ↓cV_of g5]
          rw [if_pos trivial]
        · have hwr := p_wrong xs (D + 4) (h := h) (a := a) (M := rSt M by_ T w0 i2 W3 (op + 1) kn2 out2) (k := 1) (p := tkP by_ T i2) (r_9 hb) rfl (v := 1) rfl
          have n9 := fl_9 (M := rSt M by_ T w0 i2 W3 (op + 1) kn2 out2) (k := 1) (p := tkP by_ T i2) (Or.inl rfl)
          refine ⟨flM (rSt M by_ T w0 i2 W3 (op + 1) kn2 out2) 1 (tkP by_ T i2), ?_, Or.inl ⟨1, _, Or.inl rfl, pr_pstray hJ hi c26 (by omega) hs3 hi2 hn3 c27, _, _, _, _, _, rfl⟩⟩
          rw [if_neg c27, if_pos rfl]
          simp only [↓pM_clsb, ↓cV_of hwr]
          rw [iq_Mod_primary_39]
          simp only [↓pM_Ib]
          rw [if_neg n9]
  · rw [if_neg c26, if_pos rfl]
    have stray : ¬ (tkK by_ T i = 3 ∨ (15 ≤ tkK by_ T i ∧ tkK by_ T i ≤ 21)) → ∃ M', ia_qr xs (ia_cal xs (D + 5)) im_Mod_primary (999993 + 3 + 1) 79 [.ref a, .int 0] [] (pM h a (rSt M by_ T w0 i W op kn out)) = some (none, pM h a M') ∧ lvR M by_ T w0 6 op i kn out M' := fun hno => by
      have hwr := p_wrong xs (D + 4) (h := h) (a := a) (M := rSt M by_ T w0 i W op kn out) (k := 1) (p := tkP by_ T i) (r_9 hb) rfl (v := 1) rfl
      have n9 := fl_9 (M := rSt M by_ T w0 i W op kn out) (k := 1) (p := tkP by_ T i) (Or.inl rfl)
      refine ⟨flM (rSt M by_ T w0 i W op kn out) 1 (tkP by_ T i), ?_, Or.inl ⟨1, _, Or.inl rfl, pr_stray hJ hi c26 hno, _, _, _, _, _, rfl⟩⟩
      rw [iq_Mod_primary_79]
      simp only [↓pM_clsb, ↓cV_of hwr]
      exact f_prim82 xs (D + 4) n9 0
    by_cases c3 : tkK by_ T i = 3
    · obtain ⟨w, w1, w2, w3⟩ := hv.2.1 c3
      rw [if_pos (st7.mpr c3), iq_Mod_primary_59, if_neg (show ¬ (1 : Int32) = 0 by decide)]
      simp only [↓pM_Ib, q8]
      by_cases cm : 9999 < w
      · have hwr := p_wrong xs (D + 4) (h := h) (a := a) (M := rSt M by_ T w0 i W op kn out) (k := 2) (p := tkP by_ T i) (r_9 hb) rfl (v := 2) rfl
        have n9 := fl_9 (M := rSt M by_ T w0 i W op kn out) (k := 2) (p := tkP by_ T i) (Or.inr rfl)
        refine ⟨flM (rSt M by_ T w0 i W op kn out) 2 (tkP by_ T i), ?_, Or.inl ⟨2, _, Or.inr rfl, pr_much hJ hi c3 (by omega), _, _, _, _, _, rfl⟩⟩
        rw [if_pos (show (9999 : Int32) < W by rw [w2]; exact nI_lt (a := 9999) cm (by omega))]
        simp only [↓pM_clsb, ↓cV_of hwr]
        exact f_prim82 xs (D + 4) (F := 999995) n9 1
      · rw [if_neg (show ¬ (9999 : Int32) < W by rw [w2]; exact nI_nlt (a := 9999) (by omega) (by decide)), iq_Mod_primary_70, if_neg (show ¬ (1 : Int32) = 0 by decide)]
        have wv : tkV by_ T i = w := by omega
        have kv : (if tkK by_ T i = 3 then W else W - 14) = kvF (tkK by_ T i, tkV by_ T i) := by
          rw [if_pos c3, w2]
          unfold kvF
          rw [if_pos c3]
          show nI w = nI (tkV by_ T i)
          rw [wv]
        have key := r_prim82 xs D (h := h) (a := a) (M := M) (N := N) (w0 := w0) (op := op) (F := 999994) (v := 1) hb hi hw hk (Or.inl c3) (by omega) (by rw [if_pos c3]) kv
        exact key
    · rw [if_neg (fun z => c3 (st7.mp z)), iq_Mod_primary_59, if_pos rfl, iq_Mod_primary_70, if_pos rfl]
      simp only [↓pM_Ib, q7, q8]
      by_cases c0 : 4 ≤ tkK by_ T i ∧ tkK by_ T i < 25
      · have w1 := hv.2.2.1 c0.1 c0.2
        have w2 := kw_w _ c0.2 c0.1
        rw [if_pos (st0.mpr c0), w1]
        by_cases c14 : rwK (tkK by_ T i) < 14
        · rw [if_pos (show nI (rwK (tkK by_ T i)) < (14 : Int32) from nI_lt (b := 14) c14 (by decide))]
          rw [← w1]
          exact stray (by have := w2.2.2.2.2.1.mp c14; omega)
        · have c15 : 15 ≤ tkK by_ T i ∧ tkK by_ T i ≤ 21 := by
            by_cases z : 15 ≤ tkK by_ T i ∧ tkK by_ T i ≤ 21
            · exact z
            · exact absurd (w2.2.2.2.2.1.mpr z) c14
          rw [if_neg (show ¬ nI (rwK (tkK by_ T i)) < (14 : Int32) from nI_nlt (b := 14) (by omega) (by omega))]
          rw [← w1]
          exact r_prim82 xs D (h := h) (a := a) (F := 999993 + 1) hb hi hw hk (Or.inr c15) (by omega) (by rw [if_neg c3]) (by
            rw [if_neg c3, w1, w2.2.2.2.2.2 c15]
            unfold kvF
            rw [if_neg c3, if_pos c15]
            show nI (tkK by_ T i - 1) - 14 = nI (tkK by_ T i - 15)
            have : nI (tkK by_ T i - 1) - nI 14 = nI (tkK by_ T i - 1 - 14) := pk_sub (by omega)
            rw [show tkK by_ T i - 15 = tkK by_ T i - 1 - 14 by omega]
            exact this)
      · rw [if_neg (fun z => c0 (st0.mp z))]
        exact stray (by omega)
end EX1
