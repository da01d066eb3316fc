/-! text: the class reads a value of a law, and what stands ahead of it. -/
section EX7
variable (xs : List Int32) (d : Nat) {H : ia_H} {x : Nat} {C : aC} {σ : Bool} {M : aG} {by_ : Nat → Nat} {T : Nat} {w0 i : Nat} {R : List Int32} {op kn : Nat} {st : List Nat} {out : List (Nat × Nat)}
theorem cB.j (h : cB x C σ M by_ T) : ∀ i, i ≤ T → tkK by_ T i ≠ 0 → i < tkJ by_ T i ∧ tkJ by_ T i ≤ T := fun i hi hk => by
  have := tk_on h.tk i hi
  exact ⟨this.2.2.2.1 hk, this.2.2.1⟩
/-- what comes of reading on: a fault, or so far read -/
def vR (C : aC) (σ : Bool) (by_ : Nat → Nat) (T w0 i : Nat) (st : List Nat) (op kn : Nat) (out : List (Nat × Nat)) (r : Int32) (D : aC) : Prop := (r = 0 ∧ ∃ k p, (k = 1 ∨ k = 2) ∧ cRu (tkK by_ T) (tkV by_ T) (tkP by_ T) (tkJ by_ T) T true i st op kn out = pB k p ∧ lBad C σ k p D) ∨ (r = 1 ∧ ∃ i' R' st' op' kn' out', D = lS C σ by_ T w0 i' R' st' op' kn' out' ∧ lI w0 R' st' op' kn' out' ∧ i < i' ∧ i' ≤ T ∧ cRu (tkK by_ T) (tkV by_ T) (tkP by_ T) (tkJ by_ T) T true i st op kn out = cRu (tkK by_ T) (tkV by_ T) (tkP by_ T) (tkJ by_ T) T false i' st' op' kn' out')
theorem k_val70 (hc : cB x C σ M by_ T) (hw : wfL (C.1 (kL (!σ)))) (hI : lI w0 R st op kn out) (hi : i ≤ T) (h3 : tkK by_ T i = 3 ∨ (15 ≤ tkK by_ T i ∧ tkK by_ T i ≤ 21)) (hm : ¬ (tkK by_ T i = 3 ∧ 9999 < tkV by_ T i)) {F : Nat} : ∃ r D, ia_qr xs (ia_cal xs (d + 7)) im_Reader_readValue (F + 1) 70 [.ref (x + 53), .float 0] [] (tot H x (lS C σ by_ T w0 i R st op kn out)) = some (some (.int r), tot H x D) ∧ vR C σ by_ T w0 i st op kn out r D := by
  have hJ := hc.j
  have hI' := hI
  obtain ⟨h1, h2, h3', h4, h5, h6⟩ := hI
  obtain ⟨r, D, g1, g2⟩ := k_knot xs (d + 5) (H := H) (i := i) hc hw hI'
  have cru : cRu (tkK by_ T) (tkV by_ T) (tkP by_ T) (tkJ by_ T) T true i st op kn out = if 64 ≤ kn then pB 2 (tkP by_ T i) else cRu (tkK by_ T) (tkV by_ T) (tkP by_ T) (tkJ by_ T) T false (tkJ by_ T i) st op (kn + 1) (out ++ [(tkK by_ T i, tkV by_ T i)]) := by
    rw [cRu_t hJ hi, if_neg (by omega), if_neg (by omega), if_pos h3, if_neg hm]
  rw [iq_Reader_readValue_70]
  simp only [↓tQ_clsb, ↓cI_of g1, ↓ok0, ↓ok1]
  rcases g2 with ⟨g3, g4, g5⟩ | ⟨g3, g4, g5⟩
  · rw [g3, if_pos rfl]
    exact ⟨0, D, rfl, Or.inl ⟨rfl, 2, _, Or.inr rfl, by rw [cru, if_pos g4], g5⟩⟩
  · have ⟨j1, j2⟩ := hJ i hi (by omega)
    rw [g3, if_neg (show ¬ (1 : Int32) = 0 by decide), g5]
    have hq : fx x (lS C σ by_ T w0 i R st op (kn + 1) out) σ := k4_fx hc.1 rfl
    have hq2 : fx x (lS C σ by_ T w0 i R st op (kn + 1) (out ++ [(tkK by_ T i, tkV by_ T i)])) σ := k4_fx hc.1 rfl
    have q0 : ((lS C σ by_ T w0 i R st op (kn + 1) out).1 6).1 0 = nI (tkK by_ T i) := rfl
    have q2 : ((lS C σ by_ T w0 i R st op (kn + 1) out).1 6).1 2 = nI (tkV by_ T i) := rfl
    have wrt := k_write xs (d + 6) (H := H) (x := x) (C := C) (τ := !σ) (A := tkA (C.1 6) by_ T i) (B := bS (C.1 3) st.length op) (E := gA (C.1 7) 0 R) (L := lwS (C.1 (kL (!σ))) w0 (kn + 1) out) (w := w0 + out.length) (k := tkK by_ T i) (v := tkV by_ T i) rfl (by omega) (lw_wf hw).1 (lw_wf hw).2.1 rfl rfl
    rw [lw_a] at wrt
    have nx := c_next xs d (H := H) (x := x) (C := C) (σ := σ) (τ := !σ) (M := M) (by_ := by_) (T := T) (B := bS (C.1 3) st.length op) (E := gA (C.1 7) 0 R) (L := lwS (C.1 (kL (!σ))) w0 (kn + 1) (out ++ [(tkK by_ T i, tkV by_ T i)])) hc hi
    simp only [↓tQ_Rb hq, ↓tS_Rb hq, ↓tT_Ib, q0, q2, ↓tL_clsb]
    unfold lS at hq2 ⊢
    simp only [↓cV_of wrt, ↓tQ_Rb hq2, ↓tT_clsb, ↓cV_of nx, ↓ok1]
    refine ⟨1, _, rfl, Or.inr ⟨rfl, tkJ by_ T i, R, st, op, kn + 1, out ++ [(tkK by_ T i, tkV by_ T i)], rfl, ⟨h1, h2, by omega, h4, by omega, by rw [List.length_append, List.length_singleton]; omega⟩, j1, j2, ?_⟩⟩
    rw [cru, if_neg (by omega)]
theorem k_val34 (hc : cB x C σ M by_ T) (hw : wfL (C.1 (kL (!σ)))) (hI : lI w0 R st op kn out) (hi : i ≤ T) (n26 : tkK by_ T i ≠ 26) (n24 : tkK by_ T i ≠ 24) {F : Nat} : ∃ r D, ia_qr xs (ia_cal xs (d + 7)) im_Reader_readValue (F + 4) 34 [.ref (x + 53), .float 0] [] (tot H x (lS C σ by_ T w0 i R st op kn out)) = some (some (.int r), tot H x D) ∧ vR C σ by_ T w0 i st op kn out r D := by
  have hJ := hc.j
  have k38 := tk_lt hc.tk i
  have hq : fx x (lS C σ by_ T w0 i R st op kn out) σ := k4_fx hc.1 rfl
  have q0 : ((lS C σ by_ T w0 i R st op kn out).1 6).1 0 = nI (tkK by_ T i) := rfl
  have q2 : ((lS C σ by_ T w0 i R st op kn out).1 6).1 2 = nI (tkV by_ T i) := rfl
  have wrg : ∀ k v, v = nI k → ia_cal xs (d + 7) im_Reader_wrong [.ref (x + 53), .int v] (tot H x (lS C σ by_ T w0 i R st op kn out)) = some (some (.int 0), tot H x (k4 C (!σ) (tkA (C.1 6) by_ T i) (fB (bS (C.1 3) st.length op) k (tkP by_ T i)) (gA (C.1 7) 0 R) (lwS (C.1 (kL (!σ))) w0 kn out))) := fun k v hv => k_wrong xs (d + 6) (H := H) (x := x) (C := C) (σ := σ) (τ := !σ) (by_ := by_) (T := T) (i := i) (B := bS (C.1 3) st.length op) (E := gA (C.1 7) 0 R) (L := lwS (C.1 (kL (!σ))) w0 kn out) (k4_fx hc.1 rfl) (k := k) (v := v) hv
  have stray : ∀ F, ¬ (tkK by_ T i = 3 ∨ (15 ≤ tkK by_ T i ∧ tkK by_ T i ≤ 21)) → ∃ r D, ia_qr xs (ia_cal xs (d + 7)) im_Reader_readValue (F + 1) 55 [.ref (x + 53), .float 0] [] (tot H x (lS C σ by_ T w0 i R st op kn out)) = some (some (.int r), tot H x D) ∧ vR C σ by_ T w0 i st op kn out r D := fun F hno => by
    refine ⟨0, _, ?_, Or.inl ⟨rfl, 1, tkP by_ T i, Or.inl rfl, ?_, l_bad (by_ := by_) (T := T) (i := i) (n := st.length) (op := op) (w0 := w0) (kn := kn) (out := out) hw hI.1⟩⟩
    · rw [iq_Reader_readValue_55]
      simp only [↓tQ_clsb, ↓cI_of (wrg 1 1 rfl), ↓ok0]
    · rw [cRu_t hJ hi, if_neg n26, if_neg n24, if_neg hno]
  rw [show F + 4 = F + 1 + 1 + 1 + 1 from rfl, iq_Reader_readValue_34]
  simp only [↓tQ_Rb hq, ↓tT_Ib, q0]
  by_cases c3 : tkK by_ T i = 3
  · have tv := tk_3 hc.tk c3
    rw [if_pos (show nI (tkK by_ T i) = (3 : Int32) by rw [c3]; rfl), iq_Reader_readValue_42, if_neg (show ¬ (1 : Int32) = 0 by decide), iq_Reader_readValue_59, if_neg (show ¬ (1 : Int32) = 0 by decide)]
    simp only [↓tQ_Rb hq, ↓tT_Ib, q2]
    by_cases cm : 9999 < tkV by_ T i
    · rw [if_pos (show (9999 : Int32) < nI (tkV by_ T i) from nI_lt (a := 9999) cm (by omega))]
      simp only [↓tQ_clsb, ↓cI_of (wrg 2 2 rfl), ↓ok0]
      refine ⟨0, _, rfl, Or.inl ⟨rfl, 2, tkP by_ T i, Or.inr rfl, ?_, l_bad (by_ := by_) (T := T) (i := i) (n := st.length) (op := op) (w0 := w0) (kn := kn) (out := out) hw hI.1⟩⟩
      rw [cRu_t hJ hi, if_neg n26, if_neg n24, if_pos (Or.inl c3), if_pos ⟨c3, cm⟩]
    · rw [if_neg (show ¬ (9999 : Int32) < nI (tkV by_ T i) from nI_nlt (a := 9999) (by omega) (by decide))]
      exact k_val70 xs d hc hw hI hi (Or.inl c3) (by omega)
  · rw [if_neg (show ¬ nI (tkK by_ T i) = (3 : Int32) from fun z => c3 ((nI_eq (b := 3) (by omega) (by decide)).mp z)), iq_Reader_readValue_42, if_pos rfl]
    simp only [↓tQ_Rb hq, ↓tT_Ib, q0]
    by_cases c15 : tkK by_ T i < 15
    · rw [if_pos (show nI (tkK by_ T i) < (15 : Int32) from nI_lt (b := 15) c15 (by decide))]
      exact stray _ (by omega)
    · rw [if_neg (show ¬ nI (tkK by_ T i) < (15 : Int32) from nI_nlt (b := 15) (by omega) (by omega))]
      by_cases c21 : 21 < tkK by_ T i
      · rw [if_pos (show (21 : Int32) < nI (tkK by_ T i) from nI_lt (a := 21) c21 (by omega))]
        exact stray _ (by omega)
      · rw [if_neg (show ¬ (21 : Int32) < nI (tkK by_ T i) from nI_nlt (a := 21) (by omega) (by decide)), iq_Reader_readValue_59, if_pos rfl]
        exact k_val70 xs d hc hw hI hi (Or.inr ⟨by omega, by omega⟩) (by omega)
theorem k_val2 (hc : cB x C σ M by_ T) (hw : wfL (C.1 (kL (!σ)))) : ∀ m i c R st op kn out F, T - i ≤ m → i ≤ T → c ≤ i → lI w0 R st op kn out → 3 * m + 8 ≤ F → ∃ r D, ia_qr xs (ia_cal xs (d + 7)) im_Reader_readValue F 2 [.ref (x + 53), .int (nI c)] [] (tot H x (lS C σ by_ T w0 i R st op kn out)) = some (some (.int r), tot H x D) ∧ vR C σ by_ T w0 i st op kn out r D := by
  have hJ := hc.j
  have hT7 := hc.2.1.1
  intro m
  induction m with
  | zero =>
    intro i c R st op kn out F hm hi hci hI hF
    obtain ⟨F, rfl⟩ : ∃ k, F = k + 4 + 1 := ⟨F - 5, by omega⟩
    have hq : fx x (lS C σ by_ T w0 i R st op kn out) σ := k4_fx hc.1 rfl
    have q0 : ((lS C σ by_ T w0 i R st op kn out).1 6).1 0 = nI (tkK by_ T i) := rfl
    have k0 : tkK by_ T i = 0 := by
      by_cases c : tkK by_ T i = 0
      · exact c
      · have := hJ i hi c
        omega
    rw [iq_Reader_readValue_2, if_neg (show ¬ (700 : Int32) < nI c from nI_nlt (a := 700) (by omega) (by decide))]
    simp only [↓tQ_Rb hq, ↓tT_Ib, q0]
    rw [k0, if_neg (show ¬ nI 0 = (26 : Int32) by decide), if_neg (show ¬ nI 0 = (24 : Int32) by decide)]
    exact k_val34 xs d hc hw hI hi (by omega) (by omega)
  | succ m ih =>
    intro i c R st op kn out F hm hi hci hI hF
    obtain ⟨F, rfl⟩ : ∃ k, F = k + 4 + 1 := ⟨F - 5, by omega⟩
    have hq : fx x (lS C σ by_ T w0 i R st op kn out) σ := k4_fx hc.1 rfl
    have q0 : ((lS C σ by_ T w0 i R st op kn out).1 6).1 0 = nI (tkK by_ T i) := rfl
    have k38 := tk_lt hc.tk i
    have on : ∀ R' st' op' kn' F', 3 * m + 8 ≤ F' → lI w0 R' st' op' kn' out → tkK by_ T i ≠ 0 → cRu (tkK by_ T) (tkV by_ T) (tkP by_ T) (tkJ by_ T) T true i st op kn out = cRu (tkK by_ T) (tkV by_ T) (tkP by_ T) (tkJ by_ T) T true (tkJ by_ T i) st' op' kn' out → ∃ r D, ia_qr xs (ia_cal xs (d + 7)) im_Reader_readValue (F' + 1) 29 [.ref (x + 53), .int (nI c)] [] (tot H x (lS C σ by_ T w0 i R' st' op' kn' out)) = some (some (.int r), tot H x D) ∧ vR C σ by_ T w0 i st op kn out r D := fun R' st' op' kn' F' hF' hI2 hk hcr => by
      have ⟨j1, j2⟩ := hJ i hi hk
      have hq2 : fx x (lS C σ by_ T w0 i R' st' op' kn' out) σ := k4_fx hc.1 rfl
      have nx : ia_cal xs (d + 7) im_Tokens_next [.ref (x + 79)] (tot H x (lS C σ by_ T w0 i R' st' op' kn' out)) = some (none, tot H x (lS C σ by_ T w0 (tkJ by_ T i) R' st' op' kn' out)) := c_next xs d (H := H) (x := x) (C := C) (σ := σ) (τ := !σ) (M := M) (by_ := by_) (T := T) (B := bS (C.1 3) st'.length op') (E := gA (C.1 7) 0 R') (L := lwS (C.1 (kL (!σ))) w0 kn' out) hc hi
      rw [iq_Reader_readValue_29]
      simp only [↓tQ_Rb hq2, ↓tT_clsb, ↓cV_of nx, nI_1]
      obtain ⟨r, D, g1, g2⟩ := ih (tkJ by_ T i) (c + 1) R' st' op' kn' out F' (by omega) j2 (by omega) hI2 hF'
      refine ⟨r, D, g1, ?_⟩
      rcases g2 with ⟨a1, k, p, a2, a3, a4⟩ | ⟨a1, i', R2, s2, o2, n2, l2, a2, a3, a4, a5, a6⟩
      · exact Or.inl ⟨a1, k, p, a2, hcr.trans a3, a4⟩
      · exact Or.inr ⟨a1, i', R2, s2, o2, n2, l2, a2, a3, by omega, a5, hcr.trans a6⟩
    rw [iq_Reader_readValue_2, if_neg (show ¬ (700 : Int32) < nI c from nI_nlt (a := 700) (by omega) (by decide))]
    simp only [↓tQ_Rb hq, ↓tT_Ib, q0]
    have e26 : nI (tkK by_ T i) = (26 : Int32) ↔ tkK by_ T i = 26 := nI_eq (b := 26) (by omega) (by decide)
    have e24 : nI (tkK by_ T i) = (24 : Int32) ↔ tkK by_ T i = 24 := nI_eq (b := 24) (by omega) (by decide)
    by_cases c26 : tkK by_ T i = 26
    · rw [if_pos (e26.mpr c26), show F + 4 = F + 2 + 1 + 1 from rfl, iq_Reader_readValue_15]
      simp only [↓tQ_Rb hq, ↓tT_Ib, q0]
      obtain ⟨r, D, g1, g2⟩ := k_opening xs (d + 5) (H := H) (i := i) hc hw hI
      rw [if_pos (e26.mpr c26)]
      simp only [↓tQ_clsb, ↓cI_of g1, ↓ok0]
      rcases g2 with ⟨g3, g4, g5⟩ | ⟨g3, g4, R', g5, g6⟩
      · rw [g3, if_pos rfl]
        exact ⟨0, D, rfl, Or.inl ⟨rfl, 2, _, Or.inr rfl, by rw [cRu_t hJ hi, if_pos c26, if_pos g4], g5⟩⟩
      · rw [g3, if_neg (show ¬ (1 : Int32) = 0 by decide), g5]
        exact on R' (26 :: st) (op + 1) kn (F + 2) (by omega) g6 (by omega) (by rw [cRu_t hJ hi, if_pos c26, if_neg (by omega)])
    · rw [if_neg (fun z => c26 (e26.mp z))]
      by_cases c24 : tkK by_ T i = 24
      · rw [if_pos (e24.mpr c24), show F + 4 = F + 2 + 1 + 1 from rfl, iq_Reader_readValue_15]
        simp only [↓tQ_Rb hq, ↓tT_Ib, q0]
        obtain ⟨r, D, g1, g2⟩ := k_not xs (d + 4) (H := H) (i := i) hc hw hI
        rw [if_neg (fun z => c26 (e26.mp z))]
        simp only [↓tQ_clsb, ↓cI_of g1, ↓ok0]
        rcases g2 with ⟨g3, k, g4, g5⟩ | ⟨g3, g4, g5, R', g6, g7⟩
        · rw [g3, if_pos rfl]
          rcases g4 with ⟨a1, a2⟩ | ⟨a1, a2, a3⟩
          · exact ⟨0, D, rfl, Or.inl ⟨rfl, k, _, Or.inl a1, by rw [cRu_t hJ hi, if_neg c26, if_pos c24, if_pos a2, a1], g5⟩⟩
          · exact ⟨0, D, rfl, Or.inl ⟨rfl, k, _, Or.inr a1, by rw [cRu_t hJ hi, if_neg c26, if_pos c24, if_neg a2, if_pos a3, a1], g5⟩⟩
        · rw [g3, if_neg (show ¬ (1 : Int32) = 0 by decide), g6]
          exact on R' (24 :: st) op (kn + 1) (F + 2) (by omega) g7 (by omega) (by rw [cRu_t hJ hi, if_neg c26, if_pos c24, if_neg g4, if_neg (by omega)])
      · rw [if_neg (fun z => c24 (e24.mp z))]
        exact k_val34 xs d hc hw hI hi c26 c24
theorem k_value (hc : cB x C σ M by_ T) (hw : wfL (C.1 (kL (!σ)))) (hi : i ≤ T) (hI : lI w0 R st op kn out) : ∃ r D, ia_cal xs (d + 8) im_Reader_readValue [.ref (x + 53)] (tot H x (lS C σ by_ T w0 i R st op kn out)) = some (some (.int r), tot H x D) ∧ vR C σ by_ T w0 i st op kn out r D := by
  have hT7 := hc.2.1.1
  rw [iu_Reader_readValue, show (1000000 : Nat) = 999999 + 1 from rfl, iq_Reader_readValue_0]
  exact k_val2 xs d (H := H) hc hw (T - i) i 0 R st op kn out 999999 (Nat.le_refl _) hi (by omega) hI (by omega)
end EX7
