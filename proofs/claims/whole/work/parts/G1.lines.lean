/-! text: the class's law line, and lines that are full or told. -/
section GX1
variable (xs : List Int32) (d : Nat) {H : ia_H} {x : Nat} {C : aC} {σ : Bool} {M : aG} {by_ : Nat → Nat} {T : Nat} {B E L S : aG} {i n p t r kn : Nat}
theorem lw_id {w : Nat} (h0 : L.1 0 = nI kn) (h1 : L.1 1 = nI w) : lwS L w kn [] = L := by
  refine Prod.ext (funext fun k => ?_) (Prod.ext (funext fun k => ?_) rfl)
  · show (if k = 1 then nI (w + 0) else if k = 0 then nI kn else L.1 k) = L.1 k
    by_cases c1 : k = 1
    · rw [if_pos c1, c1, h1]; rfl
    · rw [if_neg c1]
      by_cases c0 : k = 0
      · rw [if_pos c0, c0, h0]
      · rw [if_neg c0]
  · show (if k = 1 then L.2.1 1 else if k = 0 then L.2.1 0 else L.2.1 k) = L.2.1 k
    by_cases c1 : k = 1
    · rw [if_pos c1, c1]
    · rw [if_neg c1]
      by_cases c0 : k = 0
      · rw [if_pos c0, c0]
      · rw [if_neg c0]
theorem t_isTold {τ : Bool} (hw : wfL (C.1 (kL τ))) {k : Nat} (hk : k < 3) : ia_cal xs (d + 1) im_Laws_isTold [.ref (sd x τ + 18), .int (nI k)] (tot H x C) = some (some (.int (tldI (C.1 (kL τ)) k)), tot H x C) := by
  have this := k_isTold xs d (tot H x C) (sd x τ + 18) (C.1 (kL τ)) hw hk
  simp only [tq_L, uG_id] at this
  exact this
theorem c_law (hc : cB x C σ M by_ T) (hi : i ≤ T) (hw : wfL (C.1 (kL (!σ)))) (h0 : (C.1 (kL (!σ))).1 0 = nI kn) (h1 : (C.1 (kL (!σ))).1 1 = nI kn) (hk : kn ≤ 64) (h7 : ((C.1 7).2.1 0).length = 72) : ∃ r D, ia_cal xs (d + 9) im_Reader_readLaw [.ref (x + 53)] (tot H x (k4 C (!σ) (tkA (C.1 6) by_ T i) (C.1 3) (C.1 7) (C.1 (kL (!σ))))) = some (some (.int r), tot H x D) ∧
    ((¬ (12 ≤ tkK by_ T (tkJ by_ T i) ∧ tkK by_ T (tkJ by_ T i) ≤ 14) ∧ r = 0 ∧ D = k4 C (!σ) (tkA (C.1 6) by_ T (tkJ by_ T i)) (fB (C.1 3) 1 (tkP by_ T (tkJ by_ T i))) (C.1 7) (C.1 (kL (!σ)))) ∨
    (∃ q, q < 3 ∧ tkK by_ T (tkJ by_ T i) = 12 + q ∧ fG (C.1 (kL (!σ))) 2 q < fG (C.1 (kL (!σ))) 3 q ∧ r = 0 ∧ D = k4 C (!σ) (tkA (C.1 6) by_ T (tkJ by_ T i)) (fB (C.1 3) 3 (tkP by_ T (tkJ by_ T i))) (C.1 7) (C.1 (kL (!σ)))) ∨
    (∃ q, q < 3 ∧ tkK by_ T (tkJ by_ T i) = 12 + q ∧ ¬ fG (C.1 (kL (!σ))) 2 q < fG (C.1 (kL (!σ))) 3 q ∧ wR C σ by_ T kn q (tkJ by_ T (tkJ by_ T i)) true [] 0 kn [] r D)) := by
  have hT7 := hc.2.1.1
  have hon := tk_on hc.tk i hi
  have hon2 := tk_on hc.tk _ hon.2.2.1
  have k38 := tk_lt hc.tk (tkJ by_ T i)
  have hq : ∀ A B, B.2 = (C.1 3).2 → fx x (k4 C (!σ) A B (C.1 7) (C.1 (kL (!σ)))) σ := fun A B hB => k4_fx hc.1 hB
  have nx := c_next xs (d + 1) (H := H) (τ := !σ) (B := C.1 3) (E := C.1 7) (L := C.1 (kL (!σ))) hc hi
  have nx2 := c_next xs (d + 1) (H := H) (τ := !σ) (B := C.1 3) (E := C.1 7) (L := C.1 (kL (!σ))) hc hon.2.2.1
  have q0 : (tkA (C.1 6) by_ T (tkJ by_ T i)).1 0 = nI (tkK by_ T (tkJ by_ T i)) := rfl
  have wg : ∀ k v, v = nI k → ia_cal xs (d + 8) im_Reader_wrong [.ref (x + 53), .int v] (tot H x (k4 C (!σ) (tkA (C.1 6) by_ T (tkJ by_ T i)) (C.1 3) (C.1 7) (C.1 (kL (!σ))))) = some (some (.int 0), tot H x (k4 C (!σ) (tkA (C.1 6) by_ T (tkJ by_ T i)) (fB (C.1 3) k (tkP by_ T (tkJ by_ T i))) (C.1 7) (C.1 (kL (!σ))))) := fun k v hv => k_wrong xs (d + 7) (k4_fx hc.1 rfl) hv
  rw [iu_Reader_readLaw, show (1000000 : Nat) = 999998 + 1 + 1 from rfl, iq_Reader_readLaw_0]
  simp only [↓tQ_Rb (hq _ (C.1 3) rfl), ↓tT_clsb, ↓cV_of nx, ↓tT_Ib, k4_6, q0]
  have stray : ¬ (12 ≤ tkK by_ T (tkJ by_ T i) ∧ tkK by_ T (tkJ by_ T i) ≤ 14) → ia_qr xs (ia_cal xs (d + 8)) im_Reader_readLaw (999998 + 1) 13 [.ref (x + 53), .float 0, .float 0, .float 0] [] (tot H x (k4 C (!σ) (tkA (C.1 6) by_ T (tkJ by_ T i)) (C.1 3) (C.1 7) (C.1 (kL (!σ))))) = some (some (.int 0), tot H x (k4 C (!σ) (tkA (C.1 6) by_ T (tkJ by_ T i)) (fB (C.1 3) 1 (tkP by_ T (tkJ by_ T i))) (C.1 7) (C.1 (kL (!σ))))) := fun _ => by
    rw [iq_Reader_readLaw_13]
    simp only [↓tQ_clsb, ↓cI_of (wg 1 1 rfl), ↓ok0]
  by_cases c12 : tkK by_ T (tkJ by_ T i) < 12
  · rw [if_pos (show nI (tkK by_ T (tkJ by_ T i)) < (12 : Int32) from nI_lt (b := 12) c12 (by decide))]
    exact ⟨0, _, stray (by omega), Or.inl ⟨by omega, rfl, rfl⟩⟩
  · rw [if_neg (show ¬ nI (tkK by_ T (tkJ by_ T i)) < (12 : Int32) from nI_nlt (b := 12) (by omega) (by omega))]
    by_cases c14 : 14 < tkK by_ T (tkJ by_ T i)
    · rw [if_pos (show (14 : Int32) < nI (tkK by_ T (tkJ by_ T i)) from nI_lt (a := 14) c14 (by omega))]
      exact ⟨0, _, stray (by omega), Or.inl ⟨by omega, rfl, rfl⟩⟩
    · rw [if_neg (show ¬ (14 : Int32) < nI (tkK by_ T (tkJ by_ T i)) from nI_nlt (a := 14) (by omega) (by decide))]
      obtain ⟨q, hq3, hq2⟩ : ∃ q, q < 3 ∧ tkK by_ T (tkJ by_ T i) = 12 + q := ⟨tkK by_ T (tkJ by_ T i) - 12, by omega, by omega⟩
      have eq12 : nI (tkK by_ T (tkJ by_ T i)) - 12 = nI q := by
        rw [hq2]
        have : nI (12 + q) - nI 12 = nI (12 + q - 12) := pk_sub (by omega)
        rw [show 12 + q - 12 = q by omega] at this
        exact this
      have it := t_isTold xs (d + 7) (H := H) (x := x) (C := k4 C (!σ) (tkA (C.1 6) by_ T (tkJ by_ T i)) (C.1 3) (C.1 7) (C.1 (kL (!σ)))) (τ := !σ) (by rw [k4_L]; exact hw) hq3
      rw [k4_L] at it
      simp only [↓tS_Rb (hq _ (C.1 3) rfl), eq12, ↓tL_clsb, ↓cI_of it]
      unfold tldI
      by_cases ct : fG (C.1 (kL (!σ))) 2 q < fG (C.1 (kL (!σ))) 3 q
      · rw [if_pos ct, if_neg (show ¬ (1 : Int32) = 0 by decide)]
        simp only [↓tQ_clsb, ↓cI_of (wg 3 3 rfl), ↓ok0]
        exact ⟨0, _, rfl, Or.inr (Or.inl ⟨q, hq3, hq2, ct, rfl, rfl⟩)⟩
      · rw [if_neg ct, if_pos rfl]
        have sf : ia_cal xs (d + 8) im_Laws_writtenSoFar [.ref (sd x (!σ) + 18)] (tot H x (k4 C (!σ) (tkA (C.1 6) by_ T (tkJ by_ T (tkJ by_ T i))) (C.1 3) (C.1 7) (C.1 (kL (!σ))))) = some (some (.int (nI kn)), tot H x (k4 C (!σ) (tkA (C.1 6) by_ T (tkJ by_ T (tkJ by_ T i))) (C.1 3) (C.1 7) (C.1 (kL (!σ))))) := by
          rw [iu_Laws_writtenSoFar, iq_Laws_writtenSoFar_0]
          simp only [↓tL_Ib, k4_L, h1]
        have hst : k4 C (!σ) (tkA (C.1 6) by_ T (tkJ by_ T (tkJ by_ T i))) (gI (gI (C.1 3) 3 0) 4 0) (C.1 7) (C.1 (kL (!σ))) = lS C σ by_ T kn (tkJ by_ T (tkJ by_ T i)) ((C.1 7).2.1 0) [] 0 kn [] := by
          unfold lS
          rw [gA_id, lw_id h0 h1]
          rfl
        obtain ⟨r, D, g1, g2⟩ := k_law49 xs d (H := H) (w0 := kn) hc hw hq3 (T - tkJ by_ T (tkJ by_ T i)) (tkJ by_ T (tkJ by_ T i)) 0 ((C.1 7).2.1 0) [] 0 kn [] 999999 (Nat.le_refl _) hon2.2.2.1 (by omega) ⟨h7, trivial, Nat.zero_le _, by decide, hk, by show kn + 0 + 0 ≤ kn; omega⟩ (by omega)
        refine ⟨r, D, ?_, Or.inr (Or.inr ⟨q, hq3, hq2, ct, g2⟩)⟩
        simp only [↓tQ_Rb (hq _ (C.1 3) rfl), ↓tT_clsb, ↓cV_of nx2, ↓tS_Rb (hq _ (C.1 3) rfl), ↓tL_clsb, ↓cI_of sf, ↓tQ_pfb, k4_3, k4_u3, hst]
        exact g1
/-- full: no more of these -/
theorem c_full (hc : cB x C σ M by_ T) (hB : B.2 = (C.1 3).2) (hS : wfS (C.1 (kS (!σ))) p n) (hF : wfW (C.2 (kF (!σ))) t r) {m : Nat} (hm : (m = im_Reader_readMan ∧ p = 6) ∨ (m = im_Reader_readTone ∧ t = 8) ∨ (m = im_Reader_readPrice ∧ n = 6) ∨ (m = im_Reader_readRing ∧ r = 10)) : ia_cal xs (d + 2) m [.ref (x + 53)] (tot H x (k4 C (!σ) (tkA (C.1 6) by_ T i) B E L)) = some (some (.int 0), tot H x (k4 C (!σ) (tkA (C.1 6) by_ T i) (fB B 2 (tkP by_ T i)) E L)) := by
  have hq : fx x (k4 C (!σ) (tkA (C.1 6) by_ T i) B E L) σ := k4_fx hc.1 hB
  have wg : ia_cal xs (d + 1) im_Reader_wrong [.ref (x + 53), .int 2] (tot H x (k4 C (!σ) (tkA (C.1 6) by_ T i) B E L)) = _ := k_wrong xs d (i := i) (k := 2) (v := 2) (k4_fx hc.1 hB) rfl
  have s0 := hS.1
  have s1 := hS.2.1
  have f2 := hF.1
  have f3 := hF.2.1
  rcases hm with ⟨rfl, rfl⟩ | ⟨rfl, rfl⟩ | ⟨rfl, rfl⟩ | ⟨rfl, rfl⟩
  · rw [iu_Reader_readMan, iq_Reader_readMan_0]
    simp only [↓tQ_Rb hq, ↓tS_Ib, k4_S, s0, ↓if_n (show ¬ nI 6 < (6 : Int32) by decide), ↓tQ_clsb, ↓cI_of wg, ↓ok0]
  · rw [iu_Reader_readTone, iq_Reader_readTone_0]
    simp only [↓tQ_Rb hq, ↓tS_Rb hq, ↓tW_Ib kF_7, k4_2, f2, ↓if_n (show ¬ nI 8 < (8 : Int32) by decide), ↓tQ_clsb, ↓cI_of wg, ↓ok0]
  · rw [iu_Reader_readPrice, iq_Reader_readPrice_0]
    simp only [↓tQ_Rb hq, ↓tS_Ib, k4_S, s1, ↓if_n (show ¬ nI 6 < (6 : Int32) by decide), ↓tQ_clsb, ↓cI_of wg, ↓ok0]
  · rw [iu_Reader_readRing, iq_Reader_readRing_0]
    simp only [↓tQ_Rb hq, ↓tS_Rb hq, ↓tW_Ib kF_7, k4_2, f3, ↓if_n (show ¬ nI 10 < (10 : Int32) by decide), ↓tQ_clsb, ↓cI_of wg, ↓ok0]
/-- told already -/
theorem c_told (hc : cB x C σ M by_ T) (hB : B.2 = (C.1 3).2) {m : Nat} (hm : (m = im_Reader_readLines ∧ (C.1 (kS (!σ))).1 2 ≠ -1) ∨ (m = im_Reader_readTries ∧ (C.1 (kS (!σ))).1 3 ≠ -1) ∨ (m = im_Reader_readSeed ∧ (C.1 (kS (!σ))).1 4 ≠ -1)) : ia_cal xs (d + 2) m [.ref (x + 53)] (tot H x (k4 C (!σ) (tkA (C.1 6) by_ T i) B E L)) = some (some (.int 0), tot H x (k4 C (!σ) (tkA (C.1 6) by_ T i) (fB B 3 (tkP by_ T i)) E L)) := by
  have hq : fx x (k4 C (!σ) (tkA (C.1 6) by_ T i) B E L) σ := k4_fx hc.1 hB
  have wg : ia_cal xs (d + 1) im_Reader_wrong [.ref (x + 53), .int 3] (tot H x (k4 C (!σ) (tkA (C.1 6) by_ T i) B E L)) = _ := k_wrong xs d (i := i) (k := 3) (v := 3) (k4_fx hc.1 hB) rfl
  rcases hm with ⟨rfl, h⟩ | ⟨rfl, h⟩ | ⟨rfl, h⟩
  · rw [iu_Reader_readLines, iq_Reader_readLines_0]
    simp only [↓tQ_Rb hq, ↓tS_Ib, k4_S, ↓if_n h, ↓tQ_clsb, ↓cI_of wg, ↓ok0]
  · rw [iu_Reader_readTries, iq_Reader_readTries_0]
    simp only [↓tQ_Rb hq, ↓tS_Ib, k4_S, ↓if_n h, ↓tQ_clsb, ↓cI_of wg, ↓ok0]
  · rw [iu_Reader_readSeed, iq_Reader_readSeed_0]
    simp only [↓tQ_Rb hq, ↓tS_Ib, k4_S, ↓if_n h, ↓tQ_clsb, ↓cI_of wg, ↓ok0]
end GX1
