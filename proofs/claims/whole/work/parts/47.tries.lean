/-! The reference: a call is tried. -/
def drM (d : Int32) : Int32 := (d * 1103515245 + 12345) &&& 2147483647
theorem drN_eq (d : Int32) : drN d.toInt64 = (drM d).toInt64 := by
  apply Int64.toBitVec_inj.mp
  unfold drN drM
  have hw : ((d.toInt64 * 1103515245 + 12345).toBitVec).setWidth 32 = (d * 1103515245 + 12345).toBitVec := by
    have e : (d.toBitVec.signExtend 64).setWidth 32 = d.toBitVec := by
      apply BitVec.eq_of_getLsbD_eq
      intro i hi
      rw [BitVec.getLsbD_setWidth, BitVec.getLsbD_signExtend]
      simp [hi, show i < 64 by omega]
    rw [Int64.toBitVec_add, Int64.toBitVec_mul, BitVec.setWidth_add _ _ (by decide), BitVec.setWidth_mul _ _ (by decide), Int32.toBitVec_add, Int32.toBitVec_mul, Int32.toBitVec_toInt64, e]
    rfl
  have m64 : ∀ i, i < 64 → (Int64.toBitVec 2147483647).getLsbD i = decide (i < 31) := by decide
  have m32 : ∀ i, i < 32 → (Int32.toBitVec 2147483647).getLsbD i = decide (i < 31) := by decide
  apply BitVec.eq_of_getLsbD_eq
  intro i hi
  rw [Int64.toBitVec_and, BitVec.getLsbD_and, Int32.toBitVec_toInt64, BitVec.getLsbD_signExtend, Int32.toBitVec_and, m64 i hi, ← hw]
  by_cases c : i < 31
  · rw [BitVec.getLsbD_and, m32 i (by omega), BitVec.getLsbD_setWidth]
    simp [c, hi, show i < 32 by omega]
  · have e : (BitVec.setWidth 32 (d.toInt64 * 1103515245 + 12345).toBitVec &&& Int32.toBitVec 2147483647).msb = false := by
      rw [BitVec.msb_and]
      have : (Int32.toBitVec 2147483647).msb = false := by decide
      rw [this]
      simp
    by_cases c2 : i < 32
    · rw [if_pos c2, BitVec.getLsbD_and, m32 i c2]
      simp [c]
    · rw [e]
      simp [c, c2]
theorem drM_n (d : Int32) : ∃ a, a < 2 ^ 31 ∧ drM d = nI a := pk_andE _ (m := 2147483647) 31 (by decide)
theorem drV_n (d : Int32) : ∃ a, a < 2 ^ 31 ∧ drV d.toInt64 = nI a ∧ drM d >>> ((16 : Int32) &&& 31) = nI a := by
  obtain ⟨a, ha, ea⟩ := drM_n d
  refine ⟨a / 65536, by omega, ?_, ?_⟩
  · unfold drV
    rw [drN_eq, ea, nI_l ha]
    have : (lN a >>> (Int32.toInt64 16 &&& 63)) = lN (a / 65536) := by
      apply Int64.toInt_inj.mp
      show (lN a >>> (Int32.toInt64 16 &&& 63)).toBitVec.toInt = (lN (a / 65536)).toInt
      rw [Int64.toBitVec_shiftRight, BitVec.sshiftRight_eq', show ((Int32.toInt64 16 &&& 63).toBitVec.smod 64).toNat = 16 by decide, BitVec.toInt_sshiftRight]
      show (lN a).toInt >>> 16 = _
      rw [pk_lT (by omega), pk_lT (by omega), Int.shiftRight_eq_div_pow]
      omega
    rw [this, lN_i]
  · rw [ea, pk_shrN ha _ 16 (by decide)]
theorem clamp19 (v : Int64) : ∃ c, 1 ≤ c ∧ c ≤ 9 ∧ clampL 1 9 v = nI c := by
  have key : ∀ w : Int64, 1 ≤ w.toInt → w.toInt ≤ 9 → ∃ c, 1 ≤ c ∧ c ≤ 9 ∧ w.toInt32 = nI c := by
    intro w h1 h2
    have e : w = lN w.toInt.toNat := by
      apply Int64.toInt_inj.mp
      rw [pk_lT (by omega)]
      omega
    exact ⟨w.toInt.toNat, by omega, by omega, (congrArg Int64.toInt32 e).trans (lN_i _)⟩
  unfold clampL
  have e1 : (1 : Int64).toInt = 1 := by decide
  have e9 : (9 : Int64).toInt = 9 := by decide
  have c0 : (1 : Int64) < 9 := by decide
  by_cases c1 : v < 9
  · rw [if_pos c1]
    by_cases c2 : 1 < v
    · rw [if_pos c2]
      have h1 := Int64.lt_iff_toInt_lt.mp c1
      have h2 := Int64.lt_iff_toInt_lt.mp c2
      exact key v (by omega) (by omega)
    · rw [if_neg c2]
      exact key 1 (by omega) (by omega)
  · rw [if_neg c1, if_pos c0]
    exact key 9 (by omega) (by omega)
theorem set_id {l : List Int32} {i : Nat} {v : Int32} (h : v = l.getD i 0) : l.set i v = l := by
  apply List.ext_getElem?
  intro j
  rw [List.getElem?_set]
  by_cases hj : i = j
  · subst hj
    rw [if_pos rfl]
    by_cases hl : i < l.length
    · rw [if_pos hl, h, List.getD_eq_getElem?_getD, List.getElem?_eq_getElem hl]
      rfl
    · rw [if_neg hl, List.getElem?_eq_none (by omega)]
  · rw [if_neg hj]
/-- a counted loop that keeps something -/
theorem lp_si {σ : Type} {F : Nat → Nat → σ → Option ia_R} {I : Nat → σ → Prop} {N cost c0 : Nat} {R : Option ia_R → Prop} (hstep : ∀ i, i < N → ∀ s, I i s → ∀ n, cost ≤ n → ∃ n' s', n ≤ n' + cost ∧ I (i + 1) s' ∧ F n i s = F n' (i + 1) s') (hend : ∀ n s, c0 ≤ n → I N s → R (F n N s)) :
    ∀ k i, i + k = N → ∀ s, I i s → ∀ n, cost * k + c0 ≤ n → R (F n i s) := by
  intro k
  induction k with
  | zero =>
    intro i hi s hs n hn
    rw [show i = N by omega] at *
    exact hend n s (by omega) hs
  | succ k ih =>
    intro i hi s hs n hn
    rw [Nat.mul_succ] at hn
    obtain ⟨n', s', h1, h2, h3⟩ := hstep i (by omega) s hs n (by omega)
    rw [h3]
    exact ih (i + 1) (by omega) s' h2 n' (by omega)
theorem may_iff {E : aG} {X : aW} {t r p i : Nat} (hX : wfX X t r p) (hi : i < r) : mayX E X t r i ↔ (coI X r (fA X 6 i) = -1 ∧ egI X t r (fA X 7 i) = 0 ∧ nI (cntF (fA X 10) 1 r) < E.1 0) := by
  obtain ⟨f, hf, ef⟩ := hX.m6 i hi
  obtain ⟨g, hg, eg⟩ := hX.m7 i hi
  unfold mayX
  rw [ef, eg, bt_iff (by omega), bt_iff (by omega), tk_co hX (by omega), eg_iff hX (by omega)]
section KT3
variable (xs : List Int32) (d : Nat) {h : ia_H} {a : Nat} {M : aG} {b : Nat} {X : aW} {dr wk : Int32} {sc : List Int64 × List Int64} {E S L : aG} {t r p n : Nat}
theorem m_tries (hs : rsM M S L r p n) (hq : wfQ L) (ho : opM M E) (hc : cmM M X r) (hX : wfX X t r p) (hb : b < 23) (hsc : scw sc) {i : Nat} (hi : i < r) (hdue : fA X 8 i = X.1 0) :
    ∃ dr' wk' sc', scw sc' ∧ dr'.toInt64 = (trR E S L t r n (X, dr.toInt64) i).2 ∧ ia_cal xs (d + 5) im_Mod_tries [.ref a, .int (nI b), .int (nI i)] (my h a M b X dr wk sc) = some (none, my h a M b (trR E S L t r n (X, dr.toInt64) i).1 dr' wk' sc') := by
  have hl := hs.1
  have hr10 := hX.1.2.2.2.1
  have hy := hX.y hl hb
  have l11 : (X.2 11).length = 10 := hX.1.ln.2.2.2.2.2.2.2.2.2.2.2
  have hX1 : wfX (sA X 11 ((X.2 11).set i (fA X 11 i + 1))) t r p := wfX_sA hX (List.length_set ..) (by decide) (by decide) (by decide)
  have hc1 : cmM M (sA X 11 ((X.2 11).set i (fA X 11 i + 1))) r := cm_sA hc (by decide) (by decide)
  have f11 : fA (sA X 11 ((X.2 11).set i (fA X 11 i + 1))) 11 i = fA X 11 i + 1 := by
    unfold fA
    rw [sA_2, ia_set_getD (by omega), if_pos rfl]
  have hdue1 : fA (sA X 11 ((X.2 11).set i (fA X 11 i + 1))) 8 i = (sA X 11 ((X.2 11).set i (fA X 11 i + 1))).1 0 := by
    rw [sA_1, ← hdue]
    unfold fA
    rw [sA_n (by decide)]
  rw [iu_Mod_tries, iq_Mod_tries_0]
  unfold trR
  simp only [↓my_Rb, ↓my_r30 hy (show i < 10 by omega), ↓my_w30 hy (show i < 10 by omega)]
  generalize sA X 11 ((X.2 11).set i (fA X 11 i + 1)) = Y at *
  have hy1 := hX1.y hl hb
  have r10 : rd (M.2.1 10) (nI i) = some (fA Y 6 i) := by rw [rdM hl (by decide) (by show i < 20; omega) (by decide), (hc1 i hi).1]
  have r11 : rd (M.2.1 11) (nI i) = some (fA Y 7 i) := by rw [rdM hl (by decide) (by show i < 20; omega) (by decide), (hc1 i hi).2]
  have l8 : (Y.2 8).length = 10 := hX1.1.ln.2.2.2.2.2.2.2.2.1
  simp only [↓my_ldb, ↓bs r10, ↓bs r11, ↓my_clsb, ↓cI_of (m_callOf xs (d + 3) hs hc1 hy1 _), ↓cI_of (m_isEngaged xs (d + 2) hs hc1 hX1.1 hy1 _), ↓cI_of (m_callsOf xs (d + 3) hs hy1 _), ↓cI_of (m_linesNow xs (d + 3) hl ho)]
  have hm := may_iff (E := E) hX1 hi
  by_cases c : mayX E Y t r i
  · obtain ⟨c1, c2, c3⟩ := hm.mp c
    have hX2 : wfX (sA Y 10 ((Y.2 10).set i 1)) t r p := wfX_sA hX1 (List.length_set ..) (by decide) (by decide) (by decide)
    have hy2 := hX2.y hl hb
    have e8 : ∀ v, v = Y.1 0 → sA (sA Y 10 ((Y.2 10).set i 1)) 8 (((sA Y 10 ((Y.2 10).set i 1)).2 8).set i v) = sA Y 10 ((Y.2 10).set i 1) := by
      intro v hv
      have : ((sA Y 10 ((Y.2 10).set i 1)).2 8).set i v = (sA Y 10 ((Y.2 10).set i 1)).2 8 := by
        apply set_id
        rw [hv, ← hdue1, sA_n (by decide)]
        rfl
      rw [this]
      exact sA_self
    have e8' := e8 ((sA Y 10 ((Y.2 10).set i 1)).1 0) rfl
    simp only [if_pos c, c1, c2, if_true, if_pos c3, ↓my_ldb, ↓bs r10, ↓bs r11, ↓my_clsb, ↓cI_of (m_callOf xs (d + 3) hs hc1 hy1 _), ↓cI_of (m_isEngaged xs (d + 2) hs hc1 hX1.1 hy1 _), ↓cI_of (m_callsOf xs (d + 3) hs hy1 _), ↓cI_of (m_linesNow xs (d + 3) hl ho), ↓my_Rb, ↓my_w29 hy1 (show i < 10 by omega), ↓my_r18 hy2, ↓my_w27 hy2 (show i < 10 by omega), e8', ↓my_Ib]
    by_cases c4 : M.1 21 = 0
    · have c4' : E.1 4 = 0 := ho.2.2.2.2.mp c4
      refine ⟨dr, wk, sc, hsc, ?_, ?_⟩
      · rw [if_pos c4']
      · simp only [if_pos c4, if_pos c4']
    · have c4' : ¬ E.1 4 = 0 := fun q => c4 (ho.2.2.2.2.mpr q)
      refine ⟨drM dr, wk, sc, hsc, ?_, ?_⟩
      · rw [if_neg c4']
        exact (drN_eq dr).symm
      · obtain ⟨v, hv, ev1, ev2⟩ := drV_n dr
        unfold drM at ev2
        simp only [if_neg c4, if_neg c4', ↓my_pfd, ↓my_Rb, ↓my_Ib, ↓if_n (show ¬ (9 : Int32) = 0 by decide), ↓my_w28 hy2 (show i < 10 by omega), ev1, ev2]
        rw [sA_n (show 9 ≠ 10 by decide)]
        rfl
  · have t78 : ∀ N, ∃ dr' wk' sc', scw sc' ∧ Int32.toInt64 dr' = (if fA X 11 i + 1 < E.1 1 then (sA Y 8 ((Y.2 8).set i (Y.1 0 + clampL 1 9 (valX E S L Y t r n 0 (mnX Y 6 i) (fA X 11 i + 1)))), dr.toInt64) else (sA Y 10 ((Y.2 10).set i 3), dr.toInt64)).2 ∧ ia_qr xs (ia_cal xs (d + 4)) im_Mod_tries (N + 1) 78 [.ref a, .int (nI b), .int (nI i), .int ((10 : Int32) * nI b + nI i)] [] (my h a M b Y dr wk sc) = some (none, my h a M b (if fA X 11 i + 1 < E.1 1 then (sA Y 8 ((Y.2 8).set i (Y.1 0 + clampL 1 9 (valX E S L Y t r n 0 (mnX Y 6 i) (fA X 11 i + 1)))), dr.toInt64) else (sA Y 10 ((Y.2 10).set i 3), dr.toInt64)).1 dr' wk' sc') := by
      intro N
      rw [iq_Mod_tries_78]
      simp only [↓my_Rb, ↓my_r30 hy1 (show i < 10 by omega), f11, ↓my_clsb, ↓cI_of (m_triesNow xs (d + 3) hl ho)]
      by_cases c5 : fA X 11 i + 1 < E.1 1
      · obtain ⟨m, hmm, em⟩ := hX1.2.2.2.1 i hi
        have hp6 := hX1.2.1
        have emn : mnX Y 6 i = m := mnX_of (by omega) em
        rw [em] at r10
        obtain ⟨wk', sc', h1, h2⟩ := m_val xs d (h := h) (a := a) (b := b) (dr := dr) (wk := wk) hs hq ho hc1 hX1 hy1 hsc hmm (fA X 11 i + 1) (k := 0) (by decide) (kI := 0) rfl 1 9 1
        refine ⟨dr, wk', sc', h1, ?_, ?_⟩
        · rw [if_pos c5]
        · simp only [if_pos c5, ↓my_Rb, ↓my_ldb, ↓bs r10, ↓my_r30 hy1 (show i < 10 by omega), f11, ↓my_clsb, ↓cV_of (m_calls xs d hs ho hc1 hX1 hy1 hsc hmm rfl _), ↓my_r18 hy1, ↓cI_of h2, ↓my_w27 hy1 (show i < 10 by omega), emn]
          generalize valX E S L Y t r n 0 m (fA X 11 i + 1) = V
          by_cases c6 : V = -9223372036854775808
          · rw [if_pos c6, c6]
            rfl
          · rw [if_neg c6]
            rfl
      · refine ⟨dr, wk, sc, hsc, ?_, ?_⟩
        · rw [if_neg c5]
        · simp only [if_neg c5, ↓my_Rb, ↓my_w29 hy1 (show i < 10 by omega)]
    simp only [if_neg c]
    by_cases c1 : coI Y r (fA Y 6 i) = -1
    · rw [if_pos c1]
      simp only [↓my_ldb, ↓bs r10, ↓bs r11, ↓my_clsb, ↓cI_of (m_callOf xs (d + 3) hs hc1 hy1 _), ↓cI_of (m_isEngaged xs (d + 2) hs hc1 hX1.1 hy1 _), ↓cI_of (m_callsOf xs (d + 3) hs hy1 _), ↓cI_of (m_linesNow xs (d + 3) hl ho), ↓my_Rb]
      by_cases c2 : egI Y t r (fA Y 7 i) = 0
      · rw [if_pos c2]
        rw [if_neg (fun q => c (hm.mpr ⟨c1, c2, q⟩))]
        exact t78 _
      · rw [if_neg c2]
        exact t78 _
    · rw [if_neg c1]
      exact t78 _
end KT3
