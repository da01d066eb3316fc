/-! The reference: tones begin. -/
theorem cm_sA {M : aG} {X : aW} {r k : Nat} {l : List Int32} (h : cmM M X r) (h6 : 6 ≠ k) (h7 : 7 ≠ k) : cmM M (sA X k l) r := by
  unfold cmM fA at *
  rw [sA_n h6, sA_n h7]
  exact h
theorem cm_sI {M : aG} {X : aW} {r k : Nat} {v : Int32} (h : cmM M X r) : cmM M (sI X k v) r := h
theorem bgT_cm {M E S L : aG} {X : aW} {t r n i : Nat} (hw : cmM M X r) : cmM M (bgT E S L X t r n i) r := by
  unfold bgT
  split
  · exact cm_sA hw (by decide) (by decide)
  · exact cm_sA (cm_sI (cm_sA hw (by decide) (by decide))) (by decide) (by decide)
theorem trR_cm {M E S L : aG} {Y : aW × Int64} {t r n i : Nat} (hw : cmM M Y.1 r) : cmM M (trR E S L t r n Y i).1 r := by
  have h1 : cmM M (sA Y.1 11 ((Y.1.2 11).set i (fA Y.1 11 i + 1))) r := cm_sA hw (by decide) (by decide)
  unfold trR
  simp only
  split
  · split
    · exact cm_sA h1 (by decide) (by decide)
    · exact cm_sA (cm_sA h1 (by decide) (by decide)) (by decide) (by decide)
  · split
    · exact cm_sA h1 (by decide) (by decide)
    · exact cm_sA h1 (by decide) (by decide)
theorem bgX_cm {M E S L : aG} {X : aW} {t r n : Nat} (hw : cmM M X r) : ∀ i, cmM M (bgX E S L t r n X i) r
  | 0 => hw
  | i + 1 => by
    rw [bgX]
    split
    · exact bgT_cm (bgX_cm hw i)
    · exact bgX_cm hw i
theorem trX_cm {M E S L : aG} {Y : aW × Int64} {t r n : Nat} (hw : cmM M Y.1 r) : ∀ i, cmM M (trX E S L t r n Y i).1 r
  | 0 => hw
  | i + 1 => by
    rw [trX]
    split
    · exact trR_cm (trX_cm hw i)
    · exact trX_cm hw i
theorem fmX_cm {M E S L : aG} {X : aW} {t r n : Nat} {idle : Int32} (hw : cmM M X r) : ∀ i, cmM M (fmX E S L t r n idle X i) r
  | 0 => hw
  | i + 1 => by
    rw [fmX]
    split
    · exact fmX_cm hw i
    · exact cm_sA (fmX_cm hw i) (by decide) (by decide)
theorem wfX.y {M : aG} {X : aW} {t r p b : Nat} (h : wfX X t r p) (hl : lnM M) (hb : b < 23) : wfY M b X := ⟨hl, hb, h.1.lnX⟩
section KT2
variable (xs : List Int32) (d : Nat) {h : ia_H} {a : Nat} {M : aG} {b : Nat} {X : aW} {dr wk : Int32} {sc : List Int64 × List Int64} {E S L : aG} {t r p n : Nat}
theorem m_costOf (hs : rsM M S L r p n) (hq : wfQ L) (ho : opM M E) (hc : cmM M X r) (hX : wfX X t r p) (hb : b < 23) (hsc : scw sc) {i : Nat} (hi : i < t) :
    ∃ wk' sc', scw sc' ∧ ia_cal xs (d + 5) im_Mod_costOf [.ref a, .int (nI b), .int (nI i)] (my h a M b X dr wk sc) = some (some (.int (costX E S L X t r n i)), my h a M b X dr wk' sc') := by
  have hy := hX.y hs.1 hb
  have ht8 := hX.1.2.2.1
  rw [iu_Mod_costOf, iq_Mod_costOf_0]
  simp only [↓my_Ib, ↓my_Rb, ↓my_r23 hy (show i < 8 by omega), ↓my_clsb]
  unfold costX
  by_cases hf : M.1 18 = 5
  · have hE : ¬ E.1 2 = 0 := ho.2.2.1.mp hf
    refine ⟨wk, sc, hsc, ?_⟩
    simp only [if_pos hf, if_neg hE]
  · have hE : E.1 2 = 0 := Classical.byContradiction fun q => hf (ho.2.2.1.mpr q)
    obtain ⟨m, hm, em⟩ := hX.2.2.1 i hi
    have hp6 := hX.2.1
    have emn : mnX X 2 i = m := mnX_of (by omega) em
    simp only [if_neg hf, if_pos hE, em, emn]
    obtain ⟨wk', sc', h1, h2⟩ := m_val xs d (h := h) (a := a) (b := b) (dr := dr) (wk := wk) hs hq ho hc hX hy hsc hm 0 (k := 2) (by decide) (kI := 2) rfl 0 999 (if (prF (fG S 2) (fG S 3) (X.1 0) n).2 * fA X 4 i < 999 then (prF (fG S 2) (fG S 3) (X.1 0) n).2 * fA X 4 i else 999)
    refine ⟨wk', sc', h1, ?_⟩
    simp only [↓cV_of (m_calls xs d hs ho hc hX hy hsc hm rfl 0), ↓my_Rb, ↓my_r18 hy, ↓my_clsb, ↓cI_of (m_priceAt xs (d + 3) hs _), ↓my_r25 hy (show i < 8 by omega), ↓cI_of (k_minI xs _ _ _ _), ↓cI_of h2]
    rfl
theorem m_tonesGo (hs : rsM M S L r p n) (hq : wfQ L) (ho : opM M E) (hc : cmM M X r) (hX : wfX X t r p) (hb : b < 23) (hsc : scw sc) :
    ∃ wk' sc', scw sc' ∧ ia_cal xs (d + 6) im_Mod_tonesGo [.ref a, .int (nI b)] (my h a M b X dr wk sc) = some (none, my h a M b (bgX E S L t r n (endTX X t) t) dr wk' sc') := by
  have hl := hs.1
  have ht8 := hX.1.2.2.1
  have hl5 : (X.2 5).length = 8 := hX.1.ln.2.2.2.2.2.1
  rw [iu_Mod_tonesGo, iq_Mod_tonesGo_0]
  have first : ∀ k i N, i + k = t → k + (t + 5) ≤ N → ∃ N', t + 5 ≤ N' ∧ ia_qr xs (ia_cal xs (d + 5)) im_Mod_tonesGo N 2 [.ref a, .int (nI b), .int (nI i), .float 0, .float 0, .float 0] [] (my h a M b (endTX X i) dr wk sc) = ia_qr xs (ia_cal xs (d + 5)) im_Mod_tonesGo N' 2 [.ref a, .int (nI b), .int (nI t), .float 0, .float 0, .float 0] [] (my h a M b (endTX X t) dr wk sc) := by
    intro k
    induction k with
    | zero =>
      intro i N hi hN
      rw [show i = t by omega]
      exact ⟨N, by omega, rfl⟩
    | succ k ih =>
      intro i N hi hN
      obtain ⟨N, rfl⟩ : ∃ m, N = m + 1 := ⟨N - 1, by omega⟩
      have hX1 : wfX (endTX X i) t r p := wfX_sA hX (updTo_len i) (by decide) (by decide) (by decide)
      have hy := hX1.y hl hb
      have e0 : fA (endTX X i) 5 i = fA X 5 i := by
        unfold fA endTX
        rw [sA_2, updTo_get i i (by omega), if_neg (by omega)]
      have e3 : fA (endTX X i) 3 i = fA X 3 i := by
        unfold fA endTX
        rw [sA_n (by decide)]
      have e4 : fA (endTX X i) 4 i = fA X 4 i := by
        unfold fA endTX
        rw [sA_n (by decide)]
      have eI : (endTX X i).1 2 = nI t := hX1.1.1
      have eq0 : (endTX X i).1 0 = X.1 0 := rfl
      rw [iq_Mod_tonesGo_2]
      simp only [↓my_Rb, ↓my_r20 hy, eI, ↓if_p (nI_lt (show i < t by omega) (show t < 2 ^ 31 by omega)), ↓my_r26 hy (show i < 8 by omega), ↓my_r18 hy, ↓my_r24 hy (show i < 8 by omega), ↓my_r25 hy (show i < 8 by omega), ↓my_w26 hy (show i < 8 by omega), e0, e3, e4, eq0, nI_1]
      by_cases c1 : fA X 5 i = 1
      · by_cases c2 : X.1 0 < fA X 3 i + fA X 4 i
        · rw [if_pos c1, if_pos c2]
          have : endTX X i = endTX X (i + 1) := by
            unfold endTX
            rw [updTo_same (by omega) (by unfold endTG; rw [if_neg (fun q => q.2 c2)]; rfl)]
          rw [this]
          exact ih (i + 1) N (by omega) (by omega)
        · rw [if_pos c1, if_neg c2]
          have : sA (endTX X i) 5 (((endTX X i).2 5).set i 2) = endTX X (i + 1) := by
            unfold endTX
            rw [sA_sA, sA_2, updTo]
            congr 2
            unfold endTG
            rw [if_pos ⟨c1, c2⟩]
          rw [this]
          exact ih (i + 1) N (by omega) (by omega)
      · rw [if_neg c1]
        have : endTX X i = endTX X (i + 1) := by
          unfold endTX
          rw [updTo_same (by omega) (by unfold endTG; rw [if_neg (fun q => c1 q.1)]; rfl)]
        rw [this]
        exact ih (i + 1) N (by omega) (by omega)
  obtain ⟨N', hN', e⟩ := first t 0 999999 (by omega) (by omega)
  have ez : endTX X 0 = X := sA_self
  rw [ez] at e
  have n0 : nI 0 = 0 := rfl
  rw [n0] at e
  rw [e]
  have hX2 := endTX_wf hX
  have hc2 : cmM M (endTX X t) r := cm_sA hc (by decide) (by decide)
  generalize endTX X t = X2 at *
  obtain ⟨N', rfl⟩ : ∃ m, N' = m + 1 := ⟨N' - 1, by omega⟩
  have hy2 := hX2.y hl hb
  have eI : X2.1 2 = nI t := hX2.1.1
  rw [iq_Mod_tonesGo_2]
  simp only [↓my_Rb, ↓my_r20 hy2, eI, ↓if_n (nI_nlt (Nat.le_refl t) (show t < 2 ^ 31 by omega))]
  rw [← n0]
  refine lp_sc (σ := Int32 × List Int64 × List Int64) (F := fun N i s => ia_qr xs (ia_cal xs (d + 5)) im_Mod_tonesGo N 43 [.ref a, .int (nI b), .int (nI i), .float 0, .float 0, .float 0] [] (my h a M b (bgX E S L t r n X2 i) dr s.1 s.2)) (I := fun s => scw s.2) (N := t) (cost := 1) (c0 := 1) (R := fun o => ∃ wk' sc', scw sc' ∧ o = some (none, my h a M b (bgX E S L t r n X2 t) dr wk' sc')) (fun i hi s hss N hN => ?_) (fun N s hN hss => ?_) t 0 (by omega) (wk, sc) hsc N' (by omega)
  · obtain ⟨N, rfl⟩ : ∃ m, N = m + 1 := ⟨N - 1, by omega⟩
    have hbX := bgX_wf (E := E) (S := S) (L := L) (n := n) hX2 i
    have hbc := bgX_cm (E := E) (S := S) (L := L) (t := t) (n := n) hc2 i
    rw [bgX]
    generalize bgX E S L t r n X2 i = Y at *
    have hyY := hbX.y hl hb
    have eI : Y.1 2 = nI t := hbX.1.1
    have l5 : (Y.2 5).length = 8 := hbX.1.ln.2.2.2.2.2.1
    show ∃ n' s', _ ∧ _ ∧ ia_qr xs (ia_cal xs (d + 5)) im_Mod_tonesGo (N + 1) 43 [.ref a, .int (nI b), .int (nI i), .float 0, .float 0, .float 0] [] (my h a M b Y dr s.1 s.2) = _
    rw [iq_Mod_tonesGo_43]
    simp only [↓my_Rb, ↓my_r20 hyY, eI, ↓if_p (nI_lt hi (show t < 2 ^ 31 by omega)), ↓my_r26 hyY (show i < 8 by omega), ↓my_r24 hyY (show i < 8 by omega), ↓my_r18 hyY, ↓my_clsb, nI_1]
    by_cases c1 : fA Y 5 i = 0
    · by_cases c2 : fA Y 3 i = Y.1 0
      · obtain ⟨m, hm, em⟩ := hbX.2.2.1 i hi
        have hp6 := hbX.2.1
        have emn : mnX Y 2 i = m := mnX_of (by omega) em
        obtain ⟨wk', sc', h1, h2⟩ := m_costOf xs d (h := h) (a := a) (dr := dr) (wk := s.1) hs hq ho hbc hbX hb hss hi
        refine ⟨N, (wk', sc'), Nat.le_refl _, h1, ?_⟩
        simp only [if_pos c1, if_pos c2, ↓cI_of h2, if_pos (And.intro c1 c2), ↓my_Rb, ↓my_r23 hyY (show i < 8 by omega), em, ↓my_r21 hyY (show m < 6 by omega)]
        unfold bgT
        rw [emn]
        generalize costX E S L Y t r n i = cst
        by_cases c3 : fA Y 0 m < cst
        · simp only [if_pos c3, ↓my_Rb, ↓my_w26 hyY (show i < 8 by omega)]
        · have hX3 : wfX (sA Y 0 ((Y.2 0).set m (fA Y 0 m - cst))) t r p := wfX_sA hbX (List.length_set ..) (by decide) (by decide) (by decide)
          have hy3 := hX3.y hl hb
          have hX4 : ∀ v, wfX (sI (sA Y 0 ((Y.2 0).set m (fA Y 0 m - cst))) 1 v) t r p := fun v => wfX_sI hX3 (by decide) (by decide)
          have hy4 := fun v => (hX4 v).y hl hb
          simp only [if_neg c3, ↓my_Rb, ↓my_r21 hyY (show m < 6 by omega), ↓my_w21 hyY (show m < 6 by omega), ↓my_r19 hy3, ↓my_w19 hy3, ↓my_w26 (hy4 _) (show i < 8 by omega)]
          rfl
      · refine ⟨N, s, Nat.le_refl _, hss, ?_⟩
        simp only [if_pos c1, if_neg c2, if_neg (fun z : _ ∧ _ => c2 z.2)]
    · refine ⟨N, s, Nat.le_refl _, hss, ?_⟩
      simp only [if_neg c1, if_neg (fun z : _ ∧ _ => c1 z.1)]
  · obtain ⟨N, rfl⟩ : ∃ m, N = m + 1 := ⟨N - 1, by omega⟩
    have hbX := bgX_wf (E := E) (S := S) (L := L) (n := n) hX2 t
    have hyY := hbX.y hl hb
    have eI : (bgX E S L t r n X2 t).1 2 = nI t := hbX.1.1
    refine ⟨s.1, s.2, hss, ?_⟩
    show ia_qr xs (ia_cal xs (d + 5)) im_Mod_tonesGo (N + 1) 43 [.ref a, .int (nI b), .int (nI t), .float 0, .float 0, .float 0] [] (my h a M b (bgX E S L t r n X2 t) dr s.1 s.2) = _
    rw [iq_Mod_tonesGo_43]
    simp only [↓my_Rb, ↓my_r20 hyY, eI, ↓if_n (nI_nlt (Nat.le_refl t) (show t < 2 ^ 31 by omega))]
end KT2
