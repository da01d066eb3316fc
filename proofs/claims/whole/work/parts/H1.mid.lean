/-! text: a line, in class and reference. -/
section HX1
variable (xs : List Int32) (d : Nat) {H h : ia_H} {x a : Nat} {D : aC} {σ : Bool} {M : aG} {by_ : Nat → Nat} {T i p n t r kn : Nat}
theorem p_isFull (hb : bM (D.1 0) M by_ T) (m8 : fG M 1 8 = nI p) (m9 : fG M 1 9 = nI t) (m10 : fG M 1 10 = nI n) (m11 : fG M 1 11 = nI r) (hp : p ≤ 6) (hn : n ≤ 6) (ht : t ≤ 8) (hr : r ≤ 10) {w : Nat} (hw : w < 8) : ia_cal xs (d + 2) im_Mod_isFull [.ref a, .int (nI w)] (pM h a M) = some (some (.int (if (w = 0 ∧ p = 6) ∨ (w = 1 ∧ t = 8) ∨ (w = 2 ∧ n = 6) ∨ (w = 3 ∧ r = 10) then 1 else 0)), pM h a M) := by
  have c0 := (s_count xs d (h := h) (a := a) hb (k := 0) (by decide) m8 (v := 0) rfl).1
  have c1 := (s_count xs d (h := h) (a := a) hb (k := 1) (by decide) m9 (v := 1) rfl).1
  have c2 := (s_count xs d (h := h) (a := a) hb (k := 2) (by decide) m10 (v := 2) rfl).1
  have c3 := (s_count xs d (h := h) (a := a) hb (k := 3) (by decide) m11 (v := 3) rfl).1
  have ew : ∀ k, k < 100 → (nI w = nI k ↔ w = k) := fun k hk => nI_eq (by omega) (by omega)
  have f23 : ∀ F, ia_qr xs (ia_cal xs (d + 1)) im_Mod_isFull (F + 1) 23 [.ref a, .int (nI w)] [] (pM h a M) = some (some (.int (if w = 3 ∧ r = 10 then 1 else 0)), pM h a M) := fun F => by
    rw [iq_Mod_isFull_23]
    simp only [↓pM_clsb, ↓cI_of c3, ↓ok0, ↓ok1]
    by_cases w3 : w = 3
    · rw [if_pos (show nI w = (3 : Int32) by rw [w3]; rfl)]
      by_cases c : r = 10
      · rw [if_pos (show nI r = (10 : Int32) by rw [c]; rfl), if_pos ⟨w3, c⟩]
      · rw [if_neg (show ¬ nI r = (10 : Int32) from fun z => c ((nI_eq (b := 10) (by omega) (by decide)).mp z)), if_neg (by omega)]
    · rw [if_neg (show ¬ nI w = (3 : Int32) from fun z => w3 ((ew 3 (by decide)).mp z)), if_neg (by omega)]
  have f15 : ∀ F, ia_qr xs (ia_cal xs (d + 1)) im_Mod_isFull (F + 2) 15 [.ref a, .int (nI w)] [] (pM h a M) = some (some (.int (if (w = 2 ∧ n = 6) ∨ (w = 3 ∧ r = 10) then 1 else 0)), pM h a M) := fun F => by
    rw [show F + 2 = F + 1 + 1 from rfl, iq_Mod_isFull_15, f23]
    simp only [↓pM_clsb, ↓cI_of c2, ↓ok1]
    rw [f23]
    by_cases w2 : w = 2
    · rw [if_pos (show nI w = (2 : Int32) by rw [w2]; rfl)]
      by_cases c : n = 6
      · rw [if_pos (show nI n = (6 : Int32) by rw [c]; rfl), if_pos (Or.inl ⟨w2, c⟩)]
      · rw [if_neg (show ¬ nI n = (6 : Int32) from fun z => c ((nI_eq (b := 6) (by omega) (by decide)).mp z)), if_neg (by omega), if_neg (by omega)]
    · rw [if_neg (show ¬ nI w = (2 : Int32) from fun z => w2 ((ew 2 (by decide)).mp z))]
      by_cases c : w = 3 ∧ r = 10
      · rw [if_pos c, if_pos (Or.inr c)]
      · rw [if_neg c, if_neg (by omega)]
  have f7 : ∀ F, ia_qr xs (ia_cal xs (d + 1)) im_Mod_isFull (F + 3) 7 [.ref a, .int (nI w)] [] (pM h a M) = some (some (.int (if (w = 1 ∧ t = 8) ∨ (w = 2 ∧ n = 6) ∨ (w = 3 ∧ r = 10) then 1 else 0)), pM h a M) := fun F => by
    rw [show F + 3 = F + 2 + 1 from rfl, iq_Mod_isFull_7, f15]
    simp only [↓pM_clsb, ↓cI_of c1, ↓ok1]
    rw [f15]
    by_cases w2 : w = 1
    · rw [if_pos (show nI w = (1 : Int32) by rw [w2]; rfl)]
      by_cases c : t = 8
      · rw [if_pos (show nI t = (8 : Int32) by rw [c]; rfl), if_pos (Or.inl ⟨w2, c⟩)]
      · rw [if_neg (show ¬ nI t = (8 : Int32) from fun z => c ((nI_eq (b := 8) (by omega) (by decide)).mp z)), if_neg (by omega), if_neg (by omega)]
    · rw [if_neg (show ¬ nI w = (1 : Int32) from fun z => w2 ((ew 1 (by decide)).mp z))]
      by_cases c : (w = 2 ∧ n = 6) ∨ (w = 3 ∧ r = 10)
      · rw [if_pos c, if_pos (Or.inr c)]
      · rw [if_neg c, if_neg (by omega)]
  rw [iu_Mod_isFull, show (1000000 : Nat) = 999996 + 3 + 1 from rfl, iq_Mod_isFull_0, f7]
  simp only [↓pM_clsb, ↓cI_of c0, ↓ok1]
  rw [f7]
  by_cases w2 : w = 0
  · rw [if_pos (show nI w = (0 : Int32) by rw [w2]; rfl)]
    by_cases c : p = 6
    · rw [if_pos (show nI p = (6 : Int32) by rw [c]; rfl), if_pos (Or.inl ⟨w2, c⟩)]
    · rw [if_neg (show ¬ nI p = (6 : Int32) from fun z => c ((nI_eq (b := 6) (by omega) (by decide)).mp z)), if_neg (by omega), if_neg (by omega)]
  · rw [if_neg (show ¬ nI w = (0 : Int32) from fun z => w2 ((ew 0 (by decide)).mp z))]
    by_cases c : (w = 1 ∧ t = 8) ∨ (w = 2 ∧ n = 6) ∨ (w = 3 ∧ r = 10)
    · rw [if_pos c, if_pos (Or.inr c)]
    · rw [if_neg c, if_neg (by omega)]
/-- the reference's line up to its kind: stray, full, told, or on -/
theorem p_line0 (hls : LnS x D σ M by_ T i p n t r kn) (F : Nat) : (¬ (4 ≤ tkK by_ T i ∧ tkK by_ T i ≤ 11) → ia_qr xs (ia_cal xs (d + 2)) im_Mod_line (F + 3) 0 [.ref a, .float 0, .float 0, .float 0, .float 0] [] (pM h a M) = some (none, pM h a (flM M 1 (tkP by_ T i)))) ∧ (∀ w, w < 8 → tkK by_ T i = 4 + w → ((w = 0 ∧ p = 6) ∨ (w = 1 ∧ t = 8) ∨ (w = 2 ∧ n = 6) ∨ (w = 3 ∧ r = 10) → ia_qr xs (ia_cal xs (d + 2)) im_Mod_line (F + 3) 0 [.ref a, .float 0, .float 0, .float 0, .float 0] [] (pM h a M) = some (none, pM h a (flM M 2 (tkP by_ T i)))) ∧ (¬ ((w = 0 ∧ p = 6) ∨ (w = 1 ∧ t = 8) ∨ (w = 2 ∧ n = 6) ∨ (w = 3 ∧ r = 10)) → ((4 ≤ w ∧ w ≤ 6 ∧ tB (M.1 2) w) → ia_qr xs (ia_cal xs (d + 2)) im_Mod_line (F + 3) 0 [.ref a, .float 0, .float 0, .float 0, .float 0] [] (pM h a M) = some (none, pM h a (flM M 3 (tkP by_ T i)))) ∧ (¬ (4 ≤ w ∧ w ≤ 6 ∧ tB (M.1 2) w) → ia_qr xs (ia_cal xs (d + 2)) im_Mod_line (F + 3) 0 [.ref a, .float 0, .float 0, .float 0, .float 0] [] (pM h a M) = ia_qr xs (ia_cal xs (d + 2)) im_Mod_line (F + 2) 39 [.ref a, .int (nI w), .float 0, .float 0, .float 0] [] (pM h a M)))) := by
  obtain ⟨hc, hb, ha, hs, hh, h7⟩ := hls
  obtain ⟨⟨hS, hw, hF, -⟩, ⟨m8, m9, m10, m11⟩, -⟩ := hh
  obtain ⟨h9, ⟨h5, h6, h7', h8⟩, hi, h10⟩ := hs
  have s0 := (sr_2 hb i).2.2
  have k38 := tk_lt hb.tk i
  have wg : ∀ k v, v = nI k → ia_cal xs (d + 2) im_Mod_wrong [.ref a, .int v] (pM h a M) = some (none, pM h a (flM M k (tkP by_ T i))) := fun k v hv => p_wrong xs (d + 1) h9 h6 hv
  have f39 : ∀ F k w, 1 ≤ k → k ≤ 5 → ia_qr xs (ia_cal xs (d + 2)) im_Mod_line (F + 1) 39 [.ref a, .int w, .float 0, .float 0, .float 0] [] (pM h a (flM M k (tkP by_ T i))) = some (none, pM h a (flM M k (tkP by_ T i))) := fun F k w hk hk5 => by
    rw [iq_Mod_line_39]
    simp only [↓pM_Ib]
    rw [if_neg (stM.n9 (st_fl (M := M) (by_ := by_) (T := T) (p := tkP by_ T i) hk hk5))]
  have rw7 : ∀ K, K < 25 → 4 ≤ K → (rwK K ≤ 7 ↔ K ≤ 11) ∧ (K ≤ 11 → rwK K = K - 4) := by decide +kernel
  rw [show F + 3 = F + 2 + 1 from rfl, iq_Mod_line_0]
  simp only [↓pM_Ib, h7']
  refine ⟨fun hno => ?_, fun w hw8 hkw => ?_⟩
  · have f7 : ia_qr xs (ia_cal xs (d + 2)) im_Mod_line (F + 2) 7 [.ref a, .float 0, .float 0, .float 0, .float 0] [] (pM h a M) = some (none, pM h a (flM M 1 (tkP by_ T i))) := by
      rw [show F + 2 = F + 1 + 1 from rfl, iq_Mod_line_7]
      simp only [↓pM_clsb, ↓cV_of (wg 1 1 rfl)]
    by_cases c0 : 4 ≤ tkK by_ T i ∧ tkK by_ T i < 25
    · have w := h8.2.2.1 c0.1 c0.2
      have r7 := (rw7 _ c0.2 c0.1).1
      have kw := (kw_w _ c0.2 c0.1).1
      rw [if_pos (s0.mpr c0), if_pos (show (7 : Int32) < M.1 8 by rw [w]; exact nI_lt (a := 7) (by omega) (by omega))]
      exact f7
    · rw [if_neg (fun z => c0 (s0.mp z))]
      exact f7
  · have c0 : 4 ≤ tkK by_ T i ∧ tkK by_ T i < 25 := by omega
    have wv := h8.2.2.1 c0.1 c0.2
    have rv : rwK (tkK by_ T i) = w := by rw [(rw7 _ c0.2 c0.1).2 (by omega)]; omega
    rw [rv] at wv
    have fu := p_isFull xs d (h := h) (a := a) (D := D) hb m8 m9 m10 m11 hS.2.2.1 hS.2.2.2.1 hF.2.2.1 hF.2.2.2.1 hw8
    rw [if_pos (s0.mpr c0), wv, if_neg (show ¬ (7 : Int32) < nI w from nI_nlt (a := 7) (by omega) (by decide))]
    simp only [↓pM_clsb, ↓cI_of fu]
    refine ⟨fun hf => ?_, fun hnf => ?_⟩
    · rw [if_pos hf, if_neg (show ¬ (1 : Int32) = 0 by decide), cV_of (wg 2 2 rfl)]
      exact f39 _ 2 _ (by decide) (by decide)
    · rw [if_neg hnf, if_pos rfl]
      refine ⟨fun ht => ?_, fun hnt => ?_⟩
      · rw [if_neg (show ¬ nI w < (4 : Int32) from nI_nlt (b := 4) (by omega) (by omega)), if_neg (show ¬ (6 : Int32) < nI w from nI_nlt (a := 6) (by omega) (by decide))]
        simp only [↓pM_Ib]
        rw [if_pos (show (M.1 2 >>> (nI w &&& 31)) &&& 1 = 1 from ht.2.2), cV_of (wg 3 3 rfl)]
        exact f39 _ 3 _ (by decide) (by decide)
      · by_cases c4 : w < 4
        · rw [if_pos (show nI w < (4 : Int32) from nI_lt (b := 4) c4 (by decide))]
        · rw [if_neg (show ¬ nI w < (4 : Int32) from nI_nlt (b := 4) (by omega) (by omega))]
          by_cases c6 : 6 < w
          · rw [if_pos (show (6 : Int32) < nI w from nI_lt (a := 6) c6 (by omega))]
          · rw [if_neg (show ¬ (6 : Int32) < nI w from nI_nlt (a := 6) (by omega) (by decide))]
            simp only [↓pM_Ib]
            rw [if_neg (show ¬ (M.1 2 >>> (nI w &&& 31)) &&& 1 = 1 from fun z => hnt ⟨by omega, by omega, z⟩)]
end HX1
