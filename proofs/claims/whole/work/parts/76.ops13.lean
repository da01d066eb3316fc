/-! stop, put together. -/
section O13
variable (xs : List Int32) (d : Nat) {H h : ia_H} {x a : Nat} {C : aC} {M : aG} {σ : Bool} {p n r t t0 q : Nat}
theorem stop_r (hR : Rp x C M σ p n r t t0 q) {c A : Nat} (hc : c < r) (hc0 : fA (C.2 1) 10 c = 0) (hA : A < 256) : ∀ k s Mi N, s + k = A + 1 → smM M Mi → 12 * k + 1 ≤ N → ∃ M4, smM M M4 ∧ ia_qr xs (ia_cal xs (d + 19)) im_Mod_stop N 55 [.ref a, .int (nI c), .int (nI A), .int (oI (bN (stQ C σ t r p n c A) s)), .int (nI s), .float 0] [] (pM h a Mi) = some (some (.int (oI (bN (stQ C σ t r p n c A) (A + 1)))), pM h a M4) := by
  intro k
  have ht8 := hR.2.2.1.1.1.2.2.1
  induction k with
  | zero =>
    intro s Mi N hs hm hN
    obtain ⟨N, rfl⟩ : ∃ k, N = k + 1 := ⟨N - 1, by omega⟩
    have : s = A + 1 := by omega
    subst this
    refine ⟨Mi, hm, ?_⟩
    rw [iq_Mod_stop_55, if_p (nI_lt (by omega) (by omega))]
  | succ k ih =>
    intro s Mi N hs hm hN
    have hRi := hR.sc hR.sr hm
    have nA : ¬ nI A < nI s := nI_nlt (by omega) (by omega)
    obtain ⟨N, rfl⟩ : ∃ k, N = k + t + 2 + 1 := ⟨N - (t + 3), by omega⟩
    rw [iq_Mod_stop_55, if_n nA]
    by_cases c1 : (nI s &&& (nI A ^^^ -1)) = 0
    · rw [if_pos c1]
      -- what the set does, if it is tried
      have go : ∀ v3 b', (if qT (stS C σ t r p n c s) 99 1 = -2 then v3 else nI s) = oI b' → bN (stQ C σ t r p n c A) (s + 1) = b' → ∃ M4, smM M M4 ∧ ia_qr xs (ia_cal xs (d + 19)) im_Mod_stop (N + t + 2) 72 [.ref a, .int (nI c), .int (nI A), .int v3, .int (nI s), .float 0] [] (pM h a Mi) = some (some (.int (oI (bN (stQ C σ t r p n c A) (A + 1)))), pM h a M4) := by
        intro v3 b' e1 e2
        obtain ⟨M2, g1, g2⟩ := stop_s xs d (h := h) (a := a) (s := s) hRi hc hc0 (nI A) v3
        rw [g2 N, e1, ← e2]
        exact ih (s + 1) M2 N (by omega) (hm.trans g1) (by omega)
      rcases bN_ch (stQ C σ t r p n c A) s with ⟨h1, h2⟩ | ⟨b, h1, h2, h3, h4⟩
      · have e : bN (stQ C σ t r p n c A) (s + 1) = if stQ C σ t r p n c A s = true then some s else none := by rw [bN, h1]
        rw [h1, if_pos (show oI none < 0 by decide)]
        refine go (oI none) _ ?_ e
        by_cases c2 : qT (stS C σ t r p n c s) 99 1 = -2
        · rw [if_pos c2, if_neg (fun z => (of_decide_eq_true z).2 c2)]
        · rw [if_neg c2, if_pos (show stQ C σ t r p n c A s = true from decide_eq_true ⟨c1, c2⟩)]; rfl
      · have e : bN (stQ C σ t r p n c A) (s + 1) = if stQ C σ t r p n c A s = true ∧ pcN s 8 < pcN b 8 then some s else some b := by rw [bN, h1]
        have hb0 : ¬ oI (some b) < 0 := nI_pos (show b < 2 ^ 31 by omega)
        have p1 := pc_8 s (by omega)
        have p2 := pc_8 b (by omega)
        have eb : bsF (oI (some b)) 10 = nI (pcN b 8) := pc_bs b (by omega)
        rw [h1, if_neg hb0]
        simp only [↓cI_of (m_bitsOf xs (d + 18) _ _), pc_bs s (show s < 256 by omega), eb]
        by_cases c3 : pcN s 8 < pcN b 8
        · rw [if_pos (nI_lt c3 (by omega))]
          refine go (oI (some b)) _ ?_ e
          by_cases c2 : qT (stS C σ t r p n c s) 99 1 = -2
          · rw [if_pos c2, if_neg (fun z => (of_decide_eq_true z.1).2 c2)]
          · rw [if_neg c2, if_pos ⟨decide_eq_true ⟨c1, c2⟩, c3⟩]; rfl
        · rw [if_neg (nI_nlt (by omega) (by omega)), nI_1]
          have := ih (s + 1) Mi (N + t + 2) (by omega) hm (by omega)
          rw [e, if_neg (fun z => c3 z.2)] at this
          exact this
    · rw [if_neg c1, nI_1]
      have nq : ¬ stQ C σ t r p n c A s = true := fun z => c1 (of_decide_eq_true z).1
      have e : bN (stQ C σ t r p n c A) (s + 1) = bN (stQ C σ t r p n c A) s := by
        rw [bN]
        cases bN (stQ C σ t r p n c A) s with
        | none => exact if_neg nq
        | some b => exact if_neg (fun z => nq z.1)
      rw [← e]
      exact ih (s + 1) Mi (N + t + 2) (by omega) hm (by omega)
theorem op_stop (hR : Rp x C M σ p n r t t0 q) (v : Int32) : opI xs d H h x a C M im_Eng_stop im_Mod_stop [.int v] := by
  have hR0 := hR.t 0
  have hT := hR0.2.1
  have hs := hT.2.2.1
  have hn := hR0.2.2.1
  have hX := hn.1
  have hr10 := hX.1.2.2.2.1
  have ht8 := hX.1.2.2.1
  have hl := hs.1
  rw [opI, iu_Eng_stop, iq_Eng_stop_0, iu_Mod_stop, iq_Mod_stop_0]
  simp only [↓pM_pfb, ↓tN_clsb, ↓cI_of (e_isRing xs (d + 18) hR.1 hX.1 v), ↓pM_clsb, ↓cI_of (p_isCall xs (d + 18) hs v)]
  rcases inI_c v (show r < 2 ^ 31 by omega) with c0 | ⟨c0, c, hc, rfl⟩
  · exact ⟨-1, C, gI M 0 0, hR0.l, by rw [if_pos c0], by rw [if_pos c0]⟩
  have c1 : ¬ inI (nI c) r = 0 := by rw [c0]; decide
  have u10 : rd ((gI M 0 0).2.1 29) (nI c) = some (fA (C.2 1) 10 c) := d0_r hn hl (k := 10) (by decide) (by decide) hc
  obtain ⟨y6, y7, y8, y9, y10, -⟩ := hX.1.rr hc
  simp only [↓if_n c1, ↓tN_Rb hR.1, ↓tW_Rb (show 1 < 7 by decide), ↓tW_ldb (show 1 < 7 by decide), ↓bs y10, ↓bs y6, ↓pM_Rb, ↓pM_ldb, ↓bs u10, ↓tW_clsb (show 1 < 7 by decide)]
  by_cases a4 : fA (C.2 1) 10 c = 0
  rotate_left
  · exact ⟨-2, C, gI M 0 0, hR0.l, by rw [if_neg a4], by rw [if_neg a4]⟩
  rw [if_pos a4, if_pos a4]
  obtain ⟨A, hA, eA⟩ := lv_nI (st := fA (C.2 1) 5) (mn := fA (C.2 1) 2) (who := fA (C.2 1) 6 c) t ht8
  have hlv := w_livingTones xs (d + 18) (H := H) (x := x) (C := C) (k := 1) (by decide) hX.1 (fA (C.2 1) 6 c)
  have hpA := pc_8 A hA
  obtain ⟨C4, g1, g2⟩ := stop_c xs d (H := H) (A := A) hR hc hpA (pcN A 8 + 1) 0 C 999999 (by omega) hR.sr (by omega)
  have f10 : rd ((gI M 0 0).2.1 10) (nI c) = some (fA (C.2 1) 6 c) := by
    have := rdk (k := 10) (i := c) hl (by decide) (show c < 20 by omega) (by decide)
    rw [(hn.2.1 c hc).1] at this
    exact this
  have loop : ∀ k i N, i + k = t → 999000 + 2 * k + 1 ≤ N → ∃ N', 999000 ≤ N' ∧ ia_qr xs (ia_cal xs (d + 19)) im_Mod_stop N 20 [.ref a, .int (nI c), .int (lvF (fA (C.2 1) 5) (fA (C.2 1) 2) (fA (C.2 1) 6 c) i), .int (nI i), .float 0, .float 0] [] (pM h a (gI M 0 0)) = ia_qr xs (ia_cal xs (d + 19)) im_Mod_stop N' 55 [.ref a, .int (nI c), .int (nI A), .int (-2), .int (nI 0), .float 0] [] (pM h a (gI M 0 0)) := by
    intro k
    induction k with
    | zero =>
      intro i N hi hN
      obtain ⟨N, rfl⟩ : ∃ k, N = k + 1 := ⟨N - 1, by omega⟩
      have : i = t := by omega
      subst this
      refine ⟨N, by omega, ?_⟩
      rw [iq_Mod_stop_20]
      simp only [↓pM_Rb, ↓pM_ldb, ↓bs (d0_20 hn hl), ↓if_n (nI_nlt (Nat.le_refl i) (show i < 2 ^ 31 by omega)), eA]
      rfl
    | succ k ih =>
      intro i N hi hN
      obtain ⟨N, rfl⟩ : ∃ k, N = k + 1 + 1 := ⟨N - 2, by omega⟩
      have u2 : rd ((gI M 0 0).2.1 23) (nI i) = some (fA (C.2 1) 2 i) := d0_t hn hl (k := 2) (by decide) (by decide) (by omega)
      have u5 : rd ((gI M 0 0).2.1 26) (nI i) = some (fA (C.2 1) 5 i) := d0_t hn hl (k := 5) (by decide) (by decide) (by omega)
      have hn1 := ih (i + 1) N (by omega) (by omega)
      have hn2 := ih (i + 1) (N + 1) (by omega) (by omega)
      rw [lvF] at hn1 hn2
      have or0 : ∀ v : Int32, (v ||| 0) = v := fun v => Int32.or_zero
      rw [iq_Mod_stop_20]
      simp only [↓pM_Rb, ↓pM_ldb, ↓bs (d0_20 hn hl), ↓if_p (nI_lt (show i < t by omega) (show t < 2 ^ 31 by omega)), ↓bs u2, ↓bs u5, ↓bs f10, nI_1, iq_Mod_stop_46, or0]
      by_cases d1 : 1 < fA (C.2 1) 5 i
      · rw [if_pos d1]
        rw [if_neg (fun z => z.1 d1)] at hn1
        exact hn1
      · rw [if_neg d1]
        by_cases d2 : fA (C.2 1) 2 i = fA (C.2 1) 6 c
        · rw [if_pos d2]
          rw [if_neg (fun z => z.2 d2)] at hn1
          exact hn1
        · rw [if_neg d2]
          rw [if_pos ⟨d1, d2⟩] at hn2
          exact hn2
  obtain ⟨N', h1, h2⟩ := loop t 0 999999 (by omega) (by omega)
  obtain ⟨M4, k1, k2⟩ := stop_r xs d (h := h) (a := a) hR0 hc a4 hA (A + 1) 0 (gI M 0 0) N' (by omega) hR0.sm (by omega)
  have eqs := st_bN (stQ C σ t r p n c A) hA (fun s hs hq => sub_bit hA hs (of_decide_eq_true hq).1)
  refine ⟨oI (bN (stQ C σ t r p n c A) (A + 1)), C4, M4, (hR0.sc g1 k1).l, ?_, ?_⟩
  · rw [eqs] at g2
    simp only [↓cI_of hlv, ↓cI_of (k_bitCount xs (d + 18) (g := tot H x C) _), eA, pc_bc A hA]
    exact g2
  · exact h2.trans k2
end O13
