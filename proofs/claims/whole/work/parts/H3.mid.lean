/-! text: all lines, in class and reference. -/
def frE (D : aC) (σ : Bool) (D1 : aC) : Prop := (∀ k, k ≠ 3 → k ≠ 6 → k ≠ 7 → k ≠ kS (!σ) → k ≠ kL (!σ) → D1.1 k = D.1 k) ∧ (∀ k, k ≠ kF (!σ) → D1.2 k = D.2 k) ∧ (D1.1 3).2 = (D.1 3).2 ∧ (D1.1 6).2 = (D.1 6).2 ∧ (D1.1 6).1 3 = (D.1 6).1 3 ∧ (D1.1 (kS (!σ))).2.2.2.2 = (D.1 (kS (!σ))).2.2.2.2 ∧ ((D1.1 7).2.1 0).length = 72
theorem frD.e {D D1 : aC} {σ : Bool} (h : frD D σ D1) : frE D σ D1 := ⟨h.1, h.2.1, h.2.2.1, h.2.2.2.1, h.2.2.2.2.1, h.2.2.2.2.2.1, h.2.2.2.2.2.2.1⟩
theorem frE.tr {D D1 D2 : aC} {σ : Bool} (h : frE D σ D1) (h' : frE D1 σ D2) : frE D σ D2 := by
  obtain ⟨a1, a2, a3, a4, a5, a6, a7⟩ := h
  obtain ⟨b1, b2, b3, b4, b5, b6, b7⟩ := h'
  exact ⟨fun k h3 h6 h7 hS hL => (b1 k h3 h6 h7 hS hL).trans (a1 k h3 h6 h7 hS hL), fun k hk => (b2 k hk).trans (a2 k hk), b3.trans a3, b4.trans a4, b5.trans a5, b6.trans a6, b7⟩
theorem frE.bb {D D1 : aC} {σ : Bool} (h : frE D σ D1) : D1.1 0 = D.1 0 := h.1 0 (by decide) (by decide) (by decide) (Ne.symm (kS_n (ρ := !σ) (τ := !σ)).2.2.2.1) (Ne.symm (kL_n (τ := !σ)).2.2.2)
/-- linesRead counted up -/
def lnC (D : aC) (v : Int32) : aC := uG D 3 (gI (D.1 3) 2 v)
theorem lnC_k {D : aC} {v : Int32} {k : Nat} (h : k ≠ 3) : (lnC D v).1 k = D.1 k := uG_n h
theorem lnC_fr {D : aC} {σ : Bool} {v : Int32} (h : ((D.1 7).2.1 0).length = 72) : frE D σ (lnC D v) := by
  refine ⟨fun k h3 _ _ _ _ => uG_n h3, fun _ _ => rfl, ?_, by rw [lnC_k (by decide)], by rw [lnC_k (by decide)], by rw [lnC_k (kS_n (ρ := !σ) (τ := !σ)).2.1], by rw [lnC_k (by decide)]; exact h⟩
  show (gI (D.1 3) 2 v).2 = _
  rfl
theorem lnC_LS {x : Nat} {D : aC} {σ : Bool} {M : aG} {by_ : Nat → Nat} {T i p n t r kn : Nat} {v : Int32} (h : LnS x D σ M by_ T i p n t r kn) : LnS x (lnC D v) σ M by_ T i p n t r kn := by
  obtain ⟨⟨⟨f1, f2, f3, f4⟩, c2, c3, c4, c5⟩, hb, ha, hs, hh, h7⟩ := h
  have nS := kS_n (ρ := !σ) (τ := !σ)
  refine ⟨⟨⟨?_, ?_, ?_, fun ρ => ?_⟩, ?_, ?_, ?_, ?_⟩, ?_, ?_, hs, ?_, ?_⟩
  · rw [lnC_k (by decide)]; exact f1
  · exact f2
  · rw [lnC_k (by decide)]; exact f3
  · rw [lnC_k (kS_n (ρ := ρ) (τ := !σ)).2.1]; exact f4 ρ
  · rw [lnC_k (by decide)]; exact c2
  · rw [lnC_k (by decide)]; exact c3
  · rw [lnC_k (by decide)]; exact c4
  · rw [lnC_k (by decide)]; exact c5
  · rw [lnC_k (by decide)]; exact hb
  · rw [lnC_k (by decide)]; exact ha
  · rw [lnC_k nS.2.1, lnC_k (kL_n (τ := !σ)).2.1]; exact hh
  · rw [lnC_k (by decide)]; exact h7
def FE (D : aC) (σ : Bool) (k pl : Nat) (D1 : aC) : Prop := frE D σ D1 ∧ jkD σ D1 ∧ (D1.1 3).1 0 = nI k ∧ (D1.1 3).1 1 = nI pl
section HX3
variable (xs : List Int32) (d d' : Nat) {H h : ia_H} {x a : Nat} {σ : Bool} {by_ : Nat → Nat} {T : Nat}
theorem read_sim : ∀ m i (D : aC) (M : aG) p n t r kn c l F F', T - i ≤ m → LnS x D σ M by_ T i p n t r kn → c ≤ i → l ≤ i → (D.1 3).1 2 = nI l → M.1 3 = nI l → m + 2 ≤ F → 2 * m + 3 ≤ F' → ∃ rr D2 M2 G', ia_qr xs (ia_cal xs (d + 126)) im_Reader_read F 19 [.ref (x + 53), .float 0, .float 0, .int (nI c)] [] (tot H x D) = some (some (.int rr), tot H x D2) ∧ ia_qr xs (ia_cal xs (d' + 126)) im_Mod_text F' 76 [.ref a, .float 0, .float 0] [] (pM h a M) = ia_qr xs (ia_cal xs (d' + 126)) im_Mod_text (G' + 1) 86 [.ref a, .float 0, .float 0] [] (pM h a M2) ∧ rsc M M2 ∧ ((rr = 0 ∧ ∃ k pl, 1 ≤ k ∧ k ≤ 5 ∧ FE D σ k pl D2 ∧ bM (D.1 0) M2 by_ T ∧ stM M2 by_ T (.inl (k, pl))) ∨ (rr = 1 ∧ ∃ j p n t q kn l', LnS x D2 σ M2 by_ T j p n t q kn ∧ frE D σ D2 ∧ ((D2.1 3).1 0 = (D.1 3).1 0 ∧ (D2.1 3).1 1 = (D.1 3).1 1) ∧ l' ≤ 700 ∧ (D2.1 3).1 2 = nI l' ∧ M2.1 3 = nI l')) := by
  intro m
  induction m with
  | zero =>
    intro i D M p n t r kn c l F F' hm hls hci hli hl hl2 hF hF'
    obtain ⟨F, rfl⟩ : ∃ k, F = k + 1 := ⟨F - 1, by omega⟩
    obtain ⟨F', rfl⟩ : ∃ k, F' = k + 1 + 1 := ⟨F' - 2, by omega⟩
    have hls' := hls
    obtain ⟨hc, hb, ha, hs, hh, h7⟩ := hls
    have hT7 := hc.2.1.1
    have hiT := hs.2.2.1
    have k0 : tkK by_ T i = 0 := by
      by_cases c : tkK by_ T i = 0
      · exact c
      · have := hc.j i hiT c
        omega
    have q0 : (D.1 6).1 0 = nI (tkK by_ T i) := by rw [ha]; rfl
    have s4 : M.1 7 = 4 := by rw [hs.2.1.2.2.1, k0]; rfl
    refine ⟨1, D, M, F', ?_, ?_, rsc.r, Or.inr ⟨rfl, i, p, n, t, r, kn, l, hls', ⟨fun _ _ _ _ _ _ => rfl, fun _ _ => rfl, rfl, rfl, rfl, rfl, h7⟩, ⟨rfl, rfl⟩, by omega, hl, hl2⟩⟩
    · rw [iq_Reader_read_19, if_neg (show ¬ (700 : Int32) < nI c from nI_nlt (a := 700) (by omega) (by decide))]
      simp only [↓tQ_Rb hc.1, ↓tT_Ib, q0, k0, ↓if_p (show nI 0 = (0 : Int32) from rfl), ↓ok1]
    · rw [iq_Mod_text_76]
      simp only [↓pM_Ib, hs.1, s4]
      rw [if_pos trivial, if_pos trivial]
  | succ m ih =>
    intro i D M p n t r kn c l F F' hm hls hci hli hl hl2 hF hF'
    obtain ⟨F, rfl⟩ : ∃ k, F = k + 1 := ⟨F - 1, by omega⟩
    obtain ⟨F', rfl⟩ : ∃ k, F' = k + 1 + 1 := ⟨F' - 2, by omega⟩
    have hls' := hls
    obtain ⟨hc, hb, ha, hs, hh, h7⟩ := hls
    have hT7 := hc.2.1.1
    have hiT := hs.2.2.1
    have k38 := tk_lt hc.tk i
    have q0 : (D.1 6).1 0 = nI (tkK by_ T i) := by rw [ha]; rfl
    have sK := sr_K _ k38
    rw [iq_Reader_read_19, if_neg (show ¬ (700 : Int32) < nI c from nI_nlt (a := 700) (by omega) (by decide)), iq_Mod_text_76]
    simp only [↓tQ_Rb hc.1, ↓tT_Ib, q0, ↓pM_Ib, hs.1, hs.2.1.2.2.1, ↓ok1]
    rw [if_pos trivial]
    by_cases k0 : tkK by_ T i = 0
    · rw [if_pos (show nI (tkK by_ T i) = (0 : Int32) by rw [k0]; rfl), if_pos (show nI (srK (tkK by_ T i)) = (4 : Int32) by rw [k0]; rfl)]
      exact ⟨1, D, M, F', rfl, rfl, rsc.r, Or.inr ⟨rfl, i, p, n, t, r, kn, l, hls', ⟨fun _ _ _ _ _ _ => rfl, fun _ _ => rfl, rfl, rfl, rfl, rfl, h7⟩, ⟨rfl, rfl⟩, by omega, hl, hl2⟩⟩
    · rw [if_neg (show ¬ nI (tkK by_ T i) = (0 : Int32) from fun z => k0 ((nI_eq (b := 0) (by omega) (by decide)).mp z)), if_neg (show ¬ nI (srK (tkK by_ T i)) = (4 : Int32) from fun z => k0 (sK.2.2.2.2.1.mp ((nI_eq (b := 4) (by omega) (by decide)).mp z)))]
      obtain ⟨rr, D2, M2, g1, g2, g3⟩ := line_sim xs d d' (H := H) (h := h) (a := a) hls' k0
      simp only [↓tQ_clsb, ↓cI_of g1, ↓pM_clsb, ↓cV_of g2, ↓ok0]
      rcases g3 with ⟨e1, k, pl, e2, e3, ⟨e4, e5, e6, e7⟩, e8, e9, e10⟩ | ⟨e1, j, p', n', t', q', kn', e2, e3, e4, e5, e6, e7⟩
      · rw [e1, if_pos rfl]
        refine ⟨0, D2, M2, F' - 1, rfl, ?_, e8, Or.inl ⟨rfl, k, pl, e2, e3, ⟨e4.e, e5, e6, e7⟩, e9, e10⟩⟩
        obtain ⟨F', rfl⟩ : ∃ k, F' = k + 1 := ⟨F' - 1, by omega⟩
        rw [iq_Mod_text_76]
        simp only [↓pM_Ib]
        rw [if_neg e10.n9]
        rfl
      · rw [e1, if_neg (show ¬ (1 : Int32) = 0 by decide)]
        have l2 : (D2.1 3).1 2 = nI l := e6.2.2.2.2.2.2.2.trans hl
        simp only [↓tQ_Ib, l2, ↓tQ_pfb, nI_1]
        have hls2 : LnS x (lnC D2 (nI (l + 1))) σ M2 by_ T j p' n' t' q' kn' := lnC_LS e3
        have hjT := e3.2.2.2.1.2.2.1
        obtain ⟨rr2, D3, M3, G', f1, f2, f3, f4⟩ := ih j (lnC D2 (nI (l + 1))) M2 p' n' t' q' kn' (c + 1) (l + 1) F (F' + 1) (by omega) hls2 (by omega) (by omega) rfl (by rw [e5, hl2]; exact nI_add l 1) (by omega) (by omega)
        refine ⟨rr2, D3, M3, G', f1, f2, e4.t f3, ?_⟩
        have fr2 : frE D σ (lnC D2 (nI (l + 1))) := e6.e.tr (lnC_fr e3.2.2.2.2.2)
        rcases f4 with ⟨z1, k, pl, z2, z3, ⟨z4, z5, z6, z7⟩, z8, z9⟩ | ⟨z1, j2, p2, n2, t2, q2, kn2, l', z2, z3, zq, z4, z5, z6⟩
        · refine Or.inl ⟨z1, k, pl, z2, z3, ⟨fr2.tr z4, z5, z6, z7⟩, ?_, z9⟩
          rw [← fr2.bb]; exact z8
        · exact Or.inr ⟨z1, j2, p2, n2, t2, q2, kn2, l', z2, fr2.tr z3, ⟨zq.1.trans e7.1, zq.2.trans e7.2⟩, z4, z5, z6⟩
end HX3
