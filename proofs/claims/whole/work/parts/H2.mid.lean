/-! text: a whole line, in class and reference. -/
section HX2
variable (xs : List Int32) (d d' : Nat) {H h : ia_H} {x a : Nat} {D : aC} {σ : Bool} {M : aG} {by_ : Nat → Nat} {T i p n t r kn : Nat}
theorem LI_bad (hls : LnS x D σ M by_ T i p n t r kn) {k : Nat} (hk : 1 ≤ k) (hk5 : k ≤ 5) : LI x D σ M by_ T i 0 (k4 D (!σ) (tkA (D.1 6) by_ T i) (fB (D.1 3) k (tkP by_ T i)) (D.1 7) (D.1 (kL (!σ)))) (flM M k (tkP by_ T i)) := Or.inl ⟨rfl, k, tkP by_ T i, hk, hk5, FD_of hls, rsc_fl, rsc_fl.b hls.2.1, st_fl hk hk5⟩
theorem line_sim (hls : LnS x D σ M by_ T i p n t r kn) (h0 : tkK by_ T i ≠ 0) : ∃ rr D2 M2, ia_cal xs (d + 126) im_Reader_readLine [.ref (x + 53)] (tot H x D) = some (some (.int rr), tot H x D2) ∧ ia_cal xs (d' + 126) im_Mod_line [.ref a] (pM h a M) = some (none, pM h a M2) ∧ LI x D σ M by_ T i rr D2 M2 := by
  have hls' := hls
  obtain ⟨hc, hb, ha, hs, hh, h7⟩ := hls
  have hh' := hh
  obtain ⟨⟨hS, hw, hF, -⟩, -, -, -, -, -, rV, -⟩ := hh
  have k38 := tk_lt hc.tk i
  have hq : fx x D σ := hc.1
  have q0 : (D.1 6).1 0 = nI (tkK by_ T i) := by rw [ha]; rfl
  have ek : ∀ k, k < 100 → (nI (tkK by_ T i) = nI k ↔ tkK by_ T i = k) := fun k hk => nI_eq (by omega) (by omega)
  have wg := k_wrong xs (d + 124) (H := H) (x := x) (C := D) (σ := σ) (τ := !σ) (by_ := by_) (T := T) (i := i) (B := D.1 3) (E := D.1 7) (L := D.1 (kL (!σ))) (k4_fx hc.1 rfl) (k := 1) (v := 1) rfl
  rw [hls'.kk] at wg
  obtain ⟨pl1, pl2⟩ := p_line0 xs (d' + 123) (h := h) (a := a) hls' 999997
  rw [iu_Reader_readLine, show (1000000 : Nat) = 999998 + 1 + 1 from rfl, iq_Reader_readLine_0, iu_Mod_line]
  simp only [↓tQ_Rb hq, ↓tT_Ib, q0]
  have e40 : ∀ D', ia_qr xs (ia_cal xs (d + 125)) im_Reader_readLine (999998 + 1) 40 [.ref (x + 53), .int 0] [] (tot H x D') = some (some (.int 0), tot H x D') := fun D' => by
    rw [iq_Reader_readLine_40, if_pos rfl, ok0]
  -- a fault at once
  have bad : ∀ m k, 1 ≤ k → k ≤ 5 → ia_cal xs (d + 125) m [.ref (x + 53)] (tot H x D) = some (some (.int 0), tot H x (k4 D (!σ) (tkA (D.1 6) by_ T i) (fB (D.1 3) k (tkP by_ T i)) (D.1 7) (D.1 (kL (!σ))))) → ia_qr xs (ia_cal xs (d' + 125)) im_Mod_line 1000000 0 [.ref a, .float 0, .float 0, .float 0, .float 0] [] (pM h a M) = some (none, pM h a (flM M k (tkP by_ T i))) → ∃ rr D2 M2, (ia_cI (ia_cal xs (d + 125) m [.ref (x + 53)] (tot H x D)) fun x4 h3 => ia_qr xs (ia_cal xs (d + 125)) im_Reader_readLine (999998 + 1) 40 [.ref (x + 53), .int x4] [] h3) = some (some (.int rr), tot H x D2) ∧ ia_qr xs (ia_cal xs (d' + 125)) im_Mod_line 1000000 0 [.ref a, .float 0, .float 0, .float 0, .float 0] [] (pM h a M) = some (none, pM h a M2) ∧ LI x D σ M by_ T i rr D2 M2 := fun m k hk hk5 h1 h2 => by
    refine ⟨0, _, _, ?_, h2, LI_bad hls' hk hk5⟩
    rw [cI_of h1]
    exact e40 _
  have good : ∀ m w, (∃ rr D1 M1, ia_cal xs (d + 125) m [.ref (x + 53)] (tot H x D) = some (some (.int rr), tot H x D1) ∧ ia_qr xs (ia_cal xs (d' + 125)) im_Mod_line (999998 + 1) 39 [.ref a, .int (nI w), .float 0, .float 0, .float 0] [] (pM h a M) = ia_qr xs (ia_cal xs (d' + 125)) im_Mod_line 999998 200 [.ref a, .float 0, .float 0, .float 0, .float 0] [] (pM h a M1) ∧ MI x D σ M by_ T i rr D1 M1) → ia_qr xs (ia_cal xs (d' + 125)) im_Mod_line 1000000 0 [.ref a, .float 0, .float 0, .float 0, .float 0] [] (pM h a M) = ia_qr xs (ia_cal xs (d' + 125)) im_Mod_line (999998 + 1) 39 [.ref a, .int (nI w), .float 0, .float 0, .float 0] [] (pM h a M) → ∃ rr D2 M2, (ia_cI (ia_cal xs (d + 125) m [.ref (x + 53)] (tot H x D)) fun x4 h3 => ia_qr xs (ia_cal xs (d + 125)) im_Reader_readLine (999998 + 1) 40 [.ref (x + 53), .int x4] [] h3) = some (some (.int rr), tot H x D2) ∧ ia_qr xs (ia_cal xs (d' + 125)) im_Mod_line 1000000 0 [.ref a, .float 0, .float 0, .float 0, .float 0] [] (pM h a M) = some (none, pM h a M2) ∧ LI x D σ M by_ T i rr D2 M2 := fun m w hm h2 => by
    obtain ⟨rr, D1, M1, g1, g2, g3⟩ := hm
    obtain ⟨r2, D2, M2, e1, e2, e3⟩ := line_end xs (d + 118) (d' + 121) (H := H) (h := h) (a := a) hls' g3 999998 999996
    refine ⟨r2, D2, M2, ?_, (h2.trans g2).trans e2, e3⟩
    rw [cI_of g1]
    exact e1
  have fu : ∀ m, ((m = im_Reader_readMan ∧ p = 6) ∨ (m = im_Reader_readTone ∧ t = 8) ∨ (m = im_Reader_readPrice ∧ n = 6) ∨ (m = im_Reader_readRing ∧ r = 10)) → ia_cal xs (d + 125) m [.ref (x + 53)] (tot H x D) = some (some (.int 0), tot H x (k4 D (!σ) (tkA (D.1 6) by_ T i) (fB (D.1 3) 2 (tkP by_ T i)) (D.1 7) (D.1 (kL (!σ))))) := fun m hm => by
    have := c_full xs (d + 123) (H := H) (i := i) (B := D.1 3) (E := D.1 7) (L := D.1 (kL (!σ))) hc rfl hS hF hm
    rw [hls'.kk] at this
    exact this
  have to : ∀ m, ((m = im_Reader_readLines ∧ (D.1 (kS (!σ))).1 2 ≠ -1) ∨ (m = im_Reader_readTries ∧ (D.1 (kS (!σ))).1 3 ≠ -1) ∨ (m = im_Reader_readSeed ∧ (D.1 (kS (!σ))).1 4 ≠ -1)) → ia_cal xs (d + 125) m [.ref (x + 53)] (tot H x D) = some (some (.int 0), tot H x (k4 D (!σ) (tkA (D.1 6) by_ T i) (fB (D.1 3) 3 (tkP by_ T i)) (D.1 7) (D.1 (kL (!σ))))) := fun m hm => by
    have := c_told xs (d + 123) (H := H) (i := i) (B := D.1 3) (E := D.1 7) (L := D.1 (kL (!σ))) hc rfl hm
    rw [hls'.kk] at this
    exact this
  by_cases k4' : tkK by_ T i = 4
  · obtain ⟨z1, z2⟩ := pl2 0 (by decide) k4'
    rw [if_pos (show nI (tkK by_ T i) = (4 : Int32) from (ek 4 (by decide)).mpr k4')]
    simp only [↓tQ_clsb]
    by_cases c : p = 6
    · exact bad _ 2 (by decide) (by decide) (fu _ (Or.inl ⟨rfl, c⟩)) (z1 (Or.inl ⟨rfl, c⟩))
    · exact good _ 0 (mid_man xs (d + 116) (d' + 120) hls' (by have := hS.2.2.1; omega) h0 999998) ((z2 (by omega)).2 (by omega))
  · rw [if_neg (show ¬ nI (tkK by_ T i) = (4 : Int32) from fun z => k4' ((ek 4 (by decide)).mp z))]
    by_cases k5 : tkK by_ T i = 5
    · obtain ⟨z1, z2⟩ := pl2 1 (by decide) k5
      rw [if_pos (show nI (tkK by_ T i) = (5 : Int32) from (ek 5 (by decide)).mpr k5)]
      simp only [↓tQ_clsb]
      by_cases c : t = 8
      · exact bad _ 2 (by decide) (by decide) (fu _ (Or.inr (Or.inl ⟨rfl, c⟩))) (z1 (Or.inr (Or.inl ⟨rfl, c⟩)))
      · exact good _ 1 (mid_tone xs (d + 116) (d' + 119) hls' (by have := hF.2.2.1; omega) h0 999998) ((z2 (by omega)).2 (by omega))
    · rw [if_neg (show ¬ nI (tkK by_ T i) = (5 : Int32) from fun z => k5 ((ek 5 (by decide)).mp z))]
      by_cases k6 : tkK by_ T i = 6
      · obtain ⟨z1, z2⟩ := pl2 2 (by decide) k6
        rw [if_pos (show nI (tkK by_ T i) = (6 : Int32) from (ek 6 (by decide)).mpr k6)]
        simp only [↓tQ_clsb]
        by_cases c : n = 6
        · exact bad _ 2 (by decide) (by decide) (fu _ (Or.inr (Or.inr (Or.inl ⟨rfl, c⟩)))) (z1 (Or.inr (Or.inr (Or.inl ⟨rfl, c⟩))))
        · exact good _ 2 (mid_price xs (d + 116) (d' + 120) hls' (by have := hS.2.2.2.1; omega) h0 999998) ((z2 (by omega)).2 (by omega))
      · rw [if_neg (show ¬ nI (tkK by_ T i) = (6 : Int32) from fun z => k6 ((ek 6 (by decide)).mp z))]
        by_cases k7 : tkK by_ T i = 7
        · obtain ⟨z1, z2⟩ := pl2 3 (by decide) k7
          rw [if_pos (show nI (tkK by_ T i) = (7 : Int32) from (ek 7 (by decide)).mpr k7)]
          simp only [↓tQ_clsb]
          by_cases c : r = 10
          · exact bad _ 2 (by decide) (by decide) (fu _ (Or.inr (Or.inr (Or.inr ⟨rfl, c⟩)))) (z1 (Or.inr (Or.inr (Or.inr ⟨rfl, c⟩))))
          · exact good _ 3 (mid_ring xs (d + 116) (d' + 118) hls' (by have := hF.2.2.2.1; omega) h0 999998) ((z2 (by omega)).2 (by omega))
        · rw [if_neg (show ¬ nI (tkK by_ T i) = (7 : Int32) from fun z => k7 ((ek 7 (by decide)).mp z))]
          by_cases k8 : tkK by_ T i = 8
          · obtain ⟨z1, z2⟩ := pl2 4 (by decide) k8
            rw [if_pos (show nI (tkK by_ T i) = (8 : Int32) from (ek 8 (by decide)).mpr k8)]
            simp only [↓tQ_clsb]
            rcases rV.1 with ⟨v1, v2, v3⟩ | ⟨v1, v2, v3⟩
            · exact good _ 4 (mid_lines xs (d + 116) (d' + 120) hls' v1 h0 999998) ((z2 (by omega)).2 (fun z => v3 z.2.2))
            · exact bad _ 3 (by decide) (by decide) (to _ (Or.inl ⟨rfl, v1⟩)) ((z2 (by omega)).1 ⟨by decide, by decide, v3⟩)
          · rw [if_neg (show ¬ nI (tkK by_ T i) = (8 : Int32) from fun z => k8 ((ek 8 (by decide)).mp z))]
            by_cases k9 : tkK by_ T i = 9
            · obtain ⟨z1, z2⟩ := pl2 5 (by decide) k9
              rw [if_pos (show nI (tkK by_ T i) = (9 : Int32) from (ek 9 (by decide)).mpr k9)]
              simp only [↓tQ_clsb]
              rcases rV.2.1 with ⟨v1, v2, v3⟩ | ⟨v1, v2, v3⟩
              · exact good _ 5 (mid_tries xs (d + 116) (d' + 120) hls' v1 h0 999998) ((z2 (by omega)).2 (fun z => v3 z.2.2))
              · exact bad _ 3 (by decide) (by decide) (to _ (Or.inr (Or.inl ⟨rfl, v1⟩))) ((z2 (by omega)).1 ⟨by decide, by decide, v3⟩)
            · rw [if_neg (show ¬ nI (tkK by_ T i) = (9 : Int32) from fun z => k9 ((ek 9 (by decide)).mp z))]
              by_cases k10 : tkK by_ T i = 10
              · obtain ⟨z1, z2⟩ := pl2 6 (by decide) k10
                rw [if_pos (show nI (tkK by_ T i) = (10 : Int32) from (ek 10 (by decide)).mpr k10)]
                simp only [↓tQ_clsb]
                rcases rV.2.2 with ⟨v1, v3⟩ | ⟨v1, v3⟩
                · exact good _ 6 (mid_seed xs (d + 116) (d' + 120) hls' v1 h0 999998) ((z2 (by omega)).2 (fun z => v3 z.2.2))
                · exact bad _ 3 (by decide) (by decide) (to _ (Or.inr (Or.inr ⟨rfl, v1⟩))) ((z2 (by omega)).1 ⟨by decide, by decide, v3⟩)
              · rw [if_neg (show ¬ nI (tkK by_ T i) = (10 : Int32) from fun z => k10 ((ek 10 (by decide)).mp z))]
                by_cases k11 : tkK by_ T i = 11
                · obtain ⟨z1, z2⟩ := pl2 7 (by decide) k11
                  rw [if_pos (show nI (tkK by_ T i) = (11 : Int32) from (ek 11 (by decide)).mpr k11)]
                  simp only [↓tQ_clsb]
                  exact good _ 7 (mid_law xs (d + 116) d' hls' h0 999998) ((z2 (by omega)).2 (by omega))
                · rw [if_neg (show ¬ nI (tkK by_ T i) = (11 : Int32) from fun z => k11 ((ek 11 (by decide)).mp z))]
                  simp only [↓tQ_clsb]
                  refine ⟨0, _, _, ?_, pl1 (by omega), LI_bad hls' (by decide) (by decide)⟩
                  rw [cI_of wg]
                  exact e40 _
end HX2
