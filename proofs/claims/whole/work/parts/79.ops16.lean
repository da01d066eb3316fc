/-! shift, put together. -/
section O16
variable (xs : List Int32) (d : Nat) {H h : ia_H} {x a : Nat} {C : aC} {M : aG} {σ : Bool} {p n r t t0 q : Nat}
theorem lay_5 {f : Nat → Int32} {X : aW} {M0 : aG} (hn : ∀ Mi, smM M0 Mi → NWr X Mi t r p q) (hf : ∀ i, f i = fA X 5 i) (ht8 : t ≤ 8) :
    ∀ k i acc Mi, i + k = t → tbU f t 0 = acc ++ tbU f k i → smM M0 Mi → Mi.1 23 = nI acc.length → acc.length ≤ 3 → (∀ j, j < acc.length → rd (Mi.2.1 31) (nI j) = some (nI ((tbU f t 0).getD j 0))) → ∀ N, ∃ M' N', N ≤ N' ∧ smM M0 M' ∧ M'.1 23 = nI (min 3 (tbU f t 0).length) ∧ (∀ j, j < min 3 (tbU f t 0).length → rd (M'.2.1 31) (nI j) = some (nI ((tbU f t 0).getD j 0))) ∧ ia_qr xs (ia_cal xs (d + 18)) im_Mod_layShift (N + k + 1) 5 [.ref a, .int (nI i), .float 0] [] (pM h a Mi) = ia_qr xs (ia_cal xs (d + 18)) im_Mod_layShift N' 35 [.ref a, .float 0, .float 0] [] (pM h a M') := by
  intro k
  induction k with
  | zero =>
    intro i acc Mi hi hT hm h23 hl3 h31 N
    have e : i = t := by omega
    subst e
    have eT : tbU f i 0 = acc := by rw [hT, tbU, List.append_nil]
    have e3 : min 3 (tbU f i 0).length = acc.length := by rw [eT]; omega
    refine ⟨Mi, N, Nat.le_refl _, hm, by rw [e3, h23], by rw [e3]; exact h31, ?_⟩
    rw [iq_Mod_layShift_5]
    simp only [↓pM_Rb, ↓pM_ldb, ↓bs (d0_20 (hn Mi hm) hm.1), ↓if_n (nI_nlt (Nat.le_refl i) (show i < 2 ^ 31 by omega))]
  | succ k ih =>
    intro i acc Mi hi hT hm h23 hl3 h31 N
    have u5 : rd (Mi.2.1 26) (nI i) = some (fA X 5 i) := d0_t (hn Mi hm) hm.1 (k := 5) (by decide) (by decide) (by omega)
    rw [show N + (k + 1) + 1 = N + k + 1 + 1 from rfl, iq_Mod_layShift_5]
    simp only [↓pM_Rb, ↓pM_ldb, ↓bs (d0_20 (hn Mi hm) hm.1), ↓if_p (nI_lt (show i < t by omega) (show t < 2 ^ 31 by omega)), ↓pM_Ib, h23, ↓bs u5, nI_1]
    by_cases c3 : acc.length < 3
    · rw [if_pos (show nI acc.length < (3 : Int32) from nI_lt (b := 3) c3 (by decide))]
      by_cases c0 : fA X 5 i = 0
      · have l31 : (Mi.2.1 31).length = 3 := hm.1 31 (by decide)
        have w31 : wr (Mi.2.1 31) (nI acc.length) (nI i) = some ((Mi.2.1 31).set acc.length (nI i)) := wr_nI (by omega) (by omega)
        have eT : tbU f t 0 = (acc ++ [i]) ++ tbU f k (i + 1) := by
          rw [hT, tbU, if_pos (by rw [hf]; exact c0), List.append_assoc]; rfl
        have la : (acc ++ [i]).length = acc.length + 1 := by simp
        rw [if_pos c0]
        have j23 : (gA Mi 31 ((Mi.2.1 31).set acc.length (nI i))).1 23 = nI acc.length := h23
        simp only [↓pM_stb, ↓bs w31, ↓pM_Ib, j23, ↓pM_pfb, nI_1]
        refine ih (i + 1) (acc ++ [i]) _ (by omega) eT ((hm.a31 (by rw [List.length_set, l31])).i (by omega)) (by rw [la]; exact gI_s) (by omega) (fun j hj => ?_) (N + 1 - 1 + 0)
        show rd ((Mi.2.1 31).set acc.length (nI i)) (nI j) = _
        rw [la] at hj
        by_cases ej : j = acc.length
        · subst ej
          rw [rd_nI (by omega), List.getElem?_set_self (by omega), eT]
          simp
        · have := h31 j (by omega)
          rw [rd_nI (by omega)] at this ⊢
          rw [List.getElem?_set_ne (by omega)]
          exact this
      · rw [if_neg c0]
        exact ih (i + 1) acc Mi (by omega) (by rw [hT, tbU, if_neg (by rw [hf]; exact c0)]) hm h23 hl3 h31 N
    · have e3 : acc.length = 3 := by omega
      have l3 : min 3 (tbU f t 0).length = 3 := by rw [hT, List.length_append]; omega
      rw [if_neg (show ¬ nI acc.length < (3 : Int32) from nI_nlt (b := 3) (by omega) (by omega))]
      refine ⟨Mi, N + k + 1, by omega, hm, by rw [l3, h23, e3], ?_, rfl⟩
      rw [l3]
      rw [e3] at h31
      exact h31
/-- both try all plans -/
theorem sh_b (hR : Rp x C M σ p n r t t0 q) {g : Nat → Nat} {m : Nat} (hm3 : m ≤ 3) (hg : ∀ j, j < m → g j < t ∧ nthB (fA (C.2 1) 5) t 0 (nI j) = nI (g j)) (v3 : Int32) :
    ∀ k pl C1 Mi b g0, pl + k = 4 ^ m → scC C C1 σ → smM M Mi → Mi.1 23 = nI m → (∀ j, j < m → rd (Mi.2.1 31) (nI j) = some (nI (g j))) → ((pl = 0 ∧ g0 = nI 11 ∧ Mi.1 24 = -1) ∨ ∃ u, u ≤ 10 ∧ g0 = nI u ∧ Mi.1 24 = nI u ∧ Mi.1 25 = b) → ∀ N1 N2, 7 * k + 7 ≤ N1 → 7 * k + 7 ≤ N2 → ∃ C4 M4, scC C C4 σ ∧ smM M M4 ∧ M4.1 23 = nI m ∧ ia_qr xs (ia_cal xs (d + 18)) im_Foresight_bestShift N1 21 [.ref (x + 109), .ref (sd x σ), .ref (wA x 1), .int v3, .int (nI m), .int b, .int g0, .int (nI pl), .float 0, .float 0] [] (tot H x C1) = some (some (.int (if v3 = 3 then M4.1 24 else ((M4.1 25 >>> ((2 * ((nI m - 1) - v3)) &&& 31)) &&& 3))), tot H x C4) ∧ ia_qr xs (ia_cal xs (d + 18)) im_Mod_layShift N2 40 [.ref a, .int (nI pl), .float 0] [] (pM h a Mi) = some (none, pM h a M4) := by
  intro k
  have h64 : 4 ^ m ≤ 64 := Nat.le_trans (Nat.pow_le_pow_right (by decide) hm3) (by decide)
  have hX := hR.2.2.1.1
  induction k with
  | zero =>
    intro pl C1 Mi b g0 hpl hc hm h23 h31 hst N1 N2 hN1 hN2
    obtain ⟨N1, rfl⟩ : ∃ k, N1 = k + 1 := ⟨N1 - 1, by omega⟩
    obtain ⟨N2, rfl⟩ : ∃ k, N2 = k + 1 := ⟨N2 - 1, by omega⟩
    have hp : 0 < 4 ^ m := Nat.pow_pos (by decide)
    rcases hst with ⟨e, -⟩ | ⟨u, hu, e1, e2, e3⟩
    · omega
    · refine ⟨C1, Mi, hc, hm, h23, ?_, ?_⟩
      · have hlt : ia_cal xs (d + 18) im_Foresight_laterOf [.int b, .int (nI m), .int v3] (tot H x C1) = some (some (.int ((b >>> ((2 * ((nI m - 1) - v3)) &&& 31)) &&& 3)), tot H x C1) := by
          rw [iu_Foresight_laterOf, iq_Foresight_laterOf_0]
        rw [iq_Foresight_bestShift_21, sh_4 m hm3, if_n (nI_nlt (by omega) (by omega))]
        simp only [↓cI_of hlt, e1, e2, e3]
        by_cases c3 : v3 = 3
        · rw [if_pos c3, if_pos c3]
        · rw [if_neg c3, if_neg c3]
      · rw [iq_Mod_layShift_40]
        simp only [↓pM_Ib, h23, sh_4 m hm3, ↓if_n (nI_nlt (show 4 ^ m ≤ pl by omega) (show pl < 2 ^ 31 by omega))]
  | succ k ih =>
    intro pl C1 Mi b g0 hpl hc hm h23 h31 hst N1 N2 hN1 hN2
    obtain ⟨N1, rfl⟩ : ∃ k, N1 = k + 1 + m + 2 := ⟨N1 - (m + 3), by omega⟩
    obtain ⟨N2, rfl⟩ : ∃ k, N2 = k + 1 + m + 2 := ⟨N2 - (m + 3), by omega⟩
    have hR2 := hR.sc hR.sr hm
    obtain ⟨C4, g1, g2⟩ := sh_c xs d (H := H) hR hm3 hg v3 b g0 hc (show pl < 4 ^ m by omega)
    obtain ⟨M4, k1, k23, k24, k25, k31, k2⟩ := sh_r xs d (h := h) (a := a) hR2 hm3 (fun j hj => (hg j hj).1) h23 h31 (show pl < 4 ^ m by omega)
    have hN := shN_le (σ := σ) (n := n) (g := g) (m := m) (pl := pl) hX
    rw [g2 (N1 + 1), k2 (N2 + 1)]
    generalize shN C σ t r p n g m pl = w at *
    have new : ∃ C5 M5, scC C C5 σ ∧ smM M M5 ∧ M5.1 23 = nI m ∧ ia_qr xs (ia_cal xs (d + 18)) im_Foresight_bestShift (N1 + 1) 21 [.ref (x + 109), .ref (sd x σ), .ref (wA x 1), .int v3, .int (nI m), .int (nI pl), .int (nI w), .int (nI (pl + 1)), .float 0, .float 0] [] (tot H x C4) = some (some (.int (if v3 = 3 then M5.1 24 else ((M5.1 25 >>> ((2 * ((nI m - 1) - v3)) &&& 31)) &&& 3))), tot H x C5) ∧ ia_qr xs (ia_cal xs (d + 18)) im_Mod_layShift (N2 + 1) 106 [.ref a, .int (nI pl), .int (nI w)] [] (pM h a M4) = some (none, pM h a M5) := by
      rw [iq_Mod_layShift_106]
      simp only [↓pM_pfb, nI_1]
      exact ih (pl + 1) C4 _ (nI pl) (nI w) (by omega) g1 (((hm.trans k1).i (by omega)).i (by omega)) (by rw [gI_n (by decide), gI_n (by decide), k23, h23]) (by intro j hj; show rd (M4.2.1 31) (nI j) = _; rw [k31]; exact h31 j hj) (Or.inr ⟨w, hN, rfl, by rw [gI_n (by decide), gI_s], gI_s⟩) (N1 + 1) N2 (by omega) (by omega)
    rcases hst with ⟨e0, e1, e2⟩ | ⟨u, hu, e1, e2, e3⟩
    · rw [e1, if_pos (nI_lt (by omega) (by omega)), if_pos e2]
      exact new
    · have nm : ¬ nI u = -1 := by
        intro e
        have := congrArg Int32.toInt e
        rw [nI_toInt (by omega)] at this
        have e2 : (-1 : Int32).toInt = -1 := rfl
        omega
      rw [e1, e2, if_neg nm]
      by_cases c : nI w < nI u
      · rw [if_pos c, if_pos c]
        exact new
      · rw [if_neg c, if_neg c]
        exact ih (pl + 1) C4 _ b (nI u) (by omega) g1 (hm.trans k1) (by rw [k23, h23]) (by intro j hj; rw [k31]; exact h31 j hj) (Or.inr ⟨u, hu, rfl, by rw [k24, e2], by rw [k25, e3]⟩) (N1 + 1) (N2 + 1) (by omega) (by omega)
end O16
