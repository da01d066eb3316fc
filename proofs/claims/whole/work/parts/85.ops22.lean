/-! rests, rest. -/
def gnF (vain pence mine theirs : Int32) : Int32 := if mine = 0 then (if theirs = 0 then vain / 2 - pence else vain - pence) else if theirs = 0 then -(vain / 4) else 0
def irF (v w pe ch : Int32) : Int32 := if gnF v pe (ch >>> ((1 : Int32) &&& 31)) (ch &&& 1) < gnF v pe ((1 : Int32) - (ch >>> ((1 : Int32) &&& 31))) (ch &&& 1) then 0 else if gnF w pe (ch &&& 1) (ch >>> ((1 : Int32) &&& 31)) < gnF w pe ((1 : Int32) - (ch &&& 1)) (ch >>> ((1 : Int32) &&& 31)) then 0 else 1
theorem ch_4 : ∀ j, j < 4 → nI j / (2 : Int32) = nI j >>> ((1 : Int32) &&& 31) ∧ nI j - (nI j >>> ((1 : Int32) &&& 31)) * (2 : Int32) = nI j &&& (1 : Int32) := by decide +kernel
section O22
variable (xs : List Int32) (d : Nat) {H h : ia_H} {x a : Nat} {C : aC} {M M' : aG} {σ : Bool} {p n r t t0 q : Nat}
theorem k_gain (v0 v1 v2 v3 : Int32) (g : ia_H) : ia_cal xs (d + 1) im_Eng_gain [.int v0, .int v1, .int v2, .int v3] g = some (some (.int (gnF v0 v1 v2 v3)), g) := by
  rw [iu_Eng_gain, iq_Eng_gain_0, if_neg (show ¬ (2 : Int32) = 0 by decide), if_neg (show ¬ (4 : Int32) = 0 by decide)]
  unfold gnF
  by_cases c : v2 = 0
  · rw [if_pos c, if_pos c]
    by_cases c3 : v3 = 0
    · rw [if_pos c3, if_pos c3]
    · rw [if_neg c3, if_neg c3]
  · rw [if_neg c, if_neg c]
    by_cases c3 : v3 = 0
    · rw [if_pos c3, if_pos c3]
    · rw [if_neg c3, if_neg c3]
theorem e_isRest (hR : Rp x C M σ p n r t t0 q) {u v : Nat} (hu : u < p) (hv : v < p) (ch : Int32) : ia_cal xs (d + 2) im_Eng_isRest [.ref x, .int (nI u), .int (nI v), .int ch] (tot H x C) = some (some (.int (irF (fG (C.1 (kS σ)) 1 u) (fG (C.1 (kS σ)) 1 v) (prF (fG (C.1 (kS σ)) 2) (fG (C.1 (kS σ)) 3) ((C.2 1).1 0) n).2 ch)), tot H x C) := by
  have hT := hR.2.1
  have hp6 := hR.2.2.1.1.2.1
  have r1 : rd ((C.1 (kS σ)).2.1 1) (nI u) = some (fG (C.1 (kS σ)) 1 u) := rdG (by rw [hT.1.2.2.2.2.2.1]; omega) (by rw [hT.1.2.2.2.2.2.1]; decide)
  have r2 : rd ((C.1 (kS σ)).2.1 1) (nI v) = some (fG (C.1 (kS σ)) 1 v) := rdG (by rw [hT.1.2.2.2.2.2.1]; omega) (by rw [hT.1.2.2.2.2.2.1]; decide)
  rw [iu_Eng_isRest, iq_Eng_isRest_0]
  simp only [↓tN_Rb hR.1, ↓tW_Ib (show 1 < 7 by decide), ↓tS_clsb, ↓cI_of (t_priceAt xs d (H := H) (x := x) hT.1 _), ↓tS_Rb hR.1, ↓tS_ldb, ↓bs r1, ↓bs r2, ↓cI_of (k_gain xs d _ _ _ _ _), ↓ok0, ↓ok1]
  unfold irF
  split
  · rfl
  · split <;> rfl
theorem p_hasOf {S L : aG} {X : aW} (hs : rsM M S L r p n) (hn : NWr X M t r p q) {u : Nat} (hu : u < p) (v2 v3 : Int32) : ia_cal xs (d + 2) im_Mod_hasOf [.ref a, .int (nI u), .int v2, .int v3] (pM h a M) = some (some (.int (gnF (fG S 1 u) (prF (fG S 2) (fG S 3) (X.1 0) n).2 v2 v3)), pM h a M) := by
  have hl := hs.1
  have hp6 := hn.1.2.1
  have r3 : rd (M.2.1 3) (nI u) = some (fG S 1 u) := by rw [rdk hl (by decide) (by show u < 12; omega) (by decide), hs.2.2.2.2.2.2.2.1 u hu]
  rw [iu_Mod_hasOf, iq_Mod_hasOf_0]
  simp only [↓pM_Rb, ↓pM_ldb, ↓bs r3, ↓bs (d0_18 hn hl), ↓pM_clsb, ↓cI_of (p_priceAt xs d hs _), ↓if_n (show ¬ (2 : Int32) = 0 by decide), ↓if_n (show ¬ (4 : Int32) = 0 by decide)]
  unfold gnF
  by_cases c : v2 = 0
  · rw [if_pos c, if_pos c]
    by_cases c3 : v3 = 0
    · rw [if_pos c3, if_pos c3]
    · rw [if_neg c3, if_neg c3]
  · rw [if_neg c, if_neg c]
    by_cases c3 : v3 = 0
    · rw [if_pos c3, if_pos c3]
    · rw [if_neg c3, if_neg c3]
theorem p_isRest {S L : aG} {X : aW} (hs : rsM M S L r p n) (hn : NWr X M t r p q) {u v : Nat} (hu : u < p) (hv : v < p) {j : Nat} (hj : j < 4) : ia_cal xs (d + 3) im_Mod_isRest [.ref a, .int (nI u), .int (nI v), .int (nI j)] (pM h a M) = some (some (.int (irF (fG S 1 u) (fG S 1 v) (prF (fG S 2) (fG S 3) (X.1 0) n).2 (nI j))), pM h a M) := by
  obtain ⟨e1, e2⟩ := ch_4 j hj
  rw [iu_Mod_isRest, iq_Mod_isRest_0]
  simp only [↓if_n (show ¬ (2 : Int32) = 0 by decide), ↓pM_clsb, e1, e2, ↓cI_of (p_hasOf xs d hs hn hu _ _), ↓cI_of (p_hasOf xs d hs hn hv _ _), ↓ok0, ↓ok1]
  unfold irF
  split
  · rfl
  · split <;> rfl
theorem e_rivals (hR : Rp x C M σ p n r t t0 q) (v1 v2 : Int32) : ia_cal xs (d + 2) im_Eng_areRivals [.ref x, .int v1, .int v2] (tot H x C) = some (some (.int (if inI v1 p = 0 then 0 else if inI v2 p = 0 then 0 else if v1 = v2 then 0 else 1)), tot H x C) := by
  rw [iu_Eng_areRivals, iq_Eng_areRivals_0]
  simp only [↓tN_clsb, ↓cI_of (e_isPerson xs d hR.1 hR.2.1.1 _), ↓ok0, ↓ok1]
  split
  · rfl
  · split
    · rfl
    · split <;> rfl
theorem p_two {S L : aG} (hs : rsM M S L r p n) (v1 v2 : Int32) : ia_cal xs (d + 2) im_Mod_areTwo [.ref a, .int v1, .int v2] (pM h a M) = some (some (.int (if inI v1 p = 0 then 0 else if inI v2 p = 0 then 0 else if v1 = v2 then 0 else 1)), pM h a M) := by
  rw [iu_Mod_areTwo, iq_Mod_areTwo_0]
  simp only [↓pM_clsb, ↓cI_of (p_isMan xs d hs _), ↓ok0, ↓ok1]
  split
  · rfl
  · split
    · rfl
    · split <;> rfl
theorem rv_c (v1 v2 : Int32) (hp : p < 2 ^ 31) : (if inI v1 p = 0 then (0 : Int32) else if inI v2 p = 0 then 0 else if v1 = v2 then 0 else 1) = 0 ∨ ((if inI v1 p = 0 then (0 : Int32) else if inI v2 p = 0 then 0 else if v1 = v2 then 0 else 1) = 1 ∧ ∃ u v, u < p ∧ v < p ∧ v1 = nI u ∧ v2 = nI v) := by
  rcases inI_c v1 hp with c | ⟨c, u, hu, e⟩
  · exact Or.inl (if_pos c)
  · rw [if_neg (by rw [c]; decide)]
    rcases inI_c v2 hp with c2 | ⟨c2, w, hw, e2⟩
    · exact Or.inl (if_pos c2)
    · rw [if_neg (by rw [c2]; decide)]
      by_cases c3 : v1 = v2
      · exact Or.inl (if_pos c3)
      · exact Or.inr ⟨if_neg c3, u, w, hu, hw, e, e2⟩
theorem op_rests (hR : Rp x C M σ p n r t t0 q) (v1 v2 : Int32) : opI xs d H h x a C M im_Eng_rests im_Mod_rests [.int v1, .int v2] := by
  have hR0 := hR.t 0
  have hs := hR0.2.1.2.2.1
  have hn := hR0.2.2.1
  have hp6 := hn.1.2.1
  rw [opI, iu_Eng_rests, iq_Eng_rests_0, iu_Mod_rests, iq_Mod_rests_0]
  simp only [↓pM_pfb, ↓tN_clsb, ↓pM_clsb, ↓cI_of (e_rivals xs (d + 17) hR v1 v2), ↓cI_of (p_two xs (d + 17) hs v1 v2)]
  rcases rv_c v1 v2 (show p < 2 ^ 31 by omega) with c | ⟨c, u, w, hu, hw, rfl, rfl⟩
  · exact ⟨-1, C, gI M 0 0, hR0.l, by rw [if_pos c], by rw [if_pos c]⟩
  rw [c, if_neg (show ¬ (1 : Int32) = 0 by decide), if_neg (show ¬ (1 : Int32) = 0 by decide)]
  have e0 : ∀ j, j < 4 → nI j < (4 : Int32) := fun j hj => nI_lt (b := 4) hj (by decide)
  have key : ∀ k j s N1 N2, j + k = 4 → s ≤ j → k + 1 ≤ N1 → k + 1 ≤ N2 → ∃ v, ia_qr xs (ia_cal xs (d + 19)) im_Eng_rests N1 11 [.ref x, .int (nI u), .int (nI w), .int (nI s), .int (nI j)] [] (tot H x C) = some (some (.int v), tot H x C) ∧ ia_qr xs (ia_cal xs (d + 18)) im_Mod_restOf N2 4 [.ref a, .int (nI u), .int (nI w), .int (-1), .int (nI s), .int (nI j)] [] (pM h a (gI M 0 0)) = some (some (.int v), pM h a (gI M 0 0)) := by
    intro k
    induction k with
    | zero =>
      intro j s N1 N2 hj hs' hN1 hN2
      obtain ⟨N1, rfl⟩ : ∃ k, N1 = k + 1 := ⟨N1 - 1, by omega⟩
      obtain ⟨N2, rfl⟩ : ∃ k, N2 = k + 1 := ⟨N2 - 1, by omega⟩
      have n4 : ¬ nI j < (4 : Int32) := nI_nlt (b := 4) (by omega) (by omega)
      refine ⟨nI s, ?_, ?_⟩
      · rw [iq_Eng_rests_11, if_n n4]
      · rw [iq_Mod_restOf_4, if_n n4, if_pos rfl]
    | succ k ih =>
      intro j s N1 N2 hj hs' hN1 hN2
      obtain ⟨N1, rfl⟩ : ∃ k, N1 = k + 1 := ⟨N1 - 1, by omega⟩
      obtain ⟨N2, rfl⟩ : ∃ k, N2 = k + 1 := ⟨N2 - 1, by omega⟩
      have nm : ¬ nI s = -1 := by
        intro e
        have := congrArg Int32.toInt e
        rw [nI_toInt (by omega)] at this
        have e2 : (-1 : Int32).toInt = -1 := rfl
        omega
      rw [iq_Eng_rests_11, iq_Mod_restOf_4]
      simp only [↓if_p (e0 j (by omega)), ↓tN_clsb, ↓pM_clsb, ↓cI_of (e_isRest xs (d + 17) hR hu hw _), ↓cI_of (p_isRest xs (d + 15) hs hn hu hw (show j < 4 by omega)), nI_1]
      by_cases c2 : irF (fG (C.1 (kS σ)) 1 u) (fG (C.1 (kS σ)) 1 w) (prF (fG (C.1 (kS σ)) 2) (fG (C.1 (kS σ)) 3) ((C.2 1).1 0) n).2 (nI j) = 0
      · rw [if_pos c2, if_pos c2]
        exact ih (j + 1) s N1 N2 (by omega) (by omega) (by omega) (by omega)
      · rw [if_neg c2, if_neg c2, if_neg nm]
        exact ih (j + 1) (s + 1) N1 N2 (by omega) (by omega) (by omega) (by omega)
  obtain ⟨v, k1, k2⟩ := key 4 0 0 999999 999999 (by omega) (by omega) (by omega) (by omega)
  have k3 : ia_cal xs (d + 19) im_Mod_restOf [.ref a, .int (nI u), .int (nI w), .int (-1)] (pM h a (gI M 0 0)) = some (some (.int v), pM h a (gI M 0 0)) := by
    rw [iu_Mod_restOf, iq_Mod_restOf_0]
    exact k2
  exact ⟨v, C, gI M 0 0, hR0.l, k1, by simp only [↓cI_of k3]⟩
theorem op_rest (hR : Rp x C M σ p n r t t0 q) (v1 v2 v3 : Int32) : opI xs d H h x a C M im_Eng_rest im_Mod_rest [.int v1, .int v2, .int v3] := by
  have hR0 := hR.t 0
  have hs := hR0.2.1.2.2.1
  have hn := hR0.2.2.1
  have hp6 := hn.1.2.1
  rw [opI, iu_Eng_rest, iq_Eng_rest_0, iu_Mod_rest, iq_Mod_rest_0]
  simp only [↓pM_pfb, ↓tN_clsb, ↓pM_clsb, ↓cI_of (e_rivals xs (d + 17) hR v1 v2), ↓cI_of (p_two xs (d + 17) hs v1 v2)]
  rcases rv_c v1 v2 (show p < 2 ^ 31 by omega) with c | ⟨c, u, w, hu, hw, rfl, rfl⟩
  · exact ⟨-1, C, gI M 0 0, hR0.l, by rw [if_pos c], by rw [if_pos c]⟩
  rw [c, if_neg (show ¬ (1 : Int32) = 0 by decide), if_neg (show ¬ (1 : Int32) = 0 by decide)]
  by_cases a3 : v3 < 0
  · exact ⟨-1, C, gI M 0 0, hR0.l, by rw [if_pos a3], by rw [if_pos a3]⟩
  rw [if_neg a3, if_neg a3]
  obtain ⟨z, hz, rfl⟩ := nI_of a3
  have e0 : ∀ j, j < 4 → nI j < (4 : Int32) := fun j hj => nI_lt (b := 4) hj (by decide)
  have nm : ¬ nI z = -1 := by
    intro e
    have := congrArg Int32.toInt e
    rw [nI_toInt hz] at this
    have e2 : (-1 : Int32).toInt = -1 := rfl
    omega
  have key : ∀ k j s l N1 N2, j + k = 4 → s + l = z → s ≤ j → k + 1 ≤ N1 → k + 1 ≤ N2 → ∃ v, ia_qr xs (ia_cal xs (d + 19)) im_Eng_rest N1 13 [.ref x, .int (nI u), .int (nI w), .float 0, .int (nI l), .int (nI j)] [] (tot H x C) = some (some (.int v), tot H x C) ∧ ia_qr xs (ia_cal xs (d + 18)) im_Mod_restOf N2 4 [.ref a, .int (nI u), .int (nI w), .int (nI z), .int (nI s), .int (nI j)] [] (pM h a (gI M 0 0)) = some (some (.int v), pM h a (gI M 0 0)) := by
    intro k
    induction k with
    | zero =>
      intro j s l N1 N2 hj hsl hs' hN1 hN2
      obtain ⟨N1, rfl⟩ : ∃ k, N1 = k + 1 := ⟨N1 - 1, by omega⟩
      obtain ⟨N2, rfl⟩ : ∃ k, N2 = k + 1 := ⟨N2 - 1, by omega⟩
      have n4 : ¬ nI j < (4 : Int32) := nI_nlt (b := 4) (by omega) (by omega)
      refine ⟨-2, ?_, ?_⟩
      · rw [iq_Eng_rest_13, if_n n4]
      · rw [iq_Mod_restOf_4, if_n n4, if_neg nm]
    | succ k ih =>
      intro j s l N1 N2 hj hsl hs' hN1 hN2
      obtain ⟨N1, rfl⟩ : ∃ k, N1 = k + 1 := ⟨N1 - 1, by omega⟩
      obtain ⟨N2, rfl⟩ : ∃ k, N2 = k + 1 := ⟨N2 - 1, by omega⟩
      obtain ⟨e1, e2⟩ := ch_4 j (by omega)
      rw [iq_Eng_rest_13, iq_Mod_restOf_4]
      simp only [↓if_p (e0 j (by omega)), ↓tN_clsb, ↓pM_clsb, ↓cI_of (e_isRest xs (d + 17) hR hu hw _), ↓cI_of (p_isRest xs (d + 15) hs hn hu hw (show j < 4 by omega)), nI_1, ↓if_n (show ¬ (2 : Int32) = 0 by decide), e1, e2]
      by_cases c2 : irF (fG (C.1 (kS σ)) 1 u) (fG (C.1 (kS σ)) 1 w) (prF (fG (C.1 (kS σ)) 2) (fG (C.1 (kS σ)) 3) ((C.2 1).1 0) n).2 (nI j) = 0
      · rw [if_pos c2, if_pos c2]
        exact ih (j + 1) s l N1 N2 (by omega) hsl (by omega) (by omega) (by omega)
      · rw [if_neg c2, if_neg c2]
        cases l with
        | zero =>
          rw [if_pos (show nI 0 = 0 from rfl), if_pos (show nI s = nI z by rw [← hsl]; rfl)]
          exact ⟨_, rfl, rfl⟩
        | succ l =>
          rw [if_neg (nI_ne0 (by omega) (by omega)), if_neg (show ¬ nI s = nI z from fun e => by have := (nI_eq (by omega) hz).mp e; omega), pk_m1]
          exact ih (j + 1) (s + 1) l N1 N2 (by omega) (by omega) (by omega) (by omega) (by omega)
  obtain ⟨v, k1, k2⟩ := key 4 0 0 z 999999 999999 (by omega) (by omega) (by omega) (by omega) (by omega)
  have k3 : ia_cal xs (d + 19) im_Mod_restOf [.ref a, .int (nI u), .int (nI w), .int (nI z)] (pM h a (gI M 0 0)) = some (some (.int v), pM h a (gI M 0 0)) := by
    rw [iu_Mod_restOf, iq_Mod_restOf_0]
    exact k2
  exact ⟨v, C, gI M 0 0, hR0.l, k1, by simp only [↓cI_of k3]⟩
end O22
