/-! text: what holds once a text was taken over. -/
/-- what the class does at the end -/
def nwC (D : aC) (σ : Bool) (x : Nat) : aC := uG (uG (uG (uW (uG (uG D 3 (gR (D.1 3) 0 (sd x σ))) 0 (gR (D.1 0) 0 (sd x (!σ)))) 1 (D.2 (kF (!σ)))) 15 (gI (gI (D.1 15) 0 0) 1 (-1))) 16 (gI (D.1 16) 0 0)) 0 (gI (gR (D.1 0) 0 (sd x (!σ))) 1 0)
def nwM (M : aG) (F : aW) : aG := mz (enM M) 0 (stW (enM M) F) ((enM M).1 22) ((enM M).1 15) ((enM M).2.2.2.1 0, (enM M).2.2.2.1 1)
section IX0
variable {x : Nat} {C D : aC} {σ : Bool} {M M0 : aG} {p n r t t0 q p' n' r' t' kn : Nat} {S L : aG} {F : aW}
theorem en_f (hl : lnM M) {k i : Nat} (h1 : 1 ≤ k) (h2 : k ≤ 17) (hi : i < mlen k / 2) : fG (enM M) k i = fG M k (mlen k / 2 + i) := hv_g (M := gI (gI M 11 (M.1 9)) 12 (M.1 10)) hl h1 h2 hi
theorem en_ln (hl : lnM M) : lnM (enM M) := hv_ln (M := gI (gI M 11 (M.1 9)) 12 (M.1 10)) hl 17
theorem en_r {k : Nat} (h : 17 < k) : (enM M).2.1 k = M.2.1 k := by
  show (if 1 ≤ k ∧ k ≤ 17 then _ else M.2.1 k) = _
  rw [if_neg (by omega)]
/-- the desk as the text tells it is the world that the class has read -/
theorem en_ag (hl : lnM M) (h : hR S L F M p n t r kn) : agW (stW (enM M) F) F t r p := by
  obtain ⟨⟨hS, hw, hF, hf0, hf1, hf2, hpc, hvp⟩, ⟨m8, m9, m10, m11⟩, rP, rN, rT, rC, rV, rL⟩ := h
  have hp6 := hS.2.2.1
  have ht8 := hF.2.2.1
  have hr10 := hF.2.2.2.1
  have e0 : fG (enM M) 1 0 = nI p := by rw [en_f hl (by decide) (by decide) (by decide)]; exact m8
  have e1 : fG (enM M) 1 1 = nI t := by rw [en_f hl (by decide) (by decide) (by decide)]; exact m9
  have e3 : fG (enM M) 1 3 = nI r := by rw [en_f hl (by decide) (by decide) (by decide)]; exact m11
  have lw1 : ∀ k, k < 2 → lenW k = 6 := fun k hk => by unfold lenW; rw [if_pos hk]
  have lw2 : ∀ k, 2 ≤ k → k < 6 → lenW k = 8 := fun k h1 h2 => by unfold lenW; rw [if_neg (by omega), if_pos h2]
  have lw3 : ∀ k, 6 ≤ k → lenW k = 10 := fun k h1 => by unfold lenW; rw [if_neg (by omega), if_neg (by omega)]
  refine ⟨hf0.symm, hf1.symm, fun k hk i hi => ?_, fun k k1 k2 i hi => ?_, fun k k1 k2 i hi => ?_⟩
  · rw [stW_f (by omega) (by omega) (by rw [lw1 k hk]; omega)]
    unfold stg
    rw [e0]
    by_cases c : k = 0
    · rw [if_pos c, if_pos (nI_lt hi (by omega)), en_f (k := 4) (i := i) hl (by decide) (by decide) (by show i < 6; omega), c]
      exact (rP i hi).2.2
    · rw [if_neg c, if_neg (by omega), if_neg (by omega), if_neg (by omega), if_neg (by omega), if_neg (by omega), show k = 1 by omega]
      exact (hf2 i (by omega)).symm
  · rw [stW_f (by omega) (by omega) (by rw [lw2 k k1 k2]; omega)]
    unfold stg
    rw [e1]
    obtain ⟨g1, g2, g3, g4, -⟩ := rT i hi
    by_cases c2 : k = 2
    · rw [if_neg (by omega), if_pos c2, if_pos (nI_lt hi (by omega)), en_f (k := 5) (i := i) hl (by decide) (by decide) (by show i < 8; omega), c2]
      exact g1
    · rw [if_neg (by omega), if_neg c2]
      by_cases c3 : k = 3
      · rw [if_pos c3, if_pos (nI_lt hi (by omega)), en_f (k := 6) (i := i) hl (by decide) (by decide) (by show i < 8; omega), c3]
        exact g2
      · rw [if_neg c3]
        by_cases c4 : k = 4
        · rw [if_pos c4, if_pos (nI_lt hi (by omega)), en_f (k := 7) (i := i) hl (by decide) (by decide) (by show i < 8; omega), c4]
          exact g3
        · rw [if_neg c4, if_neg (by omega), if_neg (by omega), show k = 5 by omega]
          exact g4.symm
  · obtain ⟨g1, g2, g3, g4, g5, g6, -⟩ := rC i hi
    by_cases c67 : k = 6 ∨ k = 7
    · unfold fA
      show (if k = 6 ∨ k = 7 then F.2 k else _).getD i 0 = _
      rw [if_pos c67]
    · rw [stW_f (fun z => c67 (Or.inl z)) (fun z => c67 (Or.inr z)) (by rw [lw3 k k1]; omega)]
      unfold stg
      rw [e3, if_neg (by omega), if_neg (by omega), if_neg (by omega), if_neg (by omega)]
      by_cases c8 : k = 8
      · rw [if_pos c8, if_pos (nI_lt hi (by omega)), en_f (k := 12) (i := i) hl (by decide) (by decide) (by show i < 10; omega), c8]
        exact g3
      · rw [if_neg c8]
        by_cases c9 : k = 9
        · rw [if_pos c9, if_pos (nI_lt hi (by omega)), en_f (k := 13) (i := i) hl (by decide) (by decide) (by show i < 10; omega), c9]
          exact g4
        · rw [if_neg c9]
          by_cases c10 : k = 10
          · rw [c10]; exact g5.symm
          · rw [show k = 11 by omega]; exact g6.symm
theorem hR_wfX (h : hR S L F M p n t r kn) : wfX F t r p ∧ bdX F r 0 := by
  obtain ⟨⟨hS, hw, hF, hf0, hf1, hf2, hpc, hvp⟩, -, rP, rN, rT, rC, rV, rL⟩ := h
  refine ⟨⟨hF, hS.2.2.1, fun i hi => (rT i hi).2.2.2.2, fun i hi => (rC i hi).2.2.2.2.2.2.1, fun i hi => (rC i hi).2.2.2.2.2.2.2.1⟩, hf0, fun i hi => (rC i hi).2.2.2.2.2.2.2.2.1, fun i hi => (rC i hi).2.2.2.2.2.2.2.2.2⟩
theorem nw_k (hl : lnM M) {k : Nat} (h : k < 18 ∨ 31 ≤ k) : fG (nwM M F) k = fG (enM M) k := mz_fk h
theorem nw_ln (hl : lnM M) (hF : lnX F) : lnM (nwM M F) := mz_ln (en_ln hl) (stW_ln hF) (by decide)
theorem nw_i {k : Nat} (h1 : k ≠ 15) (h2 : k ≠ 22) : (nwM M F).1 k = (enM M).1 k := by
  show va_up (va_up (enM M).1 15 _) 22 _ k = _
  rw [up_n h2, up_n h1]
theorem nw_cm (hl : lnM M) (h : hR S L F M p n t r kn) : cmM (nwM M F) F r := fun i hi => by
  obtain ⟨⟨hS, hw, hF, -⟩, -, rP, rN, rT, rC, rV, rL⟩ := h
  have hr10 := hF.2.2.2.1
  rw [nw_k hl (k := 10) (by decide), nw_k hl (k := 11) (by decide), en_f (k := 10) (i := i) hl (by decide) (by decide) (by show i < 10; omega), en_f (k := 11) (i := i) hl (by decide) (by decide) (by show i < 10; omega)]
  exact ⟨(rC i hi).1, (rC i hi).2.1⟩
theorem nw_tx (hl : lnM M) (hF : lnX F) (h : hR S L F M p n t r kn) : TXr S L F (nwM M F) p n r t := by
  have hx := hR_wfX h
  have hcm := nw_cm hl h
  have hag := en_ag hl h
  obtain ⟨⟨hS, hw, hFw, hf0, hf1, hf2, hpc, hvp⟩, ⟨m8, m9, m10, m11⟩, rP, rN, rT, rC, rV, rL⟩ := h
  obtain ⟨L0, L1, M14, M15, hk64, M13, hlaws⟩ := rL
  have hp6 := hS.2.2.1
  have hn6 := hS.2.2.2.1
  have f : ∀ k i, 1 ≤ k → k ≤ 17 → i < mlen k / 2 → fG (nwM M F) k i = fG M k (mlen k / 2 + i) := fun k i h1 h2 hi => by rw [nw_k hl (Or.inl (by omega)), en_f hl h1 h2 hi]
  refine ⟨hS, ⟨hw, fun k hk => ?_⟩, ⟨nw_ln hl hF, ?_, ?_, ?_, hp6, hn6, hFw.2.2.2.1, fun i hi => ?_, fun i hi => ?_, fun k hk => ?_, fun k hk i i1 i2 => ?_⟩, fun i hi => ?_, ?_, ?_, ?_, ?_, hx.1, hx.2, hcm, ?_⟩
  · obtain ⟨-, -, a, b, g3, g4, g5, g6, g7, g8⟩ := hlaws k hk
    exact ⟨a, b, g3, g4, by omega, fun hab => (g8 hab).1, by omega⟩
  · rw [f 1 0 (by decide) (by decide) (by decide)]; exact m8
  · rw [f 1 2 (by decide) (by decide) (by decide)]; exact m10
  · rw [f 1 3 (by decide) (by decide) (by decide)]; exact m11
  · rw [f 3 i (by decide) (by decide) (by show i < 6; omega)]; exact (rP i hi).2.1
  · rw [f 8 i (by decide) (by decide) (by show i < 6; omega), f 9 i (by decide) (by decide) (by show i < 6; omega)]; exact rN i hi
  · obtain ⟨g1, g2, -⟩ := hlaws k hk
    rw [f 14 k (by decide) (by decide) (by show k < 3; omega), f 15 k (by decide) (by decide) (by show k < 3; omega)]
    exact ⟨g1, g2⟩
  · obtain ⟨-, -, a, b, g3, g4, g5, g6, g7, g8⟩ := hlaws k hk
    rw [g3, nI_clamp (by omega)] at i1
    rw [g4, nI_clamp (by omega)] at i2
    rw [f 16 i (by decide) (by decide) (by show i < 64; omega), f 17 i (by decide) (by decide) (by show i < 64; omega)]
    exact (g8 (by omega)).2 i i1 i2
  · rw [f 2 i (by decide) (by decide) (by show i < 6; omega)]; exact (rP i hi).1
  · rw [f 1 4 (by decide) (by decide) (by decide)]
    rcases rV.1 with ⟨v1, v2, -⟩ | ⟨v1, v2, -⟩
    · rw [if_pos v1]; exact v2
    · rw [if_neg v1]; exact v2
  · rw [f 1 5 (by decide) (by decide) (by decide)]
    rcases rV.2.1 with ⟨v1, v2, -⟩ | ⟨v1, v2, -⟩
    · rw [if_pos v1]; exact v2
    · rw [if_neg v1]; exact v2
  · rw [f 1 7 (by decide) (by decide) (by decide), L0]; exact M15
  · rw [f 1 1 (by decide) (by decide) (by decide)]; exact m9
  · have e : ∀ k i, k < 12 → fA (stW (nwM M F) F) k i = fA (stW (enM M) F) k i := fun k i hk => by
      have es : stg (nwM M F) k = stg (enM M) k := by
        funext i
        unfold stg
        rw [nw_k hl (k := 1) (by decide), nw_k hl (k := 4) (by decide), nw_k hl (k := 5) (by decide), nw_k hl (k := 6) (by decide), nw_k hl (k := 7) (by decide), nw_k hl (k := 12) (by decide), nw_k hl (k := 13) (by decide)]
      unfold fA
      show (if k = 6 ∨ k = 7 then F.2 k else (List.range (lenW k)).map (stg (nwM M F) k)).getD i 0 = (if k = 6 ∨ k = 7 then F.2 k else (List.range (lenW k)).map (stg (enM M) k)).getD i 0
      rw [es]
    obtain ⟨a1, a2, a3, a4, a5⟩ := hag
    exact ⟨a1, a2, fun k hk i hi => by rw [e k i (by omega)]; exact a3 k hk i hi, fun k k1 k2 i hi => by rw [e k i (by omega)]; exact a4 k k1 k2 i hi, fun k k1 k2 i hi => by rw [e k i (by omega)]; exact a5 k k1 k2 i hi⟩
theorem nw_dk (hl : lnM M) (hF : lnX F) (h : hR S L F M p n t r kn) : dkA (nwM M F) 0 F t r p := by
  have hag := en_ag hl h
  obtain ⟨⟨hS, hw, hFw, hf0, hf1, hf2, hpc, hvp⟩, ⟨m8, m9, m10, m11⟩, -⟩ := h
  have hp6 := hS.2.2.1
  have ht8 := hFw.2.2.1
  have hr10 := hFw.2.2.2.1
  have hle := en_ln hl
  have lw1 : ∀ k, k < 2 → lenW k = 6 := fun k hk => by unfold lenW; rw [if_pos hk]
  have lw2 : ∀ k, 2 ≤ k → k < 6 → lenW k = 8 := fun k h1 h2 => by unfold lenW; rw [if_neg (by omega), if_pos h2]
  have lw3 : ∀ k, 6 ≤ k → lenW k = 10 := fun k h1 => by unfold lenW; rw [if_neg (by omega), if_neg (by omega)]
  have f1 : ∀ k, 18 ≤ k → k < 21 → fG (nwM M F) k 0 = (stW (enM M) F).1 (k - 18) := fun k h1 h2 => by
    show fG (mz _ _ _ _ _ _) k 0 = _
    rw [mz_f1 hle h1 h2 (by decide), if_pos rfl]
  have f2 : ∀ k i, k < 12 → k ≠ 6 → k ≠ 7 → i < lenW k → fG (nwM M F) (ikW k) (lenW k * 0 + i) = fA (stW (enM M) F) k i := fun k i h1 h2 h3 h4 => by
    show fG (mz _ _ _ _ _ _) (ikW k) _ = _
    rw [mz_f2 hle (stW_ln hF) h1 h2 h3 (by decide) h4, if_pos rfl]
  obtain ⟨a1, a2, a3, a4, a5⟩ := hag
  refine ⟨by rw [f1 18 (by decide) (by decide)]; exact a1, by rw [f1 19 (by decide) (by decide)]; exact a2, ?_, fun k hk i hi => ?_, fun k k1 k2 i hi => ?_, fun k k1 k2 i hi => ?_⟩
  · rw [f1 20 (by decide) (by decide)]
    show fG (enM M) 1 1 = _
    rw [en_f hl (by decide) (by decide) (by decide), hFw.1]; exact m9
  · have := f2 k i (by omega) (by omega) (by omega) (by rw [lw1 k hk]; omega)
    rw [lw1 k hk] at this
    rw [this]; exact a3 k hk i hi
  · have := f2 k i (by omega) (by omega) (by omega) (by rw [lw2 k k1 k2]; omega)
    rw [lw2 k k1 k2] at this
    rw [this]; exact a4 k k1 k2 i hi
  · have := f2 k i (by omega) (by omega) (by omega) (by rw [lw3 k (by omega)]; omega)
    rw [lw3 k (by omega)] at this
    rw [this]; exact a5 k (by omega) k2 i hi
end IX0
