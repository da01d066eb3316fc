/-! text: what joins values, and values, as they should be read. -/
section DX6
variable {K V P J : Nat → Nat} {T : Nat} {i op kn : Nat} {out : List (Nat × Nat)}
theorem pr_val (hJ : ∀ i, i ≤ T → K i ≠ 0 → i < J i ∧ J i ≤ T) (hi : i ≤ T) (h3 : K i = 3 ∨ (15 ≤ K i ∧ K i ≤ 21)) (hv : ¬ (K i = 3 ∧ 9999 < V i)) (hk : kn < 64) : sF K V P J T 6 i op kn out (J i) (kn + 1) (out ++ [(K i, V i)]) := by
  intro st hs
  rw [cRu_t hJ hi, if_neg (by omega), if_neg (by omega), if_pos h3, if_neg hv, if_neg (by omega), if_neg (by omega)]
theorem pr_much (hJ : ∀ i, i ≤ T → K i ≠ 0 → i < J i ∧ J i ≤ T) (hi : i ≤ T) (h3 : K i = 3) (hv : 9999 < V i) : sB K V P J T 6 i op kn out 2 (P i) := by
  intro st hs
  rw [cRu_t hJ hi, if_neg (by omega), if_neg (by omega), if_pos (Or.inl h3), if_pos ⟨h3, hv⟩]
theorem pr_full (hJ : ∀ i, i ≤ T → K i ≠ 0 → i < J i ∧ J i ≤ T) (hi : i ≤ T) (h3 : K i = 3 ∨ (15 ≤ K i ∧ K i ≤ 21)) (hv : ¬ (K i = 3 ∧ 9999 < V i)) (hk : 64 ≤ kn) : sB K V P J T 6 i op kn out 2 (P i) := by
  intro st hs
  rw [cRu_t hJ hi, if_neg (by omega), if_neg (by omega), if_pos h3, if_neg hv, if_pos hk]
theorem pr_stray (hJ : ∀ i, i ≤ T → K i ≠ 0 → i < J i ∧ J i ≤ T) (hi : i ≤ T) (h6 : K i ≠ 26) (h3 : ¬ (K i = 3 ∨ (15 ≤ K i ∧ K i ≤ 21))) : sB K V P J T 6 i op kn out 1 (P i) := by
  intro st hs
  rw [cRu_t hJ hi, if_neg h6]
  by_cases c : K i = 24
  · rw [if_pos c, if_pos (by have := hs.2; omega)]
  · rw [if_neg c, if_neg h3]
theorem pr_open (hJ : ∀ i, i ≤ T → K i ≠ 0 → i < J i ∧ J i ≤ T) (hi : i ≤ T) (h6 : K i = 26) (ho : 8 ≤ op) : sB K V P J T 6 i op kn out 2 (P i) := by
  intro st hs
  rw [cRu_t hJ hi, if_pos h6, if_pos ho]
theorem ok_26 {j : Nat} {st : List Nat} : okS K 0 j (26 :: st) := ⟨Nat.le_refl 0, Or.inl (by decide)⟩
theorem pr_pbad (hJ : ∀ i, i ≤ T → K i ≠ 0 → i < J i ∧ J i ≤ T) (hi : i ≤ T) (h6 : K i = 26) (ho : op < 8) {k p : Nat} (h : sB K V P J T 0 (J i) (op + 1) kn out k p) : sB K V P J T 6 i op kn out k p := by
  intro st hs
  rw [cRu_t hJ hi, if_pos h6, if_neg (by omega)]
  exact h _ ok_26
theorem pr_pstray (hJ : ∀ i, i ≤ T → K i ≠ 0 → i < J i ∧ J i ≤ T) (hi : i ≤ T) (h6 : K i = 26) (ho : op < 8) {i' kn' : Nat} {out' : List (Nat × Nat)} (h : sF K V P J T 0 (J i) (op + 1) kn out i' kn' out') (hi' : i' ≤ T) (hn : nxL 0 (rkK (K i'))) (h7 : K i' ≠ 27) : sB K V P J T 6 i op kn out 1 (P i') := by
  intro st hs
  rw [cRu_t hJ hi, if_pos h6, if_neg (by omega), h _ ok_26]
  by_cases c : rkK (K i') = 4 ∧ 0 < 4
  · rw [if_pos c]
  · have r6 := rk_le (K i')
    unfold nxL at hn
    rw [if_neg c, cRu_f hJ hi', if_neg (fun z => h7 z.1), if_pos (by omega), if_pos (by omega)]
theorem pr_pok (hJ : ∀ i, i ≤ T → K i ≠ 0 → i < J i ∧ J i ≤ T) (hi : i ≤ T) (h6 : K i = 26) (ho : op < 8) {i' kn' : Nat} {out' : List (Nat × Nat)} (h : sF K V P J T 0 (J i) (op + 1) kn out i' kn' out') (hi' : i' ≤ T) (h7 : K i' = 27) : sF K V P J T 6 i op kn out (J i') kn' out' := by
  intro st hs
  have r27 : rkK (K i') = 0 := by rw [h7]; rfl
  have p0 : popF 0 (26 :: st) out' = (26 :: st, out') := rfl
  rw [cRu_t hJ hi, if_pos h6, if_neg (by omega), h _ ok_26, if_neg (by omega), cRu_f hJ hi', if_pos ⟨h7, by omega⟩, p0, if_neg (by omega)]
  rfl
theorem po_4 {st : List Nat} (h : topR st ≤ 3) (out : List (Nat × Nat)) : popF 4 st out = (st, out) := by
  cases st with
  | nil => rfl
  | cons o st =>
    rw [topR_c] at h
    rw [popF, if_neg (by omega)]
theorem ng_full (hJ : ∀ i, i ≤ T → K i ≠ 0 → i < J i ∧ J i ≤ T) (hi : i ≤ T) (h4 : K i = 24) (hk : 64 ≤ kn) : sB K V P J T 3 i op kn out 2 (P i) := by
  intro st hs
  rw [cRu_t hJ hi, if_neg (by omega), if_pos h4, if_neg (by have := hs.1; omega), if_pos hk]
theorem ng_bad (hJ : ∀ i, i ≤ T → K i ≠ 0 → i < J i ∧ J i ≤ T) (hi : i ≤ T) (h4 : K i = 24) (hk : kn < 64) {k p : Nat} (h : sB K V P J T 3 (J i) op (kn + 1) out k p) : sB K V P J T 3 i op kn out k p := by
  intro st hs
  rw [cRu_t hJ hi, if_neg (by omega), if_pos h4, if_neg (by have := hs.1; omega), if_neg (by omega)]
  exact h _ ⟨Nat.le_refl 3, Or.inl (by decide)⟩
theorem ng_ok (hJ : ∀ i, i ≤ T → K i ≠ 0 → i < J i ∧ J i ≤ T) (hi : i ≤ T) (h4 : K i = 24) (hk : kn < 64) {i' kn' : Nat} {out' : List (Nat × Nat)} (h : sF K V P J T 3 (J i) op (kn + 1) out i' kn' out') (hi' : i' ≤ T) (hn : nxL 3 (rkK (K i'))) : sF K V P J T 3 i op kn out i' kn' (out' ++ [(24, 0)]) := by
  intro st hs
  rw [cRu_t hJ hi, if_neg (by omega), if_pos h4, if_neg (by have := hs.1; omega), if_neg (by omega), h (24 :: st) ⟨Nat.le_refl 3, Or.inl (by decide)⟩]
  by_cases c : rkK (K i') = 4 ∧ 3 < 4
  · rw [if_pos c, if_pos c]
  · rw [if_neg c, if_neg c]
    refine cRu_w (o := 24) hJ hi' (show 0 < 3 by decide) ?_ st op kn' out'
    show rkK (K i') = 0 ∨ K i' = 24 ∨ (rkK (K i') = 4 ∧ 4 < 3) ∨ (rkK (K i') ≠ 4 ∧ rkK (K i') ≤ 3)
    unfold nxL at hn
    omega
theorem ng_sB (h4 : K i ≠ 24) {k p : Nat} (h : sB K V P J T 4 i op kn out k p) : sB K V P J T 3 i op kn out k p := fun st hs => h st ⟨by have := hs.1; omega, Or.inr (Or.inl h4)⟩
theorem ng_sF (h4 : K i ≠ 24) {i' kn' : Nat} {out' : List (Nat × Nat)} (h : sF K V P J T 4 i op kn out i' kn' out') (hr : rkK (K i') ≠ 4) : sF K V P J T 3 i op kn out i' kn' out' := fun st hs => by
  rw [h st ⟨by have := hs.1; omega, Or.inr (Or.inl h4)⟩, if_neg (by omega), if_neg (by omega)]
/-- a comparison, up to its sign -/
theorem ng_cmp (hJ : ∀ i, i ≤ T → K i ≠ 0 → i < J i ∧ J i ≤ T) (h4 : K i ≠ 24) {i1 kn1 : Nat} {out1 : List (Nat × Nat)} (h : sF K V P J T 4 i op kn out i1 kn1 out1) (hi1 : i1 ≤ T) (hr : rkK (K i1) = 4) (st : List Nat) (hs : okS K 3 i st) : cRu K V P J T true i st op kn out = if 64 ≤ kn1 then pB 2 (P i1) else cRu K V P J T true (J i1) (K i1 :: st) op (kn1 + 1) out1 := by
  have h27 : K i1 ≠ 27 := fun z => by rw [z] at hr; exact absurd hr (by decide)
  have h24 : K i1 ≠ 24 := fun z => by rw [z] at hr; exact absurd hr (by decide)
  have ht := hs.1
  rw [h st ⟨by omega, Or.inr (Or.inl h4)⟩, if_neg (by omega), cRu_f hJ hi1, if_neg (fun z => h27 z.1), if_neg (by omega), if_pos hr, po_4 ht, if_neg (by show ¬ topR st = 4; omega)]
theorem ng_cfull (hJ : ∀ i, i ≤ T → K i ≠ 0 → i < J i ∧ J i ≤ T) (h4 : K i ≠ 24) {i1 kn1 : Nat} {out1 : List (Nat × Nat)} (h : sF K V P J T 4 i op kn out i1 kn1 out1) (hi1 : i1 ≤ T) (hr : rkK (K i1) = 4) (hk : 64 ≤ kn1) : sB K V P J T 3 i op kn out 2 (P i1) := fun st hs => by
  rw [ng_cmp hJ h4 h hi1 hr st hs, if_pos hk]
theorem ng_cbad (hJ : ∀ i, i ≤ T → K i ≠ 0 → i < J i ∧ J i ≤ T) (h4 : K i ≠ 24) {i1 kn1 : Nat} {out1 : List (Nat × Nat)} (h : sF K V P J T 4 i op kn out i1 kn1 out1) (hi1 : i1 ≤ T) (hr : rkK (K i1) = 4) (hk : kn1 < 64) {k p : Nat} (h2 : sB K V P J T 4 (J i1) op (kn1 + 1) out1 k p) : sB K V P J T 3 i op kn out k p := fun st hs => by
  rw [ng_cmp hJ h4 h hi1 hr st hs, if_neg (by omega)]
  exact h2 _ ⟨by rw [topR_c]; omega, Or.inr (Or.inr (by rw [topR_c]; omega))⟩
theorem ng_cok (hJ : ∀ i, i ≤ T → K i ≠ 0 → i < J i ∧ J i ≤ T) (h4 : K i ≠ 24) {i1 kn1 : Nat} {out1 : List (Nat × Nat)} (h : sF K V P J T 4 i op kn out i1 kn1 out1) (hi1 : i1 ≤ T) (hr : rkK (K i1) = 4) (hk : kn1 < 64) {i2 kn2 : Nat} {out2 : List (Nat × Nat)} (h2 : sF K V P J T 4 (J i1) op (kn1 + 1) out1 i2 kn2 out2) (hi2 : i2 ≤ T) (hn : nxL 4 (rkK (K i2))) : sF K V P J T 3 i op kn out i2 kn2 (out2 ++ [(K i1, 0)]) := fun st hs => by
  rw [ng_cmp hJ h4 h hi1 hr st hs, if_neg (by omega), h2 _ ⟨by rw [topR_c]; omega, Or.inr (Or.inr (by rw [topR_c]; omega))⟩, if_neg (by omega)]
  unfold nxL at hn
  by_cases c : rkK (K i2) = 4
  · have h27 : K i2 ≠ 27 := fun z => by rw [z] at c; exact absurd c (by decide)
    have h24 : K i2 ≠ 24 := fun z => by rw [z] at c; exact absurd c (by decide)
    have p4 : popF 4 (K i1 :: st) out2 = (K i1 :: st, out2) := by rw [popF, if_neg (by omega)]
    rw [if_pos ⟨c, by decide⟩, cRu_f hJ hi2, if_neg (fun z => h27 z.1), if_neg (by omega), if_pos c, p4, if_pos (by show topR (K i1 :: st) = 4; rw [topR_c]; exact hr)]
  · rw [if_neg (by omega)]
    exact cRu_w hJ hi2 (by omega) (by omega) st op kn2 out2
end DX6
