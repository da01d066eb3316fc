/-! Quarters keep purses within what is allowed. -/
theorem clamp0 (v : Int64) : ∃ c, c ≤ 999 ∧ clampL 0 999 v = nI c := by
  have key : ∀ w : Int64, 0 ≤ w.toInt → w.toInt ≤ 999 → ∃ c, c ≤ 999 ∧ w.toInt32 = nI c := by
    intro w h1 h2
    have e : w = lN w.toInt.toNat := by
      apply Int64.toInt_inj.mp
      rw [pk_lT (by omega)]
      omega
    exact ⟨w.toInt.toNat, by omega, (congrArg Int64.toInt32 e).trans (lN_i _)⟩
  unfold clampL
  have e1 : (0 : Int64).toInt = 0 := by decide
  have e9 : (999 : Int64).toInt = 999 := by decide
  have c0 : (0 : Int64) < 999 := by decide
  by_cases c1 : v < 999
  · rw [if_pos c1]
    have l1 := Int64.lt_iff_toInt_lt.mp c1
    by_cases c2 : 0 < v
    · rw [if_pos c2]
      have l2 := Int64.lt_iff_toInt_lt.mp c2
      exact key v (by omega) (by omega)
    · rw [if_neg c2]; exact ⟨0, by omega, rfl⟩
  · rw [if_neg c1, if_pos c0]; exact ⟨999, by omega, rfl⟩
theorem mul_nI : ∀ u, u ≤ 99 → ∀ w, w ≤ 16 → nI u * nI w = nI (u * w) := by decide +kernel
section PCX
variable {E S L : aG} {X : aW} {t r p n : Nat}
theorem pr_99 (hS : ∀ i, vpS S i) (v : Int32) : ∀ i, ∃ u, u ≤ 99 ∧ (prF (fG S 2) (fG S 3) v i).2 = nI u
  | 0 => ⟨5, by omega, rfl⟩
  | i + 1 => by
    rw [prF]
    split
    · exact pr_99 hS v i
    · split
      · exact pr_99 hS v i
      · exact (hS i).2
theorem cost_nn (hS : ∀ i, vpS S i) (hX : ∀ i, pcX X i) {i : Nat} : ∃ u, u ≤ 1584 ∧ costX E S L X t r n i = nI u := by
  unfold costX
  split
  · split
    · obtain ⟨u, hu, eu⟩ := pr_99 hS (X.1 0) n
      obtain ⟨w, hw, ew⟩ := (hX i).2
      have hm : u * w ≤ 99 * 16 := Nat.mul_le_mul hu hw
      rw [eu, ew, mul_nI u hu w hw]
      split
      · exact ⟨u * w, by omega, rfl⟩
      · exact ⟨999, by omega, rfl⟩
    · obtain ⟨c, h1, h2⟩ := clamp0 (valX E S L X t r n 2 (mnX X 2 i) 0)
      exact ⟨c, by omega, h2⟩
  · exact ⟨0, by omega, rfl⟩
theorem bgT_pc (hS : ∀ i, vpS S i) (hl : (X.2 0).length = 6) (hX : ∀ i, pcX X i) {i : Nat} : ∀ j, pcX (bgT E S L X t r n i) j := by
  unfold bgT
  obtain ⟨u, hu, eu⟩ := cost_nn (E := E) (L := L) (t := t) (r := r) (n := n) (i := i) hS hX
  obtain ⟨z, hz, ez⟩ := (hX (mnX X 2 i)).1
  rw [eu, ez]
  intro j
  by_cases c : nI z < nI u
  · rw [if_pos c]; exact pcX_sA (hX j) (by decide) (by decide)
  · rw [if_neg c]
    refine pcX_sA ?_ (by decide) (by decide)
    have huz : u ≤ z := by
      refine Classical.byContradiction fun y => c (nI_lt (by omega) (by omega))
    refine ⟨?_, ?_⟩
    · show nnB (fA (sA X 0 ((X.2 0).set (mnX X 2 i) (nI z - nI u))) 0 j)
      rw [fA_s]
      by_cases cm : mnX X 2 i < (X.2 0).length
      · rw [ia_set_getD cm]
        split
        · rw [pk_sub huz]; exact ⟨z - u, by omega, rfl⟩
        · exact (hX j).1
      · rw [List.set_eq_of_length_le (by omega)]
        exact (hX j).1
    · show ∃ u', u' ≤ 16 ∧ fA (sA X 0 ((X.2 0).set (mnX X 2 i) (nI z - nI u))) 4 j = nI u'
      rw [fA_n (by decide)]
      exact (hX j).2
theorem bgX_pc (hS : ∀ i, vpS S i) (hw : wfX X t r p) (hX : ∀ i, pcX X i) : ∀ i j, pcX (bgX E S L t r n X i) j
  | 0 => hX
  | i + 1 => by
    rw [bgX]
    split
    · exact bgT_pc hS (bgX_wf hw i).1.ln.1 (bgX_pc hS hw hX i)
    · exact bgX_pc hS hw hX i
theorem trX_pc {Y : aW × Int64} (hX : ∀ i, pcX Y.1 i) : ∀ i j, pcX (trX E S L t r n Y i).1 j
  | 0 => hX
  | i + 1 => by
    rw [trX]
    split
    · intro j
      have h := trX_pc hX i j
      generalize trX E S L t r n Y i = Z at *
      unfold trR
      simp only
      split
      · split
        · exact pcX_sA (pcX_sA h (by decide) (by decide)) (by decide) (by decide)
        · exact pcX_sA (pcX_sA (pcX_sA h (by decide) (by decide)) (by decide) (by decide)) (by decide) (by decide)
      · split
        · exact pcX_sA (pcX_sA h (by decide) (by decide)) (by decide) (by decide)
        · exact pcX_sA (pcX_sA h (by decide) (by decide)) (by decide) (by decide)
    · exact trX_pc hX i
theorem fmX_pc {idle : Int32} (hX : ∀ i, pcX X i) : ∀ i j, pcX (fmX E S L t r n idle X i) j
  | 0 => hX
  | i + 1 => by
    rw [fmX]
    split
    · exact fmX_pc hX i
    · exact fun j => pcX_sA (fmX_pc hX i j) (by decide) (by decide)
theorem stX_pc {Y : aW × Int64} (hS : ∀ i, vpS S i) (hw : wfX Y.1 t r p) (hX : ∀ i, pcX Y.1 i) : ∀ j, pcX (stX E S L t r p n Y).1 j := by
  have h1 : ∀ j, pcX (endTX (endCX Y.1 r) t) j := fun j => pcX_sA (pcX_sA (hX j) (by decide) (by decide)) (by decide) (by decide)
  have hw1 : wfX (endTX (endCX Y.1 r) t) t r p := wfX_sA (wfX_sA hw (updTo_len r) (by decide) (by decide) (by decide)) (updTo_len t) (by decide) (by decide) (by decide)
  have h2 := bgX_pc (E := E) (L := L) (n := n) hS hw1 h1 t
  have h3 := trX_pc (E := E) (S := S) (L := L) (t := t) (r := r) (n := n) (Y := (bgX E S L t r n (endTX (endCX Y.1 r) t) t, Y.2)) h2 r
  exact fmX_pc (E := E) (S := S) (L := L) (t := t) (r := r) (n := n) (idle := idX (trX E S L t r n (bgX E S L t r n (endTX (endCX Y.1 r) t) t, Y.2) r).1 t r) h3 p
theorem stN_pc {Y : aW × Int64} (hS : ∀ i, vpS S i) (hw : wfX Y.1 t r p) (hX : ∀ i, pcX Y.1 i) : ∀ i j, pcX (stN E S L t r p n Y i).1 j
  | 0 => hX
  | i + 1 => stX_pc hS (stN_wf hw i) (stN_pc hS hw hX i)
end PCX
