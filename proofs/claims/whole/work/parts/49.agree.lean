/-! Worlds that agree as far as they count. -/
def agW (X Y : aW) (t r p : Nat) : Prop := X.1 0 = Y.1 0 ∧ X.1 1 = Y.1 1 ∧ (∀ k, k < 2 → ∀ i, i < p → fA X k i = fA Y k i) ∧ (∀ k, 2 ≤ k → k < 6 → ∀ i, i < t → fA X k i = fA Y k i) ∧ (∀ k, 6 ≤ k → k < 12 → ∀ i, i < r → fA X k i = fA Y k i)
theorem agW.rfl' {X : aW} {t r p : Nat} : agW X X t r p := ⟨rfl, rfl, fun _ _ _ _ => rfl, fun _ _ _ _ _ => rfl, fun _ _ _ _ _ => rfl⟩
theorem agW.symm {X Y : aW} {t r p : Nat} (h : agW X Y t r p) : agW Y X t r p := ⟨h.1.symm, h.2.1.symm, fun k hk i hi => (h.2.2.1 k hk i hi).symm, fun k hk hk2 i hi => (h.2.2.2.1 k hk hk2 i hi).symm, fun k hk hk2 i hi => (h.2.2.2.2 k hk hk2 i hi).symm⟩
theorem agW.trans {X Y Z : aW} {t r p : Nat} (h : agW X Y t r p) (g : agW Y Z t r p) : agW X Z t r p := ⟨h.1.trans g.1, h.2.1.trans g.2.1, fun k hk i hi => (h.2.2.1 k hk i hi).trans (g.2.2.1 k hk i hi), fun k hk hk2 i hi => (h.2.2.2.1 k hk hk2 i hi).trans (g.2.2.2.1 k hk hk2 i hi), fun k hk hk2 i hi => (h.2.2.2.2 k hk hk2 i hi).trans (g.2.2.2.2 k hk hk2 i hi)⟩
theorem fA_s {X : aW} {k j : Nat} {l : List Int32} : fA (sA X k l) k j = l.getD j 0 := by
  unfold fA
  rw [sA_2]
theorem fA_n {X : aW} {k k' : Nat} {l : List Int32} (h : k' ≠ k) : fA (sA X k l) k' = fA X k' := by
  unfold fA
  rw [sA_n h]
theorem fA_set {X : aW} {k i j : Nat} {v : Int32} (h : i < (X.2 k).length) : fA (sA X k ((X.2 k).set i v)) k j = if j = i then v else fA X k j := by
  rw [fA_s, ia_set_getD h]
  rfl
theorem fA_up {X : aW} {k m j : Nat} {g : Nat → Int32} (h : m ≤ (X.2 k).length) : fA (sA X k (updTo (X.2 k) g m)) k j = if j < m then g j else fA X k j := by
  rw [fA_s, updTo_get m j h]
  rfl
section AG
variable {X Y : aW} {t r p n : Nat} {E S L : aG}
theorem aw_row {k : Nat} {l m : List Int32} (h : agW X Y t r p) (hl : ∀ j, (k < 2 → j < p → l.getD j 0 = m.getD j 0) ∧ (2 ≤ k → k < 6 → j < t → l.getD j 0 = m.getD j 0) ∧ (6 ≤ k → k < 12 → j < r → l.getD j 0 = m.getD j 0)) : agW (sA X k l) (sA Y k m) t r p := by
  refine ⟨h.1, h.2.1, fun k' hk i hi => ?_, fun k' hk hk2 i hi => ?_, fun k' hk hk2 i hi => ?_⟩
  · by_cases e : k' = k
    · subst e
      rw [fA_s, fA_s]
      exact (hl i).1 hk hi
    · rw [fA_n e, fA_n e]
      exact h.2.2.1 k' hk i hi
  · by_cases e : k' = k
    · subst e
      rw [fA_s, fA_s]
      exact (hl i).2.1 hk hk2 hi
    · rw [fA_n e, fA_n e]
      exact h.2.2.2.1 k' hk hk2 i hi
  · by_cases e : k' = k
    · subst e
      rw [fA_s, fA_s]
      exact (hl i).2.2 hk hk2 hi
    · rw [fA_n e, fA_n e]
      exact h.2.2.2.2 k' hk hk2 i hi
theorem aw_set {k i : Nat} {v w : Int32} (h : agW X Y t r p) (hx : i < (X.2 k).length) (hy : i < (Y.2 k).length) (hv : v = w) : agW (sA X k ((X.2 k).set i v)) (sA Y k ((Y.2 k).set i w)) t r p := by
  subst hv
  refine aw_row h fun j => ?_
  rw [ia_set_getD hx, ia_set_getD hy]
  refine ⟨fun h1 h2 => ?_, fun h1 h2 h3 => ?_, fun h1 h2 h3 => ?_⟩
  · split
    · rfl
    · exact h.2.2.1 k h1 j h2
  · split
    · rfl
    · exact h.2.2.2.1 k h1 h2 j h3
  · split
    · rfl
    · exact h.2.2.2.2 k h1 h2 j h3
theorem aw_sI {k : Nat} {v w : Int32} (h : agW X Y t r p) (hv : v = w) : agW (sI X k v) (sI Y k w) t r p := by
  subst hv
  refine ⟨?_, ?_, h.2.2⟩
  · by_cases e : 0 = k
    · subst e
      rw [sI_1, sI_1]
    · rw [sI_n e, sI_n e]
      exact h.1
  · by_cases e : 1 = k
    · subst e
      rw [sI_1, sI_1]
    · rw [sI_n e, sI_n e]
      exact h.2.1
theorem tkF_c {st fr to_ st' fr' to' : Nat → Int32} : ∀ r, (∀ i, i < r → st i = st' i ∧ fr i = fr' i ∧ to_ i = to' i) → tkF st fr to_ r = tkF st' fr' to' r
  | 0, _ => rfl
  | r + 1, h => by
    obtain ⟨h1, h2, h3⟩ := h r (by omega)
    rw [tkF, tkF, h1, h2, h3, tkF_c r (fun i hi => h i (by omega))]
theorem tnF_c {st mn st' mn' : Nat → Int32} : ∀ t, (∀ i, i < t → st i = st' i ∧ mn i = mn' i) → tnF st mn t = tnF st' mn' t
  | 0, _ => rfl
  | r + 1, h => by
    obtain ⟨h1, h2⟩ := h r (by omega)
    rw [tnF, tnF, h1, h2, tnF_c r (fun i hi => h i (by omega))]
theorem cntF_c {st st' : Nat → Int32} {v : Int32} : ∀ r, (∀ i, i < r → st i = st' i) → cntF st v r = cntF st' v r
  | 0, _ => rfl
  | r + 1, h => by rw [cntF, cntF, h r (by omega), cntF_c r (fun i hi => h i (by omega))]
theorem ag_tk (h : agW X Y t r p) : tkF (fA X 10) (fA X 6) (fA X 7) r = tkF (fA Y 10) (fA Y 6) (fA Y 7) r := tkF_c r fun i hi => ⟨h.2.2.2.2 10 (by decide) (by decide) i hi, h.2.2.2.2 6 (by decide) (by decide) i hi, h.2.2.2.2 7 (by decide) (by decide) i hi⟩
theorem ag_tn (h : agW X Y t r p) : tnF (fA X 5) (fA X 2) t = tnF (fA Y 5) (fA Y 2) t := tnF_c t fun i hi => ⟨h.2.2.2.1 5 (by decide) (by decide) i hi, h.2.2.2.1 2 (by decide) (by decide) i hi⟩
theorem ag_cnt (h : agW X Y t r p) (v : Int32) : cntF (fA X 10) v r = cntF (fA Y 10) v r := cntF_c r fun i hi => h.2.2.2.2 10 (by decide) (by decide) i hi
theorem ag_eng (h : agW X Y t r p) : engX X t r = engX Y t r := by
  unfold engX
  rw [ag_tk h, ag_tn h]
theorem ag_val (h : agW X Y t r p) {k m : Nat} (hm : m < p) {turn : Int32} : valX E S L X t r n k m turn = valX E S L Y t r n k m turn := by
  unfold valX msX
  rw [ag_eng h, h.1, h.2.2.1 0 (by decide) m hm, h.2.2.1 1 (by decide) m hm]
theorem ag_mn2 (h : agW X Y t r p) {i : Nat} (hi : i < t) : mnX X 2 i = mnX Y 2 i := by
  unfold mnX
  rw [h.2.2.2.1 2 (by decide) (by decide) i hi]
theorem ag_mn6 (h : agW X Y t r p) {i : Nat} (hi : i < r) : mnX X 6 i = mnX Y 6 i := by
  unfold mnX
  rw [h.2.2.2.2 6 (by decide) (by decide) i hi]
theorem wfX.n2 (hX : wfX X t r p) {i : Nat} (hi : i < t) : mnX X 2 i < p := by
  obtain ⟨m, hm, em⟩ := hX.2.2.1 i hi
  have := hX.2.1
  rw [mnX_of (by omega) em]
  exact hm
theorem wfX.n6 (hX : wfX X t r p) {i : Nat} (hi : i < r) : mnX X 6 i < p := by
  obtain ⟨m, hm, em⟩ := hX.2.2.2.1 i hi
  have := hX.2.1
  rw [mnX_of (by omega) em]
  exact hm
theorem ag_endC (hX : wfX X t r p) (hY : wfX Y t r p) (h : agW X Y t r p) : agW (endCX X r) (endCX Y r) t r p := by
  have hr := hX.1.2.2.2.1
  have lx : (X.2 10).length = 10 := hX.1.ln.2.2.2.2.2.2.2.2.2.2.1
  have ly : (Y.2 10).length = 10 := hY.1.ln.2.2.2.2.2.2.2.2.2.2.1
  refine aw_row h fun j => ⟨fun h1 => by omega, fun h1 h2 => by omega, fun h1 h2 h3 => ?_⟩
  rw [updTo_get r j (by omega), updTo_get r j (by omega), if_pos h3, if_pos h3]
  unfold endCG
  rw [h.1, h.2.2.2.2 10 (by decide) (by decide) j h3, h.2.2.2.2 8 (by decide) (by decide) j h3, h.2.2.2.2 9 (by decide) (by decide) j h3]
theorem ag_endT (hX : wfX X t r p) (hY : wfX Y t r p) (h : agW X Y t r p) : agW (endTX X t) (endTX Y t) t r p := by
  have ht := hX.1.2.2.1
  have lx : (X.2 5).length = 8 := hX.1.ln.2.2.2.2.2.1
  have ly : (Y.2 5).length = 8 := hY.1.ln.2.2.2.2.2.1
  refine aw_row h fun j => ⟨fun h1 => by omega, fun h1 h2 h3 => ?_, fun h1 h2 => by omega⟩
  rw [updTo_get t j (by omega), updTo_get t j (by omega), if_pos h3, if_pos h3]
  unfold endTG
  rw [h.1, h.2.2.2.1 5 (by decide) (by decide) j h3, h.2.2.2.1 3 (by decide) (by decide) j h3, h.2.2.2.1 4 (by decide) (by decide) j h3]
theorem ag_cost (hX : wfX X t r p) (h : agW X Y t r p) {i : Nat} (hi : i < t) : costX E S L X t r n i = costX E S L Y t r n i := by
  unfold costX
  rw [ag_val h (hX.n2 hi), ag_mn2 h hi, h.1, h.2.2.2.1 4 (by decide) (by decide) i hi]
theorem ag_bgT (hX : wfX X t r p) (hY : wfX Y t r p) (h : agW X Y t r p) {i : Nat} (hi : i < t) : agW (bgT E S L X t r n i) (bgT E S L Y t r n i) t r p := by
  have ht := hX.1.2.2.1
  have hp := hX.2.1
  have hn := hX.n2 hi
  obtain ⟨x0, -, -, -, -, x5, -⟩ := hX.1.ln
  obtain ⟨y0, -, -, -, -, y5, -⟩ := hY.1.ln
  unfold bgT
  rw [← ag_cost hX h hi, ← ag_mn2 h hi, ← h.2.2.1 0 (by decide) _ hn, ← h.2.1]
  split
  · exact aw_set h (by omega) (by omega) rfl
  · have h1 := aw_sI (k := 1) (aw_set (k := 0) (i := mnX X 2 i) (v := fA X 0 (mnX X 2 i) - costX E S L X t r n i) h (by omega) (by omega) rfl) (rfl : X.1 1 + costX E S L X t r n i = _)
    have h2 := aw_set (k := 5) (i := i) (v := 1) h1 (by rw [sI_2, sA_n (by decide)]; omega) (by rw [sI_2, sA_n (by decide)]; omega) rfl
    rw [sI_2, sA_n (by decide), sI_2, sA_n (by decide)] at h2
    exact h2
theorem ag_bgX (hX : wfX X t r p) (hY : wfX Y t r p) (h : agW X Y t r p) : ∀ i, i ≤ t → agW (bgX E S L t r n X i) (bgX E S L t r n Y i) t r p
  | 0, _ => h
  | i + 1, hi => by
    have ih := ag_bgX hX hY h i (by omega)
    have hX1 := bgX_wf (E := E) (S := S) (L := L) (n := n) hX i
    have hY1 := bgX_wf (E := E) (S := S) (L := L) (n := n) hY i
    rw [bgX, bgX]
    generalize bgX E S L t r n X i = X1 at *
    generalize bgX E S L t r n Y i = Y1 at *
    rw [← ih.1, ← ih.2.2.2.1 5 (by decide) (by decide) i (by omega), ← ih.2.2.2.1 3 (by decide) (by decide) i (by omega)]
    split
    · exact ag_bgT hX1 hY1 ih (by omega)
    · exact ih
theorem ag_trR (hX : wfX X t r p) (hY : wfX Y t r p) (h : agW X Y t r p) {i : Nat} (hi : i < r) (dr : Int64) : agW (trR E S L t r n (X, dr) i).1 (trR E S L t r n (Y, dr) i).1 t r p ∧ (trR E S L t r n (X, dr) i).2 = (trR E S L t r n (Y, dr) i).2 := by
  have hr := hX.1.2.2.2.1
  have x11 : (X.2 11).length = 10 := hX.1.ln.2.2.2.2.2.2.2.2.2.2.2
  have y11 : (Y.2 11).length = 10 := hY.1.ln.2.2.2.2.2.2.2.2.2.2.2
  have e11 := h.2.2.2.2 11 (by decide) (by decide) i hi
  have h1 : agW (sA X 11 ((X.2 11).set i (fA X 11 i + 1))) (sA Y 11 ((Y.2 11).set i (fA Y 11 i + 1))) t r p := aw_set h (by omega) (by omega) (by rw [e11])
  have hX1 : wfX (sA X 11 ((X.2 11).set i (fA X 11 i + 1))) t r p := wfX_sA hX (List.length_set ..) (by decide) (by decide) (by decide)
  have hY1 : wfX (sA Y 11 ((Y.2 11).set i (fA Y 11 i + 1))) t r p := wfX_sA hY (List.length_set ..) (by decide) (by decide) (by decide)
  unfold trR
  simp only
  rw [← e11] at *
  generalize sA X 11 ((X.2 11).set i (fA X 11 i + 1)) = X1 at *
  generalize sA Y 11 ((Y.2 11).set i (fA X 11 i + 1)) = Y1 at *
  obtain ⟨-, -, -, -, -, -, -, -, x8, x9, x10, -⟩ := hX1.1.ln
  obtain ⟨-, -, -, -, -, -, -, -, y8, y9, y10, -⟩ := hY1.1.ln
  have em : mayX E X1 t r i ↔ mayX E Y1 t r i := by
    unfold mayX
    rw [ag_tk h1, ag_eng h1, ag_cnt h1, h1.2.2.2.2 6 (by decide) (by decide) i hi, h1.2.2.2.2 7 (by decide) (by decide) i hi]
  by_cases c : mayX E X1 t r i
  · rw [if_pos c, if_pos (em.mp c)]
    split
    · exact ⟨aw_set h1 (by omega) (by omega) rfl, rfl⟩
    · have h2 := aw_set (k := 10) (i := i) (v := 1) h1 (by omega) (by omega) rfl
      have h3 := aw_set (k := 9) (i := i) (v := (drV dr - drV dr / 9 * 9) + 1) h2 (by rw [sA_n (by decide)]; omega) (by rw [sA_n (by decide)]; omega) rfl
      rw [sA_n (show 9 ≠ 10 by decide), sA_n (show 9 ≠ 10 by decide)] at h3
      exact ⟨h3, rfl⟩
  · rw [if_neg c, if_neg (fun z => c (em.mpr z))]
    split
    · exact ⟨aw_set h1 (by omega) (by omega) (by rw [← h1.1, ag_mn6 h1 hi, ag_val h1 (hY1.n6 hi)]), rfl⟩
    · exact ⟨aw_set h1 (by omega) (by omega) rfl, rfl⟩
theorem ag_trX (hX : wfX X t r p) (hY : wfX Y t r p) (h : agW X Y t r p) (dr : Int64) : ∀ i, i ≤ r → agW (trX E S L t r n (X, dr) i).1 (trX E S L t r n (Y, dr) i).1 t r p ∧ (trX E S L t r n (X, dr) i).2 = (trX E S L t r n (Y, dr) i).2
  | 0, _ => ⟨h, rfl⟩
  | i + 1, hi => by
    have ih := ag_trX hX hY h dr i (by omega)
    have hX1 := trX_wf (E := E) (S := S) (L := L) (n := n) (Y := (X, dr)) hX i
    have hY1 := trX_wf (E := E) (S := S) (L := L) (n := n) (Y := (Y, dr)) hY i
    rw [trX, trX]
    generalize trX E S L t r n (X, dr) i = X1 at *
    generalize trX E S L t r n (Y, dr) i = Y1 at *
    obtain ⟨X1, d1⟩ := X1
    obtain ⟨Y1, d2⟩ := Y1
    obtain ⟨ih, e⟩ := ih
    simp only at ih e hX1 hY1 ⊢
    subst e
    rw [← ih.1, ← ih.2.2.2.2 10 (by decide) (by decide) i (by omega), ← ih.2.2.2.2 8 (by decide) (by decide) i (by omega), ← ih.2.2.2.2 6 (by decide) (by decide) i (by omega)]
    split
    · exact ag_trR hX1 hY1 ih (by omega) _
    · exact ⟨ih, rfl⟩
theorem ag_fmX (hX : wfX X t r p) (hY : wfX Y t r p) (h : agW X Y t r p) (idle : Int32) : ∀ i, i ≤ p → agW (fmX E S L t r n idle X i) (fmX E S L t r n idle Y i) t r p
  | 0, _ => h
  | i + 1, hi => by
    have ih := ag_fmX hX hY h idle i (by omega)
    have hX1 := fmX_wf (E := E) (S := S) (L := L) (n := n) (idle := idle) hX i
    have hY1 := fmX_wf (E := E) (S := S) (L := L) (n := n) (idle := idle) hY i
    have hp := hX.2.1
    rw [fmX, fmX]
    split
    · exact ih
    · generalize fmX E S L t r n idle X i = X1 at *
      generalize fmX E S L t r n idle Y i = Y1 at *
      obtain ⟨-, x1, -⟩ := hX1.1.ln
      obtain ⟨-, y1, -⟩ := hY1.1.ln
      unfold fmR fmM
      rw [← ag_val ih (show i < p by omega), ← ih.2.2.1 1 (by decide) i (by omega)]
      exact aw_set ih (by omega) (by omega) rfl
theorem ag_cmX (hX : wfX X t r p) (hY : wfX Y t r p) (h : agW X Y t r p) (dr : Int64) : agW (cmX E S L t r n (X, dr)).1 (cmX E S L t r n (Y, dr)).1 t r p ∧ (cmX E S L t r n (X, dr)).2 = (cmX E S L t r n (Y, dr)).2 :=
  ag_trX (bgX_wf (endTX_wf (endCX_wf hX)) t) (bgX_wf (endTX_wf (endCX_wf hY)) t) (ag_bgX (endTX_wf (endCX_wf hX)) (endTX_wf (endCX_wf hY)) (ag_endT (endCX_wf hX) (endCX_wf hY) (ag_endC hX hY h)) t (Nat.le_refl t)) dr r (Nat.le_refl r)
theorem ag_faX (hX : wfX X t r p) (hY : wfX Y t r p) (h : agW X Y t r p) : agW (faX E S L t r p n X) (faX E S L t r p n Y) t r p := by
  have e : idX X t r = idX Y t r := by
    unfold idX
    rw [ag_tk h, ag_tn h]
  unfold faX
  rw [← e]
  have := ag_fmX (E := E) (S := S) (L := L) (n := n) hX hY h (idX X t r) p (Nat.le_refl p)
  exact aw_sI this (by rw [this.1])
theorem ag_stX (hX : wfX X t r p) (hY : wfX Y t r p) (h : agW X Y t r p) (dr : Int64) : agW (stX E S L t r p n (X, dr)).1 (stX E S L t r p n (Y, dr)).1 t r p ∧ (stX E S L t r p n (X, dr)).2 = (stX E S L t r p n (Y, dr)).2 := by
  rw [stX_eq, stX_eq]
  have := ag_cmX (E := E) (S := S) (L := L) (n := n) hX hY h dr
  exact ⟨ag_faX (cmX_wf hX) (cmX_wf hY) this.1, this.2⟩
end AG
