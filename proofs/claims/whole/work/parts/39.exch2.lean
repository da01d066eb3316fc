/-! Exchange: a tone begins, a call is tried, fame is gained. -/
def clampL (lo hi v : Int64) : Int32 := Int64.toInt32 (if lo < (if v < hi then v else hi) then (if v < hi then v else hi) else lo)
def mnX (X : aW) (k i : Nat) : Nat := (fA X k i).toNatClampNeg
def costX (E S L : aG) (X : aW) (t r n i : Nat) : Int32 :=
  if E.1 2 = 0 then (if valX E S L X t r n 2 (mnX X 2 i) 0 = -9223372036854775808 then (if (prF (fG S 2) (fG S 3) (X.1 0) n).2 * fA X 4 i < 999 then (prF (fG S 2) (fG S 3) (X.1 0) n).2 * fA X 4 i else 999) else clampL 0 999 (valX E S L X t r n 2 (mnX X 2 i) 0)) else 0
def bgT (E S L : aG) (X : aW) (t r n i : Nat) : aW :=
  if fA X 0 (mnX X 2 i) < costX E S L X t r n i then sA X 5 ((X.2 5).set i 3)
  else sA (sI (sA X 0 ((X.2 0).set (mnX X 2 i) (fA X 0 (mnX X 2 i) - costX E S L X t r n i))) 1 (X.1 1 + costX E S L X t r n i)) 5 ((X.2 5).set i 1)
abbrev mayX (E : aG) (X : aW) (t r i : Nat) : Prop := ((tkF (fA X 10) (fA X 6) (fA X 7) r >>> (fA X 6 i &&& 31)) &&& 1) = 0 ∧ ((engX X t r >>> (fA X 7 i &&& 31)) &&& 1) = 0 ∧ nI (cntF (fA X 10) 1 r) < E.1 0
def drN (dr : Int64) : Int64 := ((dr * 1103515245) + 12345) &&& 2147483647
def drV (dr : Int64) : Int32 := Int64.toInt32 (drN dr >>> (Int32.toInt64 16 &&& 63))
def trR (E S L : aG) (t r n : Nat) (Y : aW × Int64) (i : Nat) : aW × Int64 :=
  let X := sA Y.1 11 ((Y.1.2 11).set i (fA Y.1 11 i + 1))
  if mayX E X t r i then (if E.1 4 = 0 then (sA X 10 ((X.2 10).set i 1), Y.2) else (sA (sA X 10 ((X.2 10).set i 1)) 9 ((X.2 9).set i ((drV Y.2 - drV Y.2 / 9 * 9) + 1)), drN Y.2))
  else if fA Y.1 11 i + 1 < E.1 1 then (sA X 8 ((X.2 8).set i (X.1 0 + clampL 1 9 (valX E S L X t r n 0 (mnX X 6 i) (fA Y.1 11 i + 1)))), Y.2) else (sA X 10 ((X.2 10).set i 3), Y.2)
def fmM (E S L : aG) (X : aW) (t r n m : Nat) : Int32 := if valX E S L X t r n 1 m 0 = -9223372036854775808 then fG S 1 m / 10 + 1 else clampL 0 99 (valX E S L X t r n 1 m 0)
def fmR (E S L : aG) (X : aW) (t r n m : Nat) : aW := sA X 1 ((X.2 1).set m (if fA X 1 m + fmM E S L X t r n m < 9999 then fA X 1 m + fmM E S L X t r n m else 9999))
theorem mnX_of {X : aW} {k i m : Nat} (hm : m < 6) (h : fA X k i = nI m) : mnX X k i = m := by
  unfold mnX
  rw [h, nI_clamp (by omega)]
theorem wfM_sA {X : aW} {t r p k : Nat} {l : List Int32} (hw : wfM X t r p) (h2 : 2 ≠ k) (h6 : 6 ≠ k) (h7 : 7 ≠ k) : wfM (sA X k l) t r p := by
  unfold wfM fA at *
  rw [sA_n h2, sA_n h6, sA_n h7]
  exact hw
theorem wfX_sA {X : aW} {t r p k : Nat} {l : List Int32} (hw : wfX X t r p) (hl : l.length = (X.2 k).length) (h2 : 2 ≠ k) (h6 : 6 ≠ k) (h7 : 7 ≠ k) : wfX (sA X k l) t r p := ⟨wfW_sA hw.1 hl, hw.2.1, wfM_sA hw.2.2 h2 h6 h7⟩
theorem wfX_sI {X : aW} {t r p k : Nat} {v : Int32} (hw : wfX X t r p) (h2 : 2 ≠ k) (h3 : 3 ≠ k) : wfX (sI X k v) t r p := by
  obtain ⟨⟨h1, h4, h5⟩, h6, h7⟩ := hw
  exact ⟨⟨by rw [sI_n h2]; exact h1, by rw [sI_n h3]; exact h4, h5⟩, h6, h7⟩
theorem bgT_wf {E S L : aG} {X : aW} {t r p n i : Nat} (hw : wfX X t r p) : wfX (bgT E S L X t r n i) t r p := by
  unfold bgT
  split
  · exact wfX_sA hw (List.length_set ..) (by decide) (by decide) (by decide)
  · exact wfX_sA (wfX_sI (wfX_sA hw (List.length_set ..) (by decide) (by decide) (by decide)) (by decide) (by decide)) (by rw [List.length_set, sI_2, sA_n (by decide)]) (by decide) (by decide) (by decide)
theorem trR_wf {E S L : aG} {Y : aW × Int64} {t r p n i : Nat} (hw : wfX Y.1 t r p) : wfX (trR E S L t r n Y i).1 t r p := by
  have h1 : wfX (sA Y.1 11 ((Y.1.2 11).set i (fA Y.1 11 i + 1))) t r p := wfX_sA hw (List.length_set ..) (by decide) (by decide) (by decide)
  unfold trR
  simp only
  split
  · split
    · exact wfX_sA h1 (List.length_set ..) (by decide) (by decide) (by decide)
    · exact wfX_sA (wfX_sA h1 (List.length_set ..) (by decide) (by decide) (by decide)) (by rw [List.length_set, sA_n (show 9 ≠ 10 by decide)]) (by decide) (by decide) (by decide)
  · split
    · exact wfX_sA h1 (List.length_set ..) (by decide) (by decide) (by decide)
    · exact wfX_sA h1 (List.length_set ..) (by decide) (by decide) (by decide)
theorem fmR_wf {E S L : aG} {X : aW} {t r p n m : Nat} (hw : wfX X t r p) : wfX (fmR E S L X t r n m) t r p := wfX_sA hw (List.length_set ..) (by decide) (by decide) (by decide)
section KT
variable (xs : List Int32) (d : Nat) {h : ia_H} {e w s : Nat} {E S L : aG} {dr : Int64} {X : aW} {sc : List Int64 × List Int64} {t r p n : Nat}
theorem k_beginTone (q : wfC e w s E S L p n) (hX : wfX X t r p) (hsc : scw sc) {i : Nat} (hi : i < t) :
    ∃ sc', scw sc' ∧ ia_cal xs (d + 4) im_Exchange_beginTone [.ref e, .ref w, .int (nI i)] (cy h e w s E S L dr X sc) = some (none, cy h e w s E S L dr (bgT E S L X t r n i) sc') := by
  have dq := q.1
  have hS := q.2.2.2.1
  have hw := hX.1
  obtain ⟨m, hm, em⟩ := hX.2.2.1 i hi
  have hm6 : m < 6 := by have := hX.2.1; omega
  have emn : mnX X 2 i = m := mnX_of hm6 em
  have l0 := hw.ln.1
  have l5 := hw.ln.2.2.2.2.2.1
  have ht8 := hw.2.2.1
  obtain ⟨r2, r3, r4, r5⟩ := hw.rt hi
  rw [em] at r2
  have r0 : rd (X.2 0) (nI m) = some (fA X 0 m) := rdA (by omega) (by omega)
  obtain ⟨sc1, hsc1, hv⟩ := k_valueOf xs d (h := h) (dr := dr) q hw hsc (k := 2) (m := m) (by decide) hm6 (kI := 2) (mI := nI m) rfl rfl 0
  refine ⟨sc1, hsc1, ?_⟩
  have fin : ∀ c N, ia_qr xs (ia_cal xs (d + 3)) im_Exchange_beginTone (N + 1) 41 [.float 0, .ref w, .int (nI i), .int (nI m), .float 0, .float 0, .int c] [] (cy h e w s E S L dr X sc1) = some (none, cy h e w s E S L dr (if fA X 0 m < c then sA X 5 ((X.2 5).set i 3) else sA (sI (sA X 0 ((X.2 0).set m (fA X 0 m - c))) 1 (X.1 1 + c)) 5 ((X.2 5).set i 1)) sc1) := by
    intro c N
    rw [iq_Exchange_beginTone_41]
    have w5 : ∀ v, wr (X.2 5) (nI i) v = some ((X.2 5).set i v) := fun v => wr_nI (by omega) (by omega)
    have w0 : ∀ v, wr (X.2 0) (nI m) v = some ((X.2 0).set m v) := fun v => wr_nI (by omega) (by omega)
    have e1 : (sA X 0 ((X.2 0).set m (fA X 0 m - c))).1 1 = X.1 1 := rfl
    have e2 : (sI (sA X 0 ((X.2 0).set m (fA X 0 m - c))) 1 (X.1 1 + c)).2 5 = X.2 5 := rfl
    simp only [↓cy_W_Rb dq, ↓cy_W_ldb dq, ↓bs r0, ↓cy_W_stb dq, ↓bs (w5 _), ↓bs (w0 _), ↓cy_W_Ib dq, ↓cy_W_pfb dq, e1, e2]
    split <;> rfl
  have e41 : ∀ c N, ia_qr xs (ia_cal xs (d + 3)) im_Exchange_beginTone (N + 1 + 1) 35 [.ref e, .ref w, .int (nI i), .int (nI m), .float 0, .float 0, .float 0] [.int c] (cy h e w s E S L dr X sc1) = some (none, cy h e w s E S L dr (if fA X 0 m < (if E.1 2 = 0 then c else 0) then sA X 5 ((X.2 5).set i 3) else sA (sI (sA X 0 ((X.2 0).set m (fA X 0 m - (if E.1 2 = 0 then c else 0)))) 1 (X.1 1 + (if E.1 2 = 0 then c else 0))) 5 ((X.2 5).set i 1)) sc1) := by
    intro c N
    rw [iq_Exchange_beginTone_35]
    simp only [↓cy_E_Ib]
    by_cases hf : E.1 2 = 0
    · simp only [if_pos hf]
      exact fin c N
    · simp only [if_neg hf]
      exact fin 0 N
  rw [iu_Exchange_beginTone, iq_Exchange_beginTone_0]
  unfold bgT costX
  rw [emn]
  simp only [↓cy_W_Rb dq, ↓cy_W_ldb dq, ↓bs r2, ↓cy_E_clsb, ↓cL_of hv, lg0]
  by_cases h0 : valX E S L X t r n 2 m 0 = -9223372036854775808
  · simp only [if_pos h0]
    simp only [↓cy_Es q, ↓cy_W_Ib dq, ↓cy_S_clsb dq, ↓cI_of (cy_priceAt xs (d + 2) dq hS _), ↓cy_W_Rb dq, ↓cy_W_ldb dq, ↓bs r4, ↓cI_of (k_minI _ _ _ _ _)]
    exact e41 _ _
  · simp only [if_neg h0]
    simp only [↓cL_of (k_minJ _ _ _ _ _), ↓cL_of (k_maxJ _ _ _ _ _)]
    exact e41 _ _
theorem k_mayConnect (q : wfC e w s E S L p n) (hX : wfX X t r p) {i : Nat} (hi : i < r) :
    ia_cal xs (d + 2) im_Exchange_mayConnect [.ref e, .ref w, .int (nI i)] (cy h e w s E S L dr X sc) = some (some (.int (if mayX E X t r i then 1 else 0)), cy h e w s E S L dr X sc) := by
  have dq := q.1
  have hw := hX.1
  obtain ⟨r6, r7, r8, r9, r10, r11⟩ := hw.rr hi
  rw [iu_Exchange_mayConnect, iq_Exchange_mayConnect_0]
  simp only [↓cy_W_clsb dq, ↓cI_of (cy_talking xs d dq hw), ↓cI_of (cy_toning xs d dq hw), ↓cy_W_Rb dq, ↓cy_W_ldb dq, ↓bs r6, ↓bs r7, ↓cI_of (cy_rings xs d dq hw _), ↓cy_E_Ib, ↓ok0, ↓ok1]
  unfold mayX engX
  by_cases c1 : ((tkF (fA X 10) (fA X 6) (fA X 7) r >>> (fA X 6 i &&& 31)) &&& 1) = 0
  · by_cases c2 : (((tkF (fA X 10) (fA X 6) (fA X 7) r ||| tnF (fA X 5) (fA X 2) t) >>> (fA X 7 i &&& 31)) &&& 1) = 0
    · by_cases c3 : nI (cntF (fA X 10) 1 r) < E.1 0
      · simp only [if_pos c1, if_pos c2, if_pos c3, if_pos (And.intro c1 (And.intro c2 c3))]
      · simp only [if_pos c1, if_pos c2, if_neg c3, if_neg (fun z : _ ∧ _ ∧ _ => c3 z.2.2)]
    · simp only [if_pos c1, if_neg c2, if_neg (fun z : _ ∧ _ ∧ _ => c2 z.2.1)]
  · simp only [if_neg c1, if_neg (fun z : _ ∧ _ ∧ _ => c1 z.1)]
end KT
