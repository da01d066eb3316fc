/-! What quarters look at: five numbers of the exchange, the laws' rows. -/
section CE
variable {E E' S L L' : aG} {X : aW} {Y : aW × Int64} {t r p n : Nat}
theorem fG_L (hL : L'.2.1 = L.2.1) (k : Nat) : fG L' k = fG L k := by
  unfold fG
  rw [hL]
theorem valX_c (hE : ∀ k, k < 5 → E'.1 k = E.1 k) (hL : L'.2.1 = L.2.1) {k m : Nat} {turn : Int32} : valX E' S L' X t r n k m turn = valX E S L X t r n k m turn := by
  unfold valX tldI evL msX
  rw [fG_L hL, fG_L hL, fG_L hL, fG_L hL, hE 2 (by decide)]
theorem costX_c (hE : ∀ k, k < 5 → E'.1 k = E.1 k) (hL : L'.2.1 = L.2.1) {i : Nat} : costX E' S L' X t r n i = costX E S L X t r n i := by
  unfold costX
  rw [valX_c hE hL, hE 2 (by decide)]
theorem bgT_c (hE : ∀ k, k < 5 → E'.1 k = E.1 k) (hL : L'.2.1 = L.2.1) {i : Nat} : bgT E' S L' X t r n i = bgT E S L X t r n i := by
  unfold bgT
  rw [costX_c hE hL]
theorem bgX_c (hE : ∀ k, k < 5 → E'.1 k = E.1 k) (hL : L'.2.1 = L.2.1) : ∀ i, bgX E' S L' t r n X i = bgX E S L t r n X i
  | 0 => rfl
  | i + 1 => by rw [bgX, bgX, bgX_c hE hL i, bgT_c hE hL]
theorem trR_c (hE : ∀ k, k < 5 → E'.1 k = E.1 k) (hL : L'.2.1 = L.2.1) {i : Nat} : trR E' S L' t r n Y i = trR E S L t r n Y i := by
  unfold trR mayX
  simp only
  rw [valX_c hE hL, hE 0 (by decide), hE 1 (by decide), hE 4 (by decide)]
theorem trX_c (hE : ∀ k, k < 5 → E'.1 k = E.1 k) (hL : L'.2.1 = L.2.1) : ∀ i, trX E' S L' t r n Y i = trX E S L t r n Y i
  | 0 => rfl
  | i + 1 => by rw [trX, trX, trX_c hE hL i, trR_c hE hL, hE 3 (by decide)]
theorem fmX_c (hE : ∀ k, k < 5 → E'.1 k = E.1 k) (hL : L'.2.1 = L.2.1) {idle : Int32} : ∀ i, fmX E' S L' t r n idle X i = fmX E S L t r n idle X i
  | 0 => rfl
  | i + 1 => by
    rw [fmX, fmX, fmX_c hE hL i]
    unfold fmR fmM
    rw [valX_c hE hL]
theorem cmX_c (hE : ∀ k, k < 5 → E'.1 k = E.1 k) (hL : L'.2.1 = L.2.1) : cmX E' S L' t r n Y = cmX E S L t r n Y := by
  unfold cmX
  rw [bgX_c hE hL, trX_c hE hL]
theorem stX_c (hE : ∀ k, k < 5 → E'.1 k = E.1 k) (hL : L'.2.1 = L.2.1) : stX E' S L' t r p n Y = stX E S L t r p n Y := by
  rw [stX_eq, stX_eq, cmX_c hE hL]
  unfold faX
  rw [fmX_c hE hL]
theorem stN_c (hE : ∀ k, k < 5 → E'.1 k = E.1 k) (hL : L'.2.1 = L.2.1) : ∀ i, stN E' S L' t r p n Y i = stN E S L t r p n Y i
  | 0 => rfl
  | i + 1 => by
    show stX E' S L' t r p n (stN E' S L' t r p n Y i) = stX E S L t r p n (stN E S L t r p n Y i)
    rw [stN_c hE hL i, stX_c hE hL]
theorem trR_d (h4 : E.1 4 = 0) {dr dr' : Int64} {i : Nat} : (trR E S L t r n (X, dr) i).1 = (trR E S L t r n (X, dr') i).1 ∧ (trR E S L t r n (X, dr) i).2 = dr := by
  unfold trR
  simp only [h4, if_true]
  split
  · exact ⟨rfl, rfl⟩
  · split
    · exact ⟨rfl, rfl⟩
    · exact ⟨rfl, rfl⟩
theorem trX_d (h4 : E.1 4 = 0) {dr dr' : Int64} : ∀ i, (trX E S L t r n (X, dr) i).1 = (trX E S L t r n (X, dr') i).1 ∧ (trX E S L t r n (X, dr) i).2 = dr
  | 0 => ⟨rfl, rfl⟩
  | i + 1 => by
    have h1 := trX_d h4 (dr := dr) (dr' := dr') i
    rw [trX, trX]
    generalize trX E S L t r n (X, dr) i = A at *
    generalize trX E S L t r n (X, dr') i = B at *
    obtain ⟨A, a⟩ := A
    obtain ⟨B, b⟩ := B
    obtain ⟨g1, g2⟩ := h1
    simp only at g1 g2 ⊢
    subst g1
    subst g2
    split
    · exact trR_d h4
    · exact ⟨rfl, rfl⟩
theorem stX_d (h4 : E.1 4 = 0) {dr dr' : Int64} : (stX E S L t r p n (X, dr)).1 = (stX E S L t r p n (X, dr')).1 ∧ (stX E S L t r p n (X, dr)).2 = dr := by
  rw [stX_eq, stX_eq]
  have h1 : (cmX E S L t r n (X, dr)).1 = (cmX E S L t r n (X, dr')).1 ∧ (cmX E S L t r n (X, dr)).2 = dr := trX_d h4 r
  exact ⟨by rw [h1.1], h1.2⟩
theorem stN_d (h4 : E.1 4 = 0) {dr dr' : Int64} : ∀ i, (stN E S L t r p n (X, dr) i).1 = (stN E S L t r p n (X, dr') i).1 ∧ (stN E S L t r p n (X, dr) i).2 = dr
  | 0 => ⟨rfl, rfl⟩
  | i + 1 => by
    have h1 := stN_d h4 (dr := dr) (dr' := dr') i
    show (stX E S L t r p n (stN E S L t r p n (X, dr) i)).1 = (stX E S L t r p n (stN E S L t r p n (X, dr') i)).1 ∧ (stX E S L t r p n (stN E S L t r p n (X, dr) i)).2 = dr
    generalize stN E S L t r p n (X, dr) i = A at *
    generalize stN E S L t r p n (X, dr') i = B at *
    obtain ⟨A, a⟩ := A
    obtain ⟨B, b⟩ := B
    obtain ⟨g1, g2⟩ := h1
    simp only at g1 g2 ⊢
    subst g1
    subst g2
    exact stX_d h4
end CE
/-- the exchange, opened: all that counts -/
def dE (S : aG) : aG := opE (fun _ => 0, fun _ => [], fun _ => 0, fun _ => [], fun _ => 0) 0 S
theorem dE_k {E0 S : aG} {s : Nat} : ∀ k, k < 5 → (opE E0 s S).1 k = (dE S).1 k
  | 0, _ => rfl
  | 1, _ => rfl
  | 2, _ => rfl
  | 3, _ => rfl
  | 4, _ => rfl
section LK
variable (xs : List Int32) (d : Nat) {H h : ia_H} {x a : Nat} {C : aC} {M : aG} {σ : Bool} {p n r t t0 q : Nat}
/-- what foresight looks at, from any state that belongs here -/
theorem lk (hR : Rp x C M σ p n r t t0 q) {C1 : aC} (hc : scC C C1 σ) {j : Nat} (hj : j < 7) (hj5 : j ≠ 5) (hJ : lnX (C.2 j)) :
    ∃ C2, scC C C2 σ ∧ fx x C2 σ ∧ (C2.1 12).2.2.2.2 0 = sd x σ ∧ wfS (C2.1 (kS σ)) p n ∧ wfQ (C2.1 (kL σ)) ∧ C2.2 5 = C.2 j ∧ (∃ E0, C2.1 12 = opE E0 (sd x σ) (C.1 (kS σ))) ∧ C2.1 (kS σ) = C.1 (kS σ) ∧ (C2.1 (kL σ)).2.1 = (C.1 (kL σ)).2.1 ∧ ia_cal xs (d + 3) im_Foresight_look [.ref (x + 109), .ref (sd x σ), .ref (wA x j)] (tot H x C1) = some (none, tot H x C2) := by
  have hR1 := hR.sc hc hR.sm
  have e1 := hc.2.2.2.2.2.2.2.2.2.2.1 j hj5
  have h1 := t_look xs d (H := H) (x := x) (C := C1) hR1.1 hj hj5 (by rw [e1]; exact hJ) hR1.2.2.2.2.2.2.2.2.2.2
  have hc2 := hc.trans (scC.look (C := C1) (j := j) hR1.2.1.2.1 (by rw [e1]; exact hJ) (opE (C1.1 12) (sd x σ) (C1.1 (kS σ))))
  have hR2 := hR.sc hc2 hR.sm
  have hS := hc.2.2.2.2.2.2.2.1 σ
  refine ⟨_, hc2, hR2.1, ?_, hR2.2.1.1, hR2.2.1.2.1, ?_, ⟨C1.1 12, ?_⟩, ?_, ?_, h1⟩
  · rw [uG_s]; rfl
  · rw [uG_2, uW_s]; exact e1
  · rw [uG_s, hS]
  · exact hc2.2.2.2.2.2.2.2.1 σ
  · obtain ⟨sc, -, es⟩ := hc2.2.2.2.2.2.2.2.2.2.1
    rw [es]; rfl
end LK
