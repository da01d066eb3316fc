/-! World's methods on the whole heap; how calls stand after quarters. -/
section TWm
variable (xs : List Int32) (d : Nat) {H : ia_H} {x : Nat} {C : aC} {k t r : Nat} (hk : k < 7)
theorem w_rings (hk : k < 7) (hX : wfW (C.2 k) t r) (st : Int32) : ia_cal xs (d + 1) im_World_ringsThatAre [.ref (wA x k), .int st] (tot H x C) = some (some (.int (nI (cntF (fA (C.2 k) 10) st r))), tot H x C) := by
  have this := k_ringsF xs d (tot H x C) (wA x k) (C.2 k) hX st
  simp only [tq_W hk, uW_id] at this
  exact this
theorem w_talking (hk : k < 7) (hX : wfW (C.2 k) t r) : ia_cal xs (d + 1) im_World_talking [.ref (wA x k)] (tot H x C) = some (some (.int (tkF (fA (C.2 k) 10) (fA (C.2 k) 6) (fA (C.2 k) 7) r)), tot H x C) := by
  have this := k_talking xs d (tot H x C) (wA x k) (C.2 k) hX
  simp only [tq_W hk, uW_id] at this
  exact this
theorem w_engaged (hk : k < 7) (hX : wfW (C.2 k) t r) : ia_cal xs (d + 2) im_World_engaged [.ref (wA x k)] (tot H x C) = some (some (.int (engX (C.2 k) t r)), tot H x C) := by
  have this := k_engaged xs d (tot H x C) (wA x k) (C.2 k) hX
  simp only [tq_W hk, uW_id] at this
  exact this
theorem w_ringOf (hk : k < 7) (hX : wfW (C.2 k) t r) (p : Int32) : ia_cal xs (d + 1) im_World_ringOf [.ref (wA x k), .int p] (tot H x C) = some (some (.int (coI (C.2 k) r p)), tot H x C) := by
  have this := k_ringOf xs d (tot H x C) (wA x k) (C.2 k) hX p
  simp only [tq_W hk, uW_id] at this
  exact this
theorem w_isThrough (hk : k < 7) (hX : wfW (C.2 k) t r) {i : Nat} (hi : i < r) : ia_cal xs (d + 1) im_World_isThrough [.ref (wA x k), .int (nI i)] (tot H x C) = some (some (.int (thruI (fA (C.2 k) 10 i))), tot H x C) := by
  have this := k_isThrough xs d (tot H x C) (wA x k) (C.2 k) hX hi
  simp only [tq_W hk, uW_id] at this
  exact this
theorem w_throughs (hk : k < 7) (hX : wfW (C.2 k) t r) : ia_cal xs (d + 2) im_World_throughs [.ref (wA x k)] (tot H x C) = some (some (.int (nI (cntF (fA (C.2 k) 10) 1 r) + nI (cntF (fA (C.2 k) 10) 2 r))), tot H x C) := by
  have this := k_throughs xs d (tot H x C) (wA x k) (C.2 k) hX
  simp only [tq_W hk, uW_id] at this
  exact this
theorem w_triesSoFar (hk : k < 7) (hX : wfW (C.2 k) t r) : ia_cal xs (d + 1) im_World_triesSoFar [.ref (wA x k)] (tot H x C) = some (some (.int (sumF (fA (C.2 k) 11) r)), tot H x C) := by
  have this := k_triesSoFar xs d (tot H x C) (wA x k) (C.2 k) hX
  simp only [tq_W hk, uW_id] at this
  exact this
theorem w_calledWith (hk : k < 7) (hX : wfW (C.2 k) t r) (ppl : Int32) : ia_cal xs (d + 2) im_World_calledWith [.ref (wA x k), .int ppl] (tot H x C) = some (some (.int (cwF (fA (C.2 k) 10) (fA (C.2 k) 6) (fA (C.2 k) 7) ppl r)), tot H x C) := by
  have this := k_calledWith xs d (tot H x C) (wA x k) (C.2 k) hX ppl
  simp only [tq_W hk, uW_id] at this
  exact this
theorem w_livingTones (hk : k < 7) (hX : wfW (C.2 k) t r) (who : Int32) : ia_cal xs (d + 1) im_World_livingTones [.ref (wA x k), .int who] (tot H x C) = some (some (.int (lvF (fA (C.2 k) 5) (fA (C.2 k) 2) who t)), tot H x C) := by
  have this := k_livingTones xs d (tot H x C) (wA x k) (C.2 k) hX who
  simp only [tq_W hk, uW_id] at this
  exact this
theorem w_toneToBegin (hk : k < 7) (hX : wfW (C.2 k) t r) (j : Int32) : ia_cal xs (d + 1) im_World_toneToBegin [.ref (wA x k), .int j] (tot H x C) = some (some (.int (nthB (fA (C.2 k) 5) t 0 j)), tot H x C) := by
  have this := k_toneToBegin xs d (tot H x C) (wA x k) (C.2 k) hX j
  simp only [tq_W hk, uW_id] at this
  exact this
theorem w_killTones (hk : k < 7) (hX : wfW (C.2 k) t r) (set : Int32) : ia_cal xs (d + 1) im_World_killTones [.ref (wA x k), .int set] (tot H x C) = some (none, tot H x (uW C k (killX (C.2 k) set t))) := by
  have this := k_killTones xs d (tot H x C) (wA x k) (C.2 k) hX set
  simp only [tq_W hk, uW_id] at this
  exact this
theorem w_dropTone (hk : k < 7) (hX : wfW (C.2 k) t r) : ia_cal xs (d + 1) im_World_dropTone [.ref (wA x k)] (tot H x C) = some (none, tot H x (uW C k (sI (C.2 k) 2 (nI (t - 1))))) := by
  have this := k_dropTone xs d (tot H x C) (wA x k) (C.2 k) hX
  simp only [tq_W hk, uW_id] at this
  exact this
/-- a tone more -/
def adT (X : aW) (t : Nat) (v1 v2 v3 : Int32) : aW := sI (sA (sA (sA (sA X 2 ((X.2 2).set t v1)) 3 ((X.2 3).set t v2)) 4 ((X.2 4).set t v3)) 5 ((X.2 5).set t 0)) 2 (nI (t + 1))
theorem w_addTone (hk : k < 7) (hX : wfW (C.2 k) t r) (ht : t < 8) (v1 v2 v3 : Int32) : ia_cal xs (d + 1) im_World_addTone [.ref (wA x k), .int v1, .int v2, .int v3] (tot H x C) = some (none, tot H x (uW C k (adT (C.2 k) t v1 v2 v3))) := by
  have this := k_addTone xs d (tot H x C) (wA x k) (C.2 k) hX ht v1 v2 v3
  simp only [tq_W hk, uW_id] at this
  exact this
end TWm
section ST
variable {E S L : aG} {X : aW} {Y : aW × Int64} {t r p n : Nat}
theorem bgX_row {k : Nat} (h0 : k ≠ 0) (h5 : k ≠ 5) : ∀ i, (bgX E S L t r n X i).2 k = X.2 k
  | 0 => rfl
  | i + 1 => by
    have ih := bgX_row (k := k) h0 h5 i
    rw [bgX]
    split
    · unfold bgT
      split
      · rw [sA_n h5]
        exact ih
      · rw [sA_n h5, sI_2, sA_n h0]
        exact ih
    · exact ih
theorem trX_10 (hX : wfX Y.1 t r p) {i : Nat} (h0 : ¬ fA Y.1 10 i = 0) : ∀ j, j ≤ r → fA (trX E S L t r n Y j).1 10 i = fA Y.1 10 i
  | 0, _ => rfl
  | j + 1, hj => by
    have ih := trX_10 hX h0 j (by omega)
    have hw := trX_wf (E := E) (S := S) (L := L) (n := n) hX j
    have hr := hX.1.2.2.2.1
    rw [trX]
    generalize trX E S L t r n Y j = Z at *
    by_cases c : fA Z.1 10 j = 0 ∧ fA Z.1 8 j = Z.1.1 0 ∧ ¬ fA Z.1 6 j = E.1 3
    · rw [if_pos c]
      have hji : i ≠ j := fun e => by
        subst e
        rw [ih] at c
        exact h0 c.1
      have l10 : (Z.1.2 10).length = 10 := hw.1.ln.2.2.2.2.2.2.2.2.2.2.1
      have key : ∀ (Q : aW) (v : Int32), Q.2 10 = Z.1.2 10 → fA (sA Q 10 ((Q.2 10).set j v)) 10 i = fA Z.1 10 i := fun Q v hQ => by
        rw [fA_set (by rw [hQ]; omega), if_neg hji]
        unfold fA
        rw [hQ]
      rw [← ih]
      have e11 : (sA Z.1 11 ((Z.1.2 11).set j (fA Z.1 11 j + 1))).2 10 = Z.1.2 10 := sA_n (by decide)
      unfold trR
      simp only
      split
      · split
        · exact key _ 1 e11
        · rw [fA_n (by decide)]
          exact key _ 1 e11
      · split
        · rw [fA_n (by decide), fA_n (by decide)]
        · exact key _ 3 e11
    · rw [if_neg c]
      exact ih
/-- a call that isn't waiting -/
theorem st10 (hX : wfX Y.1 t r p) {i : Nat} (hi : i < r) (h0 : ¬ fA Y.1 10 i = 0) : fA (stX E S L t r p n Y).1 10 i = if fA Y.1 10 i = 1 ∧ ¬ Y.1.1 0 < fA Y.1 8 i + fA Y.1 9 i then 2 else fA Y.1 10 i := by
  have hr := hX.1.2.2.2.1
  have l10 : (Y.1.2 10).length = 10 := hX.1.ln.2.2.2.2.2.2.2.2.2.2.1
  have e1 : fA (endCX Y.1 r) 10 i = endCG Y.1 i := by
    unfold endCX
    rw [fA_up (by omega), if_pos hi]
  have e2 : fA (bgX E S L t r n (endTX (endCX Y.1 r) t) t) 10 i = endCG Y.1 i := by
    rw [← e1]
    unfold fA
    rw [bgX_row (by decide) (by decide)]
    unfold endTX
    rw [sA_n (by decide)]
  have hne : ¬ endCG Y.1 i = 0 := by
    unfold endCG
    split
    · decide
    · exact h0
  rw [stX_eq]
  show fA (faX E S L t r p n (cmX E S L t r n Y).1) 10 i = _
  have e3 : fA (faX E S L t r p n (cmX E S L t r n Y).1) 10 i = fA (cmX E S L t r n Y).1 10 i := by
    unfold faX
    show fA (fmX E S L t r n _ _ p) 10 i = _
    rw [fmX_f (by decide)]
  rw [e3]
  unfold cmX
  rw [trX_10 (Y := (bgX E S L t r n (endTX (endCX Y.1 r) t) t, Y.2)) (bgX_wf (endTX_wf (endCX_wf hX)) t) (by show ¬ fA (bgX E S L t r n (endTX (endCX Y.1 r) t) t) 10 i = 0; rw [e2]; exact hne) r (Nat.le_refl r)]
  exact e2
theorem st3 (hX : wfX Y.1 t r p) {i : Nat} (hi : i < r) (h : ¬ fA Y.1 10 i = 0) (h1 : ¬ fA Y.1 10 i = 1) : fA (stX E S L t r p n Y).1 10 i = fA Y.1 10 i := by
  rw [st10 hX hi h, if_neg (fun z => h1 z.1)]
theorem cnt0 {f : Nat → Int32} {v : Int32} : ∀ r, cntF f v r = 0 ↔ ∀ i, i < r → ¬ f i = v
  | 0 => ⟨fun _ i hi => by omega, fun _ => rfl⟩
  | r + 1 => by
    rw [cntF]
    constructor
    · intro h i hi
      by_cases e : i = r
      · subst e
        intro q
        rw [if_pos q] at h
        omega
      · exact (cnt0 r).mp (by omega) i (by omega)
    · intro h
      rw [(cnt0 r).mpr (fun i hi => h i (by omega)), if_neg (h r (by omega))]
theorem cnt_c {f g : Nat → Int32} {v : Int32} : ∀ r, (∀ i, i < r → (f i = v ↔ g i = v)) → cntF f v r = cntF g v r
  | 0, _ => rfl
  | r + 1, h => by
    rw [cntF, cntF, cnt_c r (fun i hi => h i (by omega))]
    by_cases c : f r = v
    · rw [if_pos c, if_pos ((h r (by omega)).mp c)]
    · rw [if_neg c, if_neg (fun z => c ((h r (by omega)).mpr z))]
theorem cnt_le {f : Nat → Int32} {v : Int32} : ∀ r, cntF f v r ≤ r
  | 0 => Nat.le_refl 0
  | r + 1 => by
    rw [cntF]
    have := cnt_le (f := f) (v := v) r
    split <;> omega
/-- where none is waiting none is given up any more -/
theorem st_nw (hX : wfX Y.1 t r p) (h : cntF (fA Y.1 10) 0 r = 0) : cntF (fA (stX E S L t r p n Y).1 10) 0 r = 0 ∧ cntF (fA (stX E S L t r p n Y).1 10) 3 r = cntF (fA Y.1 10) 3 r := by
  have h0 := (cnt0 r).mp h
  refine ⟨(cnt0 r).mpr fun i hi => ?_, cnt_c r fun i hi => ?_⟩
  · rw [st10 hX hi (h0 i hi)]
    split
    · decide
    · exact h0 i hi
  · rw [st10 hX hi (h0 i hi)]
    split
    · rename_i c
      rw [c.1]
      decide
    · exact Iff.rfl
theorem stN_nw (hX : wfX Y.1 t r p) {i : Nat} (h : cntF (fA (stN E S L t r p n Y i).1 10) 0 r = 0) : ∀ j, cntF (fA (stN E S L t r p n Y (i + j)).1 10) 0 r = 0 ∧ cntF (fA (stN E S L t r p n Y (i + j)).1 10) 3 r = cntF (fA (stN E S L t r p n Y i).1 10) 3 r
  | 0 => ⟨h, rfl⟩
  | j + 1 => by
    have ih := stN_nw hX h j
    have := st_nw (E := E) (S := S) (L := L) (n := n) (stN_wf (E := E) (S := S) (L := L) (n := n) hX (i + j)) ih.1
    exact ⟨this.1, this.2.trans ih.2⟩
end ST
abbrev fN (C : aC) (σ : Bool) (t r p n : Nat) (Y : aW × Int64) (i : Nat) : aW × Int64 := stN (C.1 12) (C.1 (kS σ)) (C.1 (kL σ)) t r p n Y i
section TG
variable (xs : List Int32) (d : Nat) {H : ia_H} {x : Nat} {C : aC} {σ : Bool} {t r p n : Nat} {X : aW} {dr : Int64} {sc : List Int64 × List Int64}
theorem fN_wf (hX : wfX X t r p) (i : Nat) : wfX (fN C σ t r p n (X, dr) i).1 t r p := stN_wf (Y := (X, dr)) hX i
theorem t_stepN (q : fx x C σ) (hE : (C.1 12).2.2.2.2 0 = sd x σ) (hS : wfS (C.1 (kS σ)) p n) (hQ : wfQ (C.1 (kL σ))) (hX : wfX X t r p) (i : Nat) (hsc : scw sc) :
    ∃ sc', scw sc' ∧ ia_cal xs (d + 5) im_Exchange_step [.ref (ed x true), .ref (wA x 5)] (tot H x (nx C true 5 σ (fN C σ t r p n (X, dr) i).1 (fN C σ t r p n (X, dr) i).2 sc)) = some (none, tot H x (nx C true 5 σ (fN C σ t r p n (X, dr) (i + 1)).1 (fN C σ t r p n (X, dr) (i + 1)).2 sc')) :=
  t_step xs d (H := H) (ε := true) (k := 5) (dr := (fN C σ t r p n (X, dr) i).2) q (by decide) (dj15 x σ).2 hE hS hQ (fN_wf hX i) hsc
theorem t_givenUpIn (q : fx x C σ) (hE : (C.1 12).2.2.2.2 0 = sd x σ) (hS : wfS (C.1 (kS σ)) p n) (hQ : wfQ (C.1 (kL σ))) (hX : wfX X t r p) (hsc : scw sc) {m : Nat} (hm : m ≤ 99) {mI : Int32} (hmI : mI = nI m) :
    ∃ X' dr' sc', scw sc' ∧ wfX X' t r p ∧ ia_cal xs (d + 6) im_Foresight_givenUpIn [.ref (x + 109), .int mI] (tot H x (nx C true 5 σ X dr sc)) = some (some (.int (nI (cntF (fA (fN C σ t r p n (X, dr) m).1 10) 3 r) - nI (cntF (fA X 10) 3 r))), tot H x (nx C true 5 σ X' dr' sc')) := by
  subst hmI
  have hr10 := hX.1.2.2.2.1
  have w3 := fun (X : aW) (dr : Int64) (s : List Int64 × List Int64) (hX : wfX X t r p) (st : Int32) => w_rings xs (d + 4) (H := H) (x := x) (C := nx C true 5 σ X dr s) (k := 5) (t := t) (r := r) (by decide) (by rw [nx_W]; exact hX.1) st
  simp only [nx_W] at w3
  rw [iu_Foresight_givenUpIn, iq_Foresight_givenUpIn_0]
  simp only [↓tF_Rb (nx_fx q), ↓tW_clsb (show 5 < 7 by decide), ↓cI_of (w3 X dr sc hX 3)]
  have key : ∀ k i s N, i + k = m → scw s → k + 2 ≤ N → ∃ X' dr' sc', scw sc' ∧ wfX X' t r p ∧ ia_qr xs (ia_cal xs (d + 5)) im_Foresight_givenUpIn N 7 [.ref (x + 109), .int (nI m), .int (nI (cntF (fA X 10) 3 r)), .int (nI i)] [] (tot H x (nx C true 5 σ (fN C σ t r p n (X, dr) i).1 (fN C σ t r p n (X, dr) i).2 s)) = some (some (.int (nI (cntF (fA (fN C σ t r p n (X, dr) m).1 10) 3 r) - nI (cntF (fA X 10) 3 r))), tot H x (nx C true 5 σ X' dr' sc')) := by
    intro k
    induction k with
    | zero =>
      intro i s N hi hs hN
      obtain ⟨N, rfl⟩ : ∃ m, N = m + 1 + 1 := ⟨N - 2, by omega⟩
      have : i = m := by omega
      subst this
      have hw := fN_wf (C := C) (σ := σ) (n := n) (dr := dr) hX i
      refine ⟨(fN C σ t r p n (X, dr) i).1, (fN C σ t r p n (X, dr) i).2, s, hs, hw, ?_⟩
      rw [iq_Foresight_givenUpIn_7, if_n (nI_nlt (Nat.le_refl i) (show i < 2 ^ 31 by omega)), iq_Foresight_givenUpIn_22]
      simp only [↓tF_Rb (nx_fx q), ↓tW_clsb (show 5 < 7 by decide), ↓cI_of (w3 _ _ s hw 3)]
    | succ k ih =>
      intro i s N hi hs hN
      obtain ⟨N, rfl⟩ : ∃ m, N = m + 1 + 1 := ⟨N - 2, by omega⟩
      have hw := fN_wf (C := C) (σ := σ) (n := n) (dr := dr) hX i
      rw [iq_Foresight_givenUpIn_7]
      simp only [↓if_p (nI_lt (show i < m by omega) (show m < 2 ^ 31 by omega)), ↓tF_Rb (nx_fx q), ↓tW_clsb (show 5 < 7 by decide), ↓cI_of (w3 _ _ s hw 0), ↓tE_clsb, nI_1]
      by_cases c : cntF (fA (fN C σ t r p n (X, dr) i).1 10) 0 r = 0
      · have e := (stN_nw (E := C.1 12) (S := C.1 (kS σ)) (L := C.1 (kL σ)) (n := n) (Y := (X, dr)) hX c (k + 1)).2
        rw [show i + (k + 1) = m by omega] at e
        refine ⟨(fN C σ t r p n (X, dr) i).1, (fN C σ t r p n (X, dr) i).2, s, hs, hw, ?_⟩
        rw [c, if_neg (show ¬ (0 : Int32) < nI 0 by decide), iq_Foresight_givenUpIn_22]
        simp only [↓tF_Rb (nx_fx q), ↓tW_clsb (show 5 < 7 by decide), ↓cI_of (w3 _ _ s hw 3), e]
      · have hle := cnt_le (f := fA (fN C σ t r p n (X, dr) i).1 10) (v := 0) r
        obtain ⟨s', h1, h2⟩ := t_stepN xs d (H := H) (dr := dr) q hE hS hQ hX i hs
        rw [if_pos (show (0 : Int32) < nI _ from nI_lt (a := 0) (by omega) (by omega))]
        simp only [↓cV_of h2]
        exact ih (i + 1) s' (N + 1) (by omega) h1 (by omega)
  exact key m 0 sc 999999 (by omega) hsc (by omega)
/-- the first of k quarters from i on behind which it is through -/
def qT (f : Nat → Int32) : Nat → Nat → Int32
  | 0, _ => -2
  | k + 1, i => if f (i - 1) = 0 then (if thruI (f i) = 0 then qT f k (i + 1) else nI i) else -2
theorem t_qThrough (q : fx x C σ) (hE : (C.1 12).2.2.2.2 0 = sd x σ) (hS : wfS (C.1 (kS σ)) p n) (hQ : wfQ (C.1 (kL σ))) (hX : wfX X t r p) (hsc : scw sc) {c : Nat} (hc : c < r) :
    ∃ X' dr' sc', scw sc' ∧ wfX X' t r p ∧ ia_cal xs (d + 6) im_Foresight_quartersTillThrough [.ref (x + 109), .int (nI c)] (tot H x (nx C true 5 σ X dr sc)) = some (some (.int (qT (fun i => fA (fN C σ t r p n (X, dr) i).1 10 c) 99 1)), tot H x (nx C true 5 σ X' dr' sc')) := by
  have hr10 := hX.1.2.2.2.1
  have wt := fun (X : aW) (dr : Int64) (s : List Int64 × List Int64) (hX : wfX X t r p) => w_isThrough xs (d + 4) (H := H) (x := x) (C := nx C true 5 σ X dr s) (k := 5) (t := t) (r := r) (by decide) (by rw [nx_W]; exact hX.1) hc
  simp only [nx_W] at wt
  rw [iu_Foresight_quartersTillThrough, iq_Foresight_quartersTillThrough_0]
  have key : ∀ k i s N, i + k = 99 → scw s → k + 1 ≤ N → ∃ X' dr' sc', scw sc' ∧ wfX X' t r p ∧ ia_qr xs (ia_cal xs (d + 5)) im_Foresight_quartersTillThrough N 2 [.ref (x + 109), .int (nI c), .int (nI (i + 1))] [] (tot H x (nx C true 5 σ (fN C σ t r p n (X, dr) i).1 (fN C σ t r p n (X, dr) i).2 s)) = some (some (.int (qT (fun i => fA (fN C σ t r p n (X, dr) i).1 10 c) k (i + 1))), tot H x (nx C true 5 σ X' dr' sc')) := by
    intro k
    induction k with
    | zero =>
      intro i s N hi hs hN
      obtain ⟨N, rfl⟩ : ∃ m, N = m + 1 := ⟨N - 1, by omega⟩
      have hw := fN_wf (C := C) (σ := σ) (n := n) (dr := dr) hX i
      refine ⟨_, (fN C σ t r p n (X, dr) i).2, s, hs, hw, ?_⟩
      rw [iq_Foresight_quartersTillThrough_2, if_p (show (99 : Int32) < nI (i + 1) from nI_lt (a := 99) (by omega) (by omega))]
      rfl
    | succ k ih =>
      intro i s N hi hs hN
      obtain ⟨N, rfl⟩ : ∃ m, N = m + 1 := ⟨N - 1, by omega⟩
      have hw := fN_wf (C := C) (σ := σ) (n := n) (dr := dr) hX i
      have hw1 := fN_wf (C := C) (σ := σ) (n := n) (dr := dr) hX (i + 1)
      have r10 := (hw.1.rr hc).2.2.2.2.1
      rw [iq_Foresight_quartersTillThrough_2, qT]
      simp only [↓if_n (show ¬ (99 : Int32) < nI (i + 1) from nI_nlt (a := 99) (by omega) (by omega)), ↓tF_Rb (nx_fx q), ↓tW_Rb (show 5 < 7 by decide), ↓tW_ldb (show 5 < 7 by decide), nx_W, ↓bs r10, Nat.add_sub_cancel]
      by_cases c1 : fA (fN C σ t r p n (X, dr) i).1 10 c = 0
      · obtain ⟨s', h1, h2⟩ := t_stepN xs d (H := H) (dr := dr) q hE hS hQ hX i hs
        have wt1 := wt _ (fN C σ t r p n (X, dr) (i + 1)).2 s' hw1
        simp only [if_pos c1, ↓tE_clsb, ↓cV_of h2, ↓tF_Rb (nx_fx q), ↓tW_clsb (show 5 < 7 by decide)]
        simp only [↓cI_of wt1, nI_1]
        by_cases c2 : thruI (fA (fN C σ t r p n (X, dr) (i + 1)).1 10 c) = 0
        · simp only [if_pos c2]
          exact ih (i + 1) s' N (by omega) h1 (by omega)
        · simp only [if_neg c2]
          exact ⟨(fN C σ t r p n (X, dr) (i + 1)).1, (fN C σ t r p n (X, dr) (i + 1)).2, s', h1, hw1, rfl⟩
      · simp only [if_neg c1]
        exact ⟨(fN C σ t r p n (X, dr) i).1, (fN C σ t r p n (X, dr) i).2, s, hs, hw, rfl⟩
  exact key 99 0 sc 999999 (by omega) hsc (by omega)
end TG
