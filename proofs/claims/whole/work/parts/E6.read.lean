/-! text: the class reads a value of a law. -/
/-- the reader stopped at a fault -/
def lBad (C : aC) (σ : Bool) (k p : Nat) (D : aC) : Prop := ∃ A B E L, D = k4 C (!σ) A B E L ∧ A.2 = (C.1 6).2 ∧ B.2 = (C.1 3).2 ∧ B.1 0 = nI k ∧ B.1 1 = nI p ∧ (E.2.1 0).length = 72 ∧ wfL L ∧ A.1 3 = (C.1 6).1 3 ∧ B.1 2 = (C.1 3).1 2
section EX6
variable (xs : List Int32) (d : Nat) {H : ia_H} {x : Nat} {C : aC} {σ : Bool} {M : aG} {by_ : Nat → Nat} {T : Nat} {w0 i : Nat} {R : List Int32} {op kn : Nat} {st : List Nat} {out : List (Nat × Nat)}
theorem l_bad (hw : wfL (C.1 (kL (!σ)))) (hR : R.length = 72) {n k p : Nat} : lBad C σ k p (k4 C (!σ) (tkA (C.1 6) by_ T i) (fB (bS (C.1 3) n op) k p) (gA (C.1 7) 0 R) (lwS (C.1 (kL (!σ))) w0 kn out)) := ⟨_, _, _, _, rfl, rfl, rfl, rfl, rfl, hR, lw_wf hw, rfl, rfl⟩
theorem l_push {k : Nat} (hk : k < 38) (hI : lI w0 R st op kn out) (hs : st.length < 72) : agS (R.set st.length (nI k)) (k :: st) := by
  obtain ⟨h1, h2, -⟩ := hI
  exact ⟨by rw [ia_set_getD (by omega), if_pos rfl], hk, agS_set (by omega) st (Nat.le_refl _) h2⟩
theorem k_opening (hc : cB x C σ M by_ T) (hw : wfL (C.1 (kL (!σ)))) (hI : lI w0 R st op kn out) : ∃ r D, ia_cal xs (d + 2) im_Reader_readOpening [.ref (x + 53)] (tot H x (lS C σ by_ T w0 i R st op kn out)) = some (some (.int r), tot H x D) ∧ ((r = 0 ∧ 8 ≤ op ∧ lBad C σ 2 (tkP by_ T i) D) ∨ (r = 1 ∧ op < 8 ∧ ∃ R', D = lS C σ by_ T w0 i R' (26 :: st) (op + 1) kn out ∧ lI w0 R' (26 :: st) (op + 1) kn out)) := by
  have hI' := hI
  obtain ⟨h1, h2, h3, h4, h5, h6⟩ := hI
  have e4 : (bS (C.1 3) st.length op).1 4 = nI op := rfl
  unfold lS
  rw [iu_Reader_readOpening, iq_Reader_readOpening_0]
  simp only [↓tQ_Ib, k4_3, e4, ↓tQ_pfb, nI_1, bS_4, k4_u3, ↓tQ_clsb]
  by_cases c : op < 8
  · have aw := k_await xs d (H := H) (x := x) (C := C) (σ := σ) (τ := !σ) (by_ := by_) (T := T) (i := i) (B := bS (C.1 3) st.length (op + 1)) (E := gA (C.1 7) 0 R) (L := lwS (C.1 (kL (!σ))) w0 kn out) (k4_fx hc.1 rfl) (n := st.length) (k := 26) rfl h1 (by omega) (v := 26) rfl
    rw [if_pos (show nI op < (8 : Int32) from nI_lt (b := 8) c (by decide)), cI_of aw, ok1]
    refine ⟨1, _, rfl, Or.inr ⟨rfl, c, R.set st.length (nI 26), ?_, ?_⟩⟩
    · rw [bS_3, gA_A]
      rfl
    · exact ⟨by rw [List.length_set]; exact h1, l_push (by decide) hI' (by omega), by show st.length + 1 ≤ _; omega, by omega, h5, by show w0 + out.length + ((if 26 = 26 then 0 else 1) + opN st) ≤ kn; rw [if_pos rfl]; omega⟩
  · have wr := k_wrong xs d (H := H) (x := x) (C := C) (σ := σ) (τ := !σ) (by_ := by_) (T := T) (i := i) (B := bS (C.1 3) st.length op) (E := gA (C.1 7) 0 R) (L := lwS (C.1 (kL (!σ))) w0 kn out) (k4_fx hc.1 rfl) (k := 2) (v := 2) rfl
    rw [if_neg (show ¬ nI op < (8 : Int32) from nI_nlt (b := 8) (by omega) (by omega)), cI_of wr, ok0]
    exact ⟨0, _, rfl, Or.inl ⟨rfl, by omega, l_bad hw h1⟩⟩
theorem k_knot (hc : cB x C σ M by_ T) (hw : wfL (C.1 (kL (!σ)))) (hI : lI w0 R st op kn out) : ∃ r D, ia_cal xs (d + 2) im_Reader_countKnot [.ref (x + 53)] (tot H x (lS C σ by_ T w0 i R st op kn out)) = some (some (.int r), tot H x D) ∧ ((r = 0 ∧ 64 ≤ kn ∧ lBad C σ 2 (tkP by_ T i) D) ∨ (r = 1 ∧ kn < 64 ∧ D = lS C σ by_ T w0 i R st op (kn + 1) out)) := by
  obtain ⟨h1, h2, h3, h4, h5, h6⟩ := hI
  have ck := k_count xs d (H := H) (x := x) (C := C) (σ := σ) (by_ := by_) (T := T) (i := i) (B := bS (C.1 3) st.length op) (E := gA (C.1 7) 0 R) (L := lwS (C.1 (kL (!σ))) w0 kn out) (k4_fx hc.1 rfl) (kn := kn) h5 rfl
  by_cases c : kn < 64
  · rw [if_pos c, lw_k] at ck
    exact ⟨1, _, ck, Or.inr ⟨rfl, c, rfl⟩⟩
  · rw [if_neg c] at ck
    exact ⟨0, _, ck, Or.inl ⟨rfl, by omega, l_bad hw h1⟩⟩
/-- a sign waits, its knot counted -/
theorem k_wait (hc : cB x C σ M by_ T) (hI : lI w0 R st op kn out) {k : Nat} (hk : k < 38) (hk2 : k ≠ 26) (hn : kn < 64) {v : Int32} (hv : v = nI k) : ∃ R', ia_cal xs (d + 1) im_Reader_await [.ref (x + 53), .int v] (tot H x (lS C σ by_ T w0 i R st op (kn + 1) out)) = some (some (.int 1), tot H x (lS C σ by_ T w0 i R' (k :: st) op (kn + 1) out)) ∧ lI w0 R' (k :: st) op (kn + 1) out := by
  have hI' := hI
  obtain ⟨h1, h2, h3, h4, h5, h6⟩ := hI
  have aw := k_await xs d (H := H) (x := x) (C := C) (σ := σ) (τ := !σ) (by_ := by_) (T := T) (i := i) (B := bS (C.1 3) st.length op) (E := gA (C.1 7) 0 R) (L := lwS (C.1 (kL (!σ))) w0 (kn + 1) out) (k4_fx hc.1 rfl) (n := st.length) (k := k) rfl h1 (by omega) hv
  rw [bS_3, gA_A] at aw
  refine ⟨R.set st.length (nI k), aw, by rw [List.length_set]; exact h1, l_push hk hI' (by omega), by show st.length + 1 ≤ _; omega, h4, by omega, ?_⟩
  show w0 + out.length + ((if k = 26 then 0 else 1) + opN st) ≤ kn + 1
  rw [if_neg hk2]
  omega
theorem k_not (hc : cB x C σ M by_ T) (hw : wfL (C.1 (kL (!σ)))) (hI : lI w0 R st op kn out) : ∃ r D, ia_cal xs (d + 3) im_Reader_readNot [.ref (x + 53)] (tot H x (lS C σ by_ T w0 i R st op kn out)) = some (some (.int r), tot H x D) ∧ ((r = 0 ∧ ∃ k, ((k = 1 ∧ 3 < topR st) ∨ (k = 2 ∧ ¬ 3 < topR st ∧ 64 ≤ kn)) ∧ lBad C σ k (tkP by_ T i) D) ∨ (r = 1 ∧ ¬ 3 < topR st ∧ kn < 64 ∧ ∃ R', D = lS C σ by_ T w0 i R' (24 :: st) op (kn + 1) out ∧ lI w0 R' (24 :: st) op (kn + 1) out)) := by
  have hI' := hI
  obtain ⟨h1, h2, h3, h4, h5, h6⟩ := hI
  have rl : ia_cal xs (d + 2) im_Reader_rankOfLast [.ref (x + 53)] (tot H x (lS C σ by_ T w0 i R st op kn out)) = some (some (.int (nI (topR st))), tot H x (lS C σ by_ T w0 i R st op kn out)) := k_rankLast xs d (H := H) (x := x) (C := C) (σ := σ) (τ := !σ) (by_ := by_) (T := T) (i := i) (B := bS (C.1 3) st.length op) (E := gA (C.1 7) 0 R) (L := lwS (C.1 (kL (!σ))) w0 kn out) (k4_fx hc.1 rfl) (st := st) rfl h1 (by omega) h2
  have r6 : topR st ≤ 6 := (rk_le _).1
  rw [iu_Reader_readNot, iq_Reader_readNot_0]
  simp only [↓tQ_clsb, ↓cI_of rl, ↓ok0, ↓ok1]
  by_cases c : 3 < topR st
  · have wr := k_wrong xs (d + 1) (H := H) (x := x) (C := C) (σ := σ) (τ := !σ) (by_ := by_) (T := T) (i := i) (B := bS (C.1 3) st.length op) (E := gA (C.1 7) 0 R) (L := lwS (C.1 (kL (!σ))) w0 kn out) (k4_fx hc.1 rfl) (k := 1) (v := 1) rfl
    rw [if_pos (show (3 : Int32) < nI (topR st) from nI_lt (a := 3) c (by omega))]
    unfold lS
    rw [cI_of wr, ok0]
    exact ⟨0, _, rfl, Or.inl ⟨rfl, 1, Or.inl ⟨rfl, c⟩, l_bad hw h1⟩⟩
  · rw [if_neg (show ¬ (3 : Int32) < nI (topR st) from nI_nlt (a := 3) (by omega) (by decide))]
    obtain ⟨r, D, g1, g2⟩ := k_knot xs d (H := H) (i := i) hc hw hI'
    rw [cI_of g1]
    rcases g2 with ⟨g3, g4, g5⟩ | ⟨g3, g4, g5⟩
    · rw [g3, if_pos rfl]
      exact ⟨0, D, rfl, Or.inl ⟨rfl, 2, Or.inr ⟨rfl, c, g4⟩, g5⟩⟩
    · obtain ⟨R', g6, g7⟩ := k_wait xs (d + 1) (H := H) (i := i) hc hI' (k := 24) (by decide) (by decide) g4 (v := 24) rfl
      rw [g3, if_neg (show ¬ (1 : Int32) = 0 by decide), g5]
      simp only [↓tQ_clsb, ↓ok0, ↓ok1]
      rw [cI_of g6, if_neg (show ¬ (1 : Int32) = 0 by decide)]
      exact ⟨1, _, rfl, Or.inr ⟨rfl, c, g4, R', rfl, g7⟩⟩
end EX6
