/-! text: the class reads what closes and what joins. -/
section EX8
variable (xs : List Int32) (d : Nat) {H : ia_H} {x : Nat} {C : aC} {σ : Bool} {M : aG} {by_ : Nat → Nat} {T : Nat} {w0 i : Nat} {R : List Int32} {op kn : Nat} {st : List Nat} {out : List (Nat × Nat)}
theorem l_tail (hI : lI w0 R st op kn out) (ho : 0 < op) : lI w0 R st.tail (op - 1) kn out := by
  obtain ⟨h1, h2, h3, h4, h5, h6⟩ := hI
  cases st with
  | nil => exact ⟨h1, trivial, Nat.zero_le _, by omega, h5, h6⟩
  | cons o st =>
    have h3' : st.length + 1 ≤ op + kn := h3
    have h6' : w0 + out.length + ((if o = 26 then 0 else 1) + opN st) ≤ kn := h6
    exact ⟨h1, h2.2.2, by show st.length ≤ _; omega, by omega, h5, by show w0 + out.length + opN st ≤ kn; omega⟩
theorem k_close (hc : cB x C σ M by_ T) (hw : wfL (C.1 (kL (!σ)))) : ∀ m i c R st op kn out F, T - i ≤ m → i ≤ T → c ≤ i → lI w0 R st op kn out → m + 2 ≤ F → ∃ i' R' st' op' out', ia_qr xs (ia_cal xs (d + 7)) im_Reader_readClosings F 2 [.ref (x + 53), .int (nI c)] [] (tot H x (lS C σ by_ T w0 i R st op kn out)) = some (none, tot H x (lS C σ by_ T w0 i' R' st' op' kn out')) ∧ lI w0 R' st' op' kn out' ∧ i ≤ i' ∧ i' ≤ T ∧ ¬ (tkK by_ T i' = 27 ∧ 0 < op') ∧ cRu (tkK by_ T) (tkV by_ T) (tkP by_ T) (tkJ by_ T) T false i st op kn out = cRu (tkK by_ T) (tkV by_ T) (tkP by_ T) (tkJ by_ T) T false i' st' op' kn out' := by
  have hJ := hc.j
  have hT7 := hc.2.1.1
  intro m
  induction m with
  | zero =>
    intro i c R st op kn out F hm hi hci hI hF
    obtain ⟨F, rfl⟩ : ∃ k, F = k + 1 := ⟨F - 1, by omega⟩
    have hq : fx x (lS C σ by_ T w0 i R st op kn out) σ := k4_fx hc.1 rfl
    have q0 : ((lS C σ by_ T w0 i R st op kn out).1 6).1 0 = nI (tkK by_ T i) := rfl
    have k0 : tkK by_ T i = 0 := by
      by_cases c : tkK by_ T i = 0
      · exact c
      · have := hJ i hi c
        omega
    refine ⟨i, R, st, op, out, ?_, hI, Nat.le_refl _, hi, by omega, rfl⟩
    rw [iq_Reader_readClosings_2, if_neg (show ¬ (700 : Int32) < nI c from nI_nlt (a := 700) (by omega) (by decide))]
    simp only [↓tQ_Rb hq, ↓tT_Ib, q0]
    rw [k0, if_neg (show ¬ nI 0 = (27 : Int32) by decide)]
  | succ m ih =>
    intro i c R st op kn out F hm hi hci hI hF
    obtain ⟨F, rfl⟩ : ∃ k, F = k + 1 := ⟨F - 1, by omega⟩
    have hq : fx x (lS C σ by_ T w0 i R st op kn out) σ := k4_fx hc.1 rfl
    have q0 : ((lS C σ by_ T w0 i R st op kn out).1 6).1 0 = nI (tkK by_ T i) := rfl
    have q4 : ((lS C σ by_ T w0 i R st op kn out).1 3).1 4 = nI op := rfl
    have k38 := tk_lt hc.tk i
    have hop := hI.2.2.2.1
    rw [iq_Reader_readClosings_2, if_neg (show ¬ (700 : Int32) < nI c from nI_nlt (a := 700) (by omega) (by decide))]
    simp only [↓tQ_Rb hq, ↓tT_Ib, q0, ↓tQ_Ib, q4]
    by_cases c27 : tkK by_ T i = 27
    · rw [if_pos (show nI (tkK by_ T i) = (27 : Int32) by rw [c27]; rfl)]
      by_cases c0 : 0 < op
      · rw [if_pos (show (0 : Int32) < nI op from nI_lt (a := 0) c0 (by omega))]
        have dn := k_downTo xs (d + 4) (H := H) (i := i) hc hw (r := 0) (by decide) hI (v := 0) rfl
        obtain ⟨p1, p2⟩ := pop_I (r := 0) st out hI
        have cr := cRu_f hJ hi (V := tkV by_ T) (P := tkP by_ T) st op kn out
        rw [if_pos ⟨c27, c0⟩] at cr
        simp only [↓tQ_clsb, ↓cV_of dn]
        generalize popF 0 st out = q at *
        have q3 : ((lS C σ by_ T w0 i R q.1 op kn q.2).1 3).1 3 = nI q.1.length := rfl
        have hl72 : q.1.length ≤ 72 := by have := p1.2.2; omega
        have mx : ∀ g, ia_cal xs (d + 7) im_Math_maxI [.int 0, .int (nI q.1.length - 1)] g = some (some (.int (nI q.1.tail.length)), g) := fun g => by
          rw [k_maxI xs (d + 6)]
          rw [List.length_tail]
          by_cases cz : q.1.length = 0
          · rw [cz]; rfl
          · have : nI q.1.length - nI 1 = nI (q.1.length - 1) := pk_sub (by omega)
            have e1 : nI q.1.length - 1 = nI (q.1.length - 1) := this
            rw [e1]
            by_cases c2 : 0 < q.1.length - 1
            · rw [if_pos (show (0 : Int32) < nI (q.1.length - 1) from nI_lt (a := 0) c2 (by omega))]
            · rw [if_neg (show ¬ (0 : Int32) < nI (q.1.length - 1) from nI_nlt (a := 0) (by omega) (by decide)), show q.1.length - 1 = 0 by omega]
              rfl
        have em : nI op - 1 = nI (op - 1) := by
          have : nI op - nI 1 = nI (op - 1) := pk_sub (by omega)
          exact this
        have q42 : (bS (C.1 3) q.1.tail.length op).1 4 = nI op := rfl
        have hq3 : fx x (k4 C (!σ) (tkA (C.1 6) by_ T i) (bS (C.1 3) q.1.tail.length (op - 1)) (gA (C.1 7) 0 R) (lwS (C.1 (kL (!σ))) w0 kn q.2)) σ := k4_fx hc.1 rfl
        have nx := c_next xs d (H := H) (x := x) (C := C) (σ := σ) (τ := !σ) (M := M) (by_ := by_) (T := T) (B := bS (C.1 3) q.1.tail.length (op - 1)) (E := gA (C.1 7) 0 R) (L := lwS (C.1 (kL (!σ))) w0 kn q.2) hc hi
        simp only [↓tQ_Ib, q3, ↓cI_of (mx _)]
        unfold lS at ih ⊢
        simp only [↓tQ_pfb, k4_3, bS_3, k4_u3, ↓tQ_Ib, q42, em, bS_4, ↓tQ_Rb hq3, ↓tT_clsb, ↓cV_of nx, nI_1]
        have ⟨j1, j2⟩ := hJ i hi (by omega)
        obtain ⟨i', R', st', op', out', g1, g2, g3, g4, g5, g6⟩ := ih (tkJ by_ T i) (c + 1) R q.1.tail (op - 1) kn q.2 F (by omega) j2 (by omega) (l_tail p1 c0) (by omega)
        exact ⟨i', R', st', op', out', g1, g2, by omega, g4, g5, cr.trans g6⟩
      · rw [if_neg (show ¬ (0 : Int32) < nI op from nI_nlt (a := 0) (by omega) (by decide))]
        exact ⟨i, R, st, op, out, rfl, hI, Nat.le_refl _, hi, by omega, rfl⟩
    · rw [if_neg (show ¬ nI (tkK by_ T i) = (27 : Int32) from fun z => c27 ((nI_eq (b := 27) (by omega) (by decide)).mp z))]
      exact ⟨i, R, st, op, out, rfl, hI, Nat.le_refl _, hi, by omega, rfl⟩
theorem k_closings (hc : cB x C σ M by_ T) (hw : wfL (C.1 (kL (!σ)))) (hi : i ≤ T) (hI : lI w0 R st op kn out) : ∃ i' R' st' op' out', ia_cal xs (d + 8) im_Reader_readClosings [.ref (x + 53)] (tot H x (lS C σ by_ T w0 i R st op kn out)) = some (none, tot H x (lS C σ by_ T w0 i' R' st' op' kn out')) ∧ lI w0 R' st' op' kn out' ∧ i ≤ i' ∧ i' ≤ T ∧ ¬ (tkK by_ T i' = 27 ∧ 0 < op') ∧ cRu (tkK by_ T) (tkV by_ T) (tkP by_ T) (tkJ by_ T) T false i st op kn out = cRu (tkK by_ T) (tkV by_ T) (tkP by_ T) (tkJ by_ T) T false i' st' op' kn out' := by
  have hT7 := hc.2.1.1
  rw [iu_Reader_readClosings, show (1000000 : Nat) = 999999 + 1 from rfl, iq_Reader_readClosings_0]
  exact k_close xs d (H := H) hc hw (T - i) i 0 R st op kn out 999999 (Nat.le_refl _) hi (by omega) hI (by omega)
/-- what comes of a sign that joins -/
def jR (C : aC) (σ : Bool) (by_ : Nat → Nat) (T w0 i : Nat) (st : List Nat) (op kn : Nat) (out : List (Nat × Nat)) (r : Int32) (D : aC) : Prop := (r = 0 ∧ ∃ k p, (k = 1 ∨ k = 2) ∧ cRu (tkK by_ T) (tkV by_ T) (tkP by_ T) (tkJ by_ T) T false i st op kn out = pB k p ∧ lBad C σ k p D) ∨ (r = 1 ∧ ∃ i' R' st' op' kn' out', D = lS C σ by_ T w0 i' R' st' op' kn' out' ∧ lI w0 R' st' op' kn' out' ∧ i < i' ∧ i' ≤ T ∧ cRu (tkK by_ T) (tkV by_ T) (tkP by_ T) (tkJ by_ T) T false i st op kn out = cRu (tkK by_ T) (tkV by_ T) (tkP by_ T) (tkJ by_ T) T true i' st' op' kn' out')
theorem k_join24 (hc : cB x C σ M by_ T) (hw : wfL (C.1 (kL (!σ)))) (hi : i ≤ T) {st0 : List Nat} {out0 : List (Nat × Nat)} (hI : lI w0 R st op kn out) (hr : rkK (tkK by_ T i) ≠ 0) (h24 : tkK by_ T i ≠ 24) (hcr : cRu (tkK by_ T) (tkV by_ T) (tkP by_ T) (tkJ by_ T) T false i st0 op kn out0 = if 64 ≤ kn then pB 2 (tkP by_ T i) else cRu (tkK by_ T) (tkV by_ T) (tkP by_ T) (tkJ by_ T) T true (tkJ by_ T i) (tkK by_ T i :: st) op (kn + 1) out) {F : Nat} : ∃ r D, ia_qr xs (ia_cal xs (d + 7)) im_Reader_readJoin (F + 1) 24 [.ref (x + 53), .float 0] [] (tot H x (lS C σ by_ T w0 i R st op kn out)) = some (some (.int r), tot H x D) ∧ jR C σ by_ T w0 i st0 op kn out0 r D := by
  have hJ := hc.j
  have k38 := tk_lt hc.tk i
  have h26 : tkK by_ T i ≠ 26 := fun z => hr (by rw [z]; rfl)
  have h0 : tkK by_ T i ≠ 0 := fun z => hr (by rw [z]; rfl)
  obtain ⟨r, D, g1, g2⟩ := k_knot xs (d + 5) (H := H) (i := i) hc hw hI
  rw [iq_Reader_readJoin_24]
  simp only [↓tQ_clsb, ↓cI_of g1, ↓ok0, ↓ok1]
  rcases g2 with ⟨g3, g4, g5⟩ | ⟨g3, g4, g5⟩
  · rw [g3, if_pos rfl]
    exact ⟨0, D, rfl, Or.inl ⟨rfl, 2, _, Or.inr rfl, by rw [hcr, if_pos g4], g5⟩⟩
  · have ⟨j1, j2⟩ := hJ i hi h0
    rw [g3, if_neg (show ¬ (1 : Int32) = 0 by decide), g5]
    have hq : fx x (lS C σ by_ T w0 i R st op (kn + 1) out) σ := k4_fx hc.1 rfl
    have q0 : ((lS C σ by_ T w0 i R st op (kn + 1) out).1 6).1 0 = nI (tkK by_ T i) := rfl
    obtain ⟨R', g6, g7⟩ := k_wait xs (d + 6) (H := H) (i := i) hc hI (k := tkK by_ T i) k38 h26 g4 (v := nI (tkK by_ T i)) rfl
    have hq2 : fx x (lS C σ by_ T w0 i R' (tkK by_ T i :: st) op (kn + 1) out) σ := k4_fx hc.1 rfl
    have nx : ia_cal xs (d + 7) im_Tokens_next [.ref (x + 79)] (tot H x (lS C σ by_ T w0 i R' (tkK by_ T i :: st) op (kn + 1) out)) = some (none, tot H x (lS C σ by_ T w0 (tkJ by_ T i) R' (tkK by_ T i :: st) op (kn + 1) out)) := c_next xs d (H := H) (x := x) (C := C) (σ := σ) (τ := !σ) (M := M) (by_ := by_) (T := T) (B := bS (C.1 3) (tkK by_ T i :: st).length op) (E := gA (C.1 7) 0 R') (L := lwS (C.1 (kL (!σ))) w0 (kn + 1) out) hc hi
    simp only [↓tQ_Rb hq, ↓tT_Ib, q0, ↓cI_of g6]
    rw [if_neg (show ¬ (1 : Int32) = 0 by decide)]
    simp only [↓tQ_Rb hq2, ↓tT_clsb, ↓cV_of nx]
    exact ⟨1, _, rfl, Or.inr ⟨rfl, tkJ by_ T i, R', tkK by_ T i :: st, op, kn + 1, out, rfl, g7, j1, j2, by rw [hcr, if_neg (by omega)]⟩⟩
theorem k_joins (hc : cB x C σ M by_ T) (hw : wfL (C.1 (kL (!σ)))) (hi : i ≤ T) (hI : lI w0 R st op kn out) (hr : rkK (tkK by_ T i) ≠ 0) (h24 : tkK by_ T i ≠ 24) : ∃ r D, ia_cal xs (d + 8) im_Reader_readJoin [.ref (x + 53)] (tot H x (lS C σ by_ T w0 i R st op kn out)) = some (some (.int r), tot H x D) ∧ jR C σ by_ T w0 i st op kn out r D := by
  have hJ := hc.j
  have k38 := tk_lt hc.tk i
  have r6 := (rk_le (tkK by_ T i)).1
  have h27 : tkK by_ T i ≠ 27 := fun z => hr (by rw [z]; rfl)
  have hq : fx x (lS C σ by_ T w0 i R st op kn out) σ := k4_fx hc.1 rfl
  have q0 : ((lS C σ by_ T w0 i R st op kn out).1 6).1 0 = nI (tkK by_ T i) := rfl
  have cr := cRu_f hJ hi (V := tkV by_ T) (P := tkP by_ T) st op kn out
  rw [if_neg (fun z => h27 z.1), if_neg (fun z => by rcases z with z | z; exact hr z; exact h24 z)] at cr
  rw [iu_Reader_readJoin, show (1000000 : Nat) = 999998 + 1 + 1 from rfl, iq_Reader_readJoin_0]
  simp only [↓tQ_Rb hq, ↓tT_Ib, q0, ↓cI_of (k_rankOf xs (d + 6) (show tkK by_ T i < 100 by omega) _)]
  by_cases c4 : rkK (tkK by_ T i) = 4
  · rw [if_pos c4] at cr
    rw [if_pos (show nI (rkK (tkK by_ T i)) = (4 : Int32) by rw [c4]; rfl)]
    have dn := k_downTo xs (d + 4) (H := H) (i := i) hc hw (r := 4) (by decide) hI (v := 4) rfl
    obtain ⟨p1, p2⟩ := pop_I (r := 4) st out hI
    simp only [↓tQ_clsb, ↓cV_of dn]
    generalize popF 4 st out = q at *
    have p1' := p1
    obtain ⟨h1, h2, h3, h4, h5, h6⟩ := p1'
    have rl : ia_cal xs (d + 7) im_Reader_rankOfLast [.ref (x + 53)] (tot H x (lS C σ by_ T w0 i R q.1 op kn q.2)) = some (some (.int (nI (topR q.1))), tot H x (lS C σ by_ T w0 i R q.1 op kn q.2)) := k_rankLast xs (d + 5) (H := H) (x := x) (C := C) (σ := σ) (τ := !σ) (by_ := by_) (T := T) (i := i) (B := bS (C.1 3) q.1.length op) (E := gA (C.1 7) 0 R) (L := lwS (C.1 (kL (!σ))) w0 kn q.2) (k4_fx hc.1 rfl) (st := q.1) rfl h1 (by omega) h2
    have t6 : topR q.1 ≤ 6 := (rk_le _).1
    simp only [↓cI_of rl]
    by_cases ct : topR q.1 = 4
    · have wr : ia_cal xs (d + 7) im_Reader_wrong [.ref (x + 53), .int 1] (tot H x (lS C σ by_ T w0 i R q.1 op kn q.2)) = _ := k_wrong xs (d + 6) (H := H) (x := x) (C := C) (σ := σ) (τ := !σ) (by_ := by_) (T := T) (i := i) (B := bS (C.1 3) q.1.length op) (E := gA (C.1 7) 0 R) (L := lwS (C.1 (kL (!σ))) w0 kn q.2) (k4_fx hc.1 rfl) (k := 1) (v := 1) rfl
      rw [if_pos ct] at cr
      rw [if_pos (show nI (topR q.1) = (4 : Int32) by rw [ct]; rfl)]
      simp only [↓tQ_clsb, ↓cI_of wr, ↓ok0]
      exact ⟨0, _, rfl, Or.inl ⟨rfl, 1, _, Or.inl rfl, cr, l_bad hw h1⟩⟩
    · rw [if_neg ct] at cr
      rw [if_neg (show ¬ nI (topR q.1) = (4 : Int32) from fun z => ct ((nI_eq (b := 4) (by omega) (by decide)).mp z))]
      exact k_join24 xs d hc hw hi p1 hr h24 cr
  · rw [if_neg c4] at cr
    rw [if_neg (show ¬ nI (rkK (tkK by_ T i)) = (4 : Int32) from fun z => c4 ((nI_eq (b := 4) (by omega) (by decide)).mp z))]
    have er : nI (rkK (tkK by_ T i)) - 1 = nI (rkK (tkK by_ T i) - 1) := by
      have : nI (rkK (tkK by_ T i)) - nI 1 = nI (rkK (tkK by_ T i) - 1) := pk_sub (by omega)
      exact this
    have dn := k_downTo xs (d + 4) (H := H) (i := i) hc hw (r := rkK (tkK by_ T i) - 1) (by omega) hI (v := nI (rkK (tkK by_ T i)) - 1) er
    obtain ⟨p1, p2⟩ := pop_I (r := rkK (tkK by_ T i) - 1) st out hI
    simp only [↓tQ_clsb, ↓cV_of dn]
    generalize popF (rkK (tkK by_ T i) - 1) st out = q at *
    exact k_join24 xs d hc hw hi p1 hr h24 cr
end EX8
