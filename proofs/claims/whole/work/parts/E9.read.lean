/-! text: the class reads a law. -/
def clS (L : aG) (k w0 : Nat) : aG := gA (gA L 2 ((L.2.1 2).set k (nI w0))) 3 ((L.2.1 3).set k (L.1 1))
section EX9
variable (xs : List Int32) (d : Nat) {H : ia_H} {x : Nat} {C : aC} {σ : Bool} {M : aG} {by_ : Nat → Nat} {T : Nat} {w0 i : Nat} {R : List Int32} {op kn : Nat} {st : List Nat} {out : List (Nat × Nat)}
theorem k_closeL {A B E L : aG} {τ : Bool} {k : Nat} (hk : k < 3) (hw : wfL L) {kI w : Int32} (ek : kI = nI k) {w0 : Nat} (ew : w = nI w0) : ia_cal xs (d + 1) im_Laws_close [.ref (sd x τ + 18), .int kI, .int w] (tot H x (k4 C τ A B E L)) = some (none, tot H x (k4 C τ A B E (clS L k w0))) := by
  obtain ⟨-, -, l2, l3, -⟩ := hw
  have w2 : wr (L.2.1 2) (nI k) (nI w0) = some ((L.2.1 2).set k (nI w0)) := wr_nI (by omega) (by omega)
  have w3 : wr ((gA L 2 ((L.2.1 2).set k (nI w0))).2.1 3) (nI k) (L.1 1) = some ((L.2.1 3).set k (L.1 1)) := wr_nI (by omega) (by show k < (L.2.1 3).length; omega)
  have q1 : (gA L 2 ((L.2.1 2).set k (nI w0))).1 1 = L.1 1 := rfl
  rw [iu_Laws_close, iq_Laws_close_0, ek, ew, if_neg (nI_pos (by omega)), if_pos (show nI k < (3 : Int32) from nI_lt (b := 3) hk (by decide))]
  simp only [↓tL_Rb, ↓tL_stb, k4_L, ↓bs w2, k4_uL, ↓tL_Ib, q1, ↓bs w3]
  rfl
/-- what comes of reading on in a law -/
def wR (C : aC) (σ : Bool) (by_ : Nat → Nat) (T w0 law i : Nat) (b : Bool) (st : List Nat) (op kn : Nat) (out : List (Nat × Nat)) (r : Int32) (D : aC) : Prop := (r = 0 ∧ ∃ k p, (k = 1 ∨ k = 2) ∧ cRu (tkK by_ T) (tkV by_ T) (tkP by_ T) (tkJ by_ T) T b i st op kn out = pB k p ∧ lBad C σ k p D) ∨ (r = 1 ∧ ∃ i' R' n kn' out', D = k4 C (!σ) (tkA (C.1 6) by_ T i') (bS (C.1 3) n 0) (gA (C.1 7) 0 R') (clS (lwS (C.1 (kL (!σ))) w0 kn' out') law w0) ∧ R'.length = 72 ∧ i ≤ i' ∧ i' ≤ T ∧ kn' ≤ 64 ∧ w0 + out'.length ≤ kn' ∧ cRu (tkK by_ T) (tkV by_ T) (tkP by_ T) (tkJ by_ T) T b i st op kn out = pO i' kn' out')
theorem k_law77 (hc : cB x C σ M by_ T) (hw : wfL (C.1 (kL (!σ)))) {law : Nat} (hl : law < 3) (hi : i ≤ T) (hI : lI w0 R st op kn out) (h7 : ¬ (tkK by_ T i = 27 ∧ 0 < op)) (hr : rkK (tkK by_ T i) = 0 ∨ tkK by_ T i = 24) {F : Nat} : ∃ r D, ia_qr xs (ia_cal xs (d + 8)) im_Reader_readLaw (F + 1) 77 [.ref (x + 53), .int (nI law), .int (nI w0), .float 0] [] (tot H x (lS C σ by_ T w0 i R st op kn out)) = some (some (.int r), tot H x D) ∧ wR C σ by_ T w0 law i false st op kn out r D := by
  have hJ := hc.j
  have cr := cRu_f hJ hi (V := tkV by_ T) (P := tkP by_ T) st op kn out
  rw [if_neg h7, if_pos hr] at cr
  have q4 : ((lS C σ by_ T w0 i R st op kn out).1 3).1 4 = nI op := rfl
  have hop := hI.2.2.2.1
  rw [iq_Reader_readLaw_77]
  simp only [↓tQ_Ib, q4, ↓tQ_clsb]
  by_cases c0 : 0 < op
  · have wr : ia_cal xs (d + 8) im_Reader_wrong [.ref (x + 53), .int 1] (tot H x (lS C σ by_ T w0 i R st op kn out)) = _ := k_wrong xs (d + 7) (H := H) (x := x) (C := C) (σ := σ) (τ := !σ) (by_ := by_) (T := T) (i := i) (B := bS (C.1 3) st.length op) (E := gA (C.1 7) 0 R) (L := lwS (C.1 (kL (!σ))) w0 kn out) (k4_fx hc.1 rfl) (k := 1) (v := 1) rfl
    rw [if_pos c0] at cr
    rw [if_pos (show (0 : Int32) < nI op from nI_lt (a := 0) c0 (by omega)), cI_of wr, ok0]
    exact ⟨0, _, rfl, Or.inl ⟨rfl, 1, _, Or.inl rfl, cr, l_bad hw hI.1⟩⟩
  · have z0 : op = 0 := by omega
    subst z0
    rw [if_neg c0] at cr
    rw [if_neg (show ¬ (0 : Int32) < nI 0 by decide)]
    have dn := k_downTo xs (d + 5) (H := H) (i := i) hc hw (r := 0) (by decide) hI (v := 0) rfl
    obtain ⟨p1, p2⟩ := pop_I (r := 0) st out hI
    rw [cV_of dn]
    generalize popF 0 st out = q at *
    have hq2 : fx x (lS C σ by_ T w0 i R q.1 0 kn q.2) σ := k4_fx hc.1 rfl
    have cl := k_closeL xs (d + 7) (H := H) (x := x) (C := C) (A := tkA (C.1 6) by_ T i) (B := bS (C.1 3) q.1.length 0) (E := gA (C.1 7) 0 R) (L := lwS (C.1 (kL (!σ))) w0 kn q.2) (τ := !σ) hl (lw_wf hw) (kI := nI law) rfl (w := nI w0) (w0 := w0) rfl
    simp only [↓tQ_Rb hq2, ↓tS_Rb hq2, ↓tL_clsb]
    unfold lS
    simp only [↓cV_of cl, ↓ok1]
    obtain ⟨h1, h2, h3, h4, h5, h6⟩ := p1
    exact ⟨1, _, rfl, Or.inr ⟨rfl, i, R, q.1.length, kn, q.2, rfl, h1, Nat.le_refl _, hi, h5, by omega, cr⟩⟩
theorem k_law49 (hc : cB x C σ M by_ T) (hw : wfL (C.1 (kL (!σ)))) {law : Nat} (hl : law < 3) : ∀ m i c R st op kn out F, T - i ≤ m → i ≤ T → c ≤ i → lI w0 R st op kn out → m + 3 ≤ F → ∃ r D, ia_qr xs (ia_cal xs (d + 8)) im_Reader_readLaw F 49 [.ref (x + 53), .int (nI law), .int (nI w0), .int (nI c)] [] (tot H x (lS C σ by_ T w0 i R st op kn out)) = some (some (.int r), tot H x D) ∧ wR C σ by_ T w0 law i true st op kn out r D := by
  have hJ := hc.j
  have hT7 := hc.2.1.1
  intro m
  induction m with
  | zero =>
    intro i c R st op kn out F hm hi hci hI hF
    obtain ⟨F, rfl⟩ : ∃ k, F = k + 1 := ⟨F - 1, by omega⟩
    obtain ⟨r, D, g1, g2⟩ := k_value xs d (H := H) hc hw hi hI
    rw [iq_Reader_readLaw_49, if_neg (show ¬ (700 : Int32) < nI c from nI_nlt (a := 700) (by omega) (by decide))]
    simp only [↓tQ_clsb, ↓cI_of g1, ↓ok0]
    rcases g2 with ⟨a1, k, p, a2, a3, a4⟩ | ⟨a1, i', R2, s2, o2, n2, l2, a2, a3, a4, a5, a6⟩
    · rw [a1, if_pos rfl]
      exact ⟨0, D, rfl, Or.inl ⟨rfl, k, p, a2, a3, a4⟩⟩
    · omega
  | succ m ih =>
    intro i c R st op kn out F hm hi hci hI hF
    obtain ⟨F, rfl⟩ : ∃ k, F = k + 1 + 1 := ⟨F - 2, by omega⟩
    obtain ⟨r, D, g1, g2⟩ := k_value xs d (H := H) hc hw hi hI
    rw [iq_Reader_readLaw_49, if_neg (show ¬ (700 : Int32) < nI c from nI_nlt (a := 700) (by omega) (by decide))]
    simp only [↓tQ_clsb, ↓cI_of g1, ↓ok0]
    rcases g2 with ⟨a1, k, p, a2, a3, a4⟩ | ⟨a1, i1, R1, s1, o1, n1, l1, a2, a3, a4, a5, a6⟩
    · rw [a1, if_pos rfl]
      exact ⟨0, D, rfl, Or.inl ⟨rfl, k, p, a2, a3, a4⟩⟩
    · rw [a1, if_neg (show ¬ (1 : Int32) = 0 by decide), a2]
      obtain ⟨i2, R2, s2, o2, l2, b1, b2, b3, b4, b5, b6⟩ := k_closings xs d (H := H) hc hw a5 a3
      have hq : fx x (lS C σ by_ T w0 i2 R2 s2 o2 n1 l2) σ := k4_fx hc.1 rfl
      have q0 : ((lS C σ by_ T w0 i2 R2 s2 o2 n1 l2).1 6).1 0 = nI (tkK by_ T i2) := rfl
      have k38 := tk_lt hc.tk i2
      have r6 := (rk_le (tkK by_ T i2)).1
      simp only [↓tQ_clsb, ↓cV_of b1, ↓tQ_Rb hq, ↓tT_Ib, q0, ↓cI_of (k_rankOf xs (d + 7) (show tkK by_ T i2 < 100 by omega) _)]
      have fin : (rkK (tkK by_ T i2) = 0 ∨ tkK by_ T i2 = 24) → ∃ r D, ia_qr xs (ia_cal xs (d + 8)) im_Reader_readLaw (F + 1) 77 [.ref (x + 53), .int (nI law), .int (nI w0), .float 0] [] (tot H x (lS C σ by_ T w0 i2 R2 s2 o2 n1 l2)) = some (some (.int r), tot H x D) ∧ wR C σ by_ T w0 law i true st op kn out r D := fun hr => by
        obtain ⟨r, D, f1, f2⟩ := k_law77 xs d (H := H) hc hw hl b4 b2 b5 hr (F := F)
        refine ⟨r, D, f1, ?_⟩
        rcases f2 with ⟨z1, k, p, z2, z3, z4⟩ | ⟨z1, i', R', n, kn', out', z2, z3, z4, z5, z6, z7, z8⟩
        · exact Or.inl ⟨z1, k, p, z2, (a6.trans b6).trans z3, z4⟩
        · exact Or.inr ⟨z1, i', R', n, kn', out', z2, z3, by omega, z5, z6, z7, (a6.trans b6).trans z8⟩
      by_cases c0 : rkK (tkK by_ T i2) = 0
      · rw [if_pos (show nI (rkK (tkK by_ T i2)) = 0 by rw [c0]; rfl)]
        exact fin (Or.inl c0)
      · rw [if_neg (show ¬ nI (rkK (tkK by_ T i2)) = 0 from fun z => c0 ((nI_eq (b := 0) (by omega) (by decide)).mp z))]
        by_cases c24 : tkK by_ T i2 = 24
        · rw [if_pos (show nI (tkK by_ T i2) = (24 : Int32) by rw [c24]; rfl)]
          exact fin (Or.inr c24)
        · rw [if_neg (show ¬ nI (tkK by_ T i2) = (24 : Int32) from fun z => c24 ((nI_eq (b := 24) (by omega) (by decide)).mp z))]
          obtain ⟨r, D, f1, f2⟩ := k_joins xs d (H := H) hc hw b4 b2 c0 c24
          rw [cI_of f1]
          rcases f2 with ⟨z1, k, p, z2, z3, z4⟩ | ⟨z1, i3, R3, s3, o3, n3, l3, z2, z3, z4, z5, z6⟩
          · rw [z1, if_pos rfl]
            exact ⟨0, D, rfl, Or.inl ⟨rfl, k, p, z2, (a6.trans b6).trans z3, z4⟩⟩
          · rw [z1, if_neg (show ¬ (1 : Int32) = 0 by decide), z2, nI_1]
            obtain ⟨r, D, e1, e2⟩ := ih i3 (c + 1) R3 s3 o3 n3 l3 (F + 1) (by omega) z5 (by omega) z3 (by omega)
            refine ⟨r, D, e1, ?_⟩
            rcases e2 with ⟨y1, k, p, y2, y3, y4⟩ | ⟨y1, i', R', n, kn', out', y2, y3, y4, y5, y6, y7, y8⟩
            · exact Or.inl ⟨y1, k, p, y2, ((a6.trans b6).trans z6).trans y3, y4⟩
            · exact Or.inr ⟨y1, i', R', n, kn', out', y2, y3, by omega, y5, y6, y7, ((a6.trans b6).trans z6).trans y8⟩
end EX9
