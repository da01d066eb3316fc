/-! text: the class reads a law: its state, signs written down. -/
theorem tk_3 {by_ : Nat → Nat} {T i : Nat} (hb : ∀ i, i < T → by_ i < 256) (h : tkK by_ T i = 3) : tkV by_ T i ≤ 1000000 := by
  unfold tkK tkV at *
  generalize tkP by_ T i = s at *
  unfold tkS at *
  by_cases c : T ≤ s
  · rw [if_pos c] at h
    exact absurd (show (0 : Nat) = 3 from h) (by decide)
  · rw [if_neg c] at h ⊢
    by_cases cl : lwB by_ T s = true
    · rw [if_pos cl] at h
      by_cases c6 : 6 < weN by_ T s - s
      · rw [if_pos c6] at h
        exact absurd (show (1 : Nat) = 3 from h) (by decide)
      · rw [if_neg c6] at h
        have h' : (if wnF by_ s (weN by_ T s - s) 21 0 < 21 then 4 + cw (wnF by_ s (weN by_ T s - s) 21 0) else 2) = 3 := h
        by_cases cN : wnF by_ s (weN by_ T s - s) 21 0 < 21
        · rw [if_pos cN] at h'
          omega
        · rw [if_neg cN] at h'
          exact absurd h' (by decide)
    · rw [if_neg cl] at h ⊢
      by_cases cd : dgB by_ T s = true
      · rw [if_pos cd]
        have b4 : ∀ j, s ≤ j → j < deN by_ T s → dgB by_ T j = true := wh_all (P := dgB by_ T) (T - s) s
        exact (nc_nr (by_ := by_) (T := T) (i := s) (deN by_ T s - s) (fun j hj => b4 (s + j) (by omega) (by omega))).1
      · rw [if_neg cd] at h
        have k := sg_sv (by_ s) (if s + 1 < T then by_ (s + 1) else 0) (hb s (by omega))
        have h' : (sgN by_ T s).1 = 3 := h
        have := k.2.2.1 (by show (sgN by_ T s).1 ≠ 1; omega)
        have : 25 ≤ (sgN by_ T s).1 := this.1
        omega
def ptC (f : Nat × Nat → Int32) : Nat → List (Nat × Nat) → List Int32 → List Int32
  | _, [], l => l
  | w, e :: out, l => ptC f (w + 1) out (l.set w (f e))
theorem pc_a {f : Nat × Nat → Int32} {e : Nat × Nat} : ∀ out w l, ptC f w (out ++ [e]) l = (ptC f w out l).set (w + out.length) (f e)
  | [], w, l => rfl
  | e' :: out, w, l => by
    show ptC f (w + 1) (out ++ [e]) (l.set w (f e')) = _
    rw [pc_a out (w + 1)]
    show _ = (ptC f (w + 1) out (l.set w (f e'))).set (w + (out.length + 1)) (f e)
    rw [show w + 1 + out.length = w + (out.length + 1) by omega]
theorem pc_l {f : Nat × Nat → Int32} : ∀ out w l, (ptC f w out l).length = l.length
  | [], w, l => rfl
  | e' :: out, w, l => by
    show (ptC f (w + 1) out (l.set w (f e'))).length = _
    rw [pc_l out (w + 1), List.length_set]
/-- the laws, so many knots counted, so much written -/
def lwS (L : aG) (w0 kn : Nat) (out : List (Nat × Nat)) : aG := (fun k => if k = 1 then nI (w0 + out.length) else if k = 0 then nI kn else L.1 k, fun k => if k = 1 then ptC (fun e => nI e.2) w0 out (L.2.1 1) else if k = 0 then ptC (fun e => nI e.1) w0 out (L.2.1 0) else L.2.1 k, L.2.2)
theorem lw_k {L : aG} {w0 kn kn' : Nat} {out : List (Nat × Nat)} : gI (lwS L w0 kn out) 0 (nI kn') = lwS L w0 kn' out := by
  refine Prod.ext (funext fun k => ?_) rfl
  show (if k = 0 then nI kn' else if k = 1 then nI (w0 + out.length) else if k = 0 then nI kn else L.1 k) = if k = 1 then nI (w0 + out.length) else if k = 0 then nI kn' else L.1 k
  by_cases c0 : k = 0
  · rw [if_pos c0, if_neg (by omega), if_pos c0]
  · rw [if_neg c0, if_neg c0, if_neg c0]
theorem lw_a {L : aG} {w0 kn k v : Nat} {out : List (Nat × Nat)} : wrL (lwS L w0 kn out) (w0 + out.length) k v = lwS L w0 kn (out ++ [(k, v)]) := by
  refine Prod.ext (funext fun j => ?_) (Prod.ext (funext fun j => ?_) rfl)
  · show (if j = 1 then nI (w0 + out.length + 1) else if j = 1 then nI (w0 + out.length) else if j = 0 then nI kn else L.1 j) = if j = 1 then nI (w0 + (out ++ [(k, v)]).length) else if j = 0 then nI kn else L.1 j
    by_cases c1 : j = 1
    · rw [if_pos c1, if_pos c1, List.length_append, List.length_singleton]
      rfl
    · rw [if_neg c1, if_neg c1, if_neg c1]
  · show (if j = 1 then (ptC (fun e => nI e.2) w0 out (L.2.1 1)).set (w0 + out.length) (nI v) else if j = 0 then (ptC (fun e => nI e.1) w0 out (L.2.1 0)).set (w0 + out.length) (nI k) else if j = 1 then ptC (fun e => nI e.2) w0 out (L.2.1 1) else if j = 0 then ptC (fun e => nI e.1) w0 out (L.2.1 0) else L.2.1 j) = if j = 1 then ptC (fun e => nI e.2) w0 (out ++ [(k, v)]) (L.2.1 1) else if j = 0 then ptC (fun e => nI e.1) w0 (out ++ [(k, v)]) (L.2.1 0) else L.2.1 j
    rw [pc_a, pc_a]
    by_cases c1 : j = 1
    · rw [if_pos c1, if_pos c1]
    · by_cases c0 : j = 0
      · rw [if_neg c1, if_pos c0, if_neg c1, if_pos c0]
      · rw [if_neg c1, if_neg c0, if_neg c1, if_neg c0, if_neg c1, if_neg c0]
theorem lw_wf {L : aG} {w0 kn : Nat} {out : List (Nat × Nat)} (h : wfL L) : wfL (lwS L w0 kn out) := by
  obtain ⟨h1, h2, h3⟩ := h
  refine ⟨?_, ?_, h3⟩
  · show (ptC (fun e => nI e.1) w0 out (L.2.1 0)).length = 64
    rw [pc_l]; exact h1
  · show (ptC (fun e => nI e.2) w0 out (L.2.1 1)).length = 64
    rw [pc_l]; exact h2
def bS (B : aG) (n op : Nat) : aG := gI (gI B 3 (nI n)) 4 (nI op)
theorem bS_3 {B : aG} {n op n' : Nat} : gI (bS B n op) 3 (nI n') = bS B n' op := by
  unfold bS
  rw [gI_cm (show 4 ≠ 3 by decide), gI_I]
theorem bS_4 {B : aG} {n op op' : Nat} : gI (bS B n op) 4 (nI op') = bS B n op' := gI_I
def opN : List Nat → Nat
  | [] => 0
  | o :: st => (if o = 26 then 0 else 1) + opN st
/-- the class at a token of a law -/
def lS (C : aC) (σ : Bool) (by_ : Nat → Nat) (T w0 i : Nat) (R : List Int32) (st : List Nat) (op kn : Nat) (out : List (Nat × Nat)) : aC := k4 C (!σ) (tkA (C.1 6) by_ T i) (bS (C.1 3) st.length op) (gA (C.1 7) 0 R) (lwS (C.1 (kL (!σ))) w0 kn out)
def lI (w0 : Nat) (R : List Int32) (st : List Nat) (op kn : Nat) (out : List (Nat × Nat)) : Prop := R.length = 72 ∧ agS R st ∧ st.length ≤ op + kn ∧ op ≤ 8 ∧ kn ≤ 64 ∧ w0 + out.length + opN st ≤ kn
theorem pop_I {w0 : Nat} {R : List Int32} {op kn r : Nat} : ∀ st out, lI w0 R st op kn out → lI w0 R (popF r st out).1 op kn (popF r st out).2 ∧ (popF r st out).1.length ≤ st.length
  | [], out, h => ⟨h, Nat.le_refl _⟩
  | o :: st, out, h => by
    rw [popF]
    by_cases c : r < rkK o
    · rw [if_pos c]
      obtain ⟨h1, h2, h3, h4, h5, h6⟩ := h
      have ho : o ≠ 26 := fun z => by rw [z] at c; exact absurd c (by show ¬ r < 0; omega)
      have h3' : st.length + 1 ≤ op + kn := h3
      have h6' : w0 + out.length + ((if o = 26 then 0 else 1) + opN st) ≤ kn := h6
      rw [if_neg ho] at h6'
      obtain ⟨g1, g2⟩ := pop_I (w0 := w0) (R := R) (op := op) (kn := kn) (r := r) st (out ++ [(o, 0)]) ⟨h1, h2.2.2, by omega, h4, h5, by rw [List.length_append, List.length_singleton]; omega⟩
      exact ⟨g1, by show _ ≤ st.length + 1; omega⟩
    · rw [if_neg c]
      exact ⟨h, Nat.le_refl _⟩
section EX5
variable (xs : List Int32) (d : Nat) {H : ia_H} {x : Nat} {C : aC} {σ : Bool} {M : aG} {by_ : Nat → Nat} {T : Nat} {w0 i : Nat} {R : List Int32} {op kn : Nat}
theorem k_down (hc : cB x C σ M by_ T) (hw : wfL (C.1 (kL (!σ)))) {r : Nat} (hr : r < 7) : ∀ st out c F, lI w0 R st op kn out → c + st.length ≤ 72 → st.length + 1 ≤ F → ia_qr xs (ia_cal xs (d + 2)) im_Reader_writeDownTo F 2 [.ref (x + 53), .int (nI r), .int (nI c)] [] (tot H x (lS C σ by_ T w0 i R st op kn out)) = some (none, tot H x (lS C σ by_ T w0 i R (popF r st out).1 op kn (popF r st out).2)) := by
  have hq : ∀ A n E L, fx x (k4 C (!σ) A (bS (C.1 3) n op) E L) σ := fun A n E L => k4_fx hc.1 rfl
  intro st
  induction st with
  | nil =>
    intro out c F hI hcs hF
    obtain ⟨F, rfl⟩ : ∃ k, F = k + 1 := ⟨F - 1, by omega⟩
    obtain ⟨h1, h2, h3, h4, h5, h6⟩ := hI
    have rl := k_rankLast xs d (H := H) (x := x) (C := C) (σ := σ) (τ := !σ) (by_ := by_) (T := T) (i := i) (B := bS (C.1 3) 0 op) (E := gA (C.1 7) 0 R) (L := lwS (C.1 (kL (!σ))) w0 kn out) (hq _ _ _ _) (st := []) rfl h1 (by decide) trivial
    have q7 : (gA (C.1 7) 0 R).2.1 0 = R := gA_s
    unfold lS
    rw [iq_Reader_writeDownTo_2]
    simp only [↓tQ_Rb (hq _ _ _ _), ↓tV_len, k4_7, q7, h1, ↓tQ_clsb, List.length_nil, ↓cI_of rl]
    rw [if_neg (show ¬ nI r < nI (topR []) from nI_nlt (b := 0) (by omega) (by omega))]
    show (if nI c < nI 72 then _ else _) = _
    split <;> rfl
  | cons o st ih =>
    intro out c F hI hcs hF
    obtain ⟨F, rfl⟩ : ∃ k, F = k + 1 := ⟨F - 1, by omega⟩
    obtain ⟨h1, h2, h3, h4, h5, h6⟩ := hI
    have hcs' : c + (st.length + 1) ≤ 72 := hcs
    have hF' : st.length + 1 + 1 ≤ F + 1 := hF
    have q7 : (gA (C.1 7) 0 R).2.1 0 = R := gA_s
    have rl := k_rankLast xs d (H := H) (x := x) (C := C) (σ := σ) (τ := !σ) (by_ := by_) (T := T) (i := i) (B := bS (C.1 3) (o :: st).length op) (E := gA (C.1 7) 0 R) (L := lwS (C.1 (kL (!σ))) w0 kn out) (hq _ _ _ _) (st := o :: st) rfl h1 (by show st.length + 1 ≤ 72; omega) h2
    rw [topR_c] at rl
    have r6 := rk_le o
    rw [popF]
    unfold lS at ih ⊢
    rw [iq_Reader_writeDownTo_2]
    simp only [↓tQ_Rb (hq _ _ _ _), ↓tV_len, k4_7, q7, h1, ↓tQ_clsb, ↓cI_of rl, ↓if_p (nI_lt (show c < 72 by omega) (show (72 : Nat) < 2 ^ 31 by decide))]
    by_cases c9 : r < rkK o
    · rw [if_pos c9, if_pos (nI_lt c9 (by omega))]
      have ho : o ≠ 26 := fun z => by rw [z] at c9; exact absurd c9 (by show ¬ r < 0; omega)
      have h6' : w0 + out.length + ((if o = 26 then 0 else 1) + opN st) ≤ kn := h6
      rw [if_neg ho] at h6'
      have h3' : st.length + 1 ≤ op + kn := h3
      have em : (bS (C.1 3) (o :: st).length op).1 3 = nI (st.length + 1) := rfl
      have en : nI (st.length + 1) - 1 = nI st.length := by
        have : nI (st.length + 1) - nI 1 = nI (st.length + 1 - 1) := pk_sub (by omega)
        exact this
      have e3 : (bS (C.1 3) st.length op).1 3 = nI st.length := rfl
      have r0 : rd R (nI st.length) = some (nI o) := by
        rw [← h2.1]
        exact rdN (by omega) (by omega)
      have wrt := k_write xs (d + 1) (H := H) (x := x) (C := C) (τ := !σ) (A := tkA (C.1 6) by_ T i) (B := bS (C.1 3) st.length op) (E := gA (C.1 7) 0 R) (L := lwS (C.1 (kL (!σ))) w0 kn out) (w := w0 + out.length) (k := o) (v := 0) rfl (by omega) (lw_wf hw).1 (lw_wf hw).2.1 (kI := nI o) (vI := 0) rfl rfl
      rw [lw_a] at wrt
      simp only [↓tQ_Ib, k4_3, em, en, ↓tQ_pfb, bS_3, k4_u3, ↓tQ_Rb (hq _ _ _ _), ↓tS_Rb (hq _ _ _ _), e3, ↓tV_ldb, k4_7, q7, ↓bs r0, ↓tL_clsb, ↓cV_of wrt, nI_1]
      exact ih (out ++ [(o, 0)]) (c + 1) F ⟨h1, h2.2.2, by omega, h4, h5, by rw [List.length_append, List.length_singleton]; omega⟩ (by omega) (by omega)
    · rw [if_neg c9, if_neg (nI_nlt (by omega) (by omega))]
theorem k_downTo (hc : cB x C σ M by_ T) (hw : wfL (C.1 (kL (!σ)))) {r : Nat} (hr : r < 7) {st : List Nat} {out : List (Nat × Nat)} (hI : lI w0 R st op kn out) {v : Int32} (hv : v = nI r) : ia_cal xs (d + 3) im_Reader_writeDownTo [.ref (x + 53), .int v] (tot H x (lS C σ by_ T w0 i R st op kn out)) = some (none, tot H x (lS C σ by_ T w0 i R (popF r st out).1 op kn (popF r st out).2)) := by
  have hl := hI.2.2
  rw [iu_Reader_writeDownTo, show (1000000 : Nat) = 999999 + 1 from rfl, iq_Reader_writeDownTo_0, hv]
  exact k_down xs d (H := H) (x := x) hc hw hr st out 0 999999 hI (by omega) (by omega)
end EX5
