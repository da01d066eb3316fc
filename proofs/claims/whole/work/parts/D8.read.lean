/-! text: the reference's small steps while it reads a law. -/
def rB (N M : aG) (by_ : Nat → Nat) (T : Nat) : Prop := txB N M by_ T ∧ M.1 4 = nI T ∧ M.1 9 = 0 ∧ (M.2.1 1).length = 16 ∧ (M.2.1 16).length = 128 ∧ (M.2.1 17).length = 128
section DX8
variable (xs : List Int32) (d : Nat) {h : ia_H} {a : Nat} {M N : aG} {by_ : Nat → Nat} {T : Nat} {w0 i : Nat} {W : Int32} {op kn : Nat} {out : List (Nat × Nat)}
theorem p_fresher {k : Nat} (hl : (M.2.1 1).length = 16) (hk : k < 8) {v : Int32} (hv : v = nI k) : ia_cal xs (d + 1) im_Mod_fresher [.ref a, .int v] (pM h a M) = some (some (.int (fG M 1 (8 + k))), pM h a M) := by
  have e8 : (8 : Int32) + nI k = nI (8 + k) := nI_add 8 k
  have r0 : rd (M.2.1 1) (nI (8 + k)) = some (fG M 1 (8 + k)) := rdG (by omega) (by omega)
  rw [iu_Mod_fresher, iq_Mod_fresher_0, hv, e8]
  simp only [↓pM_Rb, ↓pM_ldb, ↓bs r0]
theorem p_reads {k : Nat} (hl : (M.2.1 1).length = 16) (hk : k < 8) {v : Int32} (hv : v = nI k) (w : Int32) : ia_cal xs (d + 1) im_Mod_reads [.ref a, .int v, .int w] (pM h a M) = some (none, pM h a (gA M 1 ((M.2.1 1).set (8 + k) w))) := by
  have e8 : (8 : Int32) + nI k = nI (8 + k) := nI_add 8 k
  have w0 : wr (M.2.1 1) (nI (8 + k)) w = some ((M.2.1 1).set (8 + k) w) := wr_nI (by omega) (by omega)
  rw [iu_Mod_reads, iq_Mod_reads_0, hv, e8]
  simp only [↓pM_Rb, ↓pM_stb, ↓bs w0]
theorem r_txB (hb : rB N M by_ T) : txB N (rSt M by_ T w0 i W op kn out) by_ T := hb.1
theorem r_4 (hb : rB N M by_ T) : (rSt M by_ T w0 i W op kn out).1 4 = nI T := hb.2.1
theorem r_9 (hb : rB N M by_ T) : (rSt M by_ T w0 i W op kn out).1 9 = 0 := hb.2.2.1
theorem r_token (hb : rB N M by_ T) (hi : i ≤ T) : ∃ W', vOK (tkK by_ T (tkJ by_ T i)) (tkV by_ T (tkJ by_ T i)) W' ∧ ia_cal xs (d + 4) im_Mod_token [.ref a] (pM h a (rSt M by_ T w0 i W op kn out)) = some (none, pM h a (rSt M by_ T w0 (tkJ by_ T i) W' op kn out)) := by
  have hon := tk_on (fun i hi => (hb.1.2.2.2 i hi).1) i hi
  obtain ⟨W', h1, h2⟩ := p_token xs d (h := h) (a := a) (N := N) (M := rSt M by_ T w0 i W op kn out) (r_txB hb) (r_4 hb) (tkJ by_ T i) hon.2.2.1 rfl
  refine ⟨W', h1, ?_⟩
  rw [h2]
  have : tkM (rSt M by_ T w0 i W op kn out) (tkK by_ T (tkJ by_ T i)) (tkP by_ T (tkJ by_ T i)) (tkJ by_ T (tkJ by_ T i)) W' = rSt M by_ T w0 (tkJ by_ T i) W' op kn out := by
    generalize tkJ by_ T i = j
    generalize hA : rSt M by_ T w0 i W op kn out = A
    have hA1 : A.1 = rInt M (tkK by_ T i) (tkP by_ T i) (tkJ by_ T i) W op kn := by rw [← hA]; rfl
    have hA2 : A.2 = (rRow M w0 out, M.2.2) := by rw [← hA]; rfl
    refine Prod.ext (funext fun k => ?_) ?_
    · show (if k = 8 then W' else if k = 7 then nI (srK (tkK by_ T j)) else if k = 6 then nI (tkP by_ T j) else if k = 5 then nI (tkJ by_ T j) else A.1 k) = if k = 14 then nI kn else if k = 13 then nI op else if k = 8 then W' else if k = 7 then nI (srK (tkK by_ T j)) else if k = 6 then nI (tkP by_ T j) else if k = 5 then nI (tkJ by_ T j) else M.1 k
      rw [hA1]
      show (if k = 8 then W' else if k = 7 then nI (srK (tkK by_ T j)) else if k = 6 then nI (tkP by_ T j) else if k = 5 then nI (tkJ by_ T j) else if k = 14 then nI kn else if k = 13 then nI op else if k = 8 then W else if k = 7 then nI (srK (tkK by_ T i)) else if k = 6 then nI (tkP by_ T i) else if k = 5 then nI (tkJ by_ T i) else M.1 k) = _
      by_cases c14 : k = 14
      · subst c14; rfl
      · by_cases c13 : k = 13
        · subst c13; rfl
        · rw [if_neg c14, if_neg c13, if_neg c14, if_neg c13]
          by_cases c8 : k = 8
          · rw [if_pos c8, if_pos c8]
          · rw [if_neg c8, if_neg c8, if_neg c8]
            by_cases c7 : k = 7
            · rw [if_pos c7, if_pos c7]
            · rw [if_neg c7, if_neg c7, if_neg c7]
              by_cases c6 : k = 6
              · rw [if_pos c6, if_pos c6]
              · rw [if_neg c6, if_neg c6, if_neg c6]
                by_cases c5 : k = 5
                · rw [if_pos c5, if_pos c5]
                · rw [if_neg c5, if_neg c5, if_neg c5]
    · exact hA2
  rw [this]
theorem r_goOn (hb : rB N M by_ T) (hi : i ≤ T) : ∃ W', vOK (tkK by_ T (tkJ by_ T i)) (tkV by_ T (tkJ by_ T i)) W' ∧ ia_cal xs (d + 5) im_Mod_goOn [.ref a] (pM h a (rSt M by_ T w0 i W op kn out)) = some (none, pM h a (rSt M by_ T w0 (tkJ by_ T i) W' op kn out)) := by
  obtain ⟨W', h1, h2⟩ := r_token xs d (h := h) (a := a) (w0 := w0) (W := W) (op := op) (kn := kn) (out := out) hb hi
  refine ⟨W', h1, ?_⟩
  rw [iu_Mod_goOn, iq_Mod_goOn_0]
  simp only [↓pM_Ib, r_9 hb, ↓pM_clsb, ↓cV_of h2]
  rw [if_pos trivial]
theorem r_knotF (hb : rB N M by_ T) : ia_cal xs (d + 2) im_Mod_knot [.ref a] (pM h a (rSt M by_ T w0 i W op 64 out)) = some (none, pM h a (flM (rSt M by_ T w0 i W op 64 out) 2 (tkP by_ T i))) := by
  have q14 : (rSt M by_ T w0 i W op 64 out).1 14 = 64 := rfl
  have hw := p_wrong xs d (h := h) (a := a) (M := rSt M by_ T w0 i W op 64 out) (k := 2) (p := tkP by_ T i) (r_9 hb) rfl (v := 2) rfl
  rw [iu_Mod_knot, iq_Mod_knot_0]
  simp only [↓pM_Ib, r_9 hb, q14, ↓pM_clsb, ↓cV_of hw]
  rw [if_pos trivial, if_pos trivial]
theorem r_knot (hb : rB N M by_ T) (hk : kn < 64) : ia_cal xs (d + 1) im_Mod_knot [.ref a] (pM h a (rSt M by_ T w0 i W op kn out)) = some (none, pM h a (rSt M by_ T w0 i W op (kn + 1) out)) := by
  have q14 : (rSt M by_ T w0 i W op kn out).1 14 = nI kn := rfl
  have e : gI (rSt M by_ T w0 i W op kn out) 14 (nI (kn + 1)) = rSt M by_ T w0 i W op (kn + 1) out := by
    refine Prod.ext (funext fun k => ?_) rfl
    show (if k = 14 then nI (kn + 1) else if k = 14 then nI kn else if k = 13 then nI op else (tkM M _ _ _ W).1 k) = if k = 14 then nI (kn + 1) else if k = 13 then nI op else (tkM M _ _ _ W).1 k
    by_cases c : k = 14
    · rw [if_pos c, if_pos c]
    · rw [if_neg c, if_neg c, if_neg c]
  rw [iu_Mod_knot, iq_Mod_knot_0]
  simp only [↓pM_Ib, r_9 hb, q14, ↓pM_pfb, nI_1, e]
  rw [if_pos trivial, if_neg (show ¬ nI kn = (64 : Int32) from fun z => by have := (nI_eq (b := 64) (by omega) (by decide)).mp z; omega)]
theorem r_open {op' : Nat} : gI (rSt M by_ T w0 i W op kn out) 13 (nI op') = rSt M by_ T w0 i W op' kn out := by
  refine Prod.ext (funext fun k => ?_) rfl
  show (if k = 13 then nI op' else if k = 14 then nI kn else if k = 13 then nI op else (tkM M _ _ _ W).1 k) = if k = 14 then nI kn else if k = 13 then nI op' else (tkM M _ _ _ W).1 k
  by_cases c : k = 13
  · rw [if_pos c, if_neg (by omega), if_pos c]
  · rw [if_neg c, if_neg c, if_neg c]
theorem r_puts (hb : rB N M by_ T) (hw : w0 + out.length < 64) (e : Nat × Nat) {v1 v2 : Int32} (h1 : v1 = ksF e) (h2 : v2 = kvF e) : ia_cal xs (d + 2) im_Mod_puts [.ref a, .int v1, .int v2] (pM h a (rSt M by_ T w0 i W op kn out)) = some (none, pM h a (rSt M by_ T w0 i W op kn (out ++ [e]))) := by
  have nin := r_9 (w0 := w0) (i := i) (W := W) (op := op) (kn := kn) (out := out) hb
  obtain ⟨-, -, -, l1, l16, l17⟩ := hb
  generalize hA : rSt M by_ T w0 i W op kn out = A at *
  have a1 : A.2.1 1 = (M.2.1 1).set 15 (nI (w0 + out.length)) := by rw [← hA]; rfl
  have a16 : A.2.1 16 = ptL ksF w0 out (M.2.1 16) := by rw [← hA]; rfl
  have a17 : A.2.1 17 = ptL kvF w0 out (M.2.1 17) := by rw [← hA]; rfl
  have al1 : (A.2.1 1).length = 16 := by rw [a1, List.length_set]; exact l1
  have al16 : (A.2.1 16).length = 128 := by rw [a16, pt_l]; exact l16
  have al17 : (A.2.1 17).length = 128 := by rw [a17, pt_l]; exact l17
  have f15 : fG A 1 15 = nI (w0 + out.length) := by
    unfold fG
    rw [a1, ia_set_getD (by omega), if_pos rfl]
  have e64 : (64 : Int32) + nI (w0 + out.length) = nI (64 + (w0 + out.length)) := nI_add 64 _
  have fr : ∀ Y : aG, Y.2.1 1 = A.2.1 1 → ia_cal xs (d + 1) im_Mod_fresher [.ref a, .int 7] (pM h a Y) = some (some (.int (nI (w0 + out.length))), pM h a Y) := fun Y hY => by
    have := p_fresher xs d (h := h) (a := a) (M := Y) (k := 7) (by rw [hY]; exact al1) (by decide) (v := 7) rfl
    rw [this]
    show some (some (Value.int (fG Y 1 15)), _) = _
    unfold fG at f15 ⊢
    rw [hY, f15]
  have w16 : wr (A.2.1 16) (nI (64 + (w0 + out.length))) v1 = some ((A.2.1 16).set (64 + (w0 + out.length)) v1) := wr_nI (by omega) (by omega)
  have w17 : ∀ Y : aG, Y.2.1 17 = A.2.1 17 → wr (Y.2.1 17) (nI (64 + (w0 + out.length))) v2 = some ((A.2.1 17).set (64 + (w0 + out.length)) v2) := fun Y hY => by rw [hY]; exact wr_nI (by omega) (by omega)
  have g17 := w17 (gA A 16 ((A.2.1 16).set (64 + (w0 + out.length)) v1)) rfl
  have rd7 := p_reads xs d (h := h) (a := a) (M := gA (gA A 16 ((A.2.1 16).set (64 + (w0 + out.length)) v1)) 17 ((A.2.1 17).set (64 + (w0 + out.length)) v2)) (k := 7) al1 (by decide) (v := 7) rfl (nI (w0 + out.length + 1))
  rw [iu_Mod_puts, iq_Mod_puts_0]
  simp only [↓pM_Ib, nin, ↓pM_Rb, ↓pM_clsb, ↓cI_of (fr A rfl), e64, ↓pM_stb, ↓bs w16, ↓cI_of (fr (gA A 16 ((A.2.1 16).set (64 + (w0 + out.length)) v1)) rfl), ↓bs g17, ↓cI_of (fr (gA (gA A 16 ((A.2.1 16).set (64 + (w0 + out.length)) v1)) 17 ((A.2.1 17).set (64 + (w0 + out.length)) v2)) rfl), nI_1, ↓cV_of rd7]
  rw [if_pos trivial]
  have : gA (gA (gA A 16 ((A.2.1 16).set (64 + (w0 + out.length)) v1)) 17 ((A.2.1 17).set (64 + (w0 + out.length)) v2)) 1 (((gA (gA A 16 ((A.2.1 16).set (64 + (w0 + out.length)) v1)) 17 ((A.2.1 17).set (64 + (w0 + out.length)) v2)).2.1 1).set (8 + 7) (nI (w0 + out.length + 1))) = rSt M by_ T w0 i W op kn (out ++ [e]) := by
    have eA1 : A.1 = rInt M (tkK by_ T i) (tkP by_ T i) (tkJ by_ T i) W op kn := by rw [← hA]; rfl
    have eA2 : A.2.2 = M.2.2 := by rw [← hA]; rfl
    refine Prod.ext eA1 (Prod.ext (funext fun k => ?_) eA2)
    have q1 : (gA (gA A 16 ((A.2.1 16).set (64 + (w0 + out.length)) v1)) 17 ((A.2.1 17).set (64 + (w0 + out.length)) v2)).2.1 1 = A.2.1 1 := rfl
    rw [q1]
    show (if k = 1 then (A.2.1 1).set 15 (nI (w0 + out.length + 1)) else if k = 17 then (A.2.1 17).set (64 + (w0 + out.length)) v2 else if k = 16 then (A.2.1 16).set (64 + (w0 + out.length)) v1 else A.2.1 k) = if k = 17 then ptL kvF w0 (out ++ [e]) (M.2.1 17) else if k = 16 then ptL ksF w0 (out ++ [e]) (M.2.1 16) else if k = 1 then (M.2.1 1).set 15 (nI (w0 + (out ++ [e]).length)) else M.2.1 k
    by_cases c17 : k = 17
    · rw [if_neg (by omega), if_pos c17, if_pos c17, a17, pt_a, h2]
    · rw [if_neg c17, if_neg c17]
      by_cases c16 : k = 16
      · rw [if_neg (by omega), if_pos c16, if_pos c16, a16, pt_a, h1]
      · rw [if_neg c16, if_neg c16]
        by_cases c1 : k = 1
        · rw [if_pos c1, if_pos c1, a1, List.set_set, List.length_append, List.length_singleton]
          rfl
        · rw [if_neg c1, if_neg c1, ← hA]
          show (if k = 17 then _ else if k = 16 then _ else if k = 1 then _ else M.2.1 k) = M.2.1 k
          rw [if_neg c17, if_neg c16, if_neg c1]
  rw [this]
end DX8
