/-! law. -/
theorem sm_dk0 {M : aG} {X : aW} {dr wk : Int32} {sc : List Int64 × List Int64} (hl : lnM M) (hs : scw sc) : smM M (mz M 0 (dkW M 0 X) dr wk sc) := by
  have e : (mz M 0 (dkW M 0 X) dr wk sc).2.1 = M.2.1 := congrArg (fun z => z.2.1) (mz_dk (X := X) hl (show 0 < 23 by decide))
  have f : ∀ k, fG (mz M 0 (dkW M 0 X) dr wk sc) k = fG M k := fun k => by unfold fG; rw [e]
  refine ⟨fun k hk => by rw [e]; exact hl k hk, fun k hk => by rw [e], fun k h1 h2 => by rw [e], fun d X' t r p h1 h2 h3 h4 => ?_, fun k h1 h2 h3 h4 _ _ _ => ?_, ?_, ?_⟩
  · unfold dkA at *
    simp only [f]
    exact h4
  · show va_up (va_up M.1 15 wk) 22 dr k = M.1 k
    rw [up_n h4, up_n h3]
  · show (va_up (va_up M.2.2.2.1 0 sc.1) 1 sc.2 0).length = 7
    rw [up_n (by decide), up_s]
    exact hs.1
  · show (va_up (va_up M.2.2.2.1 0 sc.1) 1 sc.2 1).length = 64
    rw [up_s]
    exact hs.2
theorem nx_15 {C : aC} {ε σ : Bool} {dr : Int64} {sc : List Int64 × List Int64} : nx C ε 1 σ (C.2 1) dr sc = nx C ε 5 σ (C.2 5) dr sc := by
  unfold nx
  have e : ∀ k, uW (uG C (kL σ) (gL (C.1 (kL σ)) sc)) k (C.2 k) = uG C (kL σ) (gL (C.1 (kL σ)) sc) := fun k => Prod.ext rfl up_id
  rw [e, e]
section O25
variable (xs : List Int32) (d : Nat) {H h : ia_H} {x a : Nat} {C : aC} {M M' : aG} {σ : Bool} {p n r t t0 q : Nat}
/-- a law's value, in the class -/
theorem e_val (hR : Rp x C M σ p n r t t0 q) {j m : Nat} (hj : j < 3) (hm : m < p) {jI : Int32} (hjI : jI = nI j) (turn : Int32) :
    ∃ C', scC C C' σ ∧ ia_cal xs (d + 19) im_Exchange_valueOf [.ref (ed x false), .ref (wA x 1), .int jI, .int (nI m), .int turn] (tot H x (uG C (kE false) (opE (C.1 (kE false)) (sd x σ) (C.1 (kS σ))))) = some (some (.long (valX (dE (C.1 (kS σ))) (C.1 (kS σ)) (C.1 (kL σ)) (C.2 1) t r n j m turn)), tot H x C') := by
  have hc := scC.openE (C := C) false hR.2.1.2.1 hR.2.2.2.2.2.2.2.2.2.2 (opE (C.1 (kE false)) (sd x σ) (C.1 (kS σ)))
  generalize hC1 : uG C (kE false) (opE (C.1 (kE false)) (sd x σ) (C.1 (kS σ))) = C1 at *
  have hR1 := hR.sc hc hR.sm
  have eE : C1.1 (kE false) = opE (C.1 (kE false)) (sd x σ) (C.1 (kS σ)) := by rw [← hC1, uG_s]
  have eS : C1.1 (kS σ) = C.1 (kS σ) := hc.2.2.2.2.2.2.2.1 σ
  have eX : C1.2 1 = C.2 1 := hc.2.2.2.2.2.2.2.2.2.2.1 1 (by decide)
  have hX := hR1.2.2.1.1
  have hsc : scw ((C1.1 (kL σ)).2.2.2.1 0, (C1.1 (kL σ)).2.2.2.1 1) := ⟨hR1.2.1.2.1.1.2.2.2.2.1, hR1.2.1.2.1.1.2.2.2.2.2⟩
  obtain ⟨sc', h1, h2⟩ := t_valueOf xs (d + 16) (H := H) (C := C1) (ε := false) (k := 1) (dr := (C1.1 (kE false)).2.2.1 0) hR1.1 (by decide) (dj15 x σ).1 (by rw [eE]; rfl) hR1.2.1.1 hR1.2.1.2.1 hX.1 hsc hj (show m < 6 by have := hX.2.1; omega) hjI rfl turn
  rw [nx_id, nx_15] at h2
  refine ⟨_, hc.trans (scC.nx (C := C1) (ε := false) (dr := (C1.1 (kE false)).2.2.1 0) hR1.2.2.2.2.2.2.2.2.2.2 h1), ?_⟩
  rw [h2, eE, eS, eX]
  obtain ⟨scx, -, eL⟩ := hc.2.2.2.2.2.2.2.2.2.1
  have := valX_c (E := dE (C.1 (kS σ))) (E' := opE (C.1 (kE false)) (sd x σ) (C.1 (kS σ))) (S := C.1 (kS σ)) (L := C.1 (kL σ)) (L' := C1.1 (kL σ)) (X := C.2 1) (t := t) (r := r) (n := n) (k := j) (m := m) (turn := turn) dE_k (by rw [eL]; rfl)
  rw [this]
/-- a law's value, in the reference -/
theorem p_val (hR : Rp x C M σ p n r t t0 q) {j m : Nat} (hj : j < 3) (hm : m < p) {jI : Int32} (hjI : jI = nI j) (turn : Int32) (ht : ¬ tldI (C.1 (kL σ)) j = 0) :
    ∃ M', smM M M' ∧ ∀ N, ia_qr xs (ia_cal xs (d + 19)) im_Mod_law (N + 1) 61 [.ref a, .int jI, .float 0] [.int turn, .int (nI m), .int 0, .ref a] (pM h a M) = some (some (.long (valX (dE (C.1 (kS σ))) (C.1 (kS σ)) (C.1 (kL σ)) (C.2 1) t r n j m turn)), pM h a M') := by
  have hT := hR.2.1
  have hs := hT.2.2.1
  have hn := hR.2.2.1
  have hl := hs.1
  obtain ⟨b1, b2, b3, b4⟩ := hR.bd1
  have ho : opM M (dE (C.1 (kS σ))) := op0 hR.2.2.2.1 hT
  have e1 : pM h a M = my h a M 0 (dkW M 0 (C.2 1)) (M.1 22) (M.1 15) (M.2.2.2.1 0, M.2.2.2.1 1) := (my_dk hl (by decide)).symm
  have e3 : scw (M.2.2.2.1 0, M.2.2.2.1 1) := hR.2.2.2.1.2.2.2.2
  have hca := m_calls xs (d + 15) (h := h) (a := a) (dr := M.1 22) (wk := M.1 15) hs ho b3 b2 (b2.y hl (show 0 < 23 by decide)) e3 hm (mI := nI m) rfl turn
  rw [← e1] at hca
  have hms : scw (msX (dE (C.1 (kS σ))) (C.1 (kS σ)) (dkW M 0 (C.2 1)) t r n m turn, M.2.2.2.1 1) := ⟨rfl, e3.2⟩
  obtain ⟨wk', vs', g1, g2, g3⟩ := m_goes xs (d + 16) (h := h) (a := a) (b := 0) (X := dkW M 0 (C.2 1)) (dr := M.1 22) (wk := M.1 15) (sc := (msX (dE (C.1 (kS σ))) (C.1 (kS σ)) (dkW M 0 (C.2 1)) t r n m turn, M.2.2.2.1 1)) hs hT.2.1 hj hjI ht hms ms_sm
  have ev : valX (dE (C.1 (kS σ))) (C.1 (kS σ)) (C.1 (kL σ)) (C.2 1) t r n j m turn = (evO (C.1 (kL σ)) (msX (dE (C.1 (kS σ))) (C.1 (kS σ)) (dkW M 0 (C.2 1)) t r n m turn) j).getD (-9223372036854775808) := by
    rw [← ag_val b4 hm]
    unfold valX evL evO
    rw [if_neg ht]
  have hsm := sm_dk0 (M := M) (X := C.2 1) (dr := M.1 22) (wk := wk') (sc := (msX (dE (C.1 (kS σ))) (C.1 (kS σ)) (dkW M 0 (C.2 1)) t r n m turn, vs')) hl ⟨rfl, g1⟩
  refine ⟨_, hsm, fun N => ?_⟩
  have hca' : ia_cal xs (d + 19) im_Mod_calls [.ref a, .int 0, .int (nI m), .int turn] (pM h a M) = _ := hca
  rw [iq_Mod_law_61]
  simp only [↓pM_clsb, ↓cV_of hca', ↓my_clsb, ↓cI_of g3]
  cases e : evO (C.1 (kL σ)) (msX (dE (C.1 (kS σ))) (C.1 (kS σ)) (dkW M 0 (C.2 1)) t r n m turn) j with
  | none =>
    rw [ev, e]
    rfl
  | some w =>
    rw [ev, e]
    have hg := (g2 w e).1
    have r0 : rd vs' (0 : Int32) = some w := by
      have : rd vs' (nI 0) = some (vs'.getD 0 0) := rdL (by omega) (by omega)
      rw [hg] at this
      exact this
    simp only [Option.isSome_some, ↓reduceIte, ↓my_Rb, ↓my_llb, ↓bs r0]
    rfl
end O25
