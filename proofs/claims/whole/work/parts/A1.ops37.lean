/-! go. -/
section O37
variable (xs : List Int32) (d : Nat) {H h : ia_H} {x a : Nat} {C : aC} {M M' D D' : aG} {σ : Bool} {p n r t t0 q : Nat}
theorem nx_w1 {ε : Bool} {X : aW} {dr : Int64} {sc : List Int64 × List Int64} : nx C ε 1 σ X dr sc = uW (nx C ε 5 σ (C.2 5) dr sc) 1 X := by
  refine Prod.ext rfl ?_
  show va_up C.2 1 X = va_up (va_up C.2 5 (C.2 5)) 1 X
  rw [up_id]
/-- the class goes on -/
theorem go_c (hR : Rp x C M σ p n r t t0 q) {C1 : aC} (hC1 : C1 = uG C (kE false) (opE (C.1 (kE false)) (sd x σ) (C.1 (kS σ)))) {m : Nat} (hm : m ≤ 99) :
    ∀ k i sc N, i + k = m → scw sc → k + 1 ≤ N → ∃ sc' N', scw sc' ∧ 1 ≤ N' ∧ ia_qr xs (ia_cal xs (d + 19)) im_Eng_go N 21 [.ref x, .int (nI m), .int (nI i)] [] (tot H x (nx C1 false 1 σ (stN (dE (C.1 (kS σ))) (C.1 (kS σ)) (C.1 (kL σ)) t r p n (C.2 1, (C1.1 (kE false)).2.2.1 0) i).1 (stN (dE (C.1 (kS σ))) (C.1 (kS σ)) (C.1 (kL σ)) t r p n (C.2 1, (C1.1 (kE false)).2.2.1 0) i).2 sc)) = ia_qr xs (ia_cal xs (d + 19)) im_Eng_go N' 21 [.ref x, .int (nI m), .int (nI m)] [] (tot H x (nx C1 false 1 σ (stN (dE (C.1 (kS σ))) (C.1 (kS σ)) (C.1 (kL σ)) t r p n (C.2 1, (C1.1 (kE false)).2.2.1 0) m).1 (stN (dE (C.1 (kS σ))) (C.1 (kS σ)) (C.1 (kL σ)) t r p n (C.2 1, (C1.1 (kE false)).2.2.1 0) m).2 sc')) := by
  have hc := scC.openE (C := C) false hR.2.1.2.1 hR.2.2.2.2.2.2.2.2.2.2 (opE (C.1 (kE false)) (sd x σ) (C.1 (kS σ)))
  rw [← hC1] at hc
  have hR1 := hR.sc hc hR.sm
  have eE : C1.1 (kE false) = opE (C.1 (kE false)) (sd x σ) (C.1 (kS σ)) := by rw [hC1, uG_s]
  have eS : C1.1 (kS σ) = C.1 (kS σ) := hc.2.2.2.2.2.2.2.1 σ
  obtain ⟨scx, -, eL⟩ := hc.2.2.2.2.2.2.2.2.2.1
  have hX := hR.2.2.1.1
  intro k
  induction k with
  | zero =>
    intro i sc N hi hsc hN
    have : i = m := by omega
    subst this
    exact ⟨sc, N, hsc, by omega, rfl⟩
  | succ k ih =>
    intro i sc N hi hsc hN
    obtain ⟨N, rfl⟩ : ∃ k, N = k + 1 := ⟨N - 1, by omega⟩
    have hwi := stN_wf (E := dE (C.1 (kS σ))) (S := C.1 (kS σ)) (L := C.1 (kL σ)) (n := n) (Y := (C.2 1, (C1.1 (kE false)).2.2.1 0)) hX i
    obtain ⟨sc2, h1, h2⟩ := t_step xs (d + 14) (H := H) (C := C1) (ε := false) (k := 1) (dr := (stN (dE (C.1 (kS σ))) (C.1 (kS σ)) (C.1 (kL σ)) t r p n (C.2 1, (C1.1 (kE false)).2.2.1 0) i).2) hR1.1 (by decide) (dj15 x σ).1 (by rw [eE]; rfl) hR1.2.1.1 hR1.2.1.2.1 hwi hsc
    have e := stX_c (E := dE (C.1 (kS σ))) (E' := C1.1 (kE false)) (S := C.1 (kS σ)) (L := C.1 (kL σ)) (L' := C1.1 (kL σ)) (t := t) (r := r) (p := p) (n := n) (Y := ((stN (dE (C.1 (kS σ))) (C.1 (kS σ)) (C.1 (kL σ)) t r p n (C.2 1, (C1.1 (kE false)).2.2.1 0) i).1, (stN (dE (C.1 (kS σ))) (C.1 (kS σ)) (C.1 (kL σ)) t r p n (C.2 1, (C1.1 (kE false)).2.2.1 0) i).2)) (by rw [eE]; exact dE_k) (by rw [eL]; rfl)
    rw [eS, e] at h2
    have fxn : ∀ X dr sc, fx x (nx C1 false 1 σ X dr sc) σ := fun X dr sc => nx_fx hR1.1
    obtain ⟨sc', N', g1, g2, g3⟩ := ih (i + 1) sc2 N (by omega) h1 (by omega)
    refine ⟨sc', N', g1, g2, ?_⟩
    rw [← g3, iq_Eng_go_21]
    simp only [↓if_p (nI_lt (show i < m by omega) (show m < 2 ^ 31 by omega)), ↓tN_Rb (fxn _ _ _), ↓tE_clsb (ε := false), ↓cV_of h2, nI_1]
    rfl
/-- the reference goes on -/
theorem go_r {S L E : aG} {Y : aW} {dr0 : Int64} (hs : rsM M S L r p n) (hq : wfQ L) (ho : opM M E) (hcm : cmM M Y r) (hw : wfX Y t r p) {m : Nat} (hm : m ≤ 99) (hqm : q + m ≤ 11000) :
    ∀ k i dr wk sc N, i + k = m → scw sc → dr.toInt64 = (stN E S L t r p n (Y, dr0) i).2 → bdX (stN E S L t r p n (Y, dr0) i).1 r (q + i) → k + 1 ≤ N → ∃ dr' wk' sc', scw sc' ∧ bdX (stN E S L t r p n (Y, dr0) m).1 r (q + m) ∧ ia_qr xs (ia_cal xs (d + 19)) im_Mod_go N 25 [.ref a, .int (nI m), .int (nI i)] [] (my h a M 0 (stN E S L t r p n (Y, dr0) i).1 dr wk sc) = some (some (.int ((stN E S L t r p n (Y, dr0) m).1.1 0)), my h a M 0 (stN E S L t r p n (Y, dr0) m).1 dr' wk' sc') := by
  intro k
  induction k with
  | zero =>
    intro i dr wk sc N hi hsc hdr hb hN
    obtain ⟨N, rfl⟩ : ∃ k, N = k + 1 := ⟨N - 1, by omega⟩
    have : i = m := by omega
    subst this
    refine ⟨dr, wk, sc, hsc, hb, ?_⟩
    have hwi := stN_wf (E := E) (S := S) (L := L) (n := n) (Y := (Y, dr0)) hw i
    have r0 : ∀ f : Int32 → Option ia_R, (ia_ald (my h a M 0 (stN E S L t r p n (Y, dr0) i).1 dr wk sc) (a + 21) 0 (0 : Int32)).bind f = f ((stN E S L t r p n (Y, dr0) i).1.1 0) := my_r18 (h := h) (a := a) (dr := dr) (wk := wk) (sc := sc) (hwi.y hs.1 (show 0 < 23 by decide))
    rw [iq_Mod_go_25]
    simp only [↓if_n (nI_nlt (Nat.le_refl i) (show i < 2 ^ 31 by omega)), ↓my_Rb, ↓r0]
  | succ k ih =>
    intro i dr wk sc N hi hsc hdr hb hN
    obtain ⟨N, rfl⟩ : ∃ k, N = k + 1 := ⟨N - 1, by omega⟩
    have hwi := stN_wf (E := E) (S := S) (L := L) (n := n) (Y := (Y, dr0)) hw i
    have hci := stN_cm (E := E) (S := S) (L := L) (t := t) (p := p) (n := n) (Y := (Y, dr0)) hcm i
    obtain ⟨dr1, wk1, sc1, k1, k2, k3, k4⟩ := m_passes xs (d + 11) (h := h) (a := a) (b := 0) (dr := dr) (wk := wk) (sc := sc) hs hq ho hci hwi (by decide) hsc hb (by omega)
    have est : stN E S L t r p n (Y, dr0) (i + 1) = stX E S L t r p n ((stN E S L t r p n (Y, dr0) i).1, dr.toInt64) := by
      rw [hdr]; rfl
    rw [← est] at k2 k3 k4
    have k4' : ia_cal xs (d + 19) im_Mod_passes [.ref a, .int 0] (my h a M 0 (stN E S L t r p n (Y, dr0) i).1 dr wk sc) = _ := k4
    obtain ⟨dr', wk', sc', g1, g2, g3⟩ := ih (i + 1) dr1 wk1 sc1 N (by omega) k1 k2 (by rw [show q + (i + 1) = q + i + 1 by omega]; exact k3) (by omega)
    refine ⟨dr', wk', sc', g1, g2, ?_⟩
    rw [← g3, iq_Mod_go_25]
    simp only [↓if_p (nI_lt (show i < m by omega) (show m < 2 ^ 31 by omega)), ↓my_clsb, ↓cV_of k4', nI_1]
end O37
