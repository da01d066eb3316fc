/-! shift, the reference. -/
section O15
variable (xs : List Int32) (d : Nat) {H h : ia_H} {x a : Nat} {C : aC} {M : aG} {σ : Bool} {p n r t t0 q : Nat}
/-- one plan, the reference -/
theorem sh_r (hR : Rp x C M σ p n r t t0 q) {g : Nat → Nat} {m pl : Nat} (hm3 : m ≤ 3) (hg : ∀ j, j < m → g j < t) (h23 : M.1 23 = nI m) (h31 : ∀ j, j < m → rd (M.2.1 31) (nI j) = some (nI (g j))) (hpl : pl < 4 ^ m) :
    ∃ M', smM M M' ∧ M'.1 23 = M.1 23 ∧ M'.1 24 = M.1 24 ∧ M'.1 25 = M.1 25 ∧ M'.2.1 31 = M.2.1 31 ∧ ∀ N, ia_qr xs (ia_cal xs (d + 18)) im_Mod_layShift (N + m + 2) 40 [.ref a, .int (nI pl), .float 0] [] (pM h a M) = if M.1 24 = -1 then ia_qr xs (ia_cal xs (d + 18)) im_Mod_layShift N 106 [.ref a, .int (nI pl), .int (nI (shN C σ t r p n g m pl))] [] (pM h a M') else if nI (shN C σ t r p n g m pl) < M.1 24 then ia_qr xs (ia_cal xs (d + 18)) im_Mod_layShift N 106 [.ref a, .int (nI pl), .int (nI (shN C σ t r p n g m pl))] [] (pM h a M') else ia_qr xs (ia_cal xs (d + 18)) im_Mod_layShift N 40 [.ref a, .int (nI (pl + 1)), .float 0] [] (pM h a M') := by
  have hT := hR.2.1
  have hs := hT.2.2.1
  have hn := hR.2.2.1
  have hX := hn.1
  have ht8 := hX.1.2.2.1
  have hl := hs.1
  have h64 : 4 ^ m ≤ 64 := Nat.le_trans (Nat.pow_le_pow_right (by decide) hm3) (by decide)
  obtain ⟨b1, b2, b3, b4⟩ := hR.bd1
  obtain ⟨e1, e2, e3⟩ := r1 (h := h) (a := a) hR
  have ho : opM M (dE (C.1 (kS σ))) := op0 hR.2.2.2.1 hT
  have hcp := m_copies xs (d + 17) (h := h) (a := a) (dr := M.1 22) (wk := M.1 15) (sc := (M.2.2.2.1 0, M.2.2.2.1 1)) hl (show 1 < 23 by decide) (show 0 < 23 by decide) (by decide) e2 (C.2 1) (bI := 1) (cI := 0) rfl rfl
  rw [← e1] at hcp
  have hw := fun k => sh_wf (g := g) (pl := nI pl) (m := m) b2 k
  obtain ⟨dr', wk', sc', k1, k2, k3, k4⟩ := m_goesOn xs (d + 9) (h := h) (a := a) (dr := M.1 22) (wk := M.1 15) (sc := (M.2.2.2.1 0, M.2.2.2.1 1)) hs hT.2.1 ho (sh_cm (g := g) (pl := nI pl) (m := m) b3 m) (hw m) e3 (sh_bd b1 m) (m := 99) (by omega) (by have := hn.2.2.2.2; omega) (mI := 99) rfl
  have hwN := stN_wf (E := dE (C.1 (kS σ))) (S := C.1 (kS σ)) (L := C.1 (kL σ)) (n := n) (Y := (shX (dkW M 0 (C.2 1)) g (nI pl) m m, (M.1 22).toInt64)) (hw m) 99
  have hag := both (n := n) (E := dE (C.1 (kS σ))) (S := C.1 (kS σ)) (L := C.1 (kL σ)) (dr := (M.1 22).toInt64) (sh_wf (g := g) (pl := nI pl) (m := m) hX m) (hw m) (sh_ag (g := g) (pl := nI pl) (m := m) hX b2 b4 m hg) rfl 99
  have hsm := smM.mz (M := M) (Y := (stN (dE (C.1 (kS σ))) (C.1 (kS σ)) (C.1 (kL σ)) t r p n (shX (dkW M 0 (C.2 1)) g (nI pl) m m, (M.1 22).toInt64) 99).1) (dr := dr') (wk := wk') hl hwN.1.lnX k1
  have hR2 := hR.sc hR.sr hsm
  have hs2 := hR2.2.1.2.2.1
  have hn2 := hR2.2.2.1
  have cg : ia_cal xs (d + 18) im_Mod_callsOf [.ref a, .int 1, .int 3] (pM h a (mz M 1 (stN (dE (C.1 (kS σ))) (C.1 (kS σ)) (C.1 (kL σ)) t r p n (shX (dkW M 0 (C.2 1)) g (nI pl) m m, (M.1 22).toInt64) 99).1 dr' wk' sc')) = some (some (.int (nI (cntF (fA (stN (dE (C.1 (kS σ))) (C.1 (kS σ)) (C.1 (kL σ)) t r p n (shX (C.2 1) g (nI pl) m m, 0) 99).1 10) 3 r))), pM h a (mz M 1 (stN (dE (C.1 (kS σ))) (C.1 (kS σ)) (C.1 (kL σ)) t r p n (shX (dkW M 0 (C.2 1)) g (nI pl) m m, (M.1 22).toInt64) 99).1 dr' wk' sc')) := by
    have := m_callsOf xs (d + 17) (h := h) (a := a) (b := 1) (dr := dr') (wk := wk') (sc := sc') hs (hwN.y hl (by decide)) 3
    rw [ag_cnt hag] at this
    exact this
  have cg0 := p_callsOf xs (d + 17) (h := h) (a := a) hs2 hn2 3
  have k4' : ia_cal xs (d + 18) im_Mod_goesOn [.ref a, .int 99] (my h a M 1 (shX (dkW M 0 (C.2 1)) g (nI pl) m m) (M.1 22) (M.1 15) (M.2.2.2.1 0, M.2.2.2.1 1)) = some (none, pM h a (mz M 1 (stN (dE (C.1 (kS σ))) (C.1 (kS σ)) (C.1 (kL σ)) t r p n (shX (dkW M 0 (C.2 1)) g (nI pl) m m, (M.1 22).toInt64) 99).1 dr' wk' sc')) := k4
  refine ⟨_, hsm, ?_, ?_, ?_, mz_k (Or.inr (by omega)), fun N => ?_⟩
  · show va_up (va_up M.1 15 wk') 22 dr' 23 = M.1 23
    rfl
  · rfl
  · rfl
  have m24 : ∀ f : Int32 → Option ia_R, (ia_getI (pM h a (mz M 1 (stN (dE (C.1 (kS σ))) (C.1 (kS σ)) (C.1 (kL σ)) t r p n (shX (dkW M 0 (C.2 1)) g (nI pl) m m, (M.1 22).toInt64) 99).1 dr' wk' sc')) a 10 58).bind f = f (M.1 24) := fun f => by
    simp only [↓pM_Ib]
    rfl
  generalize hZ : mz M 1 (stN (dE (C.1 (kS σ))) (C.1 (kS σ)) (C.1 (kL σ)) t r p n (shX (dkW M 0 (C.2 1)) g (nI pl) m m, (M.1 22).toInt64) 99).1 dr' wk' sc' = Z at *
  have hNI := shN_I (σ := σ) (n := n) (g := g) (m := m) (pl := pl) hX
  generalize dkW M 0 (C.2 1) = Y at *
  have loop : ∀ k i, i + k = m → ia_qr xs (ia_cal xs (d + 18)) im_Mod_layShift (N + k + 1) 54 [.ref a, .int (nI pl), .int (nI i)] [] (my h a M 1 (shX Y g (nI pl) m i) (M.1 22) (M.1 15) (M.2.2.2.1 0, M.2.2.2.1 1)) = if M.1 24 = -1 then ia_qr xs (ia_cal xs (d + 18)) im_Mod_layShift N 106 [.ref a, .int (nI pl), .int (nI (shN C σ t r p n g m pl))] [] (pM h a Z) else if nI (shN C σ t r p n g m pl) < M.1 24 then ia_qr xs (ia_cal xs (d + 18)) im_Mod_layShift N 106 [.ref a, .int (nI pl), .int (nI (shN C σ t r p n g m pl))] [] (pM h a Z) else ia_qr xs (ia_cal xs (d + 18)) im_Mod_layShift N 40 [.ref a, .int (nI (pl + 1)), .float 0] [] (pM h a Z) := by
    intro k
    induction k with
    | zero =>
      intro i hi
      have : i = m := by omega
      subst this
      rw [iq_Mod_layShift_54]
      simp only [↓my_Ib, h23, ↓if_n (nI_nlt (Nat.le_refl i) (show i < 2 ^ 31 by omega)), ↓my_clsb, ↓cV_of k4', ↓pM_clsb, ↓cI_of cg, ↓cI_of cg0, ↓m24, hNI, nI_1]
    | succ k ih =>
      intro i hi
      have hgi := hg i (by omega)
      have hyi : wfY M 1 (shX Y g (nI pl) m i) := (hw i).y hl (by decide)
      have rr : ∀ f : Int32 → Option ia_R, (ia_ald (my h a M 1 (shX Y g (nI pl) m i) (M.1 22) (M.1 15) (M.2.2.2.1 0, M.2.2.2.1 1)) (a + 27) 0 ((8 : Int32) + nI (g i))).bind f = f (fA (shX Y g (nI pl) m i) 3 (g i)) := my_r24 hyi (show g i < 8 by omega)
      have ww : ∀ (v : Int32) (f : ia_H → Option ia_R), (ia_ast (my h a M 1 (shX Y g (nI pl) m i) (M.1 22) (M.1 15) (M.2.2.2.1 0, M.2.2.2.1 1)) (a + 27) 0 ((8 : Int32) + nI (g i)) v).bind f = f (my h a M 1 (sA (shX Y g (nI pl) m i) 3 (((shX Y g (nI pl) m i).2 3).set (g i) v)) (M.1 22) (M.1 15) (M.2.2.2.1 0, M.2.2.2.1 1)) := my_w24 hyi (show g i < 8 by omega)
      rw [show N + (k + 1) + 1 = N + k + 1 + 1 from rfl, iq_Mod_layShift_54]
      simp only [↓my_Ib, h23, ↓if_p (nI_lt (show i < m by omega) (show m < 2 ^ 31 by omega)), ↓my_Rb, ↓my_ldb, ↓bs (h31 i (show i < m by omega)), ↓rr, ↓ww, nI_1]
      exact ih (i + 1) (by omega)
  have l0 := loop m 0 (by omega)
  rw [show N + m + 2 = N + m + 1 + 1 from rfl, iq_Mod_layShift_40]
  simp only [↓pM_Ib, h23, sh_4 m hm3, ↓if_p (nI_lt hpl (show 4 ^ m < 2 ^ 31 by omega)), ↓pM_clsb, ↓cV_of hcp]
  exact l0
end O15
