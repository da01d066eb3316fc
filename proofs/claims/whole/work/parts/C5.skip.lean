/-! text: the reference skips blanks. -/
section CX5
variable (xs : List Int32) (d : Nat) {h : ia_H} {a : Nat} {M N : aG} {by_ : Nat → Nat} {T : Nat}
theorem p_skip (hb : txB N M by_ T) (hL : M.1 4 = nI T) : ∀ k i F, i + k = T → 2 * k + 1 ≤ F → ∃ F', F ≤ F' + 2 * k ∧ ia_qr xs (ia_cal xs (d + 2)) im_Mod_token F 0 [.ref a, .float 0] [] (pM h a (gI M 5 (nI i))) = ia_qr xs (ia_cal xs (d + 2)) im_Mod_token F' 0 [.ref a, .float 0] [] (pM h a (gI M 5 (nI (whN (spB by_ T) k i)))) := by
  have hT7 := hb.1
  have s5 : ∀ j, (gI M 5 (nI j)).1 5 = nI j := fun j => gI_s
  intro k
  induction k with
  | zero => exact fun i F hi hF => ⟨F, by omega, rfl⟩
  | succ k ih =>
    intro i F hi hF
    have hlt : i < T := by omega
    obtain ⟨b1, -⟩ := hb.2.2.2 i hlt
    have hb' : txB N (gI M 5 (nI i)) by_ T := hb
    have hh := p_here xs (d + 1) (h := h) (a := a) hb' hL (s5 i) (by omega)
    rw [if_pos hlt] at hh
    have e32 : (nI (by_ i) = (32 : Int32)) ↔ by_ i = 32 := nI_eq (a := by_ i) (b := 32) (by omega) (by omega)
    have e10 : (nI (by_ i) = (10 : Int32)) ↔ by_ i = 10 := nI_eq (a := by_ i) (b := 10) (by omega) (by omega)
    have i5 : ∀ j j', gI (gI M 5 (nI j)) 5 (nI j') = gI M 5 (nI j') := fun j j' => gI_I
    rw [whN]
    by_cases c : by_ i = 32 ∨ by_ i = 10
    · obtain ⟨F, rfl⟩ : ∃ k, F = k + 1 + 1 := ⟨F - 2, by omega⟩
      obtain ⟨F', g1, g2⟩ := ih (i + 1) F (by omega) (by omega)
      rw [if_pos (show spB by_ T i = true from decide_eq_true ⟨hlt, c⟩)]
      refine ⟨F', by omega, ?_⟩
      have st : ia_qr xs (ia_cal xs (d + 2)) im_Mod_token (F + 1) 8 [.ref a, .float 0] [] (pM h a (gI M 5 (nI i))) = ia_qr xs (ia_cal xs (d + 2)) im_Mod_token F' 0 [.ref a, .float 0] [] (pM h a (gI M 5 (nI (whN (spB by_ T) k (i + 1))))) := by
        rw [iq_Mod_token_8]
        simp only [↓pM_Ib, s5, ↓pM_pfb, nI_1, i5]
        exact g2
      rw [iq_Mod_token_0]
      simp only [↓pM_clsb, ↓cI_of hh]
      by_cases c1 : by_ i = 10
      · rw [if_pos (e10.mpr c1)]; exact st
      · rw [if_neg (fun z => c1 (e10.mp z)), if_pos (e32.mpr (c.resolve_right c1))]; exact st
    · rw [if_neg (show ¬ spB by_ T i = true from fun z => c (of_decide_eq_true z).2)]
      exact ⟨F, by omega, rfl⟩
end CX5
