/-! text: numbers taken by the reference. -/
section CX3
variable (xs : List Int32) (d : Nat) {h : ia_H} {a : Nat} {M N : aG} {by_ : Nat → Nat} {T : Nat}
def muM (M : aG) (v j : Nat) : aG := gI (gI M 8 (nI v)) 5 (nI j)
theorem muM_n {M : aG} {v j v' j' : Nat} : gI (gI (muM M v j) 8 (nI v')) 5 (nI j') = muM M v' j' := by
  refine Prod.ext ?_ rfl
  funext k
  show (if k = 5 then nI j' else if k = 8 then nI v' else if k = 5 then nI j else if k = 8 then nI v else M.1 k) = if k = 5 then nI j' else if k = 8 then nI v' else M.1 k
  by_cases c4 : k = 5
  · rw [if_pos c4, if_pos c4]
  · by_cases c2 : k = 8
    · rw [if_neg c4, if_pos c2, if_neg c4, if_pos c2]
    · rw [if_neg c4, if_neg c2, if_neg c4, if_neg c2, if_neg c4, if_neg c2]
theorem p_number (hb : txB N M by_ T) (hL : M.1 4 = nI T) (i : Nat) (hi : i ≤ T) : ∀ k j F, j + k = T - i → (∀ l, l < j → dgB by_ T (i + l) = true) → 2 * k + 1 ≤ F → ia_qr xs (ia_cal xs (d + 2)) im_Mod_token F 81 [.ref a, .float 0] [] (pM h a (muM M (nrF by_ i j) (i + j))) = some (none, pM h a (muM M (nrF by_ i (whN (dgB by_ T) k (i + j) - i)) (whN (dgB by_ T) k (i + j)))) := by
  have hT7 := hb.1
  have s5 : ∀ v j, (muM M v j).1 5 = nI j := fun v j => gI_s
  have s8 : ∀ v j, (muM M v j).1 8 = nI v := fun v j => rfl
  have he : ∀ v j, j < 2 ^ 30 → ia_cal xs (d + 2) im_Mod_here [.ref a] (pM h a (muM M v j)) = some (some (.int (if j < T then nI (by_ j) else -1)), pM h a (muM M v j)) := fun v j hj => by
    have hb' : txB N (muM M v j) by_ T := hb
    exact p_here xs (d + 1) (h := h) (a := a) hb' hL (s5 v j) hj
  intro k
  induction k with
  | zero =>
    intro j F hj hd hF
    obtain ⟨F, rfl⟩ : ∃ k, F = k + 1 := ⟨F - 1, by omega⟩
    have hh := he (nrF by_ i j) (i + j) (by omega)
    rw [if_neg (by omega)] at hh
    have dm : ia_cal xs (d + 2) im_Mod_isDigit [.int (-1)] (pM h a (muM M (nrF by_ i j) (i + j))) = some (some (.int 0), pM h a (muM M (nrF by_ i j) (i + j))) := by
      rw [iu_Mod_isDigit, iq_Mod_isDigit_0, if_p (show (-1 : Int32) < 48 by decide), ok0]
    rw [iq_Mod_token_81, whN, show i + j - i = j by omega]
    simp only [↓pM_clsb, ↓cI_of hh, ↓cI_of dm]
    rw [if_pos trivial]
  | succ k ih =>
    intro j F hj hd hF
    obtain ⟨F, rfl⟩ : ∃ k, F = k + 1 + 1 := ⟨F - 2, by omega⟩
    have hlt : i + j < T := by omega
    obtain ⟨b1, -⟩ := hb.2.2.2 (i + j) hlt
    have hh := he (nrF by_ i j) (i + j) (by omega)
    rw [if_pos hlt] at hh
    have dm := p_isDigit xs (d + 1) (by_ (i + j)) b1 (pM h a (muM M (nrF by_ i j) (i + j)))
    rw [iq_Mod_token_81, whN]
    simp only [↓pM_clsb, ↓cI_of hh, ↓cI_of dm, ↓pM_Ib, s8]
    by_cases c : 48 ≤ by_ (i + j) ∧ by_ (i + j) ≤ 57
    · have yd : dgB by_ T (i + j) = true := decide_eq_true ⟨hlt, c.1, c.2⟩
      have hd' : ∀ l, l < j + 1 → dgB by_ T (i + l) = true := fun l hl => by
        by_cases c : l = j
        · subst c; exact yd
        · exact hd l (by omega)
      obtain ⟨-, n1, -⟩ := nc_nr j hd
      have ih' := ih (j + 1) F (by omega) hd' (by omega)
      rw [if_pos c, if_neg (show ¬ (1 : Int32) = 0 by decide), if_pos yd]
      have st : ∀ v, v = nrF by_ i (j + 1) → ia_qr xs (ia_cal xs (d + 2)) im_Mod_token (F + 1) 102 [.ref a, .float 0] [.int (nI v), .ref a] (pM h a (muM M (nrF by_ i j) (i + j))) = some (none, pM h a (muM M (nrF by_ i (whN (dgB by_ T) k (i + (j + 1)) - i)) (whN (dgB by_ T) k (i + (j + 1))))) := by
        intro v ev
        have q5 : ∀ w, (gI (muM M (nrF by_ i j) (i + j)) 8 w).1 5 = nI (i + j) := fun w => rfl
        rw [iq_Mod_token_102]
        simp only [↓pM_pfb, ↓pM_Ib, q5, nI_1, muM_n]
        rw [ev]
        exact ih'
      by_cases c9 : 99999 < nrF by_ i j
      · rw [if_pos (show (99999 : Int32) < nI (nrF by_ i j) from nI_lt (a := 99999) c9 (by omega))]
        exact st _ (by rw [nrF, if_pos c9])
      · rw [if_neg (show ¬ (99999 : Int32) < nI (nrF by_ i j) from nI_nlt (a := 99999) (by omega) (by decide))]
        have ev : (10 : Int32) * nI (nrF by_ i j) + nI (by_ (i + j)) - 48 = nI (10 * nrF by_ i j + by_ (i + j) - 48) := by
          rw [show (10 : Int32) = nI 10 from rfl, pk_mul, nI_add]
          exact pk_sub (b := 48) (by omega)
        rw [ev]
        exact st _ (by rw [nrF, if_neg c9])
    · have nd : ¬ dgB by_ T (i + j) = true := fun z => c (of_decide_eq_true z).2
      rw [if_neg c, if_pos rfl, if_neg nd, show i + j - i = j by omega]
end CX3
