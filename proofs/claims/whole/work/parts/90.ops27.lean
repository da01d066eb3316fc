/-! Deeds: desks copied. -/
def X0 : aW := (fun _ => 0, fun k => List.replicate (lenW k) 0)
theorem X0_ln : lnX X0 := by
  refine ⟨fun k hk => ?_, fun k h1 h2 => ?_, fun k h1 h2 => ?_⟩
  · show (List.replicate (lenW k) (0 : Int32)).length = 6
    rw [List.length_replicate]; unfold lenW; rw [if_pos hk]
  · show (List.replicate (lenW k) (0 : Int32)).length = 8
    rw [List.length_replicate]; unfold lenW; rw [if_neg (by omega), if_pos h2]
  · show (List.replicate (lenW k) (0 : Int32)).length = 10
    rw [List.length_replicate]; unfold lenW; rw [if_neg (by omega), if_neg (by omega)]
def cpM (M : aG) (b c : Nat) : aG := mz M b (dkW M c X0) (M.1 22) (M.1 15) (M.2.2.2.1 0, M.2.2.2.1 1)
section CP
variable {M : aG} {b c e : Nat} {X : aW} {t r p : Nat}
theorem cp_1 : (cpM M b c).1 = M.1 := by
  show va_up (va_up M.1 15 (M.1 15)) 22 (M.1 22) = M.1
  rw [up_id, up_id]
theorem cp_2 : (cpM M b c).2.2 = M.2.2 := by
  show (M.2.2.1, va_up (va_up M.2.2.2.1 0 (M.2.2.2.1 0)) 1 (M.2.2.2.1 1), M.2.2.2.2) = M.2.2
  rw [up_id, up_id]
theorem cp_k {k : Nat} (h : k < 18 ∨ 31 ≤ k) : (cpM M b c).2.1 k = M.2.1 k := mz_k h
theorem cp_ln (hl : lnM M) (hb : b < 23) (hc : c < 23) : lnM (cpM M b c) := mz_ln hl (dk_len hl hc X0_ln) hb
theorem cp_ne (hl : lnM M) (hb : b < 23) (hc : c < 23) (he : e ≠ b) (hX : wfX X t r p) (h : dkA M e X t r p) : dkA (cpM M b c) e X t r p := dk_ne hl (dk_len hl hc X0_ln) hb he h hX.2.1 hX.1.2.2.1 hX.1.2.2.2.1
theorem cp_eq (hl : lnM M) (hb : b < 23) (hc : c < 23) (hX : wfX X t r p) (h : dkA M c X t r p) : dkA (cpM M b c) b X t r p := by
  have hY := dk_len hl hc X0_ln
  have hp := hX.2.1
  have ht := hX.1.2.2.1
  have hr := hX.1.2.2.2.1
  obtain ⟨h1, h2, h3, h4, h5, h6⟩ := h
  unfold cpM
  refine ⟨?_, ?_, ?_, fun k hk i hi => ?_, fun k hk hk2 i hi => ?_, fun k hk hk2 i hi => ?_⟩
  · rw [mz_f1 hl (by decide) (by decide) hb, if_pos rfl]; exact h1
  · rw [mz_f1 hl (by decide) (by decide) hb, if_pos rfl]; exact h2
  · rw [mz_f1 hl (by decide) (by decide) hb, if_pos rfl]; exact h3
  · have e : lenW k = 6 := by unfold lenW; rw [if_pos hk]
    have := h4 k hk i hi
    rw [← e] at this ⊢
    rw [mz_f2 hl hY (by omega) (by omega) (by omega) hb (by omega), if_pos rfl, dk_f k i (by omega) (by omega) (by omega)]
    exact this
  · have e : lenW k = 8 := by unfold lenW; rw [if_neg (by omega), if_pos hk2]
    have := h5 k hk hk2 i hi
    rw [← e] at this ⊢
    rw [mz_f2 hl hY (by omega) (by omega) (by omega) hb (by omega), if_pos rfl, dk_f k i (by omega) (by omega) (by omega)]
    exact this
  · have e : lenW k = 10 := by unfold lenW; rw [if_neg (by omega), if_neg (by omega)]
    have := h6 k hk hk2 i hi
    rw [← e] at this ⊢
    rw [mz_f2 hl hY (by omega) (by omega) (by omega) hb (by omega), if_pos rfl, dk_f k i (by omega) (by omega) (by omega)]
    exact this
end CP
section O27
variable (xs : List Int32) (d : Nat) {h : ia_H} {a : Nat} {M M' : aG}
theorem p_copies (hl : lnM M) {b c : Nat} (hb : b < 23) (hc : c < 23) (hne : c ≠ b) {bI cI : Int32} (hbI : bI = nI b) (hcI : cI = nI c) : ia_cal xs (d + 1) im_Mod_copies [.ref a, .int bI, .int cI] (pM h a M) = some (none, pM h a (cpM M b c)) := by
  have := m_copies xs d (h := h) (a := a) (dr := M.1 22) (wk := M.1 15) (sc := (M.2.2.2.1 0, M.2.2.2.1 1)) hl hb hc hne (dk_len hl hb X0_ln) X0 hbI hcI
  rw [my_dk hl hb] at this
  exact this
/-- all but the desks from 3 on -/
def smK (M M' : aG) : Prop := lnM M' ∧ (∀ k, k < 18 ∨ 31 ≤ k → M'.2.1 k = M.2.1 k) ∧ (∀ k, k ≠ 17 → M'.1 k = M.1 k) ∧ M'.2.2 = M.2.2 ∧ ∀ e X t r p, e < 3 → wfX X t r p → dkA M e X t r p → dkA M' e X t r p
theorem smK.rf (hl : lnM M) : smK M M := ⟨hl, fun _ _ => rfl, fun _ _ => rfl, rfl, fun _ _ _ _ _ _ _ h => h⟩
theorem smK.cp (hs : smK M M') {b c : Nat} (hb3 : 3 ≤ b) (hb : b < 23) (hc : c < 23) : smK M (cpM M' b c) :=
  ⟨cp_ln hs.1 hb hc, fun k hk => (cp_k hk).trans (hs.2.1 k hk), fun k hk => by rw [cp_1]; exact hs.2.2.1 k hk, cp_2.trans hs.2.2.2.1, fun e X t r p he hX hk => cp_ne hs.1 hb hc (by omega) hX (hs.2.2.2.2 e X t r p he hX hk)⟩
theorem smK.i17 (hs : smK M M') {v : Int32} : smK M (gI M' 17 v) := ⟨hs.1, hs.2.1, fun k hk => (gI_n hk).trans (hs.2.2.1 k hk), hs.2.2.2.1, hs.2.2.2.2⟩
theorem p_keepNow (hl : lnM M) {k : Nat} (hk : k ≤ 20) (h17 : M.1 17 = nI k) :
    ∃ M' k' s, smK M M' ∧ k' < 20 ∧ k' + s = k ∧ (s = 0 ∨ (s = 1 ∧ k = 20)) ∧ M'.1 17 = nI (k' + 1) ∧ (∀ i X t r p, i < k' → wfX X t r p → dkA M (3 + (i + s)) X t r p → dkA M' (3 + i) X t r p) ∧ (∀ X t r p, wfX X t r p → dkA M 0 X t r p → dkA M' (3 + k') X t r p) ∧ ia_cal xs (d + 2) im_Mod_keepNow [.ref a] (pM h a M) = some (none, pM h a M') := by
  -- the last copy
  have last : ∀ (M1 : aG) (k' s : Nat) (N : Nat), smK M M1 → k' < 20 → M1.1 17 = nI k' → (∀ i X t r p, i < k' → wfX X t r p → dkA M (3 + (i + s)) X t r p → dkA M1 (3 + i) X t r p) → ∃ M', smK M M' ∧ M'.1 17 = nI (k' + 1) ∧ (∀ i X t r p, i < k' → wfX X t r p → dkA M (3 + (i + s)) X t r p → dkA M' (3 + i) X t r p) ∧ (∀ X t r p, wfX X t r p → dkA M 0 X t r p → dkA M' (3 + k') X t r p) ∧ ia_qr xs (ia_cal xs (d + 1)) im_Mod_keepNow (N + 1) 27 [.ref a, .float 0] [] (pM h a M1) = some (none, pM h a M') := by
    intro M1 k' s N hs hk' h1 hi
    have hcp := p_copies xs d (h := h) (a := a) hs.1 (b := 3 + k') (c := 0) (by omega) (by omega) (by omega) (bI := 3 + nI k') (cI := 0) (by rw [show (3 : Int32) = nI 3 from rfl, nI_add]) rfl
    have e17 : (cpM M1 (3 + k') 0).1 17 = nI k' := by rw [cp_1]; exact h1
    refine ⟨gI (cpM M1 (3 + k') 0) 17 (nI (k' + 1)), (hs.cp (by omega) (by omega) (by omega)).i17, gI_s, fun i X t r p hi' hX hd => ?_, fun X t r p hX hd => ?_, ?_⟩
    · exact cp_ne hs.1 (by omega) (by omega) (by omega) hX (hi i X t r p hi' hX hd)
    · exact cp_eq hs.1 (by omega) (by omega) hX (hs.2.2.2.2 0 X t r p (by omega) hX hd)
    · rw [iq_Mod_keepNow_27]
      simp only [↓pM_Ib, h1, ↓pM_clsb, ↓cV_of hcp, e17, ↓pM_pfb, nI_1]
  by_cases c : k = 20
  · subst c
    have loop : ∀ j i M1 N, i + j = 20 → 1 ≤ i → smK M M1 → M1.1 17 = nI 20 → (∀ l X t r p, l + 1 < i → wfX X t r p → dkA M (3 + (l + 1)) X t r p → dkA M1 (3 + l) X t r p) → (∀ l X t r p, i ≤ l → l < 20 → wfX X t r p → dkA M (3 + l) X t r p → dkA M1 (3 + l) X t r p) → j + 2 ≤ N → ∃ M2 N', 1 ≤ N' ∧ smK M M2 ∧ M2.1 17 = nI 19 ∧ (∀ l X t r p, l < 19 → wfX X t r p → dkA M (3 + (l + 1)) X t r p → dkA M2 (3 + l) X t r p) ∧ ia_qr xs (ia_cal xs (d + 1)) im_Mod_keepNow N 6 [.ref a, .int (nI i)] [] (pM h a M1) = ia_qr xs (ia_cal xs (d + 1)) im_Mod_keepNow N' 27 [.ref a, .float 0] [] (pM h a M2) := by
      intro j
      induction j with
      | zero =>
        intro i M1 N hi h1 hs h17 hlo hhi hN
        obtain ⟨N, rfl⟩ : ∃ k, N = k + 1 := ⟨N - 1, by omega⟩
        refine ⟨gI M1 17 (nI 19), N, by omega, hs.i17, gI_s, fun l X t r p hl' hX hd => hlo l X t r p (by omega) hX hd, ?_⟩
        rw [iq_Mod_keepNow_6, if_n (show ¬ nI i < (20 : Int32) from nI_nlt (b := 20) (by omega) (by omega))]
        simp only [↓pM_Ib, h17, ↓pM_pfb]
        rfl
      | succ j ih =>
        intro i M1 N hi h1 hs h17 hlo hhi hN
        obtain ⟨N, rfl⟩ : ∃ k, N = k + 1 := ⟨N - 1, by omega⟩
        have hcp := p_copies xs d (h := h) (a := a) hs.1 (b := 3 + (i - 1)) (c := 3 + i) (by omega) (by omega) (by omega) (bI := ((3 : Int32) + nI i) - 1) (cI := 3 + nI i) (by
          rw [show (3 : Int32) = nI 3 from rfl, nI_add, show (1 : Int32) = nI 1 from rfl, pk_sub (by omega), show 3 + i - 1 = 3 + (i - 1) by omega]) (by rw [show (3 : Int32) = nI 3 from rfl, nI_add])
        rw [iq_Mod_keepNow_6]
        simp only [↓if_p (show nI i < (20 : Int32) from nI_lt (b := 20) (by omega) (by decide)), ↓pM_clsb, ↓cV_of hcp, nI_1]
        refine ih (i + 1) _ N (by omega) (by omega) (hs.cp (by omega) (by omega) (by omega)) (by rw [cp_1]; exact h17) (fun l X t r p hl' hX hd => ?_) (fun l X t r p h1' h2' hX hd => ?_) (by omega)
        · by_cases el : l = i - 1
          · subst el
            have := hhi i X t r p (by omega) (by omega) hX (by rw [show 3 + (i - 1 + 1) = 3 + i by omega] at hd; exact hd)
            exact cp_eq hs.1 (by omega) (by omega) hX this
          · exact cp_ne hs.1 (by omega) (by omega) (by omega) hX (hlo l X t r p (by omega) hX hd)
        · exact cp_ne hs.1 (by omega) (by omega) (by omega) hX (hhi l X t r p (by omega) h2' hX hd)
    obtain ⟨M2, N', l0, l1, l2, l3, l4⟩ := loop 19 1 M 999999 (by omega) (by omega) (smK.rf hl) h17 (fun l X t r p hl' => by omega) (fun l X t r p _ _ _ hd => hd) (by omega)
    obtain ⟨N', rfl⟩ : ∃ k, N' = k + 1 := ⟨N' - 1, by omega⟩
    obtain ⟨M3, g1, g2, g3, g4, g5⟩ := last M2 19 1 N' l1 (by omega) l2 l3
    refine ⟨M3, 19, 1, g1, by omega, by omega, Or.inr ⟨rfl, rfl⟩, g2, g3, g4, ?_⟩
    rw [iu_Mod_keepNow, iq_Mod_keepNow_0]
    simp only [↓pM_Ib, h17, ↓if_p (show nI 20 = 20 from rfl)]
    exact l4.trans g5
  · obtain ⟨M3, g1, g2, g3, g4, g5⟩ := last M k 0 999998 (smK.rf hl) (by omega) h17 (fun i X t r p _ _ hd => hd)
    refine ⟨M3, k, 0, g1, by omega, by omega, Or.inl rfl, g2, g3, g4, ?_⟩
    rw [iu_Mod_keepNow, iq_Mod_keepNow_0]
    simp only [↓pM_Ib, h17, ↓if_n (show ¬ nI k = 20 from fun z => c ((nI_eq (a := k) (b := 20) (by omega) (by omega)).mp z))]
    exact g5
end O27
