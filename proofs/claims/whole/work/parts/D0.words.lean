/-! text: the reference finds a word. -/
section DX0
variable (xs : List Int32) (d : Nat)
theorem s_length (g : ia_H) : ia_cal xs (d + 2) im_Str_length [.retAddr 3] g = some (some (.int (nI 105)), g) := by
  have xl : ∀ f, ia_xlen xs (10 + 3) f = f (nI 105) := fun f => by
    unfold ia_xlen
    rw [if_neg (by decide), if_pos (show ia_isB (10 + 3) = true from rfl)]
    show f (Int32.ofNat (ia_str 3).length) = _
    rw [st_len.2]
  have co : ia_cal xs (d + 1) im_Str_coder [.retAddr 3] g = some (some (.int 0), g) := by
    rw [iu_Str_coder, iq_Str_coder_0, if_neg (show ¬ (1 : Int32) = 0 by decide), if_pos (show ia_isS 3 = true from rfl), if_pos (show vp_nar .byte (0 : Int32) = (0 : Int32) by decide)]
  rw [iu_Str_length, iq_Str_length_0, if_pos (show ia_isS 3 = true from rfl), xl, if_pos (show ia_isS 3 = true from rfl), cI_of co]
  rfl
variable {h : ia_H} {a : Nat} {M N : aG} {by_ : Nat → Nat} {T : Nat}
theorem p_word39 {n j i e F : Nat} (hn : n < 21) (h5 : M.1 5 = nI e) (h6 : M.1 6 = nI i) (he : e ≤ 700) (hi : i ≤ 700) (hj : j ≤ wlN n) : ia_qr xs (ia_cal xs (d + 2)) im_Mod_word (F + 1) 39 [.ref a, .int (nI n), .int (nI (wo n)), .int (nI j)] [] (pM h a M) = if j = wlN n ∧ i + j = e then some (some (.int (nI n)), pM h a M) else ia_qr xs (ia_cal xs (d + 2)) im_Mod_word F 55 [.ref a, .int (nI n), .int (nI (wo n)), .float 0] [] (pM h a M) := by
  obtain ⟨w1, w2, w3, w4, w5, w6⟩ := wo_ok n hn
  have hc := s_charAt xs d (pM h a M) (i := wo n + j) (by omega)
  rw [iq_Mod_word_39, if_pos (show ia_isS 3 = true from rfl), nI_add, cI_of hc]
  by_cases c : j = wlN n
  · rw [c, w5, if_pos rfl]
    simp only [↓pM_Ib, h5, h6, nI_add, nI_eq (show i + wlN n < 2 ^ 31 by omega) (show e < 2 ^ 31 by omega)]
    by_cases c2 : i + wlN n = e
    · rw [if_pos c2, if_pos ⟨trivial, c2⟩]
    · rw [if_neg c2, if_neg (fun z => c2 z.2)]
  · obtain ⟨u1, u2, u3⟩ := w6 j (by omega)
    rw [u1, if_neg (fun z => by have := (nI_eq (a := wcN n j) (b := 32) (by omega) (by omega)).mp z; omega), if_neg (fun z => c z.1)]
theorem p_word10 (hb : txB N M by_ T) {n i e : Nat} (hn : n < 21) (h5 : M.1 5 = nI e) (h6 : M.1 6 = nI i) (he : e ≤ T) (hie : i ≤ e) : ∀ k j F, j + k = wlN n → (∀ l, l < j → by_ (i + l) = wcN n l) → i + j ≤ e → k + 2 ≤ F → ∃ F', F ≤ F' + k + 2 ∧ ia_qr xs (ia_cal xs (d + 2)) im_Mod_word F 10 [.ref a, .int (nI n), .int (nI (wo n)), .int (nI j)] [] (pM h a M) = if e - i = wlN n ∧ (∀ l, l < e - i → by_ (i + l) = wcN n l) then some (some (.int (nI n)), pM h a M) else ia_qr xs (ia_cal xs (d + 2)) im_Mod_word F' 55 [.ref a, .int (nI n), .int (nI (wo n)), .float 0] [] (pM h a M) := by
  obtain ⟨hT7, -, hM7, hby⟩ := hb
  obtain ⟨w1, w2, w3, w4, w5, w6⟩ := wo_ok n hn
  intro k
  induction k with
  | zero =>
    intro j F hj hm hje hF
    obtain ⟨F, rfl⟩ : ∃ k, F = k + 1 + 1 := ⟨F - 2, by omega⟩
    have hc := s_charAt xs d (pM h a M) (i := wo n + j) (by omega)
    refine ⟨F, by omega, ?_⟩
    rw [iq_Mod_word_10, if_pos (show ia_isS 3 = true from rfl), nI_add, cI_of hc, show j = wlN n by omega, w5, if_pos rfl, p_word39 xs d hn h5 h6 (by omega) (by omega) (Nat.le_refl _)]
    by_cases c : i + wlN n = e
    · rw [if_pos ⟨rfl, c⟩, if_pos ⟨by omega, fun l hl => hm l (by omega)⟩]
    · rw [if_neg (fun z => c z.2), if_neg (fun z => c (by omega))]
  | succ k ih =>
    intro j F hj hm hje hF
    obtain ⟨F, rfl⟩ : ∃ k, F = k + 1 + 1 := ⟨F - 2, by omega⟩
    have hc := s_charAt xs d (pM h a M) (i := wo n + j) (by omega)
    obtain ⟨u1, u2, u3⟩ := w6 j (by omega)
    rw [iq_Mod_word_10, if_pos (show ia_isS 3 = true from rfl), nI_add, cI_of hc, u1, if_neg (fun z => by have := (nI_eq (a := wcN n j) (b := 32) (by omega) (by omega)).mp z; omega)]
    simp only [↓pM_Ib, h5, h6, nI_add]
    by_cases c : i + j < e
    · obtain ⟨v1, -, v2⟩ := hby (i + j) (by omega)
      have r0 : rd (M.2.1 0) (nI (i + j)) = some (nI (by_ (i + j))) := by
        rw [← v2]
        exact rdG (by omega) (by omega)
      rw [if_pos (nI_lt c (by omega))]
      simp only [↓pM_Rb, ↓pM_ldb, ↓bs r0, ↓if_p (show ia_isS 3 = true from rfl), ↓cI_of hc, u1]
      by_cases c2 : by_ (i + j) = wcN n j
      · rw [if_pos (by rw [c2]), nI_1]
        obtain ⟨F', g1, g2⟩ := ih (j + 1) (F + 1) (by omega) (fun l hl => by
          by_cases e : l = j
          · rw [e]; exact c2
          · exact hm l (by omega)) (by omega) (by omega)
        exact ⟨F', by omega, g2⟩
      · rw [if_neg (fun z => c2 ((nI_eq (by omega) (by omega)).mp z))]
        refine ⟨F, by omega, ?_⟩
        rw [p_word39 xs d hn h5 h6 (by omega) (by omega) (by omega), if_neg (fun z => by omega), if_neg (fun z => c2 (z.2 j (by omega)))]
    · rw [if_neg (nI_nlt (by omega) (by omega))]
      refine ⟨F, by omega, ?_⟩
      rw [p_word39 xs d hn h5 h6 (by omega) (by omega) (by omega), if_neg (fun z => by omega), if_neg (fun z => by omega)]
theorem p_word55 {n : Nat} (hn : n < 21) (g : ia_H) : ∀ k j F, j + k = wlN n → k + 1 ≤ F → ∃ F', F ≤ F' + k + 1 ∧ ia_qr xs (ia_cal xs (d + 2)) im_Mod_word F 55 [.ref a, .int (nI n), .int (nI (wo n + j)), .float 0] [] g = ia_qr xs (ia_cal xs (d + 2)) im_Mod_word F' 4 [.ref a, .int (nI (n + 1)), .int (nI (wo (n + 1))), .float 0] [] g := by
  obtain ⟨w1, w2, w3, w4, w5, w6⟩ := wo_ok n hn
  intro k
  induction k with
  | zero =>
    intro j F hj hF
    obtain ⟨F, rfl⟩ : ∃ k, F = k + 1 := ⟨F - 1, by omega⟩
    have hc := s_charAt xs d g (i := wo n + j) (by omega)
    refine ⟨F, by omega, ?_⟩
    rw [iq_Mod_word_55, if_pos (show ia_isS 3 = true from rfl), cI_of hc, show j = wlN n by omega, w5, if_pos rfl, nI_1, nI_1, w1]
  | succ k ih =>
    intro j F hj hF
    obtain ⟨F, rfl⟩ : ∃ k, F = k + 1 := ⟨F - 1, by omega⟩
    have hc := s_charAt xs d g (i := wo n + j) (by omega)
    obtain ⟨u1, u2, u3⟩ := w6 j (by omega)
    obtain ⟨F', g1, g2⟩ := ih (j + 1) F (by omega) (by omega)
    refine ⟨F', by omega, ?_⟩
    rw [iq_Mod_word_55, if_pos (show ia_isS 3 = true from rfl), cI_of hc, u1, if_neg (fun z => by have := (nI_eq (a := wcN n j) (b := 32) (by omega) (by omega)).mp z; omega), nI_1]
    exact g2
theorem p_word4 (hb : txB N M by_ T) {i e : Nat} (h5 : M.1 5 = nI e) (h6 : M.1 6 = nI i) (he : e ≤ T) (hie : i ≤ e) : ∀ k n F, n + k = 21 → 14 * k + 1 ≤ F → ia_qr xs (ia_cal xs (d + 2)) im_Mod_word F 4 [.ref a, .int (nI n), .int (nI (wo n)), .float 0] [] (pM h a M) = some (some (.int (if wnF by_ i (e - i) k n < 21 then nI (wnF by_ i (e - i) k n) else -1)), pM h a M) := by
  intro k
  induction k with
  | zero =>
    intro n F hn hF
    obtain ⟨F, rfl⟩ : ∃ k, F = k + 1 := ⟨F - 1, by omega⟩
    rw [iq_Mod_word_4, if_pos (show ia_isS 3 = true from rfl), cI_of (s_length xs d _), show n = 21 by omega, wo_21, if_neg (nI_nlt (Nat.le_refl _) (by decide)), wnF, if_neg (by omega)]
  | succ k ih =>
    intro n F hn hF
    obtain ⟨F, rfl⟩ : ∃ k, F = k + 1 := ⟨F - 1, by omega⟩
    obtain ⟨w1, w2, w3, w4, w5, w6⟩ := wo_ok n (by omega)
    obtain ⟨F1, g1, g2⟩ := p_word10 xs d (h := h) (a := a) hb (n := n) (by omega) h5 h6 he hie (wlN n) 0 F (by omega) (fun l hl => absurd hl (by omega)) (by omega) (by omega)
    obtain ⟨F2, g3, g4⟩ := p_word55 xs d (a := a) (n := n) (by omega) (pM h a M) (wlN n) 0 F1 (by omega) (by omega)
    rw [iq_Mod_word_4, if_pos (show ia_isS 3 = true from rfl), cI_of (s_length xs d _), if_pos (nI_lt (by omega) (by decide))]
    refine g2.trans ?_
    rw [wnF]
    by_cases c : e - i = wlN n ∧ (∀ j, j < e - i → by_ (i + j) = wcN n j)
    · rw [if_pos c, if_pos c, if_pos (by omega)]
    · rw [if_neg c, if_neg c]
      refine Eq.trans g4 ?_
      exact ih (n + 1) F2 (by omega) (by omega)
theorem p_word (hb : txB N M by_ T) {i e : Nat} (h5 : M.1 5 = nI e) (h6 : M.1 6 = nI i) (he : e ≤ T) (hie : i ≤ e) : ia_cal xs (d + 3) im_Mod_word [.ref a] (pM h a M) = some (some (.int (if wnF by_ i (e - i) 21 0 < 21 then nI (wnF by_ i (e - i) 21 0) else -1)), pM h a M) := by
  rw [iu_Mod_word, show (1000000 : Nat) = 999999 + 1 from rfl, iq_Mod_word_0]
  exact p_word4 xs d (h := h) (a := a) hb h5 h6 he hie 21 0 999999 (by omega) (by omega)
theorem p_name5 (hb : txB N M by_ T) {i e : Nat} (h5 : M.1 5 = nI e) (h6 : M.1 6 = nI i) (he : e ≤ T) (hie : i ≤ e) (hl : ∀ l, l < e - i → lwB by_ T (i + l) = true) : ∀ k j F, j + k = 6 → k + 1 ≤ F → ia_qr xs (ia_cal xs (d + 2)) im_Mod_name F 5 [.ref a, .int (nI j)] [] (pM h a (gI M 8 (nI (lyF by_ i (e - i) j)))) = some (none, pM h a (gI M 8 (nI (lyF by_ i (e - i) 6)))) := by
  obtain ⟨hT7, -, hM7, hby⟩ := hb
  have q5 : ∀ v, (gI M 8 v).1 5 = nI e := fun v => h5
  have q6 : ∀ v, (gI M 8 v).1 6 = nI i := fun v => h6
  have q8 : ∀ v, (gI M 8 v).1 8 = v := fun v => gI_s
  intro k
  induction k with
  | zero =>
    intro j F hj hF
    obtain ⟨F, rfl⟩ : ∃ k, F = k + 1 := ⟨F - 1, by omega⟩
    rw [iq_Mod_name_5, show j = 6 by omega, if_neg (show ¬ nI 6 < (6 : Int32) by decide)]
  | succ k ih =>
    intro j F hj hF
    obtain ⟨F, rfl⟩ : ∃ k, F = k + 1 := ⟨F - 1, by omega⟩
    have ih' := ih (j + 1) F (by omega) (by omega)
    rw [iq_Mod_name_5, if_pos (show nI j < (6 : Int32) from nI_lt (b := 6) (by omega) (by decide))]
    simp only [↓pM_Ib, q5, q6, q8, nI_add]
    by_cases c : i + j < e
    · obtain ⟨v1, -, v2⟩ := hby (i + j) (by omega)
      obtain ⟨-, l1, l2⟩ := of_decide_eq_true (hl j (by omega))
      have q0 : ∀ v, (gI M 8 v).2.1 0 = M.2.1 0 := fun v => rfl
      have r0 : rd (M.2.1 0) (nI (i + j)) = some (nI (by_ (i + j))) := by
        rw [← v2]
        exact rdG (by omega) (by omega)
      rw [if_pos (nI_lt c (by omega))]
      have e1 : (nI (by_ (i + j)) - 97) + 1 = nI (by_ (i + j) - 96) := by
        have : nI (by_ (i + j)) - 97 = nI (by_ (i + j) - 97) := pk_sub (b := 97) (by omega)
        rw [this]
        have : nI (by_ (i + j) - 97) + 1 = nI (by_ (i + j) - 97 + 1) := nI_add _ 1
        rw [this, show by_ (i + j) - 97 + 1 = by_ (i + j) - 96 by omega]
      have st := lr_ref (k := j) (by omega) hl (by_ (i + j) - 96) (by rw [if_pos (by omega)])
      simp only [↓pM_Rb, ↓pM_ldb, q0, ↓bs r0, e1, st, ↓pM_pfb, gI_I, nI_1]
      exact ih'
    · have st := lr_ref (k := j) (by omega) hl 0 (by rw [if_neg (by omega)])
      have st' : nI (lyF by_ i (e - i) j) <<< ((5 : Int32) &&& 31) ||| (0 : Int32) = nI (lyF by_ i (e - i) (j + 1)) := st
      rw [if_neg (nI_nlt (by omega) (by omega))]
      simp only [st', ↓pM_pfb, gI_I, nI_1]
      exact ih'
theorem p_name (hb : txB N M by_ T) {i e : Nat} (h5 : M.1 5 = nI e) (h6 : M.1 6 = nI i) (he : e ≤ T) (hie : i ≤ e) (he6 : e - i ≤ 6) (hl : ∀ l, l < e - i → lwB by_ T (i + l) = true) : ia_cal xs (d + 3) im_Mod_name [.ref a] (pM h a M) = some (none, pM h a (gI M 8 (nI (pkN by_ i (e - i))))) := by
  rw [iu_Mod_name, show (1000000 : Nat) = 999999 + 1 from rfl, iq_Mod_name_0]
  simp only [↓pM_pfb]
  rw [← lr_pk he6]
  exact p_name5 xs d (h := h) (a := a) hb h5 h6 he hie hl 6 0 999999 (by omega) (by omega)
end DX0
