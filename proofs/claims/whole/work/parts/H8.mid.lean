/-! text: the reference takes over what it read. -/
def hfL (l : List Int32) (n : Nat) : List Int32 := updTo l (fun j => l.getD (n + j) 0) n
/-- the first k rows taken over -/
def hvK (M : aG) (j : Nat) : aG := (M.1, fun k => if 1 ≤ k ∧ k ≤ j then hfL (M.2.1 k) (mlen k / 2) else M.2.1 k, M.2.2)
section HX8
variable (xs : List Int32) (d : Nat) {h : ia_H} {a : Nat} {M : aG} {by_ : Nat → Nat} {T : Nat}
theorem hf_cell : ∀ k, 1 ≤ k → k ≤ 17 → (pM h a M).2.2 (a + (k + 1)) = .inl (0, M.2.1 k) ∧ ∀ l, ia_up (pM h a M) (a + (k + 1)) (.inl (0, l)) = pM h a (gA M k l) := by
  intro k h1 h2
  match k, h1, h2 with
  | 1, _, _ => exact ⟨put_in 2 (by decide), pM_a2 h a M⟩
  | 2, _, _ => exact ⟨put_in 3 (by decide), pM_a3 h a M⟩
  | 3, _, _ => exact ⟨put_in 4 (by decide), pM_a4 h a M⟩
  | 4, _, _ => exact ⟨put_in 5 (by decide), pM_a5 h a M⟩
  | 5, _, _ => exact ⟨put_in 6 (by decide), pM_a6 h a M⟩
  | 6, _, _ => exact ⟨put_in 7 (by decide), pM_a7 h a M⟩
  | 7, _, _ => exact ⟨put_in 8 (by decide), pM_a8 h a M⟩
  | 8, _, _ => exact ⟨put_in 9 (by decide), pM_a9 h a M⟩
  | 9, _, _ => exact ⟨put_in 10 (by decide), pM_a10 h a M⟩
  | 10, _, _ => exact ⟨put_in 11 (by decide), pM_a11 h a M⟩
  | 11, _, _ => exact ⟨put_in 12 (by decide), pM_a12 h a M⟩
  | 12, _, _ => exact ⟨put_in 13 (by decide), pM_a13 h a M⟩
  | 13, _, _ => exact ⟨put_in 14 (by decide), pM_a14 h a M⟩
  | 14, _, _ => exact ⟨put_in 15 (by decide), pM_a15 h a M⟩
  | 15, _, _ => exact ⟨put_in 16 (by decide), pM_a16 h a M⟩
  | 16, _, _ => exact ⟨put_in 17 (by decide), pM_a17 h a M⟩
  | 17, _, _ => exact ⟨put_in 18 (by decide), pM_a18 h a M⟩
  | k + 18, _, h => exact absurd h (by omega)
theorem hf_2 : ∀ k, 1 ≤ k → k ≤ 17 → nI (mlen k) / 2 = nI (mlen k / 2) ∧ mlen k = mlen k / 2 + mlen k / 2 ∧ mlen k / 2 ≤ 64 ∧ k < 39 := by
  have : ∀ k, k < 18 → 1 ≤ k → nI (mlen k) / 2 = nI (mlen k / 2) ∧ mlen k = mlen k / 2 + mlen k / 2 ∧ mlen k / 2 ≤ 64 ∧ k < 39 := by decide +kernel
  exact fun k h1 h2 => this k (by omega) h1
theorem p_half (hl : lnM M) {k : Nat} (h1 : 1 ≤ k) (h2 : k ≤ 17) : ia_cal xs (d + 1) im_Mod_half [.ref (a + (k + 1))] (pM h a M) = some (none, pM h a (gA M k (hfL (M.2.1 k) (mlen k / 2)))) := by
  obtain ⟨e1, e2, e3, e4⟩ := hf_2 k h1 h2
  have hlk := hl k e4
  generalize hn : mlen k / 2 = n at *
  have lp : ∀ m i F, i + m = n → m + 1 ≤ F → ia_qr xs (ia_cal xs d) im_Mod_half F 7 [.ref (a + (k + 1)), .int (nI n), .int (nI i)] [] (pM h a (gA M k (updTo (M.2.1 k) (fun j => (M.2.1 k).getD (n + j) 0) i))) = some (none, pM h a (gA M k (hfL (M.2.1 k) n))) := by
    intro m
    induction m with
    | zero =>
      intro i F hi hF
      obtain ⟨F, rfl⟩ : ∃ k, F = k + 1 := ⟨F - 1, by omega⟩
      rw [iq_Mod_half_7, show i = n by omega, if_neg (nI_nlt (Nat.le_refl _) (by omega))]
      rfl
    | succ m ih =>
      intro i F hi hF
      obtain ⟨F, rfl⟩ : ∃ k, F = k + 1 := ⟨F - 1, by omega⟩
      obtain ⟨c1, c2⟩ := hf_cell (h := h) (a := a) (M := gA M k (updTo (M.2.1 k) (fun j => (M.2.1 k).getD (n + j) 0) i)) k h1 h2
      rw [gA_s] at c1
      have ul : (updTo (M.2.1 k) (fun j => (M.2.1 k).getD (n + j) 0) i).length = mlen k := by rw [updTo_len]; exact hlk
      have r0 : rd (updTo (M.2.1 k) (fun j => (M.2.1 k).getD (n + j) 0) i) (nI (n + i)) = some ((M.2.1 k).getD (n + i) 0) := by
        rw [rdN (by omega) (by omega), updTo_get i _ (by omega), if_neg (by omega)]
      have w0 : wr (updTo (M.2.1 k) (fun j => (M.2.1 k).getD (n + j) 0) i) (nI i) ((M.2.1 k).getD (n + i) 0) = some (updTo (M.2.1 k) (fun j => (M.2.1 k).getD (n + j) 0) (i + 1)) := updTo_wr (by omega) (by omega) rfl
      have ld : ∀ f : Int32 → Option ia_R, (ia_ald (pM h a (gA M k (updTo (M.2.1 k) (fun j => (M.2.1 k).getD (n + j) 0) i))) (a + (k + 1)) 0 (nI (n + i))).bind f = f ((M.2.1 k).getD (n + i) 0) := fun f => by
        rw [bse (ald_of c1 _) f, bs r0]
      have st : ∀ f : ia_H → Option ia_R, (ia_ast (pM h a (gA M k (updTo (M.2.1 k) (fun j => (M.2.1 k).getD (n + j) 0) i))) (a + (k + 1)) 0 (nI i) ((M.2.1 k).getD (n + i) 0)).bind f = f (pM h a (gA M k (updTo (M.2.1 k) (fun j => (M.2.1 k).getD (n + j) 0) (i + 1)))) := fun f => by
        rw [ast_of c1, w0]
        show f (ia_up _ _ _) = _
        rw [c2, gA_A]
      rw [iq_Mod_half_7, if_pos (nI_lt (show i < n by omega) (by omega)), nI_add, ld, st, nI_1]
      exact ih (i + 1) F (by omega) (by omega)
  obtain ⟨c1, c2⟩ := hf_cell (h := h) (a := a) (M := M) k h1 h2
  have ln : ∀ f : Int32 → Option ia_R, (ia_len (pM h a M) (a + (k + 1))).bind f = f (nI (mlen k)) := fun f => by
    unfold ia_len
    rw [c1]
    show f (Int32.ofNat (M.2.1 k).length) = _
    rw [hlk]
    rfl
  rw [iu_Mod_half, show (1000000 : Nat) = 999999 + 1 from rfl, iq_Mod_half_0, ln, if_neg (show ¬ (2 : Int32) = 0 by decide), e1]
  have := lp n 0 999999 (by omega) (by omega)
  rw [show updTo (M.2.1 k) (fun j => (M.2.1 k).getD (n + j) 0) 0 = M.2.1 k from rfl, gA_id] at this
  exact this
theorem hv_ln (hl : lnM M) (j : Nat) : lnM (hvK M j) := fun k hk => by
  show (if 1 ≤ k ∧ k ≤ j then hfL (M.2.1 k) (mlen k / 2) else M.2.1 k).length = _
  by_cases c : 1 ≤ k ∧ k ≤ j
  · rw [if_pos c]
    unfold hfL
    rw [updTo_len]
    exact hl k hk
  · rw [if_neg c]; exact hl k hk
theorem p_halfK (hl : lnM M) (j : Nat) (hj : j < 17) : ia_cal xs (d + 1) im_Mod_half [.ref (a + (j + 1 + 1))] (pM h a (hvK M j)) = some (none, pM h a (hvK M (j + 1))) := by
  rw [p_half xs d (h := h) (a := a) (hv_ln hl j) (k := j + 1) (by omega) (by omega)]
  have e : gA (hvK M j) (j + 1) (hfL ((hvK M j).2.1 (j + 1)) (mlen (j + 1) / 2)) = hvK M (j + 1) := by
    refine Prod.ext rfl (Prod.ext (funext fun k => ?_) rfl)
    have q : (hvK M j).2.1 (j + 1) = M.2.1 (j + 1) := by
      show (if 1 ≤ j + 1 ∧ j + 1 ≤ j then _ else M.2.1 (j + 1)) = _
      rw [if_neg (by omega)]
    rw [q]
    show (if k = j + 1 then hfL (M.2.1 (j + 1)) (mlen (j + 1) / 2) else if 1 ≤ k ∧ k ≤ j then hfL (M.2.1 k) (mlen k / 2) else M.2.1 k) = if 1 ≤ k ∧ k ≤ j + 1 then hfL (M.2.1 k) (mlen k / 2) else M.2.1 k
    by_cases c : k = j + 1
    · rw [if_pos c, if_pos (by omega), c]
    · rw [if_neg c]
      by_cases c2 : 1 ≤ k ∧ k ≤ j
      · rw [if_pos c2, if_pos (by omega)]
      · rw [if_neg c2, if_neg (by omega)]
  rw [e]
theorem hv_g {k i : Nat} (hl : lnM M) (h1 : 1 ≤ k) (h2 : k ≤ 17) (hi : i < mlen k / 2) : fG (hvK M 17) k i = fG M k (mlen k / 2 + i) := by
  have e := hf_2 k h1 h2
  have hlk := hl k e.2.2.2
  show (if 1 ≤ k ∧ k ≤ 17 then hfL (M.2.1 k) (mlen k / 2) else M.2.1 k).getD i 0 = _
  rw [if_pos ⟨h1, h2⟩]
  unfold hfL
  rw [updTo_get _ i (by omega), if_pos hi]
  rfl
/-- all over: what was read is taken over, desk 0 starts anew -/
def enM (M : aG) : aG := gI (gI (gI (gI (hvK (gI (gI M 11 (M.1 9)) 12 (M.1 10)) 17) 26 0) 27 (-1)) 16 0) 17 0
theorem t_end (hl : lnM M) (h9 : M.1 9 = 0) {M' : aG} (hb : ia_cal xs (d + 2) im_Mod_begins [.ref a] (pM h a (enM M)) = some (none, pM h a M')) {F : Nat} : ia_qr xs (ia_cal xs (d + 2)) im_Mod_text (F + 1) 86 [.ref a, .float 0, .float 0] [] (pM h a M) = some (some (.int (M'.1 3)), pM h a M') := by
  generalize hM0 : gI (gI M 11 (M.1 9)) 12 (M.1 10) = M0
  have hl0 : lnM M0 := by rw [← hM0]; exact hl
  have q10 : (gI M 11 (M.1 9)).1 10 = M.1 10 := rfl
  have q9 : M0.1 9 = 0 := by rw [← hM0]; exact h9
  have e0 : hvK M0 0 = M0 := by
    refine Prod.ext rfl (Prod.ext (funext fun k => ?_) rfl)
    show (if 1 ≤ k ∧ k ≤ 0 then _ else M0.2.1 k) = _
    rw [if_neg (by omega)]
  have h1 : ia_cal xs (d + 2) im_Mod_half [.ref (a + 2)] (pM h a (hvK M0 0)) = some (none, pM h a (hvK M0 1)) := p_halfK xs (d + 1) hl0 0 (by decide)
  have h2 : ia_cal xs (d + 2) im_Mod_half [.ref (a + 3)] (pM h a (hvK M0 1)) = some (none, pM h a (hvK M0 2)) := p_halfK xs (d + 1) hl0 1 (by decide)
  have h3 : ia_cal xs (d + 2) im_Mod_half [.ref (a + 4)] (pM h a (hvK M0 2)) = some (none, pM h a (hvK M0 3)) := p_halfK xs (d + 1) hl0 2 (by decide)
  have h4 : ia_cal xs (d + 2) im_Mod_half [.ref (a + 5)] (pM h a (hvK M0 3)) = some (none, pM h a (hvK M0 4)) := p_halfK xs (d + 1) hl0 3 (by decide)
  have h5 : ia_cal xs (d + 2) im_Mod_half [.ref (a + 6)] (pM h a (hvK M0 4)) = some (none, pM h a (hvK M0 5)) := p_halfK xs (d + 1) hl0 4 (by decide)
  have h6 : ia_cal xs (d + 2) im_Mod_half [.ref (a + 7)] (pM h a (hvK M0 5)) = some (none, pM h a (hvK M0 6)) := p_halfK xs (d + 1) hl0 5 (by decide)
  have h7 : ia_cal xs (d + 2) im_Mod_half [.ref (a + 8)] (pM h a (hvK M0 6)) = some (none, pM h a (hvK M0 7)) := p_halfK xs (d + 1) hl0 6 (by decide)
  have h8 : ia_cal xs (d + 2) im_Mod_half [.ref (a + 9)] (pM h a (hvK M0 7)) = some (none, pM h a (hvK M0 8)) := p_halfK xs (d + 1) hl0 7 (by decide)
  have h9 : ia_cal xs (d + 2) im_Mod_half [.ref (a + 10)] (pM h a (hvK M0 8)) = some (none, pM h a (hvK M0 9)) := p_halfK xs (d + 1) hl0 8 (by decide)
  have h10 : ia_cal xs (d + 2) im_Mod_half [.ref (a + 11)] (pM h a (hvK M0 9)) = some (none, pM h a (hvK M0 10)) := p_halfK xs (d + 1) hl0 9 (by decide)
  have h11 : ia_cal xs (d + 2) im_Mod_half [.ref (a + 12)] (pM h a (hvK M0 10)) = some (none, pM h a (hvK M0 11)) := p_halfK xs (d + 1) hl0 10 (by decide)
  have h12 : ia_cal xs (d + 2) im_Mod_half [.ref (a + 13)] (pM h a (hvK M0 11)) = some (none, pM h a (hvK M0 12)) := p_halfK xs (d + 1) hl0 11 (by decide)
  have h13 : ia_cal xs (d + 2) im_Mod_half [.ref (a + 14)] (pM h a (hvK M0 12)) = some (none, pM h a (hvK M0 13)) := p_halfK xs (d + 1) hl0 12 (by decide)
  have h14 : ia_cal xs (d + 2) im_Mod_half [.ref (a + 15)] (pM h a (hvK M0 13)) = some (none, pM h a (hvK M0 14)) := p_halfK xs (d + 1) hl0 13 (by decide)
  have h15 : ia_cal xs (d + 2) im_Mod_half [.ref (a + 16)] (pM h a (hvK M0 14)) = some (none, pM h a (hvK M0 15)) := p_halfK xs (d + 1) hl0 14 (by decide)
  have h16 : ia_cal xs (d + 2) im_Mod_half [.ref (a + 17)] (pM h a (hvK M0 15)) = some (none, pM h a (hvK M0 16)) := p_halfK xs (d + 1) hl0 15 (by decide)
  have h17 : ia_cal xs (d + 2) im_Mod_half [.ref (a + 18)] (pM h a (hvK M0 16)) = some (none, pM h a (hvK M0 17)) := p_halfK xs (d + 1) hl0 16 (by decide)
  rw [e0] at h1
  unfold enM at hb
  rw [hM0] at hb
  rw [iq_Mod_text_86]
  simp only [↓pM_Ib, ↓pM_pfb, q10]
  rw [hM0]
  simp only [↓pM_Ib, q9]
  rw [if_pos trivial]
  simp only [↓pM_Rb, ↓cV_of h1, ↓cV_of h2, ↓cV_of h3, ↓cV_of h4, ↓cV_of h5, ↓cV_of h6, ↓cV_of h7, ↓cV_of h8, ↓cV_of h9, ↓cV_of h10, ↓cV_of h11, ↓cV_of h12, ↓cV_of h13, ↓cV_of h14, ↓cV_of h15, ↓cV_of h16, ↓cV_of h17, ↓pM_pfb, ↓if_p (show (0 : Int32) = 0 ∨ (0 : Int32) = 1 from Or.inl rfl), ↓pM_clsb, ↓cV_of hb, ↓pM_Ib]
  rw [if_pos (Or.inl trivial)]
theorem t_fail (h9 : M.1 9 ≠ 0) {F : Nat} : ia_qr xs (ia_cal xs (d + 2)) im_Mod_text (F + 1) 86 [.ref a, .float 0, .float 0] [] (pM h a M) = some (some (.int (-1)), pM h a (gI (gI M 11 (M.1 9)) 12 (M.1 10))) := by
  have q10 : (gI M 11 (M.1 9)).1 10 = M.1 10 := rfl
  have q9 : (gI (gI M 11 (M.1 9)) 12 (M.1 10)).1 9 ≠ 0 := h9
  rw [iq_Mod_text_86]
  simp only [↓pM_Ib, ↓pM_pfb, q10]
  rw [if_neg q9]
end HX8
