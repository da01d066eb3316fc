/-! text: the reference's names. -/
theorem fst_c {P : Nat → Prop} [DecidablePred P] : ∀ k i, i + k < 2 ^ 31 → fstI P k i = -1 ∨ ∃ j, i ≤ j ∧ j < i + k ∧ P j ∧ fstI P k i = nI j
  | 0, i, _ => Or.inl rfl
  | k + 1, i, h => by
    rw [fstI]
    by_cases c : P i
    · rw [if_pos c]
      exact Or.inr ⟨i, Nat.le_refl _, by omega, c, rfl⟩
    · rw [if_neg c]
      rcases fst_c (P := P) k (i + 1) (by omega) with h1 | ⟨j, h1, h2, h3, h4⟩
      · exact Or.inl h1
      · exact Or.inr ⟨j, by omega, by omega, h3, h4⟩
theorem nI_m1 {j : Nat} (h : j < 2 ^ 31) : nI j ≠ -1 := fun z => by
  have := nI_pos h
  rw [z] at this
  exact this (by decide)
/-- which of them has this name -/
def fnN (nm : Nat → Int32) (p v : Nat) : Int32 := fstI (fun i => nm i = nI v) p 0
def frS (nm : Nat → Int32) (p : Nat) (by_ : Nat → Nat) (T i : Nat) : Sum (Nat × Nat) Nat := if tkK by_ T i = 2 then (if fnN nm p (tkV by_ T i) = -1 then .inr (tkJ by_ T i) else .inl (3, tkP by_ T i)) else .inl (1, tkP by_ T i)
def maS (nm : Nat → Int32) (p : Nat) (by_ : Nat → Nat) (T i : Nat) : Sum (Nat × Nat) Nat := if tkK by_ T i = 2 then (if fnN nm p (tkV by_ T i) = -1 then .inl (4, tkP by_ T i) else .inr i) else .inl (1, tkP by_ T i)
section FX1
variable (xs : List Int32) (d : Nat) {h : ia_H} {a : Nat} {M N : aG} {by_ : Nat → Nat} {T : Nat} {s : Sum (Nat × Nat) Nat} {p : Nat}
theorem s_fresh (hb : bM N M by_ T) (hs : stM M by_ T s) (hp : p ≤ 6) : ∃ v M', ia_cal xs (d + 5) im_Mod_fresh [.ref a, .ref (a + 3), .int 6, .int (nI p)] (pM h a M) = some (some (.int v), pM h a M') ∧ tsc M M' ∧ stM M' by_ T (nb (frS (fun i => fG M 2 (6 + i)) p by_ T) s) ∧ ∀ i j, s = .inr i → frS (fun i => fG M 2 (6 + i)) p by_ T i = .inr j → v = nI (tkV by_ T i) := by
  cases s with
  | inl f =>
    refine ⟨0, M, ?_, tsc.r, hs, fun i j z => by cases z⟩
    rw [iu_Mod_fresh, iq_Mod_fresh_0]
    simp only [↓pM_Ib]
    rw [if_neg hs.n9]
  | inr i =>
    have hs' := hs
    obtain ⟨h9, ⟨h5, h6, h7, h8⟩, hiT, h10⟩ := hs
    have s2 := (sr_2 hb i).2.1
    have f24 : ∀ F k q, 1 ≤ k → k ≤ 5 → ia_qr xs (ia_cal xs (d + 4)) im_Mod_fresh (F + 1) 24 [.ref a, .float 0, .float 0, .float 0, .float 0] [] (pM h a (flM M k q)) = some (some (.int 0), pM h a (flM M k q)) := fun F k q hk hk5 => by
      rw [iq_Mod_fresh_24]
      simp only [↓pM_Ib]
      rw [if_neg (stM.n9 (st_fl (M := M) (by_ := by_) (T := T) (p := q) hk hk5))]
    have wr : ∀ k, ∀ v, v = nI k → ia_cal xs (d + 4) im_Mod_wrong [.ref a, .int v] (pM h a M) = some (none, pM h a (flM M k (tkP by_ T i))) := fun k v hv => p_wrong xs (d + 3) h9 h6 hv
    rw [iu_Mod_fresh, show (1000000 : Nat) = 999998 + 1 + 1 from rfl, iq_Mod_fresh_0]
    simp only [↓pM_Ib, h9, h7]
    rw [if_pos trivial]
    show ∃ v M', _ ∧ _ ∧ stM M' by_ T (frS (fun i => fG M 2 (6 + i)) p by_ T i) ∧ _
    unfold frS
    by_cases c2 : tkK by_ T i = 2
    · have w := h8.1 c2
      have fo := p_found6 xs (d + 3) (h := h) (a := a) hb.2.2 hp (M.1 8)
      rw [w] at fo
      rw [if_pos (s2.mpr c2), if_pos c2, w, cI_of fo]
      show ∃ v M', (if fnN (fun i => fG M 2 (6 + i)) p (tkV by_ T i) = -1 then _ else _) = _ ∧ _ ∧ _ ∧ _
      by_cases c : fnN (fun i => fG M 2 (6 + i)) p (tkV by_ T i) = -1
      · rw [if_pos c]
        obtain ⟨M', g1, g2, g3⟩ := s_token xs d (h := h) (a := a) hb hs'
        refine ⟨nI (tkV by_ T i), M', ?_, g2, by rw [if_pos c]; exact g3, fun i' j z _ => by cases z; rfl⟩
        rw [iq_Mod_fresh_24]
        simp only [↓pM_Ib, h9, w, ↓pM_clsb, ↓cV_of g1]
        rw [if_pos trivial]
      · rw [if_neg c]
        refine ⟨0, flM M 3 (tkP by_ T i), ?_, tsc_fl, by rw [if_neg c]; exact st_fl (by decide) (by decide), fun i' j z z2 => by cases z; rw [if_pos c2, if_neg c] at z2; cases z2⟩
        simp only [↓pM_clsb, ↓cV_of (wr 3 3 rfl)]
        exact f24 _ 3 _ (by decide) (by decide)
    · rw [if_neg (fun z => c2 (s2.mp z)), if_neg c2]
      refine ⟨0, flM M 1 (tkP by_ T i), ?_, tsc_fl, st_fl (by decide) (by decide), fun i' j z z2 => by cases z; rw [if_neg c2] at z2; cases z2⟩
      simp only [↓pM_clsb, ↓cV_of (wr 1 1 rfl)]
      exact f24 _ 1 _ (by decide) (by decide)
theorem s_manAt (hb : bM N M by_ T) (hs : stM M by_ T s) (hp : p ≤ 6) (hn : fG M 1 8 = nI p) : ∃ v M', ia_cal xs (d + 2) im_Mod_manAtHand [.ref a] (pM h a M) = some (some (.int v), pM h a M') ∧ tsc M M' ∧ stM M' by_ T (nb (maS (fun i => fG M 2 (6 + i)) p by_ T) s) ∧ ∀ i j, s = .inr i → maS (fun i => fG M 2 (6 + i)) p by_ T i = .inr j → v = fnN (fun i => fG M 2 (6 + i)) p (tkV by_ T i) := by
  have l1 : (M.2.1 1).length = 16 := hb.2.2 1 (by decide)
  cases s with
  | inl f =>
    refine ⟨0, M, ?_, tsc.r, hs, fun i j z => by cases z⟩
    rw [iu_Mod_manAtHand, iq_Mod_manAtHand_0]
    simp only [↓pM_Ib]
    rw [if_neg hs.n9]
  | inr i =>
    have hs' := hs
    obtain ⟨h9, ⟨h5, h6, h7, h8⟩, hiT, h10⟩ := hs
    have s2 := (sr_2 hb i).2.1
    have f27 : ∀ F k q, 1 ≤ k → k ≤ 5 → ia_qr xs (ia_cal xs (d + 1)) im_Mod_manAtHand (F + 1) 27 [.ref a] [] (pM h a (flM M k q)) = some (some (.int 0), pM h a (flM M k q)) := fun F k q hk hk5 => by
      rw [iq_Mod_manAtHand_27]
      simp only [↓pM_Ib]
      rw [if_neg (stM.n9 (st_fl (M := M) (by_ := by_) (T := T) (p := q) hk hk5))]
    have wr : ∀ k, ∀ v, v = nI k → ia_cal xs (d + 1) im_Mod_wrong [.ref a, .int v] (pM h a M) = some (none, pM h a (flM M k (tkP by_ T i))) := fun k v hv => p_wrong xs d h9 h6 hv
    have fr := p_fresher xs d (h := h) (a := a) (M := M) (k := 0) l1 (by decide) (v := 0) rfl
    rw [show fG M 1 (8 + 0) = nI p from hn] at fr
    rw [iu_Mod_manAtHand, show (1000000 : Nat) = 999998 + 1 + 1 from rfl, iq_Mod_manAtHand_0]
    simp only [↓pM_Ib, h9, h7]
    rw [if_pos trivial]
    show ∃ v M', _ ∧ _ ∧ stM M' by_ T (maS (fun i => fG M 2 (6 + i)) p by_ T i) ∧ _
    unfold maS
    by_cases c2 : tkK by_ T i = 2
    · have w := h8.1 c2
      have fo := p_found6 xs d (h := h) (a := a) hb.2.2 hp (M.1 8)
      rw [w] at fo
      rw [if_pos (s2.mpr c2), if_pos c2]
      simp only [↓pM_Rb, ↓pM_clsb, ↓cI_of fr, ↓pM_Ib, w, ↓cI_of fo]
      show ∃ v M', (if fnN (fun i => fG M 2 (6 + i)) p (tkV by_ T i) = -1 then _ else _) = _ ∧ _ ∧ _ ∧ _
      by_cases c : fnN (fun i => fG M 2 (6 + i)) p (tkV by_ T i) = -1
      · rw [if_pos c]
        refine ⟨0, flM M 4 (tkP by_ T i), ?_, tsc_fl, by rw [if_pos c]; exact st_fl (by decide) (by decide), fun i' j z z2 => by cases z; rw [if_pos c2, if_pos c] at z2; cases z2⟩
        simp only [↓pM_clsb, ↓cV_of (wr 4 4 rfl)]
        exact f27 _ 4 _ (by decide) (by decide)
      · rw [if_neg c]
        refine ⟨fnN (fun i => fG M 2 (6 + i)) p (tkV by_ T i), M, ?_, tsc.r, by rw [if_neg c]; exact hs', fun i' j z _ => by cases z; rfl⟩
        rw [iq_Mod_manAtHand_27]
        simp only [↓pM_Ib, h9, ↓pM_Rb, ↓pM_clsb, ↓cI_of fr, w, ↓cI_of fo]
        rw [if_pos trivial]
        rfl
    · rw [if_neg (fun z => c2 (s2.mp z)), if_neg c2]
      refine ⟨0, flM M 1 (tkP by_ T i), ?_, tsc_fl, st_fl (by decide) (by decide), fun i' j z z2 => by cases z; rw [if_neg c2] at z2; cases z2⟩
      simp only [↓pM_clsb, ↓cV_of (wr 1 1 rfl)]
      exact f27 _ 1 _ (by decide) (by decide)
theorem s_manAhead (hb : bM N M by_ T) (hs : stM M by_ T s) (hp : p ≤ 6) (hn : fG M 1 8 = nI p) : ∃ v M', ia_cal xs (d + 6) im_Mod_manAhead [.ref a] (pM h a M) = some (some (.int v), pM h a M') ∧ tsc M M' ∧ stM M' by_ T (nb (fun i => .inr (tkJ by_ T i)) (nb (maS (fun i => fG M 2 (6 + i)) p by_ T) s)) ∧ ∀ i j, s = .inr i → maS (fun i => fG M 2 (6 + i)) p by_ T i = .inr j → v = fnN (fun i => fG M 2 (6 + i)) p (tkV by_ T i) := by
  obtain ⟨v, M1, g1, g2, g3, g4⟩ := s_manAt xs (d + 3) (h := h) (a := a) hb hs hp hn
  obtain ⟨M2, g5, g6, g7⟩ := s_goOn xs d (h := h) (a := a) (g2.b hb) g3
  refine ⟨v, M2, ?_, g2.t g6, g7, g4⟩
  rw [iu_Mod_manAhead, iq_Mod_manAhead_0]
  simp only [↓pM_clsb, ↓cI_of g1, ↓cV_of g5]
end FX1
