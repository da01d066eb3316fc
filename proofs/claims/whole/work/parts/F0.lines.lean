/-! text: the reference's stages of a line: a fault, or on. -/
def atM (M : aG) (by_ : Nat → Nat) (T i : Nat) : Prop := M.1 5 = nI (tkJ by_ T i) ∧ M.1 6 = nI (tkP by_ T i) ∧ M.1 7 = nI (srK (tkK by_ T i)) ∧ vOK (tkK by_ T i) (tkV by_ T i) (M.1 8)
def bM (N M : aG) (by_ : Nat → Nat) (T : Nat) : Prop := txB N M by_ T ∧ M.1 4 = nI T ∧ lnM M
/-- a fault and where, or where the reader is -/
def stM (M : aG) (by_ : Nat → Nat) (T : Nat) (s : Sum (Nat × Nat) Nat) : Prop := match s with
  | .inl f => M.1 9 = nI f.1 ∧ M.1 10 = nI f.2 ∧ 1 ≤ f.1 ∧ f.1 ≤ 5
  | .inr i => M.1 9 = 0 ∧ atM M by_ T i ∧ i ≤ T ∧ M.1 10 = -1
def nb (f : Nat → Sum (Nat × Nat) Nat) (s : Sum (Nat × Nat) Nat) : Sum (Nat × Nat) Nat := match s with
  | .inl z => .inl z
  | .inr i => f i
/-- only the token and the fault differ -/
def tsc (M M' : aG) : Prop := M'.2 = M.2 ∧ ∀ k, (k < 5 ∨ 10 < k) → M'.1 k = M.1 k
theorem tsc.r {M : aG} : tsc M M := ⟨rfl, fun _ _ => rfl⟩
theorem tsc.t {M M' M'' : aG} (h : tsc M M') (h' : tsc M' M'') : tsc M M'' := ⟨h'.1.trans h.1, fun k hk => (h'.2 k hk).trans (h.2 k hk)⟩
theorem tsc.f {M M' : aG} (h : tsc M M') (k i : Nat) : fG M' k i = fG M k i := by unfold fG; rw [h.1]
theorem tsc.b {N M M' : aG} {by_ : Nat → Nat} {T : Nat} (h : tsc M M') (hb : bM N M by_ T) : bM N M' by_ T := by
  obtain ⟨⟨b1, b2, b3, b4⟩, b5, b6⟩ := hb
  refine ⟨⟨b1, b2, by rw [h.1]; exact b3, fun i hi => by rw [h.f]; exact b4 i hi⟩, (h.2 4 (by omega)).trans b5, fun k hk => by rw [h.1]; exact b6 k hk⟩
theorem tsc_tk {M : aG} {K p j : Nat} {W : Int32} : tsc M (tkM M K p j W) := ⟨rfl, fun k hk => by
  show (if k = 8 then W else if k = 7 then nI (srK K) else if k = 6 then nI p else if k = 5 then nI j else M.1 k) = M.1 k
  rw [if_neg (by omega), if_neg (by omega), if_neg (by omega), if_neg (by omega)]⟩
theorem tsc_fl {M : aG} {k p : Nat} : tsc M (flM M k p) := ⟨rfl, fun j hj => by
  show (if j = 10 then nI p else if j = 9 then nI k else M.1 j) = M.1 j
  rw [if_neg (by omega), if_neg (by omega)]⟩
/-- a number that may be from lo to hi -/
def nuS (by_ : Nat → Nat) (T lo hi i : Nat) : Sum (Nat × Nat) Nat := if tkK by_ T i = 3 then (if tkV by_ T i < lo ∨ hi < tkV by_ T i then .inl (2, tkP by_ T i) else .inr (tkJ by_ T i)) else .inl (1, tkP by_ T i)
section FX0
variable (xs : List Int32) (d : Nat) {h : ia_H} {a : Nat} {M N : aG} {by_ : Nat → Nat} {T : Nat} {s : Sum (Nat × Nat) Nat}
theorem stM.n9 {f : Nat × Nat} (hs : stM M by_ T (.inl f)) : M.1 9 ≠ 0 := by
  obtain ⟨h1, h2, h3, h4⟩ := hs
  rw [h1]
  exact fun z => by have := (nI_eq (b := 0) (by omega) (by decide)).mp z; omega
theorem st_fl {k p : Nat} (hk : 1 ≤ k) (hk5 : k ≤ 5) : stM (flM M k p) by_ T (.inl (k, p)) := ⟨rfl, rfl, hk, hk5⟩
theorem bM.tk (hb : bM N M by_ T) : ∀ i, i < T → by_ i < 256 := fun i hi => (hb.1.2.2.2 i hi).1
theorem s_token (hb : bM N M by_ T) {i : Nat} (hs : stM M by_ T (.inr i)) : ∃ M', ia_cal xs (d + 4) im_Mod_token [.ref a] (pM h a M) = some (none, pM h a M') ∧ tsc M M' ∧ stM M' by_ T (.inr (tkJ by_ T i)) := by
  obtain ⟨h9, ⟨h5, h6, h7, h8⟩, hi, h10⟩ := hs
  have hon := tk_on hb.tk i hi
  obtain ⟨W, v, g⟩ := p_token xs d (h := h) (a := a) hb.1 hb.2.1 (tkJ by_ T i) hon.2.2.1 h5
  exact ⟨_, g, tsc_tk, h9, ⟨rfl, rfl, rfl, v⟩, hon.2.2.1, h10⟩
theorem s_goOn (hb : bM N M by_ T) (hs : stM M by_ T s) : ∃ M', ia_cal xs (d + 5) im_Mod_goOn [.ref a] (pM h a M) = some (none, pM h a M') ∧ tsc M M' ∧ stM M' by_ T (nb (fun i => .inr (tkJ by_ T i)) s) := by
  cases s with
  | inl f => exact ⟨M, f_goOn xs (d + 4) hs.n9, tsc.r, hs⟩
  | inr i =>
    obtain ⟨M', g1, g2, g3⟩ := s_token xs d (h := h) (a := a) hb hs
    refine ⟨M', ?_, g2, g3⟩
    rw [iu_Mod_goOn, iq_Mod_goOn_0]
    simp only [↓pM_Ib, hs.1, ↓pM_clsb, ↓cV_of g1]
    rw [if_pos trivial]
theorem sr_2 (hb : bM N M by_ T) (i : Nat) : (nI (srK (tkK by_ T i)) = 2 ↔ tkK by_ T i = 3) ∧ (nI (srK (tkK by_ T i)) = 1 ↔ tkK by_ T i = 2) ∧ (nI (srK (tkK by_ T i)) = 0 ↔ (4 ≤ tkK by_ T i ∧ tkK by_ T i < 25)) := by
  have k38 := tk_lt hb.tk i
  have sK := sr_K _ k38
  refine ⟨?_, ?_, ?_⟩
  · rw [← sK.2.2.1]; exact nI_eq (b := 2) (by omega) (by decide)
  · rw [← sK.2.2.2.1]; exact nI_eq (b := 1) (by omega) (by decide)
  · rw [← sK.1]; exact nI_eq (b := 0) (by omega) (by decide)
theorem s_numeral (hb : bM N M by_ T) (hs : stM M by_ T s) {lo hi : Nat} (hlo : lo ≤ hi) (hhi : hi ≤ 99999) {l g : Int32} (el : l = nI lo) (eg : g = nI hi) : ∃ v M', ia_cal xs (d + 5) im_Mod_numeral [.ref a, .int l, .int g] (pM h a M) = some (some (.int (nI v)), pM h a M') ∧ tsc M M' ∧ stM M' by_ T (nb (nuS by_ T lo hi) s) ∧ v ≤ hi ∧ ∀ i j, s = .inr i → nuS by_ T lo hi i = .inr j → v = tkV by_ T i := by
  rw [el, eg]
  cases s with
  | inl f =>
    refine ⟨lo, M, ?_, tsc.r, hs, hlo, fun i j z => by cases z⟩
    rw [iu_Mod_numeral, iq_Mod_numeral_0]
    simp only [↓pM_Ib]
    rw [if_neg hs.n9]
  | inr i =>
    have hs' := hs
    obtain ⟨h9, ⟨h5, h6, h7, h8⟩, hiT, h10⟩ := hs
    have s2 := (sr_2 hb i).1
    have f24 : ∀ F k p, 1 ≤ k → k ≤ 5 → ia_qr xs (ia_cal xs (d + 4)) im_Mod_numeral (F + 1) 24 [.ref a, .int (nI lo), .float 0, .float 0] [] (pM h a (flM M k p)) = some (some (.int (nI lo)), pM h a (flM M k p)) := fun F k p hk hk5 => by
      rw [iq_Mod_numeral_24]
      simp only [↓pM_Ib]
      rw [if_neg (stM.n9 (st_fl (M := M) (by_ := by_) (T := T) (p := p) hk hk5))]
    have wr : ∀ k, ∀ v, v = nI k → ia_cal xs (d + 4) im_Mod_wrong [.ref a, .int v] (pM h a M) = some (none, pM h a (flM M k (tkP by_ T i))) := fun k v hv => p_wrong xs (d + 3) h9 h6 hv
    rw [iu_Mod_numeral, show (1000000 : Nat) = 999997 + 1 + 1 + 1 from rfl, iq_Mod_numeral_0]
    simp only [↓pM_Ib, h9, h7]
    rw [if_pos trivial]
    show ∃ v M', _ ∧ _ ∧ stM M' by_ T (nuS by_ T lo hi i) ∧ _
    unfold nuS
    by_cases c3 : tkK by_ T i = 3
    · obtain ⟨w, w1, w2, w3⟩ := h8.2.1 c3
      have w4 := tk_3 hb.tk c3
      rw [if_pos (s2.mpr c3), if_pos c3, w2]
      have much : (tkV by_ T i < lo ∨ hi < tkV by_ T i) → ia_qr xs (ia_cal xs (d + 4)) im_Mod_numeral (999997 + 1 + 1) 21 [.ref a, .int (nI lo), .float 0, .float 0] [] (pM h a M) = some (some (.int (nI lo)), pM h a (flM M 2 (tkP by_ T i))) := fun _ => by
        rw [iq_Mod_numeral_21]
        simp only [↓pM_clsb, ↓cV_of (wr 2 2 rfl)]
        exact f24 _ 2 _ (by decide) (by decide)
      by_cases c : tkV by_ T i < lo ∨ hi < tkV by_ T i
      · rw [if_pos c]
        refine ⟨lo, flM M 2 (tkP by_ T i), ?_, tsc_fl, st_fl (by decide) (by decide), hlo, fun i' j z z2 => by cases z; rw [if_pos c3, if_pos c] at z2; cases z2⟩
        by_cases c1 : w < lo
        · rw [if_pos (nI_lt c1 (by omega))]
          exact much c
        · rw [if_neg (nI_nlt (by omega) (by omega)), if_pos (nI_lt (show hi < w by omega) (by omega))]
          exact much c
      · rw [if_neg c]
        have wv : tkV by_ T i = w := by omega
        obtain ⟨M', g1, g2, g3⟩ := s_token xs d (h := h) (a := a) hb hs'
        refine ⟨w, M', ?_, g2, g3, by omega, fun i' j z _ => by cases z; exact wv.symm⟩
        rw [if_neg (nI_nlt (show lo ≤ w by omega) (by omega)), if_neg (nI_nlt (show w ≤ hi by omega) (by omega)), iq_Mod_numeral_24]
        simp only [↓pM_Ib, h9, w2, ↓pM_clsb, ↓cV_of g1]
        rw [if_pos trivial]
    · rw [if_neg (fun z => c3 (s2.mp z)), if_neg c3]
      refine ⟨lo, flM M 1 (tkP by_ T i), ?_, tsc_fl, st_fl (by decide) (by decide), hlo, fun i' j z z2 => by cases z; rw [if_neg c3] at z2; cases z2⟩
      simp only [↓pM_clsb, ↓cV_of (wr 1 1 rfl)]
      exact f24 _ 1 _ (by decide) (by decide)
/-- the first of so many whose name it is -/
theorem p_found6 (hl : lnM M) {m : Nat} (hm : m ≤ 6) (v : Int32) : ia_cal xs (d + 1) im_Mod_found [.ref (a + 3), .int 6, .int (nI m), .int v] (pM h a M) = some (some (.int (fstI (fun i => fG M 2 (6 + i) = v) m 0)), pM h a M) := by
  have l2 : (M.2.1 2).length = 12 := hl 2 (by decide)
  have lp : ∀ k i F, i + k = m → k + 1 ≤ F → ia_qr xs (ia_cal xs d) im_Mod_found F 2 [.ref (a + 3), .int 6, .int (nI m), .int v, .int (nI i)] [] (pM h a M) = some (some (.int (fstI (fun i => fG M 2 (6 + i) = v) k i)), pM h a M) := by
    intro k
    induction k with
    | zero =>
      intro i F hi hF
      obtain ⟨F, rfl⟩ : ∃ k, F = k + 1 := ⟨F - 1, by omega⟩
      rw [iq_Mod_found_2, if_neg (nI_nlt (by omega) (by omega)), fstI]
    | succ k ih =>
      intro i F hi hF
      obtain ⟨F, rfl⟩ : ∃ k, F = k + 1 := ⟨F - 1, by omega⟩
      have e6 : (6 : Int32) + nI i = nI (6 + i) := nI_add 6 i
      have r0 : rd (M.2.1 2) (nI (6 + i)) = some (fG M 2 (6 + i)) := rdG (by omega) (by omega)
      rw [iq_Mod_found_2, if_pos (nI_lt (show i < m by omega) (by omega)), e6, fstI]
      simp only [↓pM_ldb, ↓bs r0, nI_1]
      by_cases c : fG M 2 (6 + i) = v
      · rw [if_pos c, if_pos c]
      · rw [if_neg c, if_neg c]
        exact ih (i + 1) F (by omega) (by omega)
  rw [iu_Mod_found, show (1000000 : Nat) = 999999 + 1 from rfl, iq_Mod_found_0]
  exact lp m 0 999999 (by omega) (by omega)
end FX0
