/-! spans: what was heard, held against what comes. -/
theorem any01 {P : Nat → Prop} [DecidablePred P] : ∀ k i, anyI P k i = 0 ∨ anyI P k i = 1
  | 0, _ => Or.inl rfl
  | k + 1, i => by
    rw [anyI]
    split
    · exact Or.inr rfl
    · exact any01 k (i + 1)
/-- is something that was heard of quarter qv not so, in the reference -/
def soR (M : aG) (X : aW) (t r : Nat) (qv : Int32) (k i : Nat) : Int32 := anyI (fun i => (fG M 38 i = 0 ∧ fG M 37 i = -1) ∧ fG M 34 i = qv ∧ ¬ egI X t r (fG M 35 i) = fG M 36 i) k i
theorem soR_g {M : aG} {X : aW} {t r w : Nat} {qv : Int32} : ∀ i, i ≤ w → soR M X t r qv (w - i) i = if i = w then 0 else if (fG M 38 i = 0 ∧ fG M 37 i = -1) ∧ fG M 34 i = qv ∧ ¬ egI X t r (fG M 35 i) = fG M 36 i then 1 else soR M X t r qv (w - (i + 1)) (i + 1) := fun i hi => by
  by_cases c : i = w
  · subst c
    rw [if_pos rfl, Nat.sub_self]
    rfl
  · rw [if_neg c, show w - i = w - (i + 1) + 1 by omega]
    rfl
theorem lt_m1 {m i : Nat} (hm : m < 2 ^ 30) (hi : i < 2 ^ 30) : (nI m - 1 < nI i ↔ m ≤ i) := by
  cases m with
  | zero =>
    refine ⟨fun _ => by omega, fun _ => ?_⟩
    rw [Int32.lt_iff_toInt_lt, nI_toInt (by omega)]
    have : (nI 0 - 1).toInt = -1 := by decide
    omega
  | succ m =>
    rw [show nI (m + 1) - 1 = nI m from (pk_sub (a := m + 1) (b := 1) (by omega)).trans (by rw [Nat.add_sub_cancel]), nI_ltI (by omega) (by omega)]
    omega
section O42
variable (xs : List Int32) (d : Nat) {H h : ia_H} {x a : Nat} {C : aC} {M M' : aG} {σ : Bool} {p n r t t0 q : Nat}
theorem m_isSo {U S L : aG} {w : Nat} {X : aW} {dr wk : Int32} {sc : List Int64 × List Int64} (hs : rsM M S L r p n) (hU : RUr U M p) (hw : bcU U = nI w) (hw2 : w ≤ 24) (hcm : cmM M X r) (hX : wfX X t r p) (qv : Int32) (g : Nat → Int32) (hg : ∀ i, i ≤ w → g i = if i = w then 0 else if (fG M 38 i = 0 ∧ fG M 37 i = -1) ∧ fG M 34 i = qv ∧ ¬ egI X t r (fG M 35 i) = fG M 36 i then 1 else g (i + 1)) : ia_cal xs (d + 3) im_Mod_isSo [.ref a, .int qv] (my h a M 1 X dr wk sc) = some (some (.int (if g 0 = 0 then 1 else 0)), my h a M 1 X dr wk sc) := by
  have hl := hs.1
  have l38 : (M.2.1 38).length = 24 := hl 38 (by decide)
  have l37 : (M.2.1 37).length = 24 := hl 37 (by decide)
  have l36 : (M.2.1 36).length = 24 := hl 36 (by decide)
  have l35 : (M.2.1 35).length = 24 := hl 35 (by decide)
  have l34 : (M.2.1 34).length = 24 := hl 34 (by decide)
  have km : ia_cal xs (d + 2) im_Mod_knownMany [.ref a] (my h a M 1 X dr wk sc) = some (some (.int (nI w)), my h a M 1 X dr wk sc) := by
    have hU' : RUr U (mz M 1 X dr wk sc) p := hU.s (fun k hk hk2 => mz_k (Or.inr (by omega))) rfl rfl
    have := p_knownMany xs (d + 1) (h := h) (a := a) hU'
    rw [hw] at this
    exact this
  rw [iu_Mod_isSo, iq_Mod_isSo_0]
  have key : ∀ k i N, i + k = w → k + 1 ≤ N → ia_qr xs (ia_cal xs (d + 2)) im_Mod_isSo N 2 [.ref a, .int qv, .int (nI i)] [] (my h a M 1 X dr wk sc) = some (some (.int (if g i = 0 then 1 else 0)), my h a M 1 X dr wk sc) := by
    intro k
    induction k with
    | zero =>
      intro i N hi hN
      obtain ⟨N, rfl⟩ : ∃ k, N = k + 1 := ⟨N - 1, by omega⟩
      have : i = w := by omega
      subst this
      rw [iq_Mod_isSo_2, hg i (Nat.le_refl _), if_pos rfl, if_pos rfl]
      simp only [↓my_clsb, ↓cI_of km, ↓if_n (nI_nlt (Nat.le_refl i) (show i < 2 ^ 31 by omega)), ↓ok1]
    | succ k ih =>
      intro i N hi hN
      obtain ⟨N, rfl⟩ : ∃ k, N = k + 1 := ⟨N - 1, by omega⟩
      have ihn := ih (i + 1) N (by omega) (by omega)
      have r38 : rd (M.2.1 38) (nI i) = some (fG M 38 i) := rdG (by omega) (by omega)
      have r37 : rd (M.2.1 37) (nI i) = some (fG M 37 i) := rdG (by omega) (by omega)
      have r36 : rd (M.2.1 36) (nI i) = some (fG M 36 i) := rdG (by omega) (by omega)
      have r35 : rd (M.2.1 35) (nI i) = some (fG M 35 i) := rdG (by omega) (by omega)
      have r34 : rd (M.2.1 34) (nI i) = some (fG M 34 i) := rdG (by omega) (by omega)
      have eg := m_isEngaged xs d (h := h) (a := a) (b := 1) (dr := dr) (wk := wk) (sc := sc) hs hcm hX.1 (hX.y hl (by decide)) (fG M 35 i)
      have eg' : ia_cal xs (d + 2) im_Mod_isEngaged [.ref a, .int 1, .int (fG M 35 i)] (my h a M 1 X dr wk sc) = _ := eg
      have gi := hg i (by omega)
      rw [if_neg (show ¬ i = w by omega)] at gi
      rw [iq_Mod_isSo_2]
      simp only [↓my_clsb, ↓cI_of km, ↓if_p (nI_lt (show i < w by omega) (show w < 2 ^ 31 by omega)), ↓my_Rb, ↓my_ldb, ↓bs r38, ↓bs r37, ↓bs r36, ↓bs r35, ↓bs r34, ↓cI_of eg', nI_1, ↓ok0]
      by_cases c1 : fG M 38 i = 0
      · by_cases c2 : fG M 37 i = -1
        · by_cases c3 : fG M 34 i = qv
          · by_cases c4 : egI X t r (fG M 35 i) = fG M 36 i
            · rw [if_neg (fun z => z.2.2 c4)] at gi
              rw [if_pos c1, if_pos c2, if_pos c3, if_pos c4, gi]
              exact ihn
            · rw [if_pos ⟨⟨c1, c2⟩, c3, c4⟩] at gi
              rw [if_pos c1, if_pos c2, if_pos c3, if_neg c4, gi]
              rfl
          · rw [if_neg (fun z => c3 z.2.1)] at gi
            rw [if_pos c1, if_pos c2, if_neg c3, gi]
            exact ihn
        · rw [if_neg (fun z => c2 z.1.2)] at gi
          rw [if_pos c1, if_neg c2, gi]
          exact ihn
      · rw [if_neg (fun z => c1 z.1.1)] at gi
        rw [if_neg c1, gi]
        exact ihn
  exact key w 0 _ (by omega) (by omega)
end O42
