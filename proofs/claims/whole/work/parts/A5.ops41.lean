/-! spans: what is struck out, and how late is what counts. -/
def jdR (wh : Nat → Int32) : Nat → List Int32 → List Int32
  | 0, l => l
  | i + 1, l => jdR wh i (if l.getD i 0 = 0 ∧ ¬ wh i = -1 then l.set (wh i).toNatClampNeg 1 else l)
theorem jdR_len {wh : Nat → Int32} : ∀ i l, (jdR wh i l).length = l.length
  | 0, _ => rfl
  | i + 1, l => by
    rw [jdR, jdR_len i]
    split
    · rw [List.length_set]
    · rfl
section SPN
variable {U M : aG} {p w : Nat}
theorem m1_ne {j : Nat} (hj : j < 2 ^ 31) : ¬ nI j = -1 := by
  intro e
  have := congrArg Int32.toInt e
  rw [nI_toInt hj] at this
  have e2 : (-1 : Int32).toInt = -1 := rfl
  omega
theorem jd_R (hU : ∀ i, i < w → RUi U M p i) (hw : w ≤ 24) : ∀ k l1 l2, k ≤ w → l1.length = 24 → l2.length = 24 → (∀ i, i < w → l1.getD i 0 = l2.getD i 0) → ∀ i, i < w → (jd (fG U 0) (fG U 2) k l1).getD i 0 = (jdR (fG M 37) k l2).getD i 0
  | 0, l1, l2, _, _, _, h => h
  | k + 1, l1, l2, hk, h1, h2, h => by
    rw [jd, jdR]
    rcases hU k (by omega) with ⟨e0, j, hj, e1, e2⟩ | ⟨e0, e1, -⟩
    · have c1 : ¬ nI j < 0 := nI_pos (by omega)
      have c2 : nI j < nI k := nI_lt hj (by omega)
      rw [e0, e1, e2, h k (by omega), nI_clamp (by omega)]
      by_cases c : l2.getD k 0 = 0
      · rw [if_pos ⟨rfl, c, c1, c2⟩, if_pos ⟨c, m1_ne (by omega)⟩]
        refine jd_R hU hw k _ _ (by omega) (by rw [List.length_set]; exact h1) (by rw [List.length_set]; exact h2) (fun i hi => ?_)
        rw [ia_set_getD (by omega), ia_set_getD (by omega), h i hi]
      · rw [if_neg (fun z => c z.2.1), if_neg (fun z => c z.1)]
        exact jd_R hU hw k _ _ (by omega) h1 h2 h
    · have c0 : ¬ fG U 0 k = 2 := by rcases e0 with e | e <;> rw [e] <;> decide
      rw [if_neg (fun z => c0 z.1), if_neg (fun z => z.2 e1)]
      exact jd_R hU hw k _ _ (by omega) h1 h2 h
end SPN
theorem smM.a38 {M M' : aG} {l : List Int32} (h : smM M M') (hl : l.length = 24) : smM M (gA M' 38 l) := by
  obtain ⟨h1, h2, h3, h4, h5, h6, h7⟩ := h
  have e : ∀ k, k ≠ 38 → (gA M' 38 l).2.1 k = M'.2.1 k := fun k hk => gA_n hk
  have f : ∀ k, k ≠ 38 → fG (gA M' 38 l) k = fG M' k := fun k hk => by unfold fG; rw [e k hk]
  have ik : ∀ k, k < 12 → ikW k ≠ 38 := by decide
  refine ⟨fun k hk => ?_, fun k hk => (e k (by omega)).trans (h2 k hk), fun k hk hk2 => (e k (by omega)).trans (h3 k hk hk2), fun d X t r p a1 a2 a3 a4 => ?_, h5, h6, h7⟩
  · by_cases c : k = 38
    · subst c; rw [gA_s, hl]; rfl
    · rw [e k c]; exact h1 k hk
  · obtain ⟨b1, b2, b3, b4, b5, b6⟩ := h4 d X t r p a1 a2 a3 a4
    refine ⟨?_, ?_, ?_, fun k hk i hi => ?_, fun k hk hk2 i hi => ?_, fun k hk hk2 i hi => ?_⟩
    · rw [f 18 (by decide)]; exact b1
    · rw [f 19 (by decide)]; exact b2
    · rw [f 20 (by decide)]; exact b3
    · rw [f _ (ik k (by omega))]; exact b4 k hk i hi
    · rw [f _ (ik k (by omega))]; exact b5 k hk hk2 i hi
    · rw [f _ (ik k (by omega))]; exact b6 k hk hk2 i hi
/-- the last quarter that counts, in the reference -/
def lqR (M : aG) : Nat → Int32
  | 0 => -1
  | i + 1 => if fG M 38 i = 0 ∧ fG M 37 i = -1 then (if lqR M i < fG M 34 i then fG M 34 i else lqR M i) else lqR M i
section O41
variable (xs : List Int32) (d : Nat) {H h : ia_H} {x a : Nat} {C : aC} {M M' : aG} {σ : Bool} {p n r t t0 q : Nat}
/-- how many are believed -/
theorem ru_w {U : aG} (hU : RUr U M p) : ∃ w, w ≤ 24 ∧ bcU U = nI w ∧ ∀ i, i < w → RUi U M p i := by
  obtain ⟨g1, w, g2, g3, g4, g5, g6, g7⟩ := hU
  unfold bcU
  rw [g5, g3]
  rcases g6 with g6 | ⟨v, hv, e⟩
  · rw [if_pos g6]; exact ⟨w, g2, rfl, g7⟩
  · rw [e, if_neg (m1_ne (by omega))]; exact ⟨v, by omega, rfl, fun i hi => g7 i (by omega)⟩
theorem sp_17 {U : aG} {w : Nat} (hl : lnM M) (hU : RUr U M p) (hw : bcU U = nI w) (hw2 : w ≤ 24) (v1 v2 : Int32) : ∀ k i N, i + k = w → k + 1 ≤ N → ∃ N', N ≤ N' + k + 1 ∧ ia_qr xs (ia_cal xs (d + 19)) im_Mod_spans N 17 [.ref a, .int v1, .int v2, .int (nI i), .float 0] [] (pM h a (gA M 38 (updTo (M.2.1 38) (fun _ => 0) i))) = ia_qr xs (ia_cal xs (d + 19)) im_Mod_spans N' 33 [.ref a, .int v1, .int v2, .int (nI w - 1), .float 0] [] (pM h a (gA M 38 (updTo (M.2.1 38) (fun _ => 0) w))) := by
  intro k
  have l38 : (M.2.1 38).length = 24 := hl 38 (by decide)
  have km : ∀ l, ia_cal xs (d + 19) im_Mod_knownMany [.ref a] (pM h a (gA M 38 l)) = some (some (.int (nI w)), pM h a (gA M 38 l)) := fun l => by
    have hU' : RUr U (gA M 38 l) p := hU
    have := p_knownMany xs (d + 18) (h := h) (a := a) hU'
    rw [hw] at this
    exact this
  induction k with
  | zero =>
    intro i N hi hN
    obtain ⟨N, rfl⟩ : ∃ k, N = k + 1 := ⟨N - 1, by omega⟩
    have : i = w := by omega
    subst this
    refine ⟨N, by omega, ?_⟩
    rw [iq_Mod_spans_17]
    simp only [↓pM_clsb, ↓cI_of (km _), ↓if_n (nI_nlt (Nat.le_refl i) (show i < 2 ^ 31 by omega))]
  | succ k ih =>
    intro i N hi hN
    obtain ⟨N, rfl⟩ : ∃ k, N = k + 1 := ⟨N - 1, by omega⟩
    obtain ⟨N', g1, g2⟩ := ih (i + 1) N (by omega) (by omega)
    refine ⟨N', by omega, ?_⟩
    have ww : wr ((gA M 38 (updTo (M.2.1 38) (fun _ => 0) i)).2.1 38) (nI i) (vp_nar .boolean 0) = some (updTo (M.2.1 38) (fun _ => 0) (i + 1)) := by
      rw [gA_s]; exact updTo_wr (by omega) (by omega) rfl
    rw [← g2, iq_Mod_spans_17]
    simp only [↓pM_clsb, ↓cI_of (km _), ↓if_p (nI_lt (show i < w by omega) (show w < 2 ^ 31 by omega)), ↓pM_Rb, ↓pM_stb, ↓bs ww, gA_A, nI_1]
theorem sp_33 {U : aG} {w : Nat} (hl : lnM M) (hU : ∀ i, i < w → RUi U M p i) (hw2 : w ≤ 24) (v1 v2 : Int32) : ∀ k l N, k ≤ w → l.length = 24 → k + 1 ≤ N → ∃ N', N ≤ N' + k + 1 ∧ ia_qr xs (ia_cal xs (d + 19)) im_Mod_spans N 33 [.ref a, .int v1, .int v2, .int (nI k - 1), .float 0] [] (pM h a (gA M 38 l)) = ia_qr xs (ia_cal xs (d + 19)) im_Mod_spans N' 58 [.ref a, .int v1, .int v2, .int (nI 0), .float 0] [] (pM h a (gA M 38 (jdR (fG M 37) k l))) := by
  intro k
  have l37 : (M.2.1 37).length = 24 := hl 37 (by decide)
  induction k with
  | zero =>
    intro l N hk hll hN
    obtain ⟨N, rfl⟩ : ∃ k, N = k + 1 := ⟨N - 1, by omega⟩
    refine ⟨N, by omega, ?_⟩
    rw [iq_Mod_spans_33, if_p (show nI 0 - 1 < 0 by decide)]
    rfl
  | succ k ih =>
    intro l N hk hll hN
    obtain ⟨N, rfl⟩ : ∃ k, N = k + 1 := ⟨N - 1, by omega⟩
    have m1 : nI (k + 1) - 1 = nI k := (pk_sub (a := k + 1) (b := 1) (by omega)).trans (by rw [Nat.add_sub_cancel])
    have m2 : nI k + (-1) = nI k - 1 := by
      cases k with
      | zero => rfl
      | succ k => rw [pk_m1]; exact ((pk_sub (a := k + 1) (b := 1) (by omega)).trans (by rw [Nat.add_sub_cancel])).symm
    have r38 : rd ((gA M 38 l).2.1 38) (nI k) = some (l.getD k 0) := by rw [gA_s]; exact rdN (by omega) (by omega)
    have r37 : rd ((gA M 38 l).2.1 37) (nI k) = some (fG M 37 k) := by rw [gA_n (by decide)]; exact rdG (by omega) (by omega)
    rw [iq_Mod_spans_33, m1, jdR]
    simp only [↓if_n (nI_pos (show k < 2 ^ 31 by omega)), ↓pM_Rb, ↓pM_ldb, ↓bs r38, ↓bs r37, m2]
    by_cases c : l.getD k 0 = 0
    · rw [if_pos c]
      by_cases c2 : fG M 37 k = -1
      · rw [if_pos c2, if_neg (fun z => z.2 c2)]
        obtain ⟨N', g1, g2⟩ := ih l N (by omega) hll (by omega)
        exact ⟨N', by omega, g2⟩
      · rcases hU k (by omega) with ⟨e0, j, hj, e1, e2⟩ | ⟨-, e1, -⟩
        · obtain ⟨N', g1, g2⟩ := ih (l.set (fG M 37 k).toNatClampNeg 1) N (by omega) (by rw [List.length_set]; exact hll) (by omega)
          refine ⟨N', by omega, ?_⟩
          rw [if_neg c2, if_pos ⟨c, c2⟩, ← g2, e2, nI_clamp (by omega)]
          have ww : wr ((gA M 38 l).2.1 38) (nI j) (vp_nar .boolean 1) = some (l.set j 1) := by
            rw [gA_s]; exact wr_nI (by omega) (by omega)
          simp only [↓pM_stb, ↓bs ww, gA_A]
        · exact absurd e1 c2
    · rw [if_neg c, if_neg (fun z => c z.1)]
      obtain ⟨N', g1, g2⟩ := ih l N (by omega) hll (by omega)
      exact ⟨N', by omega, g2⟩
theorem sp_58 {U : aG} {w : Nat} (hl : lnM M) (hU : RUr U M p) (hw : bcU U = nI w) (hw2 : w ≤ 24) (v1 : Int32) : ∀ k i N, i + k = w → k + 1 ≤ N → ∃ N', N ≤ N' + k + 1 ∧ ia_qr xs (ia_cal xs (d + 19)) im_Mod_spans N 58 [.ref a, .int v1, .int (lqR M i), .int (nI i), .float 0] [] (pM h a M) = ia_qr xs (ia_cal xs (d + 19)) im_Mod_spans N' 86 [.ref a, .int v1, .int (lqR M w), .int 0, .int (nI 0)] [] (pM h a M) := by
  intro k
  have l38 : (M.2.1 38).length = 24 := hl 38 (by decide)
  have l37 : (M.2.1 37).length = 24 := hl 37 (by decide)
  have l34 : (M.2.1 34).length = 24 := hl 34 (by decide)
  have km := p_knownMany xs (d + 18) (h := h) (a := a) hU
  rw [hw] at km
  induction k with
  | zero =>
    intro i N hi hN
    obtain ⟨N, rfl⟩ : ∃ k, N = k + 1 := ⟨N - 1, by omega⟩
    have : i = w := by omega
    subst this
    refine ⟨N, by omega, ?_⟩
    rw [iq_Mod_spans_58]
    simp only [↓pM_clsb, ↓cI_of km, ↓if_n (nI_nlt (Nat.le_refl i) (show i < 2 ^ 31 by omega))]
    rfl
  | succ k ih =>
    intro i N hi hN
    obtain ⟨N, rfl⟩ : ∃ k, N = k + 1 := ⟨N - 1, by omega⟩
    obtain ⟨N', g1, g2⟩ := ih (i + 1) N (by omega) (by omega)
    refine ⟨N', by omega, ?_⟩
    have r38 : rd (M.2.1 38) (nI i) = some (fG M 38 i) := rdG (by omega) (by omega)
    have r37 : rd (M.2.1 37) (nI i) = some (fG M 37 i) := rdG (by omega) (by omega)
    have r34 : rd (M.2.1 34) (nI i) = some (fG M 34 i) := rdG (by omega) (by omega)
    rw [← g2, iq_Mod_spans_58, lqR]
    simp only [↓pM_clsb, ↓cI_of km, ↓if_p (nI_lt (show i < w by omega) (show w < 2 ^ 31 by omega)), ↓pM_Rb, ↓pM_ldb, ↓bs r38, ↓bs r37, ↓bs r34, ↓cI_of (k_maxI xs (d + 18) _ _ _), nI_1]
    by_cases c : fG M 38 i = 0
    · by_cases c2 : fG M 37 i = -1
      · rw [if_pos c, if_pos c2, if_pos (show fG M 38 i = 0 ∧ fG M 37 i = -1 from ⟨c, c2⟩)]
      · rw [if_pos c, if_neg c2, if_neg (fun z => c2 z.2)]
    · rw [if_neg c, if_neg (fun z => c z.1)]
end O41
