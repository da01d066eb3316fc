/-! text: both begin to read. -/
def nfN (j : Nat) : Int32 := if j = 4 ∨ j = 5 then 3 else 0
def nrL (l : List Int32) : Nat → List Int32
  | 0 => l
  | k + 1 => (nrL l k).set (8 + k) (nfN k)
def slL (l : List Int32) : Nat → List Int32
  | 0 => l
  | k + 1 => (slL l k).set (3 + k) 0
theorem nr_l {l : List Int32} : ∀ k, (nrL l k).length = l.length
  | 0 => rfl
  | k + 1 => by rw [nrL, List.length_set, nr_l k]
theorem sl_l {l : List Int32} : ∀ k, (slL l k).length = l.length
  | 0 => rfl
  | k + 1 => by rw [slL, List.length_set, sl_l k]
theorem nr_g {l : List Int32} : ∀ k i, 8 + k ≤ l.length → (nrL l k).getD i 0 = if 8 ≤ i ∧ i < 8 + k then nfN (i - 8) else l.getD i 0
  | 0, i, _ => by rw [nrL, if_neg (by omega)]
  | k + 1, i, h => by
    rw [nrL, ia_set_getD (by rw [nr_l]; omega), nr_g k i (by omega)]
    by_cases c : i = 8 + k
    · rw [if_pos c, if_pos (by omega), c, Nat.add_sub_cancel_left]
    · rw [if_neg c]
      by_cases c2 : 8 ≤ i ∧ i < 8 + k
      · rw [if_pos c2, if_pos (by omega)]
      · rw [if_neg c2, if_neg (by omega)]
theorem sl_g {l : List Int32} : ∀ k i, 3 + k ≤ l.length → (slL l k).getD i 0 = if 3 ≤ i ∧ i < 3 + k then 0 else l.getD i 0
  | 0, i, _ => by rw [slL, if_neg (by omega)]
  | k + 1, i, h => by
    rw [slL, ia_set_getD (by rw [sl_l]; omega), sl_g k i (by omega)]
    by_cases c : i = 3 + k
    · rw [if_pos c, if_pos (by omega)]
    · rw [if_neg c]
      by_cases c2 : 3 ≤ i ∧ i < 3 + k
      · rw [if_pos c2, if_pos (by omega)]
      · rw [if_neg c2, if_neg (by omega)]
/-- the reference's numbers as a text begins -/
def bgM (M : aG) (T : Nat) : aG := gI (gI (gI (gI (gI M 4 (nI T)) 1 0) 5 0) 9 0) 10 (-1)
def bgR (M : aG) : aG := gA (gA (gA M 1 (nrL (M.2.1 1) 8)) 14 (slL (M.2.1 14) 3)) 15 (slL (M.2.1 15) 3)
def bgU (M : aG) : aG := gI (gI (gI (gI M 2 0) 3 0) 13 0) 14 0
section HX5
variable (xs : List Int32) (d : Nat) {h : ia_H} {a : Nat} {M : aG} {by_ : Nat → Nat} {T : Nat}
theorem t_reads (hl : lnM M) : ∀ m k F, k + m = 8 → 3 * m + 1 ≤ F → ∃ F', F ≤ F' + 3 * m + 1 ∧ ia_qr xs (ia_cal xs (d + 1)) im_Mod_text F 28 [.ref a, .float 0, .int (nI k)] [] (pM h a (gA M 1 (nrL (M.2.1 1) k))) = ia_qr xs (ia_cal xs (d + 1)) im_Mod_text F' 47 [.ref a, .float 0, .int 3] [] (pM h a (gA M 1 (nrL (M.2.1 1) 8))) := by
  have l1 : (M.2.1 1).length = 16 := hl 1 (by decide)
  intro m
  induction m with
  | zero =>
    intro k F hk hF
    obtain ⟨F, rfl⟩ : ∃ k, F = k + 1 := ⟨F - 1, by omega⟩
    refine ⟨F, by omega, ?_⟩
    rw [iq_Mod_text_28, show k = 8 by omega, if_neg (show ¬ nI 8 < (8 : Int32) by decide)]
  | succ m ih =>
    intro k F hk hF
    obtain ⟨F, rfl⟩ : ∃ k, F = k + 1 + 1 + 1 := ⟨F - 3, by omega⟩
    have e : gA (gA M 1 (nrL (M.2.1 1) k)) 1 (((gA M 1 (nrL (M.2.1 1) k)).2.1 1).set (8 + k) (nfN k)) = gA M 1 (nrL (M.2.1 1) (k + 1)) := by
      rw [gA_s, gA_A]; rfl
    have go : ∀ F, 3 * m + 1 ≤ F → ia_qr xs (ia_cal xs (d + 1)) im_Mod_text (F + 1) 42 [.ref a, .float 0, .int (nI k)] [.int (nfN k), .int (nI k), .ref a] (pM h a (gA M 1 (nrL (M.2.1 1) k))) = ia_qr xs (ia_cal xs (d + 1)) im_Mod_text F 28 [.ref a, .float 0, .int (nI (k + 1))] [] (pM h a (gA M 1 (nrL (M.2.1 1) (k + 1)))) := fun F hF => by
      have rd := p_reads xs d (h := h) (a := a) (M := gA M 1 (nrL (M.2.1 1) k)) (k := k) (by rw [gA_s, nr_l]; exact l1) (by omega) (v := nI k) rfl (nfN k)
      rw [e] at rd
      rw [iq_Mod_text_42]
      simp only [↓pM_clsb, ↓cV_of rd, nI_1]
    rw [iq_Mod_text_28, if_pos (show nI k < (8 : Int32) from nI_lt (b := 8) (by omega) (by decide))]
    have ek : ∀ j, j < 100 → (nI k = nI j ↔ k = j) := fun j hj => nI_eq (by omega) (by omega)
    by_cases c4 : k = 4 ∨ k = 5
    · have n3 : nfN k = 3 := by unfold nfN; rw [if_pos c4]
      obtain ⟨F', g1, g2⟩ := ih (k + 1) F (by omega) (by omega)
      refine ⟨F', by omega, ?_⟩
      have g := go F (by omega)
      rw [n3] at g
      have e39 : ia_qr xs (ia_cal xs (d + 1)) im_Mod_text (F + 1 + 1) 39 [.ref a, .float 0, .int (nI k)] [.int (nI k), .ref a] (pM h a (gA M 1 (nrL (M.2.1 1) k))) = ia_qr xs (ia_cal xs (d + 1)) im_Mod_text F' 47 [.ref a, .float 0, .int 3] [] (pM h a (gA M 1 (nrL (M.2.1 1) 8))) := by
        rw [iq_Mod_text_39]
        exact g.trans g2
      by_cases c : k = 4
      · rw [if_pos (show nI k = (4 : Int32) from (ek 4 (by decide)).mpr c)]
        exact e39
      · rw [if_neg (show ¬ nI k = (4 : Int32) from fun z => c ((ek 4 (by decide)).mp z)), if_pos (show nI k = (5 : Int32) from (ek 5 (by decide)).mpr (by omega))]
        exact e39
    · have n0 : nfN k = 0 := by unfold nfN; rw [if_neg c4]
      obtain ⟨F', g1, g2⟩ := ih (k + 1) (F + 1) (by omega) (by omega)
      refine ⟨F', by omega, ?_⟩
      have g := go (F + 1) (by omega)
      rw [n0] at g
      rw [if_neg (show ¬ nI k = (4 : Int32) from fun z => c4 (Or.inl ((ek 4 (by decide)).mp z))), if_neg (show ¬ nI k = (5 : Int32) from fun z => c4 (Or.inr ((ek 5 (by decide)).mp z)))]
      exact g.trans g2
theorem t_sums (hl : lnM M) : ∀ m k F, k + m = 3 → m + 1 ≤ F → ∃ F', F ≤ F' + m ∧ 1 ≤ F' ∧ ia_qr xs (ia_cal xs (d + 1)) im_Mod_text F 47 [.ref a, .float 0, .int (nI (3 + k))] [] (pM h a (gA (gA M 14 (slL (M.2.1 14) k)) 15 (slL (M.2.1 15) k))) = ia_qr xs (ia_cal xs (d + 1)) im_Mod_text F' 47 [.ref a, .float 0, .int (nI 6)] [] (pM h a (gA (gA M 14 (slL (M.2.1 14) 3)) 15 (slL (M.2.1 15) 3))) := by
  have l14 : (M.2.1 14).length = 6 := hl 14 (by decide)
  have l15 : (M.2.1 15).length = 6 := hl 15 (by decide)
  intro m
  induction m with
  | zero => intro k F hk hF; exact ⟨F, by omega, by omega, by rw [show k = 3 by omega]⟩
  | succ m ih =>
    intro k F hk hF
    obtain ⟨F, rfl⟩ : ∃ k, F = k + 1 := ⟨F - 1, by omega⟩
    obtain ⟨F', g1, g2, g3⟩ := ih (k + 1) F (by omega) (by omega)
    refine ⟨F', by omega, g2, ?_⟩
    have w14 : wr ((gA (gA M 14 (slL (M.2.1 14) k)) 15 (slL (M.2.1 15) k)).2.1 14) (nI (3 + k)) 0 = some (slL (M.2.1 14) (k + 1)) := wr_nI (l := slL (M.2.1 14) k) (by omega) (by rw [sl_l]; omega)
    have w15 : wr ((gA (gA (gA M 14 (slL (M.2.1 14) k)) 15 (slL (M.2.1 15) k)) 14 (slL (M.2.1 14) (k + 1))).2.1 15) (nI (3 + k)) 0 = some (slL (M.2.1 15) (k + 1)) := wr_nI (l := slL (M.2.1 15) k) (by omega) (by rw [sl_l]; omega)
    have e : gA (gA (gA (gA M 14 (slL (M.2.1 14) k)) 15 (slL (M.2.1 15) k)) 14 (slL (M.2.1 14) (k + 1))) 15 (slL (M.2.1 15) (k + 1)) = gA (gA M 14 (slL (M.2.1 14) (k + 1))) 15 (slL (M.2.1 15) (k + 1)) := by
      refine Prod.ext rfl (Prod.ext (funext fun j => ?_) rfl)
      show (if j = 15 then slL (M.2.1 15) (k + 1) else if j = 14 then slL (M.2.1 14) (k + 1) else if j = 15 then _ else if j = 14 then _ else M.2.1 j) = if j = 15 then slL (M.2.1 15) (k + 1) else if j = 14 then slL (M.2.1 14) (k + 1) else M.2.1 j
      by_cases c1 : j = 15
      · rw [if_pos c1, if_pos c1]
      · by_cases c0 : j = 14
        · rw [if_neg c1, if_pos c0, if_neg c1, if_pos c0]
        · rw [if_neg c1, if_neg c0, if_neg c1, if_neg c0, if_neg c1, if_neg c0]
    rw [iq_Mod_text_47, if_pos (show nI (3 + k) < (6 : Int32) from nI_lt (b := 6) (by omega) (by decide))]
    simp only [↓pM_Rb, ↓pM_stb, ↓bs w14, ↓bs w15, e, nI_1]
    exact g3
/-- the reference's text up to its first line -/
theorem t_begin (hl : lnM M) {v : Int32} (hv : v = nI T) (hT : T ≤ 700) {T0 : Nat} (h1 : M.1 1 = nI T0) (hT0 : T ≤ T0) (h700 : T0 ≤ 700) : ∃ F', 900000 ≤ F' ∧ ∀ M', ia_cal xs (d + 1) im_Mod_token [.ref a] (pM h a (bgU (bgR (bgM (gI M 0 0) T)))) = some (none, pM h a M') → ia_cal xs (d + 2) im_Mod_text [.ref a, .int v] (pM h a M) = ia_qr xs (ia_cal xs (d + 1)) im_Mod_text F' 76 [.ref a, .float 0, .float 0] [] (pM h a M') := by
  have hl1 : lnM (bgM (gI M 0 0) T) := hl
  obtain ⟨F1, g1, g2⟩ := t_reads xs d (h := h) (a := a) hl1 8 0 999999 (by omega) (by omega)
  have hl2 : lnM (gA (bgM (gI M 0 0) T) 1 (nrL ((bgM (gI M 0 0) T).2.1 1) 8)) := fun k hk => by
    by_cases c : k = 1
    · rw [c, gA_s, nr_l]; exact hl 1 (by decide)
    · rw [gA_n c]; exact hl k hk
  obtain ⟨F2, g3, g4, g5⟩ := t_sums xs d (h := h) (a := a) hl2 3 0 F1 (by omega) (by omega)
  refine ⟨F2 - 1, by omega, fun M' ht => ?_⟩
  obtain ⟨F2, rfl⟩ : ∃ k, F2 = k + 1 := ⟨F2 - 1, by omega⟩
  have q1 : (gI M 0 0).1 1 = nI T0 := h1
  rw [iu_Mod_text, show (1000000 : Nat) = 999999 + 1 from rfl, iq_Mod_text_0, hv]
  simp only [↓pM_pfb, ↓pM_Ib, q1, ↓if_n (nI_pos (show T < 2 ^ 31 by omega)), ↓if_n (nI_nlt (show T ≤ T0 by omega) (show T0 < 2 ^ 31 by omega))]
  have e0 : gA (bgM (gI M 0 0) T) 1 (nrL ((bgM (gI M 0 0) T).2.1 1) 0) = bgM (gI M 0 0) T := gA_id
  rw [e0] at g2
  have e1 : gA (gA (gA (bgM (gI M 0 0) T) 1 (nrL ((bgM (gI M 0 0) T).2.1 1) 8)) 14 (slL ((gA (bgM (gI M 0 0) T) 1 (nrL ((bgM (gI M 0 0) T).2.1 1) 8)).2.1 14) 0)) 15 (slL ((gA (bgM (gI M 0 0) T) 1 (nrL ((bgM (gI M 0 0) T).2.1 1) 8)).2.1 15) 0) = gA (bgM (gI M 0 0) T) 1 (nrL ((bgM (gI M 0 0) T).2.1 1) 8) := by
    refine Prod.ext rfl (Prod.ext (funext fun j => ?_) rfl)
    show (if j = 15 then M.2.1 15 else if j = 14 then M.2.1 14 else if j = 1 then nrL (M.2.1 1) 8 else M.2.1 j) = if j = 1 then nrL (M.2.1 1) 8 else M.2.1 j
    by_cases c1 : j = 15
    · rw [if_pos c1, if_neg (by omega), c1]
    · by_cases c0 : j = 14
      · rw [if_neg c1, if_pos c0, if_neg (by omega), c0]
      · rw [if_neg c1, if_neg c0]
  rw [e1] at g5
  refine Eq.trans g2 (Eq.trans g5 ?_)
  rw [iq_Mod_text_47, if_neg (show ¬ nI 6 < (6 : Int32) by decide)]
  simp only [↓pM_pfb]
  have ht' : ia_cal xs (d + 1) im_Mod_token [.ref a] (pM h a (gI (gI (gI (gI (gA (gA (gA (bgM (gI M 0 0) T) 1 (nrL ((bgM (gI M 0 0) T).2.1 1) 8)) 14 (slL ((gA (bgM (gI M 0 0) T) 1 (nrL ((bgM (gI M 0 0) T).2.1 1) 8)).2.1 14) 3)) 15 (slL ((gA (bgM (gI M 0 0) T) 1 (nrL ((bgM (gI M 0 0) T).2.1 1) 8)).2.1 15) 3)) 2 0) 3 0) 13 0) 14 0)) = some (none, pM h a M') := ht
  simp only [↓pM_clsb, ↓cV_of ht']
  rfl
end HX5
