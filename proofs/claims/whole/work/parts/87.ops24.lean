/-! auction, the answer. -/
section O24
variable (xs : List Int32) (d : Nat) {H h : ia_H} {x a : Nat} {C : aC} {M M' : aG} {σ : Bool} {p n r t t0 q : Nat}
theorem p_best {S L : aG} {X : aW} (hs : rsM M S L r p n) (hn : NWr X M t r p q) (v w : Int32) : ∀ k i N, i + k = p → k + 1 ≤ N → ∃ N', N ≤ N' + k + 1 ∧ ia_qr xs (ia_cal xs (d + 19)) im_Mod_auction N 23 [.ref a, .int v, .int w, .int (oB (gN (bdF S X) (bB v) i)), .int (nI i), .float 0] [] (pM h a M) = if oB (gN (bdF S X) (bB v) p) = -1 then some (some (.int (-2)), pM h a M) else ia_qr xs (ia_cal xs (d + 19)) im_Mod_auction N' 59 [.ref a, .int v, .int w, .int (oB (gN (bdF S X) (bB v) p)), .int 0, .int (nI 0)] [] (pM h a M) := by
  intro k
  have hp6 := hn.1.2.1
  have n0 : rd (M.2.1 1) (0 : Int32) = some (nI p) := by rw [(num_M hs.1).1, hs.2.1]
  induction k with
  | zero =>
    intro i N hi hN
    obtain ⟨N, rfl⟩ : ∃ k, N = k + 1 := ⟨N - 1, by omega⟩
    have : i = p := by omega
    subst this
    refine ⟨N, by omega, ?_⟩
    rw [iq_Mod_auction_23]
    simp only [↓pM_Rb, ↓pM_ldb, ↓bs n0, ↓if_n (nI_nlt (Nat.le_refl i) (show i < 2 ^ 31 by omega))]
    rfl
  | succ k ih =>
    intro i N hi hN
    obtain ⟨N, rfl⟩ : ∃ k, N = k + 1 := ⟨N - 1, by omega⟩
    obtain ⟨N', h1, h2⟩ := ih (i + 1) N (by omega) (by omega)
    refine ⟨N', by omega, ?_⟩
    rw [← h2, iq_Mod_auction_23, gN]
    simp only [↓pM_Rb, ↓pM_ldb, ↓bs n0, ↓if_p (nI_lt (show i < p by omega) (show p < 2 ^ 31 by omega)), bt_iff1 (show i < 32 by omega), nI_1]
    by_cases c : bB v i = true
    · rw [if_pos c, if_pos (show (1 : Int32) = 1 from rfl), if_pos c]
      cases e : gN (bdF S X) (bB v) i with
      | none => rw [if_pos (show oB none = -1 from rfl)]; rfl
      | some b =>
        have hb := gN_lt i b e
        have nm : ¬ oB (some b) = -1 := by
          intro e
          have := congrArg Int32.toInt e
          rw [show oB (some b) = nI b from rfl, nI_toInt (by omega)] at this
          have e2 : (-1 : Int32).toInt = -1 := rfl
          omega
        rw [if_neg nm]
        have hbb : ia_cal xs (d + 19) im_Mod_bidOf [.ref a, .int (oB (some b))] (pM h a M) = _ := p_bidOf xs (d + 17) (h := h) (a := a) hs hn (show b < p by omega)
        simp only [↓pM_clsb, ↓cI_of (p_bidOf xs (d + 17) (h := h) (a := a) hs hn (show i < p by omega)), ↓cI_of hbb]
        by_cases c2 : bdF S X b < bdF S X i
        · rw [if_pos c2, if_pos c2]; rfl
        · rw [if_neg c2, if_neg c2]
    · rw [if_neg c, if_neg (show ¬ (0 : Int32) = 1 by decide), if_neg c]
theorem p_next {S L : aG} {X : aW} (hs : rsM M S L r p n) (hn : NWr X M t r p q) (v w : Int32) {b : Nat} (hb : b < p) : ∀ k i N, i + k = p → k + 1 ≤ N → ia_qr xs (ia_cal xs (d + 19)) im_Mod_auction N 59 [.ref a, .int v, .int w, .int (nI b), .int (mxF (bdF S X) (bB v) b i), .int (nI i)] [] (pM h a M) = some (some (.int (if w = 0 then nI b else mxF (bdF S X) (bB v) b p)), pM h a M) := by
  intro k
  have hp6 := hn.1.2.1
  have n0 : rd (M.2.1 1) (0 : Int32) = some (nI p) := by rw [(num_M hs.1).1, hs.2.1]
  induction k with
  | zero =>
    intro i N hi hN
    obtain ⟨N, rfl⟩ : ∃ k, N = k + 1 := ⟨N - 1, by omega⟩
    have : i = p := by omega
    subst this
    rw [iq_Mod_auction_59]
    simp only [↓pM_Rb, ↓pM_ldb, ↓bs n0, ↓if_n (nI_nlt (Nat.le_refl i) (show i < 2 ^ 31 by omega))]
    split <;> rfl
  | succ k ih =>
    intro i N hi hN
    obtain ⟨N, rfl⟩ : ∃ k, N = k + 1 := ⟨N - 1, by omega⟩
    have h2 := ih (i + 1) N (by omega) (by omega)
    rw [← h2, iq_Mod_auction_59, mxF]
    simp only [↓pM_Rb, ↓pM_ldb, ↓bs n0, ↓if_p (nI_lt (show i < p by omega) (show p < 2 ^ 31 by omega)), bt_iff1 (show i < 32 by omega), nI_1, ↓pM_clsb, ↓cI_of (p_bidOf xs (d + 17) (h := h) (a := a) hs hn (show i < p by omega)), ↓cI_of (k_maxI xs (d + 18) _ _ _)]
    by_cases c : bB v i = true
    · rw [if_pos c, if_pos (show (1 : Int32) = 1 from rfl)]
      by_cases ci : i = b
      · rw [if_pos (by rw [ci]), if_neg (fun z => z.2 ci)]
      · rw [if_neg (fun z => ci ((nI_eq (by omega) (by omega)).mp z)), if_pos (show bB v i = true ∧ ¬ i = b from ⟨c, ci⟩)]
    · rw [if_neg c, if_neg (show ¬ (0 : Int32) = 1 by decide), if_neg (fun z => c z.1)]
theorem op_auction (hR : Rp x C M σ p n r t t0 q) (v w : Int32) : opI xs d H h x a C M im_Eng_auction im_Mod_auction [.int v, .int w] := by
  have hR0 := hR.t 0
  have hT := hR0.2.1
  have hs := hT.2.2.1
  have hn := hR0.2.2.1
  have hp6 := hn.1.2.1
  have n0 : rd ((gI M 0 0).2.1 1) (0 : Int32) = some (nI p) := by rw [(num_M hs.1).1, hs.2.1]
  obtain ⟨g6, g7, -⟩ := hR0.2.2.2.2.2.2.2.2.2.1.2.2.2.2.2
  have hnn := bdF_nn (S := C.1 (kS σ)) (X := C.2 1) (fun i => (g6 1 (by decide) i).1.nn) (fun i => (g7 σ i).1)
  rw [opI, iu_Eng_auction, iq_Eng_auction_0, iu_Mod_auction, iq_Mod_auction_0]
  simp only [↓pM_pfb, ↓tN_Rb hR.1, ↓tS_Ib, hT.1.1, ↓pM_Rb, ↓pM_ldb, ↓bs n0]
  by_cases a1 : v < 0
  · exact ⟨-1, C, gI M 0 0, hR0.l, by rw [if_pos a1], by rw [if_pos a1]⟩
  obtain ⟨z, hz, rfl⟩ := nI_of a1
  rw [if_neg a1, if_neg a1, (sh_2p p (by omega)).1]
  have h64 := (sh_2p p (by omega)).2
  by_cases a2 : z < 2 ^ p
  rotate_left
  · exact ⟨-1, C, gI M 0 0, hR0.l, by rw [if_neg (nI_nlt (by omega) hz)], by rw [if_neg (fun e => a2 ((sh_0 hz (by omega)).mp e))]⟩
  rw [if_pos (nI_lt a2 (by omega)), if_pos ((sh_0 hz (by omega)).mpr a2)]
  by_cases a3 : w < 0
  · exact ⟨-1, C, gI M 0 0, hR0.l, by rw [if_pos a3], by rw [if_pos a3]⟩
  by_cases a4 : 1 < w
  · exact ⟨-1, C, gI M 0 0, hR0.l, by rw [if_neg a3, if_pos a4], by rw [if_neg a3, if_pos a4]⟩
  rw [if_neg a3, if_neg a4, if_neg a3, if_neg a4]
  obtain ⟨N', l1, l2⟩ := p_best xs d (h := h) (a := a) hs hn (nI z) w p 0 999999 (by omega) (by omega)
  have bb := fun i => bB_nI (k := z) (m := i) (by omega)
  by_cases a5 : z = 0
  · subst a5
    have e : gN (bdF (C.1 (kS σ)) (C.2 1)) (bB (nI 0)) p = none := by
      cases e : gN (bdF (C.1 (kS σ)) (C.2 1)) (bB (nI 0)) p with
      | none => rfl
      | some b =>
        exfalso
        have key : ∀ i, gN (bdF (C.1 (kS σ)) (C.2 1)) (bB (nI 0)) i = none := by
          intro i
          induction i with
          | zero => rfl
          | succ i ih => rw [gN, if_neg (by rw [bb i, Nat.zero_testBit]; decide), ih]
        rw [key p] at e
        cases e
    rw [e, if_pos (show oB none = -1 from rfl)] at l2
    exact ⟨-2, C, gI M 0 0, hR0.l, by rw [if_pos (show nI 0 = 0 from rfl)], l2⟩
  · have hne : ¬ nI z = 0 := nI_ne0 (by omega) hz
    obtain ⟨b, eb⟩ : ∃ b, gN (bdF (C.1 (kS σ)) (C.2 1)) (bB (nI z)) p = some b := by
      cases e : gN (bdF (C.1 (kS σ)) (C.2 1)) (bB (nI z)) p with
      | some b => exact ⟨b, rfl⟩
      | none =>
        exfalso
        have hf := gN_none p e
        apply a5
        apply Nat.eq_of_testBit_eq
        intro j
        rw [Nat.zero_testBit]
        by_cases cj : j < p
        · rw [← bb j]; exact hf j cj
        · exact Nat.testBit_lt_two_pow (Nat.lt_of_lt_of_le a2 (Nat.pow_le_pow_right (by decide) (by omega)))
    have hb := gN_lt p b eb
    have nm : ¬ oB (some b) = -1 := by
      intro e
      have := congrArg Int32.toInt e
      rw [show oB (some b) = nI b from rfl, nI_toInt (by omega)] at this
      have e2 : (-1 : Int32).toInt = -1 := rfl
      omega
    rw [eb, if_neg nm] at l2
    have l3 := p_next xs d (h := h) (a := a) hs hn (nI z) w hb p 0 N' (by omega) (by omega)
    have k1 := e_best xs (d + 16) (H := H) hR (nI z)
    rw [eb] at k1
    have k2 := e_best xs (d + 16) (H := H) hR (nI z &&& (((1 : Int32) <<< (nI b &&& 31)) ^^^ -1))
    have e2 := mx_gN (bt := bB (nI z)) (bt2 := bB (nI z &&& (((1 : Int32) <<< (nI b &&& 31)) ^^^ -1))) (w := b) hnn p (fun j hj => by
      rw [bB_and, bB_not (by omega), bB_one b (by omega) j (by omega)]
      constructor
      · intro y
        have y1 := (Bool.and_eq_true_iff.mp y)
        refine ⟨y1.1, fun ej => ?_⟩
        have := y1.2
        rw [decide_eq_true ej.symm] at this
        exact absurd this (by decide)
      · intro y
        rw [y.1, decide_eq_false (fun ej => y.2 ej.symm)]
        rfl)
    refine ⟨if w = 0 then nI b else mxF (bdF (C.1 (kS σ)) (C.2 1)) (bB (nI z)) b p, C, gI M 0 0, hR0.l, ?_, l2.trans l3⟩
    rw [if_neg hne]
    simp only [↓tN_clsb, ↓cI_of k1]
    by_cases cw : w = 0
    · rw [if_pos cw, if_pos cw]; rfl
    · rw [if_neg cw, if_neg cw, e2]
      have k2' : ia_cal xs (d + 19) im_Eng_greatestBidder [.ref x, .int (nI z &&& (((1 : Int32) <<< (oB (some b) &&& 31)) ^^^ -1))] (tot H x C) = _ := k2
      simp only [↓cI_of k2']
      cases e3 : gN (bdF (C.1 (kS σ)) (C.2 1)) (bB (nI z &&& (((1 : Int32) <<< (nI b &&& 31)) ^^^ -1))) p with
      | none => rw [if_pos (show oB none = -1 from rfl)]
      | some b2 =>
        have hb2 := gN_lt p b2 e3
        have nm2 : ¬ oB (some b2) = -1 := by
          intro e
          have := congrArg Int32.toInt e
          rw [show oB (some b2) = nI b2 from rfl, nI_toInt (by omega)] at this
          have e2 : (-1 : Int32).toInt = -1 := rfl
          omega
        have hbb : ia_cal xs (d + 19) im_Eng_bidOf [.ref x, .int (oB (some b2))] (tot H x C) = _ := e_bidOf xs (d + 17) (H := H) hR hb2
        rw [if_neg nm2]
        simp only [↓tN_clsb, ↓cI_of hbb]
end O24
