/-! auction. -/
theorem bB_shr {x : Int32} {m j : Nat} (hm : m + j < 32) : bB (x >>> (nI m &&& 31)) j = bB x (m + j) := by
  unfold bB
  have e1 : ∀ m, m < 32 → ((nI m &&& 31).toBitVec.smod 32).toNat = m := by decide +kernel
  have e2 : (x >>> (nI m &&& 31)).toBitVec = x.toBitVec.sshiftRight m := by
    rw [Int32.toBitVec_shiftRight, BitVec.sshiftRight_eq', e1 m (by omega)]
  rw [e2, BitVec.getLsbD_sshiftRight, if_pos hm]
  have : decide (32 ≤ j) = false := decide_eq_false (by omega)
  rw [this]
  rfl
theorem sh_lo : ∀ p, p < 7 → ∀ z, z < 64 → z < 2 ^ p → (nI z >>> (nI p &&& 31)) = 0 := by decide +kernel
theorem sh_2p : ∀ p, p < 7 → ((1 : Int32) <<< (nI p &&& 31)) = nI (2 ^ p) ∧ 2 ^ p ≤ 64 := by decide +kernel
theorem sh_0 {z p : Nat} (hz : z < 2 ^ 31) (hp : p < 7) : (nI z >>> (nI p &&& 31)) = 0 ↔ z < 2 ^ p := by
  constructor
  · intro e
    have h0 : z >>> p = 0 := by
      apply Nat.eq_of_testBit_eq
      intro j
      rw [Nat.testBit_shiftRight, Nat.zero_testBit]
      by_cases c : p + j < 32
      · have := congrArg (fun v => bB v j) e
        simp only [bB_shr c, bB_0, bB_nI (show z < 2 ^ 32 by omega)] at this
        exact this
      · exact Nat.testBit_lt_two_pow (Nat.lt_of_lt_of_le hz (Nat.pow_le_pow_right (by decide) (by omega)))
    rw [Nat.shiftRight_eq_div_pow] at h0
    rcases Nat.div_eq_zero_iff.mp h0 with h1 | h1
    · have : 0 < 2 ^ p := Nat.pow_pos (by decide)
      omega
    · exact h1
  · intro h
    exact sh_lo p hp z (by have := (sh_2p p hp).2; omega) h
/-- the greatest bidder among the first i -/
def gN (bd : Nat → Int32) (bt : Nat → Bool) : Nat → Option Nat
  | 0 => none
  | i + 1 => if bt i = true then (match gN bd bt i with
    | none => some i
    | some b => if bd b < bd i then some i else some b) else gN bd bt i
def oB : Option Nat → Int32
  | none => -1
  | some b => nI b
theorem gN_lt {bd : Nat → Int32} {bt : Nat → Bool} : ∀ i b, gN bd bt i = some b → b < i
  | 0, b, h => by rw [gN] at h; cases h
  | i + 1, b, h => by
    rw [gN] at h
    by_cases c : bt i = true
    · rw [if_pos c] at h
      cases e : gN bd bt i with
      | none => rw [e] at h; simp only [Option.some.injEq] at h; omega
      | some b' =>
        rw [e] at h
        have := gN_lt i b' e
        simp only at h
        split at h
        · simp only [Option.some.injEq] at h; omega
        · simp only [Option.some.injEq] at h; omega
    · rw [if_neg c] at h
      have := gN_lt i b h
      omega
theorem gN_none {bd : Nat → Int32} {bt : Nat → Bool} : ∀ i, gN bd bt i = none → ∀ j, j < i → bt j = false
  | 0, _, j, hj => by omega
  | i + 1, h, j, hj => by
    rw [gN] at h
    by_cases c : bt i = true
    · rw [if_pos c] at h
      cases e : gN bd bt i with
      | none => rw [e] at h; cases h
      | some b => rw [e] at h; simp only at h; split at h <;> cases h
    · rw [if_neg c] at h
      by_cases ej : j = i
      · subst ej; simpa using c
      · exact gN_none i h j (by omega)
/-- the most that another bids -/
def mxF (bd : Nat → Int32) (bt : Nat → Bool) (w : Nat) : Nat → Int32
  | 0 => 0
  | i + 1 => if bt i = true ∧ ¬ i = w then (if mxF bd bt w i < bd i then bd i else mxF bd bt w i) else mxF bd bt w i
theorem mx_gN {bd : Nat → Int32} {bt bt2 : Nat → Bool} {w : Nat} (hb : ∀ i, ¬ bd i < 0) : ∀ i, (∀ j, j < i → (bt2 j = true ↔ bt j = true ∧ ¬ j = w)) → mxF bd bt w i = match gN bd bt2 i with
    | none => 0
    | some b => bd b
  | 0, _ => rfl
  | i + 1, h => by
    have ih := mx_gN (bd := bd) (bt := bt) (bt2 := bt2) (w := w) hb i (fun j hj => h j (by omega))
    rw [mxF, gN]
    by_cases c : bt2 i = true
    · rw [if_pos c, if_pos ((h i (by omega)).mp c), ih]
      cases e : gN bd bt2 i with
      | none =>
        show (if (0 : Int32) < bd i then bd i else 0) = bd i
        by_cases c0 : (0 : Int32) < bd i
        · rw [if_pos c0]
        · rw [if_neg c0]
          have h1 := hb i
          have z1 : ¬ (bd i).toInt < (0 : Int32).toInt := fun y => h1 (Int32.lt_iff_toInt_lt.mpr y)
          have z2 : ¬ (0 : Int32).toInt < (bd i).toInt := fun y => c0 (Int32.lt_iff_toInt_lt.mpr y)
          exact Int32.toInt_inj.mp (by omega)
      | some b =>
        show (if bd b < bd i then bd i else bd b) = _
        by_cases c0 : bd b < bd i
        · simp only [if_pos c0]
        · simp only [if_neg c0]
    · rw [if_neg c, if_neg (fun y => c ((h i (by omega)).mpr y)), ih]
def bdF (S : aG) (X : aW) (i : Nat) : Int32 := if fA X 0 i < fG S 1 i then fA X 0 i else fG S 1 i
section O23
variable (xs : List Int32) (d : Nat) {H h : ia_H} {x a : Nat} {C : aC} {M M' : aG} {σ : Bool} {p n r t t0 q : Nat}
theorem bdF_nn {S : aG} {X : aW} (h1 : ∀ i, ¬ fA X 0 i < 0) (h2 : ∀ i, ¬ fG S 1 i < 0) (i : Nat) : ¬ bdF S X i < 0 := by
  unfold bdF
  split
  · exact h1 i
  · exact h2 i
theorem e_bidOf (hR : Rp x C M σ p n r t t0 q) {i : Nat} (hi : i < p) : ia_cal xs (d + 2) im_Eng_bidOf [.ref x, .int (nI i)] (tot H x C) = some (some (.int (bdF (C.1 (kS σ)) (C.2 1) i)), tot H x C) := by
  have hT := hR.2.1
  have hX := hR.2.2.1.1
  have hp6 := hX.2.1
  have r1 : rd ((C.1 (kS σ)).2.1 1) (nI i) = some (fG (C.1 (kS σ)) 1 i) := rdG (by rw [hT.1.2.2.2.2.2.1]; omega) (by rw [hT.1.2.2.2.2.2.1]; decide)
  have w0 : rd ((C.2 1).2 0) (nI i) = some (fA (C.2 1) 0 i) := rdA (by rw [hX.1.ln.1]; omega) (by rw [hX.1.ln.1]; decide)
  have c1 : ¬ inI (nI i) p = 0 := by
    unfold inI
    rw [if_neg (nI_pos (by omega)), if_pos (nI_lt hi (by omega))]; decide
  rw [iu_Eng_bidOf, iq_Eng_bidOf_0]
  simp only [↓tN_clsb, ↓cI_of (e_isPerson xs d hR.1 hT.1 _), ↓if_n c1, ↓tN_Rb hR.1, ↓tS_Rb hR.1, ↓tS_ldb, ↓bs r1, ↓tW_Rb (show 1 < 7 by decide), ↓tW_ldb (show 1 < 7 by decide), ↓bs w0, ↓cI_of (k_minI xs d (g := tot H x C) _ _)]
  rfl
theorem p_bidOf {S L : aG} {X : aW} (hs : rsM M S L r p n) (hn : NWr X M t r p q) {i : Nat} (hi : i < p) : ia_cal xs (d + 2) im_Mod_bidOf [.ref a, .int (nI i)] (pM h a M) = some (some (.int (bdF S X i)), pM h a M) := by
  have hl := hs.1
  have hp6 := hn.1.2.1
  have r3 : rd (M.2.1 3) (nI i) = some (fG S 1 i) := by rw [rdk hl (by decide) (by show i < 12; omega) (by decide), hs.2.2.2.2.2.2.2.1 i hi]
  have u0 : rd (M.2.1 21) (nI i) = some (fA X 0 i) := d0_p hn hl (k := 0) (by decide) hi
  rw [iu_Mod_bidOf, iq_Mod_bidOf_0]
  simp only [↓pM_Rb, ↓pM_ldb, ↓bs r3, ↓bs u0, ↓cI_of (k_minI xs d (g := pM h a M) _ _)]
  rfl
theorem e_best (hR : Rp x C M σ p n r t t0 q) (v : Int32) : ia_cal xs (d + 3) im_Eng_greatestBidder [.ref x, .int v] (tot H x C) = some (some (.int (oB (gN (bdF (C.1 (kS σ)) (C.2 1)) (bB v) p))), tot H x C) := by
  have hT := hR.2.1
  have hp6 := hR.2.2.1.1.2.1
  rw [iu_Eng_greatestBidder, iq_Eng_greatestBidder_0]
  refine lp_up (F := fun N i => ia_qr xs (ia_cal xs (d + 2)) im_Eng_greatestBidder N 4 [.ref x, .int v, .int (oB (gN (bdF (C.1 (kS σ)) (C.2 1)) (bB v) i)), .int (nI i)] [] (tot H x C)) (N := p) (cost := 1) (fun i hi N hN => ?_) (fun N => ?_) p 0 (by omega) _ (by omega)
  · obtain ⟨N, rfl⟩ : ∃ k, N = k + 1 := ⟨N - 1, by omega⟩
    refine ⟨N, Nat.le_refl _, ?_⟩
    show ia_qr xs (ia_cal xs (d + 2)) im_Eng_greatestBidder (N + 1) 4 _ [] _ = _
    rw [iq_Eng_greatestBidder_4, gN]
    simp only [↓tN_Rb hR.1, ↓tS_Ib, hT.1.1, ↓if_p (nI_lt hi (show p < 2 ^ 31 by omega)), bt_iff1 (show i < 32 by omega), nI_1]
    by_cases c : bB v i = true
    · rw [if_pos c, if_neg (show ¬ (1 : Int32) = 0 by decide), if_pos c]
      cases e : gN (bdF (C.1 (kS σ)) (C.2 1)) (bB v) i with
      | none => rw [if_pos (show oB none = -1 from rfl)]; rfl
      | some b =>
        have hb := gN_lt i b e
        have nm : ¬ oB (some b) = -1 := by
          intro e
          have := congrArg Int32.toInt e
          rw [show oB (some b) = nI b from rfl, nI_toInt (by omega)] at this
          have e2 : (-1 : Int32).toInt = -1 := rfl
          omega
        rw [if_neg nm]
        have hbb : ia_cal xs (d + 2) im_Eng_bidOf [.ref x, .int (oB (some b))] (tot H x C) = _ := e_bidOf xs d (H := H) hR (show b < p by omega)
        simp only [↓tN_clsb, ↓cI_of (e_bidOf xs d (H := H) hR hi), ↓cI_of hbb]
        by_cases c2 : bdF (C.1 (kS σ)) (C.2 1) b < bdF (C.1 (kS σ)) (C.2 1) i
        · rw [if_pos c2, if_pos c2]; rfl
        · rw [if_neg c2, if_neg c2]
    · rw [if_neg c, if_pos rfl, if_neg c]
  · show ia_qr xs (ia_cal xs (d + 2)) im_Eng_greatestBidder (N + 1) 4 _ [] _ = _
    rw [iq_Eng_greatestBidder_4]
    simp only [↓tN_Rb hR.1, ↓tS_Ib, hT.1.1, ↓if_n (nI_nlt (Nat.le_refl p) (show p < 2 ^ 31 by omega))]
end O23
