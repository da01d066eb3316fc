/-! feed. -/
theorem bB_ushr {x : Int32} {m j : Nat} (hm : m < 32) : bB ((Int32.toUInt32 x >>> (Int32.toUInt32 (nI m) &&& Int32.toUInt32 31)).toInt32) j = bB x (m + j) := by
  unfold bB
  have e1 : ∀ m, m < 32 → ((Int32.toUInt32 (nI m) &&& Int32.toUInt32 31).toBitVec % 32).toNat = m := by decide +kernel
  have e2 : ((Int32.toUInt32 x >>> (Int32.toUInt32 (nI m) &&& Int32.toUInt32 31)).toInt32).toBitVec = x.toBitVec >>> m := by
    show (Int32.toUInt32 x >>> (Int32.toUInt32 (nI m) &&& Int32.toUInt32 31)).toBitVec = x.toBitVec >>> m
    rw [UInt32.toBitVec_shiftRight, BitVec.ushiftRight_eq', e1 m hm]
    rfl
  rw [e2, BitVec.getLsbD_ushiftRight]
theorem bB_i8 {y : Int32} {j : Nat} (hj : j < 8) : bB (y.toInt8.toInt32) j = bB y j := by
  unfold bB
  have h1 : decide (j < 32) = true := decide_eq_true (by omega)
  have h2 : decide (j < 8) = true := decide_eq_true hj
  rw [Int8.toBitVec_toInt32, Int32.toBitVec_toInt8, BitVec.getLsbD_signExtend, BitVec.getLsbD_signExtend, h1, h2, if_pos hj, if_pos (show j < 32 by omega), Bool.true_and, Bool.true_and]
theorem low_255 {y z : Int32} (h : ∀ j, j < 8 → bB y j = bB z j) : y &&& 255 = z &&& 255 := by
  apply bB_ext
  intro m hm
  rw [bB_and, bB_and]
  by_cases c : m < 8
  · rw [h m c]
  · have : ∀ m, m < 32 → ¬ m < 8 → bB 255 m = false := by decide
    rw [this m hm c]
    simp
/-- the byte at a place of a number, as the class tapes it -/
def byC (v : Int32) (s : Nat) : Int32 := vp_nar .byte (Int32.toInt8 (Int32.toUInt32 v >>> (Int32.toUInt32 (nI s) &&& Int32.toUInt32 31)).toInt32).toInt32
theorem byC_low (v : Int32) {s : Nat} (hs : s ≤ 24) : ∃ b, b < 256 ∧ byC v s &&& 255 = nI b ∧ (v >>> (nI s &&& 31)) &&& 255 = nI b := by
  have e : byC v s &&& 255 = (v >>> (nI s &&& 31)) &&& 255 := by
    apply low_255
    intro j hj
    have e1 : byC v s = ((Int32.toUInt32 v >>> (Int32.toUInt32 (nI s) &&& Int32.toUInt32 31)).toInt32.toInt8.toInt32).toInt8.toInt32 := rfl
    rw [e1, bB_i8 hj, bB_i8 hj, bB_ushr (by omega), bB_shr (by omega)]
  obtain ⟨b, h1, h2⟩ := pk_andE (v >>> (nI s &&& 31)) (m := 255) 8 (by decide)
  exact ⟨b, h1, by rw [e]; exact h2, h2⟩
section O39
variable (xs : List Int32) (d : Nat) {H h : ia_H} {x a : Nat} {C : aC} {M M' : aG} {σ : Bool} {p n r t t0 q : Nat}
/-- so many bytes of a number onto the tape -/
def tpN (N : aG) (v : Int32) (T : Nat) : Nat → aG
  | 0 => N
  | i + 1 => gI (gA (tpN N v T i) 0 (((tpN N v T i).2.1 0).set (T + i) (byC v (24 - 8 * i)))) 0 (nI (T + i + 1))
theorem tp_len {N : aG} {v : Int32} {T : Nat} : ∀ i, ((tpN N v T i).2.1 0).length = (N.2.1 0).length
  | 0 => rfl
  | i + 1 => by
    show (((tpN N v T i).2.1 0).set _ _).length = _
    rw [List.length_set, tp_len i]
theorem tp_I {N : aG} {v : Int32} {T : Nat} (h : N.1 0 = nI T) : ∀ i, (tpN N v T i).1 0 = nI (T + i)
  | 0 => h
  | i + 1 => gI_s
theorem tp_k {N : aG} {v : Int32} {T : Nat} : ∀ i, (∀ k, k ≠ 0 → (tpN N v T i).1 k = N.1 k) ∧ (∀ k, k ≠ 0 → (tpN N v T i).2.1 k = N.2.1 k) ∧ (tpN N v T i).2.2 = N.2.2
  | 0 => ⟨fun _ _ => rfl, fun _ _ => rfl, rfl⟩
  | i + 1 => by
    obtain ⟨h1, h2, h3⟩ := tp_k (N := N) (v := v) (T := T) i
    exact ⟨fun k hk => (gI_n hk).trans (h1 k hk), fun k hk => (gA_n hk).trans (h2 k hk), h3⟩
theorem tp_get {N : aG} {v : Int32} {T : Nat} (hl : (N.2.1 0).length = 700) : ∀ i, i ≤ 4 → T + i ≤ 700 → ∀ j, fG (tpN N v T i) 0 j = if T ≤ j ∧ j < T + i then byC v (24 - 8 * (j - T)) else fG N 0 j
  | 0, _, _, j => by rw [if_neg (by omega)]; rfl
  | i + 1, h4, hT, j => by
    have ih := tp_get (v := v) (T := T) hl i (by omega) (by omega) j
    have e : fG (tpN N v T (i + 1)) 0 j = if j = T + i then byC v (24 - 8 * i) else fG (tpN N v T i) 0 j := by
      show (((tpN N v T i).2.1 0).set (T + i) (byC v (24 - 8 * i))).getD j 0 = _
      rw [ia_set_getD (by rw [tp_len, hl]; omega)]
      rfl
    rw [e]
    by_cases c : j = T + i
    · rw [if_pos c, if_pos (by omega), show j - T = i by omega]
    · rw [if_neg c, ih]
      by_cases c2 : T ≤ j ∧ j < T + i
      · rw [if_pos c2, if_pos (by omega)]
      · rw [if_neg c2, if_neg (by omega)]
theorem fx0 {Z : aG} (q : fx x C σ) (hZ : Z.2.2 = (C.1 0).2.2) : fx x (uG C 0 Z) σ := by
  have kSn : ∀ τ, kS τ ≠ 0 := fun τ => by cases τ <;> decide
  unfold fx at *
  rw [uG_s, uG_n (show 3 ≠ 0 by decide), uG_n (show 11 ≠ 0 by decide), hZ]
  exact ⟨q.1, q.2.1, q.2.2.1, fun τ => by rw [uG_n (kSn τ)]; exact q.2.2.2 τ⟩
theorem e_tape {T : Nat} (q : fx x C σ) (hT : (C.1 0).1 0 = nI T) (hl : ((C.1 0).2.1 0).length = 700) (hT2 : T + 4 ≤ 700) (v : Int32) : ia_cal xs (d + 1) im_Eng_tapeNumber [.ref x, .int v] (tot H x C) = some (none, tot H x (uG C 0 (tpN (C.1 0) v T 4))) := by
  rw [iu_Eng_tapeNumber, iq_Eng_tapeNumber_0]
  have step : ∀ i, i < 4 → ∀ N, ia_qr xs (ia_cal xs d) im_Eng_tapeNumber (N + 1) 2 [.ref x, .int v, .int (nI (24 - 8 * i))] [] (tot H x (uG C 0 (tpN (C.1 0) v T i))) = ia_qr xs (ia_cal xs d) im_Eng_tapeNumber N 2 [.ref x, .int v, .int (nI (24 - 8 * i) + (-8))] [] (tot H x (uG C 0 (tpN (C.1 0) v T (i + 1)))) := by
    intro i hi N
    have i0 : (tpN (C.1 0) v T i).1 0 = nI (T + i) := tp_I hT i
    have w0 : ∀ y, wr ((tpN (C.1 0) v T i).2.1 0) (nI (T + i)) y = some (((tpN (C.1 0) v T i).2.1 0).set (T + i) y) := fun y => wr_nI (by omega) (by rw [tp_len, hl]; omega)
    have i1 : ∀ l, (gA (tpN (C.1 0) v T i) 0 l).1 0 = nI (T + i) := fun l => i0
    have fxr := (tN_Rb (H := H) (fx0 (Z := tpN (C.1 0) v T i) q (tp_k i).2.2)).1
    rw [iq_Eng_tapeNumber_2]
    simp only [↓if_n (nI_pos (show 24 - 8 * i < 2 ^ 31 by omega)), ↓tN_Ib, uG_s, i0, ↓if_p (show nI (T + i) < (700 : Int32) from nI_lt (b := 700) (by omega) (by decide)), ↓fxr, ↓tN_stb, ↓bs (w0 _), uG_G, i1, ↓tN_pfb, nI_1]
    rfl
  have s0 := step 0 (by omega) 999998
  have s1 := step 1 (by omega) 999997
  have s2 := step 2 (by omega) 999996
  have s3 := step 3 (by omega) 999995
  have e0 : uG C 0 (tpN (C.1 0) v T 0) = C := uG_id
  rw [e0] at s0
  refine Eq.trans s0 (Eq.trans s1 (Eq.trans s2 (Eq.trans s3 ?_)))
  show ia_qr xs (ia_cal xs d) im_Eng_tapeNumber (999994 + 1) 2 [.ref x, .int v, .int (-8)] [] _ = _
  rw [iq_Eng_tapeNumber_2, if_p (show (-8 : Int32) < 0 by decide)]
end O39
