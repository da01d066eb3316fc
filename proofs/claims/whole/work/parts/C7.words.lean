/-! text: letters packed. -/
theorem or_nI {a b s : Nat} (ha : a * 2 ^ s + b < 2 ^ 31) (hb : b < 2 ^ s) : nI (a * 2 ^ s) ||| nI b = nI (a * 2 ^ s + b) := by
  have e := Nat.two_pow_add_eq_or_of_lt hb a
  rw [Nat.mul_comm] at e
  unfold nI
  rw [← Int32.toBitVec_inj, Int32.toBitVec_or, Int32.toBitVec_ofNat', Int32.toBitVec_ofNat', Int32.toBitVec_ofNat']
  apply BitVec.eq_of_toNat_eq
  rw [BitVec.toNat_or, BitVec.toNat_ofNat, BitVec.toNat_ofNat, BitVec.toNat_ofNat, Nat.mod_eq_of_lt (by omega), Nat.mod_eq_of_lt (by omega), Nat.mod_eq_of_lt (by omega), e]
theorem sh_nI : ∀ m, m < 6 → ∀ l, l < 32 → (nI l) <<< (((5 : Int32) * ((5 : Int32) - nI m)) &&& 31) = nI (l * 2 ^ (5 * (5 - m))) := by decide +kernel
theorem s5_nI {v : Nat} (hv : v < 2 ^ 25) : nI v <<< ((5 : Int32) &&& 31) = nI (v * 2 ^ 5) := by
  unfold nI
  rw [← Int32.toBitVec_inj, Int32.toBitVec_shiftLeft, Int32.toBitVec_ofNat', Int32.toBitVec_ofNat', show (((5 : Int32) &&& 31).toBitVec.smod 32) = 5#32 by decide]
  apply BitVec.eq_of_toNat_eq
  rw [BitVec.shiftLeft_eq', BitVec.toNat_shiftLeft, BitVec.toNat_ofNat, BitVec.toNat_ofNat, Nat.shiftLeft_eq]
  show _ * 2 ^ 5 % _ = _
  rw [Nat.mod_eq_of_lt (show v < 2 ^ 32 by omega), BitVec.toNat_ofNat]
/-- the first letters, 5 bits each -/
def lpF (by_ : Nat → Nat) (i : Nat) : Nat → Nat
  | 0 => 0
  | m + 1 => 32 * lpF by_ i m + (by_ (i + m) - 96)
def pkN (by_ : Nat → Nat) (i m : Nat) : Nat := lpF by_ i (min m 6) * 2 ^ (5 * (6 - min m 6))
def lwB (by_ : Nat → Nat) (T i : Nat) : Bool := decide (i < T ∧ 97 ≤ by_ i ∧ by_ i ≤ 122)
theorem lp_lt {by_ : Nat → Nat} {T i : Nat} : ∀ m, (∀ l, l < m → lwB by_ T (i + l) = true) → lpF by_ i m < 2 ^ (5 * m)
  | 0, _ => Nat.one_pos
  | m + 1, h => by
    have ih := lp_lt m (fun l hl => h l (by omega))
    obtain ⟨-, h1, h2⟩ := of_decide_eq_true (h m (by omega))
    rw [lpF, show 5 * (m + 1) = 5 * m + 5 by omega, Nat.pow_add]
    omega
/-- the class puts a letter to the others -/
theorem pk_cls {by_ : Nat → Nat} {T i m : Nat} (hm : m < 6) (h : ∀ l, l < m + 1 → lwB by_ T (i + l) = true) : nI (pkN by_ i m) ||| (((nI (by_ (i + m)) - 97) + 1) <<< (((5 : Int32) * ((5 : Int32) - nI m)) &&& 31)) = nI (pkN by_ i (m + 1)) := by
  obtain ⟨-, h1, h2⟩ := of_decide_eq_true (h m (by omega))
  have e1 : (nI (by_ (i + m)) - 97) + 1 = nI (by_ (i + m) - 96) := by
    have : nI (by_ (i + m)) - 97 = nI (by_ (i + m) - 97) := pk_sub (b := 97) (by omega)
    rw [this]
    have : nI (by_ (i + m) - 97) + 1 = nI (by_ (i + m) - 97 + 1) := nI_add _ 1
    rw [this, show by_ (i + m) - 97 + 1 = by_ (i + m) - 96 by omega]
  have hl := lp_lt m (fun l hl => h l (by omega))
  have hl2 := lp_lt (m + 1) h
  rw [e1, sh_nI m hm _ (by omega)]
  unfold pkN
  rw [Nat.min_eq_left (show m ≤ 6 by omega), Nat.min_eq_left (show m + 1 ≤ 6 by omega), lpF]
  rw [lpF] at hl2
  generalize lpF by_ i m = A at *
  generalize hs : 5 * (5 - m) = s
  have hs5 : 5 * (6 - m) = s + 5 := by omega
  have hs6 : 5 * (6 - (m + 1)) = s := by omega
  rw [hs5, hs6]
  have p30 : 2 ^ (5 * (m + 1)) * 2 ^ s = 2 ^ 30 := by
    rw [← Nat.pow_add]
    congr 1
    omega
  have hlt : (32 * A + (by_ (i + m) - 96)) * 2 ^ s < 2 ^ 30 := by
    rw [← p30]
    exact Nat.mul_lt_mul_of_pos_right hl2 (Nat.two_pow_pos s)
  have e2 : (32 * A + (by_ (i + m) - 96)) * 2 ^ s = A * 2 ^ (s + 5) + (by_ (i + m) - 96) * 2 ^ s := by
    rw [Nat.pow_add, Nat.add_mul, show 32 * A * 2 ^ s = A * (2 ^ s * 2 ^ 5) from by rw [Nat.mul_comm 32 A, Nat.mul_assoc, Nat.mul_comm (2 ^ s)]]
  rw [e2] at hlt ⊢
  refine or_nI (by omega) ?_
  rw [Nat.pow_add, Nat.mul_comm (2 ^ s)]
  exact Nat.mul_lt_mul_of_pos_right (by omega) (Nat.two_pow_pos s)
theorem pk_more {by_ : Nat → Nat} {i m : Nat} (hm : 6 ≤ m) : pkN by_ i (m + 1) = pkN by_ i m := by
  unfold pkN
  rw [Nat.min_eq_right hm, Nat.min_eq_right (show 6 ≤ m + 1 by omega)]
/-- the reference's letters, so many taken -/
def lyF (by_ : Nat → Nat) (i m : Nat) : Nat → Nat
  | 0 => 0
  | k + 1 => 32 * lyF by_ i m k + (if k < m then by_ (i + k) - 96 else 0)
theorem lr_le {by_ : Nat → Nat} {i m : Nat} : ∀ k, k ≤ m → lyF by_ i m k = lpF by_ i k
  | 0, _ => rfl
  | k + 1, h => by rw [lyF, lpF, lr_le k (by omega), if_pos (by omega)]
theorem lr_ge {by_ : Nat → Nat} {i m : Nat} : ∀ k, lyF by_ i m (m + k) = lpF by_ i m * 2 ^ (5 * k)
  | 0 => by rw [Nat.add_zero, lr_le m (Nat.le_refl _)]; exact (Nat.mul_one _).symm
  | k + 1 => by
    rw [← Nat.add_assoc, lyF, if_neg (by omega), lr_ge k, show 5 * (k + 1) = 5 * k + 5 by omega, Nat.pow_add, Nat.add_zero, Nat.mul_comm 32, Nat.mul_assoc]
theorem lr_pk {by_ : Nat → Nat} {i m : Nat} (hm : m ≤ 6) : lyF by_ i m 6 = pkN by_ i m := by
  have := lr_ge (by_ := by_) (i := i) (m := m) (6 - m)
  rw [show m + (6 - m) = 6 by omega] at this
  rw [this]
  unfold pkN
  rw [Nat.min_eq_left hm]
theorem lr_lt {by_ : Nat → Nat} {T i m : Nat} (h : ∀ l, l < m → lwB by_ T (i + l) = true) : ∀ k, lyF by_ i m k < 2 ^ (5 * k)
  | 0 => Nat.one_pos
  | k + 1 => by
    have ih := lr_lt h k
    rw [lyF, show 5 * (k + 1) = 5 * k + 5 by omega, Nat.pow_add]
    split
    · rename_i c
      obtain ⟨-, h1, h2⟩ := of_decide_eq_true (h k c)
      omega
    · omega
/-- a letter more, of the reference -/
theorem lr_ref {by_ : Nat → Nat} {T i m k : Nat} (hk : k < 6) (h : ∀ l, l < m → lwB by_ T (i + l) = true) (l : Nat) (hl : l = if k < m then by_ (i + k) - 96 else 0) : nI (lyF by_ i m k) <<< ((5 : Int32) &&& 31) ||| nI l = nI (lyF by_ i m (k + 1)) := by
  have hlt := lr_lt h k
  have hlt2 := lr_lt h (k + 1)
  have p1 : 2 ^ (5 * k) ≤ 2 ^ 25 := Nat.pow_le_pow_right (by decide) (by omega)
  have p2 : 2 ^ (5 * (k + 1)) ≤ 2 ^ 30 := Nat.pow_le_pow_right (by decide) (by omega)
  rw [s5_nI (by omega)]
  rw [lyF, ← hl] at hlt2 ⊢
  have l32 : l < 2 ^ 5 := by
    rw [hl]
    split
    · rename_i c
      obtain ⟨-, h1, h2⟩ := of_decide_eq_true (h k c)
      omega
    · decide
  rw [or_nI (by omega) l32, Nat.mul_comm]
