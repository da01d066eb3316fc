/-! text: signs. -/
/-- on while it is so, at most k further -/
def whN (P : Nat → Bool) : Nat → Nat → Nat
  | 0, i => i
  | k + 1, i => if P i = true then whN P k (i + 1) else i
theorem wh_le {P : Nat → Bool} : ∀ k i, i ≤ whN P k i ∧ whN P k i ≤ i + k
  | 0, i => ⟨Nat.le_refl _, Nat.le_refl _⟩
  | k + 1, i => by
    rw [whN]
    split
    · have := wh_le (P := P) k (i + 1)
      omega
    · omega
/-- the bytes of the text: those taped, of class and reference -/
def txB (N M : aG) (by_ : Nat → Nat) (T : Nat) : Prop := T ≤ 700 ∧ (N.2.1 0).length = 700 ∧ (M.2.1 0).length = 700 ∧ ∀ i, i < T → by_ i < 256 ∧ (fG N 0 i) &&& 255 = nI (by_ i) ∧ fG M 0 i = nI (by_ i)
section CX
variable (xs : List Int32) (d : Nat) {H h : ia_H} {x a : Nat} {C : aC} {M : aG} {by_ : Nat → Nat} {T : Nat}
theorem t_signAt (hb : txB (C.1 0) M by_ T) (hL : (C.1 6).1 3 = nI T) (hr : (C.1 6).2.2.2.2 0 = x + 1) (i : Nat) (hi : i < 2 ^ 30) : ia_cal xs (d + 1) im_Tokens_signAt [.ref (x + 79), .int (nI i)] (tot H x C) = some (some (.int (if i < T then nI (by_ i) else 0)), tot H x C) := by
  obtain ⟨h1, h2, h3, h4⟩ := hb
  rw [iu_Tokens_signAt, iq_Tokens_signAt_0]
  simp only [↓if_n (nI_pos (show i < 2 ^ 31 by omega)), ↓tT_Ib, hL]
  by_cases c : i < T
  · have r0 : rd ((C.1 0).2.1 0) (nI i) = some (fG (C.1 0) 0 i) := rdG (by omega) (by omega)
    rw [if_pos (nI_lt c (by omega)), if_pos c]
    simp only [↓tT_Rb, hr, ↓tN_ldb, ↓bs r0, (h4 i c).2.1]
  · rw [if_neg (nI_nlt (by omega) (by omega)), if_neg c]
theorem p_here {N : aG} (hb : txB N M by_ T) (hL : M.1 4 = nI T) {i : Nat} (hi : M.1 5 = nI i) (hi2 : i < 2 ^ 30) : ia_cal xs (d + 1) im_Mod_here [.ref a] (pM h a M) = some (some (.int (if i < T then nI (by_ i) else -1)), pM h a M) := by
  obtain ⟨h1, h2, h3, h4⟩ := hb
  rw [iu_Mod_here, iq_Mod_here_0]
  simp only [↓pM_Ib, hL, hi]
  by_cases c : i < T
  · have r0 : rd (M.2.1 0) (nI i) = some (nI (by_ i)) := by
      rw [rdG (by omega) (by omega), (h4 i c).2.2]
    rw [if_pos (nI_lt c (by omega)), if_pos c]
    simp only [↓pM_Rb, ↓pM_ldb, ↓bs r0]
  · rw [if_neg (nI_nlt (by omega) (by omega)), if_neg c]
theorem p_isSmall (b : Nat) (hb : b < 256) (g : ia_H) : ia_cal xs (d + 1) im_Mod_isSmall [.int (nI b)] g = some (some (.int (if 97 ≤ b ∧ b ≤ 122 then 1 else 0)), g) := by
  rw [iu_Mod_isSmall, iq_Mod_isSmall_0, ok0, ok1]
  by_cases c1 : b < 97
  · rw [if_pos (show nI b < (97 : Int32) from nI_lt (b := 97) c1 (by decide)), if_neg (by omega)]
  · rw [if_neg (show ¬ nI b < (97 : Int32) from nI_nlt (b := 97) (by omega) (by omega))]
    by_cases c2 : 122 < b
    · rw [if_pos (show (122 : Int32) < nI b from nI_lt (a := 122) c2 (by omega)), if_neg (by omega)]
    · rw [if_neg (show ¬ (122 : Int32) < nI b from nI_nlt (a := 122) (by omega) (by decide)), if_pos (by omega)]
theorem p_isDigit (b : Nat) (hb : b < 256) (g : ia_H) : ia_cal xs (d + 1) im_Mod_isDigit [.int (nI b)] g = some (some (.int (if 48 ≤ b ∧ b ≤ 57 then 1 else 0)), g) := by
  rw [iu_Mod_isDigit, iq_Mod_isDigit_0, ok0, ok1]
  by_cases c1 : b < 48
  · rw [if_pos (show nI b < (48 : Int32) from nI_lt (b := 48) c1 (by decide)), if_neg (by omega)]
  · rw [if_neg (show ¬ nI b < (48 : Int32) from nI_nlt (b := 48) (by omega) (by omega))]
    by_cases c2 : 57 < b
    · rw [if_pos (show (57 : Int32) < nI b from nI_lt (a := 57) c2 (by omega)), if_neg (by omega)]
    · rw [if_neg (show ¬ (57 : Int32) < nI b from nI_nlt (a := 57) (by omega) (by decide)), if_pos (by omega)]
end CX
