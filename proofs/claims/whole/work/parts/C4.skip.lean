/-! text: blanks skipped. -/
def spB (by_ : Nat → Nat) (T i : Nat) : Bool := decide (i < T ∧ (by_ i = 32 ∨ by_ i = 10))
section CX4
variable (xs : List Int32) (d : Nat) {H h : ia_H} {x a : Nat} {C : aC} {M : aG} {by_ : Nat → Nat} {T : Nat}
theorem t_skip (hb : txB (C.1 0) M by_ T) {Z : aG} (hL : Z.1 3 = nI T) (hr : Z.2.2.2.2 0 = x + 1) : ∀ k i F, i + k = T → 2 * k + 1 ≤ F → ∃ F', F ≤ F' + 2 * k + 1 ∧ ia_qr xs (ia_cal xs (d + 2)) im_Tokens_next F 0 [.ref (x + 79), .float 0] [] (tot H x (uG C 6 (gI Z 4 (nI i)))) = ia_qr xs (ia_cal xs (d + 2)) im_Tokens_next F' 24 [.ref (x + 79), .float 0] [] (tot H x (uG C 6 (gI Z 4 (nI (whN (spB by_ T) k i))))) := by
  have hT7 := hb.1
  have s4 : ∀ j, (gI Z 4 (nI j)).1 4 = nI j := fun j => gI_s
  have s3 : ∀ j, (gI Z 4 (nI j)).1 3 = nI T := fun j => hL
  have sg : ∀ l, l < 2 ^ 30 → ia_cal xs (d + 2) im_Tokens_signAt [.ref (x + 79), .int (nI l)] (tot H x (uG C 6 (gI Z 4 (nI l)))) = some (some (.int (if l < T then nI (by_ l) else 0)), tot H x (uG C 6 (gI Z 4 (nI l)))) := fun l hl => by
    refine t_signAt xs (d + 1) (H := H) (x := x) (C := uG C 6 (gI Z 4 (nI l))) (M := M) ?_ (by rw [uG_s]; exact hL) (by rw [uG_s]; exact hr) l hl
    rw [uG_n (by decide)]
    exact hb
  intro k
  induction k with
  | zero =>
    intro i F hi hF
    obtain ⟨F, rfl⟩ : ∃ k, F = k + 1 := ⟨F - 1, by omega⟩
    refine ⟨F, by omega, ?_⟩
    rw [iq_Tokens_next_0, whN]
    simp only [↓tT_Ib, uG_s, s4, s3, ↓if_n (nI_nlt (show T ≤ i by omega) (show i < 2 ^ 31 by omega))]
  | succ k ih =>
    intro i F hi hF
    obtain ⟨F, rfl⟩ : ∃ k, F = k + 1 + 1 := ⟨F - 2, by omega⟩
    have hlt : i < T := by omega
    obtain ⟨b1, -⟩ := hb.2.2.2 i hlt
    have sgn := sg i (by omega)
    rw [if_pos hlt] at sgn
    have e32 : (nI (by_ i) = (32 : Int32)) ↔ by_ i = 32 := nI_eq (a := by_ i) (b := 32) (by omega) (by omega)
    have e10 : (nI (by_ i) = (10 : Int32)) ↔ by_ i = 10 := nI_eq (a := by_ i) (b := 10) (by omega) (by omega)
    have i4 : ∀ j j', gI (gI Z 4 (nI j)) 4 (nI j') = gI Z 4 (nI j') := fun j j' => gI_I
    obtain ⟨F', g1, g2⟩ := ih (i + 1) F (by omega) (by omega)
    rw [iq_Tokens_next_0, whN]
    simp only [↓tT_Ib, uG_s, s4, s3, ↓if_p (nI_lt hlt (show T < 2 ^ 31 by omega)), ↓tT_clsb, ↓cI_of sgn, iq_Tokens_next_17, ↓tT_pfb, uG_G, nI_1, i4]
    by_cases c1 : by_ i = 32
    · rw [if_pos (e32.mpr c1), if_pos (show spB by_ T i = true from decide_eq_true ⟨hlt, Or.inl c1⟩)]
      exact ⟨F', by omega, g2⟩
    · rw [if_neg (fun z => c1 (e32.mp z))]
      by_cases c2 : by_ i = 10
      · rw [if_pos (e10.mpr c2), if_pos (show spB by_ T i = true from decide_eq_true ⟨hlt, Or.inr c2⟩)]
        exact ⟨F', by omega, g2⟩
      · rw [if_neg (fun z => c2 (e10.mp z)), if_neg (show ¬ spB by_ T i = true from fun z => by rcases (of_decide_eq_true z).2 with z | z; exact c1 z; exact c2 z)]
        exact ⟨F + 1, by omega, rfl⟩
end CX4
