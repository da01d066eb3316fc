/-! text: numbers taken, by class and reference. -/
section CX2
variable (xs : List Int32) (d : Nat) {H h : ia_H} {x a : Nat} {C : aC} {M : aG} {by_ : Nat → Nat} {T : Nat}
theorem t_number (hb : txB (C.1 0) M by_ T) {Z : aG} (hL : Z.1 3 = nI T) (hr : Z.2.2.2.2 0 = x + 1) (i : Nat) (hi : i ≤ T) : ∀ k j N, j + k = T - i → (∀ l, l < j → dgB by_ T (i + l) = true) → k + 1 ≤ N → ia_qr xs (ia_cal xs (d + 2)) im_Tokens_takeNumber N 3 [.ref (x + 79)] [] (tot H x (uG C 6 (nuT Z (ncF by_ i j) (i + j)))) = some (none, tot H x (uG C 6 (nuT Z (ncF by_ i (whN (dgB by_ T) k (i + j) - i)) (whN (dgB by_ T) k (i + j))))) := by
  have hT7 := hb.1
  have s4 : ∀ v j, (nuT Z v j).1 4 = nI j := fun v j => gI_s
  have s2 : ∀ v j, (nuT Z v j).1 2 = nI v := fun v j => rfl
  have s3 : ∀ v j, (nuT Z v j).1 3 = nI T := fun v j => hL
  have sg : ∀ W l, W.1 3 = nI T → W.2.2.2.2 0 = x + 1 → l < 2 ^ 30 → ia_cal xs (d + 2) im_Tokens_signAt [.ref (x + 79), .int (nI l)] (tot H x (uG C 6 W)) = some (some (.int (if l < T then nI (by_ l) else 0)), tot H x (uG C 6 W)) := fun W l e1 e2 hl => by
    refine t_signAt xs (d + 1) (H := H) (x := x) (C := uG C 6 W) (M := M) ?_ (by rw [uG_s]; exact e1) (by rw [uG_s]; exact e2) l hl
    rw [uG_n (by decide)]
    exact hb
  intro k
  induction k with
  | zero =>
    intro j N hj hd hN
    obtain ⟨N, rfl⟩ : ∃ k, N = k + 1 := ⟨N - 1, by omega⟩
    rw [iq_Tokens_takeNumber_3, whN, show i + j - i = j by omega]
    simp only [↓tT_Ib, uG_s, s4, s3, ↓if_n (nI_nlt (show T ≤ i + j by omega) (show i + j < 2 ^ 31 by omega))]
  | succ k ih =>
    intro j N hj hd hN
    obtain ⟨N, rfl⟩ : ∃ k, N = k + 1 := ⟨N - 1, by omega⟩
    have hlt : i + j < T := by omega
    obtain ⟨b1, -⟩ := hb.2.2.2 (i + j) hlt
    have sgn := sg (nuT Z (ncF by_ i j) (i + j)) (i + j) hL hr (by omega)
    rw [if_pos hlt] at sgn
    rw [iq_Tokens_takeNumber_3, whN]
    simp only [↓tT_Ib, uG_s, s4, s3, s2, ↓if_p (nI_lt hlt (show T < 2 ^ 31 by omega)), ↓tT_clsb, ↓cI_of sgn]
    by_cases c1 : by_ (i + j) < 48
    · have nd : ¬ dgB by_ T (i + j) = true := fun z => by have := of_decide_eq_true z; omega
      rw [if_pos (show nI (by_ (i + j)) < (48 : Int32) from nI_lt (b := 48) c1 (by decide)), if_neg nd, show i + j - i = j by omega]
    · rw [if_neg (show ¬ nI (by_ (i + j)) < (48 : Int32) from nI_nlt (b := 48) (by omega) (by omega))]
      by_cases c2 : 57 < by_ (i + j)
      · have nd : ¬ dgB by_ T (i + j) = true := fun z => by have := of_decide_eq_true z; omega
        rw [if_pos (show (57 : Int32) < nI (by_ (i + j)) from nI_lt (a := 57) c2 (by omega)), if_neg nd, show i + j - i = j by omega]
      · have yd : dgB by_ T (i + j) = true := decide_eq_true ⟨hlt, by omega, by omega⟩
        have hd' : ∀ l, l < j + 1 → dgB by_ T (i + l) = true := fun l hl => by
          by_cases c : l = j
          · subst c; exact yd
          · exact hd l (by omega)
        obtain ⟨n1, -, -⟩ := nc_nr j hd
        have ev : nI (ncF by_ i j) * 10 + nI (by_ (i + j)) - 48 = nI (ncF by_ i j * 10 + by_ (i + j) - 48) := by
          rw [show (10 : Int32) = nI 10 from rfl, pk_mul, nI_add]
          exact pk_sub (b := 48) (by omega)
        rw [if_neg (show ¬ (57 : Int32) < nI (by_ (i + j)) from nI_nlt (a := 57) (by omega) (by decide)), if_pos yd]
        have hmin : ∀ g, ia_cal xs (d + 2) im_Math_minI [.int 1000000, .int (nI (ncF by_ i j * 10 + by_ (i + j) - 48))] g = some (some (.int (nI (ncF by_ i (j + 1)))), g) := fun g => by
          rw [k_minI xs (d + 1) (g := g), ncF]
          by_cases cm : ncF by_ i j * 10 + by_ (i + j) - 48 < 1000000
          · rw [if_pos (show nI (ncF by_ i j * 10 + by_ (i + j) - 48) < (1000000 : Int32) from nI_lt (b := 1000000) cm (by decide)), if_pos cm]
          · rw [if_neg (show ¬ nI (ncF by_ i j * 10 + by_ (i + j) - 48) < (1000000 : Int32) from nI_nlt (b := 1000000) (by omega) (by omega)), if_neg cm]
            rfl
        have q4 : ∀ v, (gI (nuT Z (ncF by_ i j) (i + j)) 2 v).1 4 = nI (i + j) := fun v => rfl
        simp only [ev, ↓cI_of (hmin _), ↓tT_pfb, ↓tT_Ib, uG_s, uG_G, q4, nI_1, nuT_n]
        have := ih (j + 1) N (by omega) hd' (by omega)
        exact this
end CX2
