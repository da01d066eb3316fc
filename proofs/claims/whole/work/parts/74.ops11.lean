/-! stop. -/
/-- how a call fares without a set of tones -/
def stS (C : aC) (σ : Bool) (t r p n c s i : Nat) : Int32 := fA (stN (dE (C.1 (kS σ))) (C.1 (kS σ)) (C.1 (kL σ)) t r p n (killX (C.2 1) (nI s) t, 0) i).1 10 c
def stQ (C : aC) (σ : Bool) (t r p n c A s : Nat) : Bool := decide ((nI s &&& (nI A ^^^ -1)) = 0 ∧ ¬ qT (stS C σ t r p n c s) 99 1 = -2)
section O11
variable (xs : List Int32) (d : Nat) {H h : ia_H} {x a : Nat} {C : aC} {M : aG} {σ : Bool} {p n r t t0 q : Nat}
theorem few_c (hR : Rp x C M σ p n r t t0 q) {c A few : Nat} (hc : c < r) (hf : few ≤ 8) : ∀ k s C1 N, s + k = 256 → scC C C1 σ → k + 1 ≤ N → ∃ C4, scC C C4 σ ∧ ia_qr xs (ia_cal xs (d + 18)) im_Eng_fewToStop N 2 [.ref x, .int (nI c), .int (nI A), .int (nI few), .int (nI s)] [] (tot H x C1) = some (some (.int (liF (fun s => stQ C σ t r p n c A s = true ∧ pcN s 8 = few) k s)), tot H x C4) := by
  intro k
  have hX := hR.2.2.1.1
  induction k with
  | zero =>
    intro s C1 N hs hc1 hN
    obtain ⟨N, rfl⟩ : ∃ k, N = k + 1 := ⟨N - 1, by omega⟩
    refine ⟨C1, hc1, ?_⟩
    rw [iq_Eng_fewToStop_2, if_n (show ¬ nI s < (256 : Int32) from nI_nlt (b := 256) (by omega) (by omega))]
    rfl
  | succ k ih =>
    intro s C1 N hs hc1 hN
    obtain ⟨N, rfl⟩ : ∃ k, N = k + 1 := ⟨N - 1, by omega⟩
    have hR1 := hR.sc hc1 hR.sm
    have hpc := pc_8 s (by omega)
    rw [iq_Eng_fewToStop_2, liF, if_p (show nI s < (256 : Int32) from nI_lt (b := 256) (by omega) (by decide))]
    by_cases c1 : (nI s &&& (nI A ^^^ -1)) = 0
    · simp only [↓if_p c1, ↓cI_of (k_bitCount xs (d + 17) (g := tot H x C1) (nI s)), pc_bc s (show s < 256 by omega), nI_1]
      by_cases c2 : pcN s 8 = few
      · rw [if_pos (by rw [c2])]
        obtain ⟨C2, f1, f2, f3, f4⟩ := fo_lk xs (d + 15) (H := H) hR hc1 (j := 1) (by decide) (by decide) hX.1.lnX
        have hk := w_killTones xs (d + 17) (H := H) (x := x) (C := C2) (k := 5) (t := t) (r := r) (by decide) (by rw [f2]; exact hX.1) (nI s)
        rw [f2] at hk
        have fw := f1.w (X := killX (C.2 1) (nI s) t) (kill_wf hX).1.lnX
        obtain ⟨C4, g1, g2⟩ := g_qThrough xs (d + 12) (H := H) fw (by rw [uW_s]; exact kill_wf hX) hc
        rw [uW_s, show ((uW C2 5 (killX (C.2 1) (nI s) t)).1 12).2.2.1 0 = 0 from f3] at g2
        have g2' : ia_cal xs (d + 18) im_Foresight_quartersTillThrough [.ref (x + 109), .int (nI c)] (tot H x (uW C2 5 (killX (C.2 1) (nI s) t))) = some (some (.int (qT (stS C σ t r p n c s) 99 1)), tot H x C4) := g2
        simp only [↓tN_Rb hR1.1, ↓tF_clsb, ↓cV_of f4, ↓tN_Rb f1.2.1, ↓tF_Rb f1.2.1, ↓tW_clsb (show 5 < 7 by decide), ↓cV_of hk, ↓tN_Rb fw.2.1, ↓cI_of g2']
        by_cases c3 : qT (stS C σ t r p n c s) 99 1 = -2
        · have nq : ¬ (stQ C σ t r p n c A s = true ∧ pcN s 8 = few) := fun z => (of_decide_eq_true z.1).2 c3
          rw [if_pos c3, if_neg nq]
          exact ih (s + 1) C4 N (by omega) g1 (by omega)
        · have yq : stQ C σ t r p n c A s = true ∧ pcN s 8 = few := ⟨decide_eq_true ⟨c1, c3⟩, c2⟩
          rw [if_neg c3, if_pos yq]
          exact ⟨C4, g1, rfl⟩
      · have n2 : ¬ nI (pcN s 8) = nI few := fun z => c2 ((nI_eq (by omega) (by omega)).mp z)
        rw [if_neg n2, if_neg (fun z => c2 z.2)]
        exact ih (s + 1) C1 N (by omega) hc1 (by omega)
    · have nq : ¬ (stQ C σ t r p n c A s = true ∧ pcN s 8 = few) := fun z => c1 (of_decide_eq_true z.1).1
      rw [if_neg c1, if_neg nq, nI_1]
      exact ih (s + 1) C1 N (by omega) hc1 (by omega)
theorem stop_c (hR : Rp x C M σ p n r t t0 q) {c A : Nat} (hc : c < r) (hA : pcN A 8 ≤ 8) : ∀ k few C1 N, few + k = pcN A 8 + 1 → scC C C1 σ → k + 1 ≤ N → ∃ C4, scC C C4 σ ∧ ia_qr xs (ia_cal xs (d + 19)) im_Eng_stop N 28 [.ref x, .int (nI c), .int (nI A), .int (nI (pcN A 8)), .int (nI few), .float 0] [] (tot H x C1) = some (some (.int (stF (stQ C σ t r p n c A) k few)), tot H x C4) := by
  intro k
  induction k with
  | zero =>
    intro few C1 N hs hc1 hN
    obtain ⟨N, rfl⟩ : ∃ k, N = k + 1 := ⟨N - 1, by omega⟩
    refine ⟨C1, hc1, ?_⟩
    rw [iq_Eng_stop_28, if_p (nI_lt (by omega) (by omega))]
    rfl
  | succ k ih =>
    intro few C1 N hs hc1 hN
    obtain ⟨N, rfl⟩ : ∃ k, N = k + 1 := ⟨N - 1, by omega⟩
    obtain ⟨C2, g1, g2⟩ := few_c xs d (H := H) (A := A) hR hc (show few ≤ 8 by omega) 256 0 C1 999999 (by omega) hc1 (by omega)
    have g3 : ia_cal xs (d + 19) im_Eng_fewToStop [.ref x, .int (nI c), .int (nI A), .int (nI few)] (tot H x C1) = some (some (.int (liF (fun s => stQ C σ t r p n c A s = true ∧ pcN s 8 = few) 256 0)), tot H x C2) := by
      rw [iu_Eng_fewToStop, iq_Eng_fewToStop_0]
      exact g2
    rw [iq_Eng_stop_28, stF]
    simp only [↓if_n (nI_nlt (show few ≤ pcN A 8 by omega) (by omega)), ↓tN_clsb, ↓cI_of g3, nI_1]
    by_cases c2 : liF (fun s => stQ C σ t r p n c A s = true ∧ pcN s 8 = few) 256 0 = -2
    · rw [if_pos c2, if_pos c2]
      exact ih (few + 1) C2 N (by omega) g1 (by omega)
    · rw [if_neg c2, if_neg c2]
      exact ⟨C2, g1, rfl⟩
theorem rT_pos {f : Nat → Int32} : ∀ k i, 1 ≤ i → i + k ≤ 200 → (0 < rT f k i ↔ ¬ rT f k i = -2)
  | 0, i, _, _ => by rw [rT]; decide
  | k + 1, i, h1, h2 => by
    rw [rT]
    by_cases c : thruI (f i) = 0
    · rw [if_pos c]
      exact rT_pos k (i + 1) (by omega) (by omega)
    · rw [if_neg c]
      refine ⟨fun _ e => ?_, fun _ => nI_lt (a := 0) (by omega) (by omega)⟩
      have := congrArg Int32.toInt e
      rw [nI_toInt (by omega)] at this
      have e2 : (-2 : Int32).toInt = -2 := rfl
      omega
end O11
