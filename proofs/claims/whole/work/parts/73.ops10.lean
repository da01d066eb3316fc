/-! stop: sets of tones. -/
def pcN (s : Nat) : Nat → Nat
  | 0 => 0
  | i + 1 => pcN s i + (s.testBit i).toNat
theorem pcN_le {s A : Nat} (h : ∀ m, s.testBit m = true → A.testBit m = true) : ∀ i, pcN s i ≤ pcN A i
  | 0 => Nat.le_refl 0
  | i + 1 => by
    rw [pcN, pcN]
    have h1 := pcN_le h i
    have h2 : (s.testBit i).toNat ≤ (A.testBit i).toNat := by
      cases e : s.testBit i with
      | false => exact Nat.zero_le _
      | true => rw [h i e]; exact Nat.le_refl _
    omega
theorem pc_bc : ∀ s, s < 256 → bcI (nI s) = nI (pcN s 8) := by decide +kernel
theorem pc_8 : ∀ s, s < 256 → pcN s 8 ≤ 8 := by decide +kernel
def bsF (v : Int32) : Nat → Int32
  | 0 => 0
  | i + 1 => bsF v i + ((v >>> (nI i &&& 31)) &&& 1)
theorem pc_bs : ∀ s, s < 256 → bsF (nI s) 10 = nI (pcN s 8) := by decide +kernel
def subS (A : Nat) (s : Nat) : Prop := (nI s &&& (nI A ^^^ -1)) = 0
theorem sub_bit {A s : Nat} (hA : A < 256) (hs : s < 256) (h : subS A s) : s ≤ A ∧ pcN s 8 ≤ pcN A 8 := by
  have hb : ∀ m, s.testBit m = true → A.testBit m = true := by
    intro m hm
    by_cases c : m < 32
    · have e := congrArg (fun v => bB v m) h
      simp only [bB_and, bB_not c, bB_nI (show s < 2 ^ 32 by omega), bB_nI (show A < 2 ^ 32 by omega), bB_0, hm, Bool.true_and] at e
      cases ea : A.testBit m with
      | true => rfl
      | false => rw [ea] at e; exact absurd e (by decide)
    · have : s < 2 ^ m := Nat.lt_of_lt_of_le hs (Nat.le_trans (show 256 ≤ 2 ^ 32 by decide) (Nat.pow_le_pow_right (by decide) (by omega)))
      rw [Nat.testBit_lt_two_pow this] at hm
      exact absurd hm (by decide)
  refine ⟨?_, pcN_le hb 8⟩
  have e : s &&& A = s := by
    apply Nat.eq_of_testBit_eq
    intro i
    rw [Nat.testBit_and]
    cases es : s.testBit i with
    | false => rfl
    | true => rw [hb i es]; rfl
  rw [← e]
  exact Nat.and_le_right
theorem or_8 : ∀ i, i < 8 → ∀ u, u < 256 → (nI u ||| ((1 : Int32) <<< (nI i &&& 31))) = nI (u ||| 2 ^ i) ∧ (u ||| 2 ^ i) < 256 := by decide +kernel
theorem lv_nI {st mn : Nat → Int32} {who : Int32} : ∀ i, i ≤ 8 → ∃ u, u < 256 ∧ lvF st mn who i = nI u
  | 0, _ => ⟨0, by decide, rfl⟩
  | i + 1, hi => by
    obtain ⟨u, hu, e⟩ := lv_nI (st := st) (mn := mn) (who := who) i (by omega)
    rw [lvF, e]
    split
    · obtain ⟨h1, h2⟩ := or_8 i (by omega) u hu
      exact ⟨_, h2, h1⟩
    · exact ⟨u, hu, rfl⟩
theorem li_ch (P : Nat → Prop) [DecidablePred P] : ∀ k l, (liF P k l = -2 ∧ ∀ s, l ≤ s → s < l + k → ¬ P s) ∨ ∃ s, l ≤ s ∧ s < l + k ∧ liF P k l = nI s ∧ P s ∧ ∀ j, l ≤ j → j < s → ¬ P j
  | 0, l => Or.inl ⟨rfl, fun s h1 h2 => by omega⟩
  | k + 1, l => by
    rw [liF]
    by_cases c : P l
    · rw [if_pos c]
      exact Or.inr ⟨l, by omega, by omega, rfl, c, fun j h1 h2 => by omega⟩
    · rw [if_neg c]
      rcases li_ch P k (l + 1) with ⟨h1, h2⟩ | ⟨s, h1, h2, h3, h4, h5⟩
      · refine Or.inl ⟨h1, fun s g1 g2 => ?_⟩
        by_cases e : s = l
        · rw [e]; exact c
        · exact h2 s (by omega) (by omega)
      · refine Or.inr ⟨s, by omega, by omega, h3, h4, fun j g1 g2 => ?_⟩
        by_cases e : j = l
        · rw [e]; exact c
        · exact h5 j (by omega) g2
section CHO
variable (Q : Nat → Bool)
/-- class: by size, then by set -/
def stF : Nat → Nat → Int32
  | 0, _ => -2
  | k + 1, few => if liF (fun s => Q s = true ∧ pcN s 8 = few) 256 0 = -2 then stF k (few + 1) else liF (fun s => Q s = true ∧ pcN s 8 = few) 256 0
/-- reference: the best so far -/
def bN : Nat → Option Nat
  | 0 => none
  | s + 1 => match bN s with
    | none => if Q s = true then some s else none
    | some b => if Q s = true ∧ pcN s 8 < pcN b 8 then some s else some b
def oI : Option Nat → Int32
  | none => -2
  | some b => nI b
theorem bN_ch : ∀ k, (bN Q k = none ∧ ∀ s, s < k → ¬ Q s = true) ∨ ∃ b, bN Q k = some b ∧ b < k ∧ Q b = true ∧ ∀ s, s < k → Q s = true → pcN b 8 < pcN s 8 ∨ (pcN b 8 = pcN s 8 ∧ b ≤ s)
  | 0 => Or.inl ⟨rfl, fun s h => by omega⟩
  | k + 1 => by
    rw [bN]
    rcases bN_ch k with ⟨h1, h2⟩ | ⟨b, h1, h2, h3, h4⟩
    · rw [h1]
      by_cases c : Q k = true
      · refine Or.inr ⟨k, if_pos c, by omega, c, fun s g1 g2 => ?_⟩
        by_cases e : s = k
        · subst e; exact Or.inr ⟨rfl, Nat.le_refl _⟩
        · exact absurd g2 (h2 s (by omega))
      · refine Or.inl ⟨if_neg c, fun s g1 => ?_⟩
        by_cases e : s = k
        · subst e; exact c
        · exact h2 s (by omega)
    · rw [h1]
      by_cases c : Q k = true ∧ pcN k 8 < pcN b 8
      · refine Or.inr ⟨k, if_pos c, by omega, c.1, fun s g1 g2 => ?_⟩
        by_cases e : s = k
        · subst e; exact Or.inr ⟨rfl, Nat.le_refl _⟩
        · have := h4 s (by omega) g2
          omega
      · refine Or.inr ⟨b, if_neg c, by omega, h3, fun s g1 g2 => ?_⟩
        by_cases e : s = k
        · subst e
          have : ¬ pcN s 8 < pcN b 8 := fun z => c ⟨g2, z⟩
          omega
        · exact h4 s (by omega) g2
theorem st_bN {A : Nat} (hA : A < 256) (hQ : ∀ s, s < 256 → Q s = true → s ≤ A ∧ pcN s 8 ≤ pcN A 8) : stF Q (pcN A 8 + 1) 0 = oI (bN Q (A + 1)) := by
  rcases bN_ch Q (A + 1) with ⟨h1, h2⟩ | ⟨b, h1, h2, h3, h4⟩
  · rw [h1]
    have key : ∀ k f, stF Q k f = -2 := by
      intro k
      induction k with
      | zero => exact fun f => rfl
      | succ k ih =>
        intro f
        rw [stF]
        rcases li_ch (fun s => Q s = true ∧ pcN s 8 = f) 256 0 with ⟨g1, -⟩ | ⟨s, g1, g2, g3, g4, -⟩
        · rw [if_pos g1, ih]
        · have := (hQ s (by omega) g4.1).1
          exact absurd g4.1 (h2 s (by omega))
    exact key _ _
  · rw [h1]
    have hb := (hQ b (by omega) h3).2
    have key : ∀ k f, f + k = pcN A 8 + 1 → f ≤ pcN b 8 → stF Q k f = nI b := by
      intro k
      induction k with
      | zero => intro f e1 e2; omega
      | succ k ih =>
        intro f e1 e2
        rw [stF]
        rcases li_ch (fun s => Q s = true ∧ pcN s 8 = f) 256 0 with ⟨g1, g2⟩ | ⟨s, g1, g2, g3, g4, g5⟩
        · rw [if_pos g1]
          by_cases e : f = pcN b 8
          · exact absurd ⟨h3, e.symm⟩ (g2 b (by omega) (by omega))
          · exact ih (f + 1) (by omega) (by omega)
        · have hs := (hQ s (by omega) g4.1).1
          have hm := h4 s (by omega) g4.1
          have ef : pcN s 8 = f := g4.2
          have es : s = b := by
            by_cases c : b < s
            · exact absurd ⟨h3, by omega⟩ (g5 b (by omega) c)
            · omega
          have n2 : ¬ nI s = -2 := by
            intro e
            have := congrArg Int32.toInt e
            rw [nI_toInt (by omega)] at this
            have e2 : (-2 : Int32).toInt = -2 := rfl
            omega
          rw [g3, if_neg n2, es]
    exact key _ 0 (by omega) (by omega)
end CHO
section O10
variable (xs : List Int32) (d : Nat) {H h : ia_H} {x a : Nat} {C : aC} {M : aG} {σ : Bool} {p n r t t0 q : Nat}
theorem m_bitsOf (v : Int32) (g : ia_H) : ia_cal xs (d + 1) im_Mod_bitsOf [.int v] g = some (some (.int (bsF v 10)), g) := by
  rw [iu_Mod_bitsOf, iq_Mod_bitsOf_0]
  refine lp_up (F := fun N i => ia_qr xs (ia_cal xs d) im_Mod_bitsOf N 4 [.int v, .int (bsF v i), .int (nI i)] [] g) (N := 10) (cost := 1) (fun i hi N hN => ?_) (fun N => ?_) 10 0 (by omega) _ (by omega)
  · obtain ⟨N, rfl⟩ : ∃ k, N = k + 1 := ⟨N - 1, by omega⟩
    refine ⟨N, Nat.le_refl _, ?_⟩
    show ia_qr xs (ia_cal xs d) im_Mod_bitsOf (N + 1) 4 _ [] g = _
    rw [iq_Mod_bitsOf_4, if_p (show nI i < (10 : Int32) from nI_lt (b := 10) hi (by decide)), nI_1]
    rfl
  · show ia_qr xs (ia_cal xs d) im_Mod_bitsOf (N + 1) 4 _ [] g = _
    rw [iq_Mod_bitsOf_4, if_n (show ¬ nI 10 < (10 : Int32) by decide)]
end O10
