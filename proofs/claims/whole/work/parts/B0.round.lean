/-! round: how far one is from another. -/
/-- two who have spoken -/
def adP (st fr to_ : Nat → Int32) (r u v : Nat) : Prop := ∃ i, i < r ∧ (st i = 1 ∨ st i = 2) ∧ ((fr i = nI u ∧ to_ i = nI v) ∨ (fr i = nI v ∧ to_ i = nI u))
/-- who is within so many steps, as the class has it -/
def blF (st fr to_ : Nat → Int32) (r : Nat) (v : Int32) : Nat → Int32
  | 0 => v
  | k + 1 => blF st fr to_ r v k ||| cwF st fr to_ (blF st fr to_ r v k) r
section RD
variable {st fr to_ : Nat → Int32} {r p : Nat}
theorem bB_one6 {j m : Nat} (hj : j < 6) (hm : m < 32) : bB ((1 : Int32) <<< (nI j &&& 31)) m = decide (j = m) := bB_one j (by omega) m hm
/-- one more step: whoever has spoken with one within reach -/
theorem cw_bit (hp : p ≤ 6) (hf : ∀ i, i < r → ∃ m, m < p ∧ fr i = nI m) (ht : ∀ i, i < r → ∃ m, m < p ∧ to_ i = nI m) {ppl : Int32} {v : Nat} (hv : v < 6) : ∀ k, k ≤ r → (bB (cwF st fr to_ ppl k) v = true ↔ ∃ i, i < k ∧ (st i = 1 ∨ st i = 2) ∧ ∃ a b, a < p ∧ b < p ∧ fr i = nI a ∧ to_ i = nI b ∧ (bB ppl a = true ∨ bB ppl b = true) ∧ (v = a ∨ v = b))
  | 0, _ => ⟨fun h => by rw [cwF, bB_0] at h; exact absurd h (by decide), fun ⟨i, hi, _⟩ => by omega⟩
  | k + 1, hk => by
    have ih := cw_bit hp hf ht (ppl := ppl) hv k (by omega)
    obtain ⟨a, ha, ea⟩ := hf k (by omega)
    obtain ⟨b, hb, eb⟩ := ht k (by omega)
    have hz : (((((1 : Int32) <<< (fr k &&& 31)) ||| ((1 : Int32) <<< (to_ k &&& 31))) &&& ppl) = 0) ↔ ¬ (bB ppl a = true ∨ bB ppl b = true) := by
      rw [ea, eb]
      constructor
      · intro e z
        have e1 := congrArg (fun y => bB y a) e
        have e2 := congrArg (fun y => bB y b) e
        simp only [bB_and, bB_or, bB_0, bB_one6 (show a < 6 by omega) (show a < 32 by omega), bB_one6 (show b < 6 by omega) (show a < 32 by omega), bB_one6 (show a < 6 by omega) (show b < 32 by omega), bB_one6 (show b < 6 by omega) (show b < 32 by omega)] at e1 e2
        rcases z with z | z
        · rw [z] at e1; simp at e1
        · rw [z] at e2; simp at e2
      · intro z
        apply bB_ext
        intro m hm
        rw [bB_and, bB_or, bB_0, bB_one6 (by omega) hm, bB_one6 (by omega) hm]
        by_cases c1 : a = m
        · subst c1
          have : bB ppl a = false := by
            cases e : bB ppl a with
            | false => rfl
            | true => exact absurd (Or.inl e) z
          rw [this]; simp
        · by_cases c2 : b = m
          · subst c2
            have : bB ppl b = false := by
              cases e : bB ppl b with
              | false => rfl
              | true => exact absurd (Or.inr e) z
            rw [this]; simp
          · simp [c1, c2]
    have split : (∃ i, i < k + 1 ∧ (st i = 1 ∨ st i = 2) ∧ ∃ a b, a < p ∧ b < p ∧ fr i = nI a ∧ to_ i = nI b ∧ (bB ppl a = true ∨ bB ppl b = true) ∧ (v = a ∨ v = b)) ↔ (∃ i, i < k ∧ (st i = 1 ∨ st i = 2) ∧ ∃ a b, a < p ∧ b < p ∧ fr i = nI a ∧ to_ i = nI b ∧ (bB ppl a = true ∨ bB ppl b = true) ∧ (v = a ∨ v = b)) ∨ ((st k = 1 ∨ st k = 2) ∧ (bB ppl a = true ∨ bB ppl b = true) ∧ (v = a ∨ v = b)) := by
      constructor
      · rintro ⟨i, hi, h1, a', b', ha', hb', e1, e2, h2, h3⟩
        by_cases c : i = k
        · subst c
          have ea' : a' = a := (nI_eq (by omega) (by omega)).mp (e1.symm.trans ea)
          have eb' : b' = b := (nI_eq (by omega) (by omega)).mp (e2.symm.trans eb)
          subst ea'; subst eb'
          exact Or.inr ⟨h1, h2, h3⟩
        · exact Or.inl ⟨i, by omega, h1, a', b', ha', hb', e1, e2, h2, h3⟩
      · rintro (⟨i, hi, z⟩ | ⟨h1, h2, h3⟩)
        · exact ⟨i, by omega, z⟩
        · exact ⟨k, by omega, h1, a, b, ha, hb, ea, eb, h2, h3⟩
    rw [split, cwF]
    by_cases c : (st k = 1 ∨ st k = 2) ∧ ¬ ((((1 : Int32) <<< (fr k &&& 31)) ||| ((1 : Int32) <<< (to_ k &&& 31))) &&& ppl) = 0
    · rw [if_pos c, bB_or, Bool.or_eq_true, ih, bB_or, ea, eb, bB_one6 (by omega) (by omega), bB_one6 (by omega) (by omega), Bool.or_eq_true, decide_eq_true_iff, decide_eq_true_iff]
      have h2 : bB ppl a = true ∨ bB ppl b = true := Classical.byContradiction fun z => c.2 (hz.mpr z)
      constructor
      · rintro (z | z)
        · exact Or.inl z
        · exact Or.inr ⟨c.1, h2, by omega⟩
      · rintro (z | ⟨_, _, z⟩)
        · exact Or.inl z
        · exact Or.inr (by omega)
    · rw [if_neg c, ih]
      constructor
      · exact Or.inl
      · rintro (z | ⟨z1, z2, z3⟩)
        · exact z
        · exact absurd ⟨z1, fun e => hz.mp e z2⟩ c
end RD
