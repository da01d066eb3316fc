/-! text: numbers. -/
def dgB (by_ : Nat → Nat) (T i : Nat) : Bool := decide (i < T ∧ 48 ≤ by_ i ∧ by_ i ≤ 57)
/-- a number's value so far, in the class and in the reference -/
def ncF (by_ : Nat → Nat) (i : Nat) : Nat → Nat
  | 0 => 0
  | k + 1 => if ncF by_ i k * 10 + by_ (i + k) - 48 < 1000000 then ncF by_ i k * 10 + by_ (i + k) - 48 else 1000000
def nrF (by_ : Nat → Nat) (i : Nat) : Nat → Nat
  | 0 => 0
  | k + 1 => if 99999 < nrF by_ i k then nrF by_ i k else 10 * nrF by_ i k + by_ (i + k) - 48
theorem nc_nr {by_ : Nat → Nat} {T i : Nat} : ∀ k, (∀ j, j < k → dgB by_ T (i + j) = true) → ncF by_ i k ≤ 1000000 ∧ nrF by_ i k ≤ 999999 ∧ (ncF by_ i k = nrF by_ i k ∨ (99999 < ncF by_ i k ∧ 99999 < nrF by_ i k))
  | 0, _ => ⟨Nat.zero_le _, Nat.zero_le _, Or.inl rfl⟩
  | k + 1, h => by
    obtain ⟨h1, h2, h3⟩ := nc_nr (T := T) k (fun j hj => h j (by omega))
    have hd := of_decide_eq_true (h k (by omega))
    rw [ncF, nrF]
    generalize ncF by_ i k = c at *
    generalize nrF by_ i k = r at *
    generalize by_ (i + k) = b at *
    split <;> split <;> omega
section CX1
variable (xs : List Int32) (d : Nat) {H h : ia_H} {x a : Nat} {C : aC} {M : aG} {by_ : Nat → Nat} {T : Nat}
def nuT (Z : aG) (v j : Nat) : aG := gI (gI Z 2 (nI v)) 4 (nI j)
theorem nuT_n {Z : aG} {v j v' j' : Nat} : gI (gI (nuT Z v j) 2 (nI v')) 4 (nI j') = nuT Z v' j' := by
  refine Prod.ext ?_ rfl
  funext k
  show (if k = 4 then nI j' else if k = 2 then nI v' else if k = 4 then nI j else if k = 2 then nI v else Z.1 k) = if k = 4 then nI j' else if k = 2 then nI v' else Z.1 k
  by_cases c4 : k = 4
  · rw [if_pos c4, if_pos c4]
  · by_cases c2 : k = 2
    · rw [if_neg c4, if_pos c2, if_neg c4, if_pos c2]
    · rw [if_neg c4, if_neg c2, if_neg c4, if_neg c2, if_neg c4, if_neg c2]
end CX1
