/-! World: the contracts of its readers. -/
/-- a counted loop: at place i the run is F n i; an iteration takes at most cost cuts -/
theorem lp_up {F : Nat → Nat → Option ia_R} {N cost : Nat} {res : Option ia_R} (hstep : ∀ i, i < N → ∀ n, cost ≤ n → ∃ n', n ≤ n' + cost ∧ F n i = F n' (i + 1)) (hend : ∀ n, F (n + 1) N = res) : ∀ k i, i + k = N → ∀ n, cost * k + 1 ≤ n → F n i = res := by
  intro k
  induction k with
  | zero =>
    intro i hi n hn
    obtain ⟨m, rfl⟩ : ∃ m, n = m + 1 := ⟨n - 1, by omega⟩
    rw [show i = N by omega]
    exact hend m
  | succ k ih =>
    intro i hi n hn
    rw [Nat.mul_succ] at hn
    obtain ⟨n', h1, h2⟩ := hstep i (by omega) n (by omega)
    rw [h2]
    exact ih (i + 1) (by omega) n' (by omega)
theorem rdN {l : List Int32} {i : Nat} (hi : i < l.length) (h31 : l.length < 2 ^ 31) : rd l (nI i) = some (l.getD i 0) := by
  rw [rd_nI (by omega), List.getD_eq_getElem?_getD, List.getElem?_eq_getElem hi]
  rfl
def wfW (X : aW) (t r : Nat) : Prop := X.1 2 = nI t ∧ X.1 3 = nI r ∧ t ≤ 8 ∧ r ≤ 10 ∧ (∀ k, k < 2 → (X.2 k).length = 6) ∧ (∀ k, 2 ≤ k → k < 6 → (X.2 k).length = 8) ∧ ∀ k, 6 ≤ k → k < 12 → (X.2 k).length = 10
/-- how many of the first n are so -/
def cntF (f : Nat → Int32) (how : Int32) : Nat → Nat
  | 0 => 0
  | n + 1 => cntF f how n + if f n = how then 1 else 0
theorem k_ringsThatAre (xs : List Int32) (d : Nat) (h : ia_H) (a : Nat) (X : aW) {t r : Nat} (hw : wfW X t r) (st : Int32) :
    ia_cal xs (d + 1) im_World_ringsThatAre [.ref a, .int st] (pW h a X) = some (some (.int (nI (cntF (fun i => (X.2 10).getD i 0) st r))), pW h a X) := by
  obtain ⟨-, hr, -, hr10, -, -, hlen⟩ := hw
  rw [iu_World_ringsThatAre, iq_World_ringsThatAre_0]
  refine lp_up (F := fun n i => ia_qr xs (ia_cal xs d) im_World_ringsThatAre n 4 [.ref a, .int st, .int (nI (cntF (fun i => (X.2 10).getD i 0) st i)), .int (nI i)] [] (pW h a X)) (N := r) (cost := 1) (fun i hi n hn => ?_) (fun n => ?_) r 0 (by omega) _ (by omega)
  · obtain ⟨m, rfl⟩ : ∃ m, n = m + 1 := ⟨n - 1, by omega⟩
    refine ⟨m, Nat.le_refl _, ?_⟩
    simp only [iq_World_ringsThatAre_4, pW_I, pW_R, pW_ld, Option.bind_some, hr]
    rw [if_pos (nI_lt hi (by omega)), rdN (by rw [hlen 10 (by decide) (by decide)]; omega) (by rw [hlen 10 (by decide) (by decide)]; decide)]
    simp only [Option.bind_some, nI_1, cntF]
    split <;> rfl
  · simp only [iq_World_ringsThatAre_4, pW_I, Option.bind_some, hr]
    rw [if_neg (nI_nlt (Nat.le_refl _) (by omega))]
