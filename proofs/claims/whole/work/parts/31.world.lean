/-! World: the contracts of its readers. -/
/-- a counted loop: at place i the run is F n i; an iteration takes at most cost cuts -/
theorem lp_up {F : Nat → Nat → Option ia_R} {N cost : Nat} {res : Option ia_R} (hstep : ∀ i, i < N → ∀ n, cost ≤ n → ∃ n', n ≤ n' + cost ∧ F n i = F n' (i + 1)) (hend : ∀ n, F (n + 1) N = res) : ∀ k i, i + k = N → ∀ n, cost * k + 1 ≤ n → F n i = res := by
  intro k
  induction k with
  | zero =>
    intro i hi n hn
    obtain ⟨m, rfl⟩ : ∃ m, n = m + 1 := ⟨n - 1, by omega⟩
    rw [show i = N by omega]
    exact hend m
  | succ k ih =>
    intro i hi n hn
    rw [Nat.mul_succ] at hn
    obtain ⟨n', h1, h2⟩ := hstep i (by omega) n (by omega)
    rw [h2]
    exact ih (i + 1) (by omega) n' (by omega)
theorem rdN {l : List Int32} {i : Nat} (hi : i < l.length) (h31 : l.length < 2 ^ 31) : rd l (nI i) = some (l.getD i 0) := by
  rw [rd_nI (by omega), List.getD_eq_getElem?_getD, List.getElem?_eq_getElem hi]
  rfl
def wfW (X : aW) (t r : Nat) : Prop := X.1 2 = nI t ∧ X.1 3 = nI r ∧ t ≤ 8 ∧ r ≤ 10 ∧ (∀ k, k < 2 → (X.2 k).length = 6) ∧ (∀ k, 2 ≤ k → k < 6 → (X.2 k).length = 8) ∧ ∀ k, 6 ≤ k → k < 12 → (X.2 k).length = 10
/-- how many of the first n are so -/
def cntF (f : Nat → Int32) (how : Int32) : Nat → Nat
  | 0 => 0
  | n + 1 => cntF f how n + if f n = how then 1 else 0
theorem k_ringsThatAre (xs : List Int32) (d : Nat) (h : ia_H) (a : Nat) (X : aW) {t r : Nat} (hw : wfW X t r) (st : Int32) :
    ia_cal xs (d + 1) im_World_ringsThatAre [.ref a, .int st] (pW h a X) = some (some (.int (nI (cntF (fun i => (X.2 10).getD i 0) st r))), pW h a X) := by
  obtain ⟨-, hr, -, hr10, -, -, hlen⟩ := hw
  rw [iu_World_ringsThatAre, iq_World_ringsThatAre_0]
  refine lp_up (F := fun n i => ia_qr xs (ia_cal xs d) im_World_ringsThatAre n 4 [.ref a, .int st, .int (nI (cntF (fun i => (X.2 10).getD i 0) st i)), .int (nI i)] [] (pW h a X)) (N := r) (cost := 1) (fun i hi n hn => ?_) (fun n => ?_) r 0 (by omega) _ (by omega)
  · obtain ⟨m, rfl⟩ : ∃ m, n = m + 1 := ⟨n - 1, by omega⟩
    refine ⟨m, Nat.le_refl _, ?_⟩
    simp only [iq_World_ringsThatAre_4, pW_I, pW_R, pW_ld, Option.bind_some, hr]
    rw [if_pos (nI_lt hi (by omega)), rdN (by rw [hlen 10 (by decide) (by decide)]; omega) (by rw [hlen 10 (by decide) (by decide)]; decide)]
    simp only [Option.bind_some, nI_1, cntF]
    split <;> rfl
  · simp only [iq_World_ringsThatAre_4, pW_I, Option.bind_some, hr]
    rw [if_neg (nI_nlt (Nat.le_refl _) (by omega))]
/-- what the rows of a world are -/
theorem wfW.ln {X : aW} {t r : Nat} (hw : wfW X t r) : (X.2 0).length = 6 ∧ (X.2 1).length = 6 ∧ (X.2 2).length = 8 ∧ (X.2 3).length = 8 ∧ (X.2 4).length = 8 ∧ (X.2 5).length = 8 ∧ (X.2 6).length = 10 ∧ (X.2 7).length = 10 ∧ (X.2 8).length = 10 ∧ (X.2 9).length = 10 ∧ (X.2 10).length = 10 ∧ (X.2 11).length = 10 := by
  obtain ⟨-, -, -, -, h1, h2, h3⟩ := hw
  exact ⟨h1 0 (by decide), h1 1 (by decide), h2 2 (by decide) (by decide), h2 3 (by decide) (by decide), h2 4 (by decide) (by decide), h2 5 (by decide) (by decide), h3 6 (by decide) (by decide), h3 7 (by decide) (by decide), h3 8 (by decide) (by decide), h3 9 (by decide) (by decide), h3 10 (by decide) (by decide), h3 11 (by decide) (by decide)⟩
def fA (X : aW) (k : Nat) : Nat → Int32 := fun i => (X.2 k).getD i 0
/-- tones' rows within, rings' rows within -/
theorem wfW.rt {X : aW} {t r : Nat} (hw : wfW X t r) {i : Nat} (hi : i < t) : rd (X.2 2) (nI i) = some (fA X 2 i) ∧ rd (X.2 3) (nI i) = some (fA X 3 i) ∧ rd (X.2 4) (nI i) = some (fA X 4 i) ∧ rd (X.2 5) (nI i) = some (fA X 5 i) := by
  obtain ⟨-, -, h2, h3, h4, h5, -⟩ := hw.ln
  have := hw.2.2.1
  exact ⟨rdN (by omega) (by omega), rdN (by omega) (by omega), rdN (by omega) (by omega), rdN (by omega) (by omega)⟩
theorem wfW.rr {X : aW} {t r : Nat} (hw : wfW X t r) {i : Nat} (hi : i < r) : rd (X.2 6) (nI i) = some (fA X 6 i) ∧ rd (X.2 7) (nI i) = some (fA X 7 i) ∧ rd (X.2 8) (nI i) = some (fA X 8 i) ∧ rd (X.2 9) (nI i) = some (fA X 9 i) ∧ rd (X.2 10) (nI i) = some (fA X 10 i) ∧ rd (X.2 11) (nI i) = some (fA X 11 i) := by
  obtain ⟨-, -, -, -, -, -, h6, h7, h8, h9, h10, h11⟩ := hw.ln
  have := hw.2.2.2.1
  exact ⟨rdN (by omega) (by omega), rdN (by omega) (by omega), rdN (by omega) (by omega), rdN (by omega) (by omega), rdN (by omega) (by omega), rdN (by omega) (by omega)⟩
/-- a loop that looks for one -/
def srch (P : Nat → Prop) [DecidablePred P] (res : Nat → Option ia_R) (fin : Option ia_R) : Nat → Nat → Option ia_R
  | 0, _ => fin
  | k + 1, i => if P i then res i else srch P res fin k (i + 1)
theorem lp_find {F : Nat → Nat → Option ia_R} {N cost : Nat} {P : Nat → Prop} [DecidablePred P] {res : Nat → Option ia_R} {fin : Option ia_R} (hstep : ∀ i, i < N → ∀ n, cost ≤ n → ∃ n', n ≤ n' + cost ∧ F n i = if P i then res i else F n' (i + 1)) (hend : ∀ n, F (n + 1) N = fin) :
    ∀ k i, i + k = N → ∀ n, cost * k + 1 ≤ n → F n i = srch P res fin k i := by
  intro k
  induction k with
  | zero =>
    intro i hi n hn
    obtain ⟨m, rfl⟩ : ∃ m, n = m + 1 := ⟨n - 1, by omega⟩
    rw [show i = N by omega]
    exact hend m
  | succ k ih =>
    intro i hi n hn
    rw [Nat.mul_succ] at hn
    obtain ⟨n', h1, h2⟩ := hstep i (by omega) n (by omega)
    rw [h2, srch]
    split
    · rfl
    · exact ih (i + 1) (by omega) n' (by omega)
/-- the first place from i on, of k, where it is so; -1 without -/
def fstI (P : Nat → Prop) [DecidablePred P] : Nat → Nat → Int32
  | 0, _ => -1
  | k + 1, i => if P i then nI i else fstI P k (i + 1)
theorem srch_fst {P : Nat → Prop} [DecidablePred P] {h : ia_H} : ∀ k i, srch P (fun i => some (some (.int (nI i)), h)) (some (some (.int (-1)), h)) k i = some (some (.int (fstI P k i)), h)
  | 0, _ => rfl
  | k + 1, i => by
    rw [srch, fstI]
    split
    · rfl
    · exact srch_fst k (i + 1)
/-- the first n places of a row, anew -/
def updTo (l : List Int32) (g : Nat → Int32) : Nat → List Int32
  | 0 => l
  | i + 1 => (updTo l g i).set i (g i)
theorem updTo_len {l : List Int32} {g : Nat → Int32} : ∀ n, (updTo l g n).length = l.length
  | 0 => rfl
  | n + 1 => by rw [updTo, List.length_set, updTo_len n]
theorem updTo_get {l : List Int32} {g : Nat → Int32} : ∀ n j, n ≤ l.length → (updTo l g n).getD j 0 = if j < n then g j else l.getD j 0
  | 0, j, _ => rfl
  | n + 1, j, h => by
    rw [updTo, ia_set_getD (by rw [updTo_len]; omega), updTo_get n j (by omega)]
    by_cases h1 : j = n
    · subst h1
      rw [if_pos rfl, if_pos (Nat.lt_succ_self _)]
    · rw [if_neg h1]
      by_cases h2 : j < n
      · rw [if_pos h2, if_pos (by omega)]
      · rw [if_neg h2, if_neg (by omega)]
theorem updTo_same {l : List Int32} {g : Nat → Int32} {n : Nat} (hn : n < l.length) (hg : g n = l.getD n 0) : updTo l g (n + 1) = updTo l g n := by
  rw [updTo, hg]
  have h1 : (updTo l g n)[n]? = some (l.getD n 0) := by
    have h2 := updTo_get (l := l) (g := g) n n (by omega)
    rw [if_neg (by omega), List.getD_eq_getElem?_getD] at h2
    have h3 : n < (updTo l g n).length := by rw [updTo_len]; exact hn
    rw [List.getElem?_eq_getElem h3] at h2 ⊢
    exact congrArg some h2
  apply List.ext_getElem?
  intro j
  rw [List.getElem?_set]
  by_cases hj : n = j
  · subst hj
    rw [if_pos rfl, h1]
    rw [if_pos (by rw [updTo_len]; exact hn)]
  · rw [if_neg hj]
