/-! text: the words, and which of them stands here. -/
def woL : List Nat := [0, 4, 9, 15, 20, 26, 32, 37, 41, 47, 52, 57, 60, 64, 68, 73, 78, 84, 89, 95, 100, 105]
def wo (n : Nat) : Nat := woL.getD n 0
def wlN (n : Nat) : Nat := wo (n + 1) - wo n - 1
def wcN (n j : Nat) : Nat := (stL 3 (wo n + j)).toInt.toNat
theorem wo_ok : ∀ n, n < 21 → wo (n + 1) = wo n + wlN n + 1 ∧ wo (n + 1) ≤ 105 ∧ 1 ≤ wlN n ∧ wlN n ≤ 5 ∧ stL 3 (wo n + wlN n) = 32 ∧ ∀ j, j < wlN n → stL 3 (wo n + j) = nI (wcN n j) ∧ 97 ≤ wcN n j ∧ wcN n j ≤ 122 := by decide +kernel
theorem wo_21 : wo 21 = 105 := rfl
/-- this word stands from i on, m letters -/
def mtW (by_ : Nat → Nat) (i m n : Nat) : Prop := m = wlN n ∧ ∀ j, j < m → by_ (i + j) = wcN n j
/-- a word's letters, 5 bits each, so many of six -/
def wpF (n : Nat) : Nat → Nat
  | 0 => 0
  | k + 1 => 32 * wpF n k + (if k < wlN n then wcN n k - 96 else 0)
/-- the word's number in the class, which has them in another order -/
def cw (n : Nat) : Nat := if n < 11 then n else if n < 14 then n + 7 else n - 3
theorem cw_ok : ∀ n, n < 21 → cw n < 21 ∧ ∀ n', n' < 21 → cw n = cw n' → n = n' := by decide +kernel
theorem cw_on : ∀ w, w < 21 → ∃ n, n < 21 ∧ cw n = w := by
  have : ∀ w, w < 21 → (if w < 11 then w else if w < 18 then w + 3 else w - 7) < 21 ∧ cw (if w < 11 then w else if w < 18 then w + 3 else w - 7) = w := by decide +kernel
  exact fun w hw => ⟨_, this w hw⟩
theorem wp_L : ∀ n, n < 21 → wordL.getD (cw n) 0 = nI (wpF n 6) ∧ wpF n 6 < 2 ^ 30 := by decide +kernel
theorem lw_inj {by_ : Nat → Nat} {T i m n : Nat} (hn : n < 21) (h : ∀ l, l < m → lwB by_ T (i + l) = true) : ∀ k, lyF by_ i m k = wpF n k → ∀ j, j < k → (if j < m then by_ (i + j) - 96 else 0) = (if j < wlN n then wcN n j - 96 else 0)
  | 0, _, j, hj => absurd hj (by omega)
  | k + 1, e, j, hj => by
    rw [lyF, wpF] at e
    have b1 : (if k < m then by_ (i + k) - 96 else 0) < 32 := by
      split
      · rename_i c
        obtain ⟨-, h1, h2⟩ := of_decide_eq_true (h k c)
        omega
      · decide
    have b2 : (if k < wlN n then wcN n k - 96 else 0) < 32 := by
      split
      · rename_i c
        obtain ⟨-, h1, h2⟩ := (wo_ok n hn).2.2.2.2.2 k c
        omega
      · decide
    by_cases c : j = k
    · subst c
      generalize (if j < m then by_ (i + j) - 96 else 0) = u at *
      generalize (if j < wlN n then wcN n j - 96 else 0) = w at *
      omega
    · refine lw_inj hn h k ?_ j (by omega)
      generalize (if k < m then by_ (i + k) - 96 else 0) = u at *
      generalize (if k < wlN n then wcN n k - 96 else 0) = w at *
      omega
theorem wp_eq {by_ : Nat → Nat} {i m n : Nat} (he : mtW by_ i m n) : ∀ k, lyF by_ i m k = wpF n k
  | 0 => rfl
  | k + 1 => by
    rw [lyF, wpF, wp_eq he k, he.1]
    by_cases c : k < wlN n
    · rw [if_pos c, if_pos c, he.2 k (by rw [he.1]; exact c)]
    · rw [if_neg c, if_neg c]
/-- the class knows a word by its letters packed -/
theorem mt_pk {by_ : Nat → Nat} {T i m n : Nat} (hn : n < 21) (hm1 : 1 ≤ m) (hm : m ≤ 6) (h : ∀ l, l < m → lwB by_ T (i + l) = true) : wordL.getD (cw n) 0 = nI (pkN by_ i m) ↔ mtW by_ i m n := by
  obtain ⟨e1, e2⟩ := wp_L n hn
  have hlt := lr_lt h 6
  rw [e1, ← lr_pk hm, nI_eq (by omega) (by omega)]
  constructor
  · intro e
    have g := lw_inj hn h 6 e.symm
    obtain ⟨-, -, w1, w2, -, w3⟩ := wo_ok n hn
    have hml : m = wlN n := by
      rcases Nat.lt_trichotomy m (wlN n) with c | c | c
      · have := g m (by omega)
        rw [if_neg (by omega), if_pos c] at this
        have := w3 m c
        omega
      · exact c
      · have := g (wlN n) (by omega)
        rw [if_pos c, if_neg (by omega)] at this
        have := (of_decide_eq_true (h _ c)).2
        omega
    refine ⟨hml, fun j hj => ?_⟩
    have t1 := g j (by omega)
    have t2 := w3 j (by omega)
    have t3 := (of_decide_eq_true (h _ hj)).2
    rw [if_pos hj, if_pos (by omega)] at t1
    omega
  · intro he
    exact (wp_eq he 6).symm
/-- the word that stands here, from the n-th on; 21 if none -/
def wnF (by_ : Nat → Nat) (i m : Nat) : Nat → Nat → Nat
  | 0, n => n
  | k + 1, n => if m = wlN n ∧ (∀ j, j < m → by_ (i + j) = wcN n j) then n else wnF by_ i m k (n + 1)
theorem mt_one {by_ : Nat → Nat} {T i m n n' : Nat} (hn : n < 21) (hn' : n' < 21) (hm1 : 1 ≤ m) (hm : m ≤ 6) (h : ∀ l, l < m → lwB by_ T (i + l) = true) (h1 : mtW by_ i m n) (h2 : mtW by_ i m n') : n = n' := by
  have e1 := (mt_pk hn hm1 hm h).mpr h1
  have e2 := (mt_pk hn' hm1 hm h).mpr h2
  have di : ∀ n, n < 21 → ∀ n', n' < 21 → wordL.getD (cw n) 0 = wordL.getD (cw n') 0 → n = n' := by decide +kernel
  exact di n hn n' hn' (e1.trans e2.symm)
theorem wn_le {by_ : Nat → Nat} {i m : Nat} : ∀ k n, n ≤ wnF by_ i m k n ∧ wnF by_ i m k n ≤ n + k
  | 0, n => ⟨Nat.le_refl _, Nat.le_refl _⟩
  | k + 1, n => by
    rw [wnF]
    split
    · exact ⟨Nat.le_refl _, by omega⟩
    · have := wn_le (by_ := by_) (i := i) (m := m) k (n + 1)
      omega
theorem wn_lt {by_ : Nat → Nat} {i m : Nat} : ∀ k n, wnF by_ i m k n < n + k → mtW by_ i m (wnF by_ i m k n)
  | 0, n, h => absurd h (by rw [wnF]; omega)
  | k + 1, n, h => by
    rw [wnF] at h ⊢
    by_cases c : m = wlN n ∧ (∀ j, j < m → by_ (i + j) = wcN n j)
    · rw [if_pos c]
      exact c
    · rw [if_neg c] at h ⊢
      exact wn_lt k (n + 1) (by omega)
theorem wn_not {by_ : Nat → Nat} {i m : Nat} : ∀ k n, wnF by_ i m k n = n + k → ∀ j, n ≤ j → j < n + k → ¬ mtW by_ i m j
  | 0, n, _, j, h1, h2 => absurd h2 (by omega)
  | k + 1, n, h, j, h1, h2 => by
    rw [wnF] at h
    by_cases c : m = wlN n ∧ (∀ j, j < m → by_ (i + j) = wcN n j)
    · rw [if_pos c] at h
      omega
    · rw [if_neg c] at h
      by_cases e : j = n
      · rw [e]
        exact c
      · exact wn_not k (n + 1) (by omega) j (by omega) (by omega)
