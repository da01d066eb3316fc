/-! Bits of numbers. -/
def bB (x : Int32) (m : Nat) : Bool := x.toBitVec.getLsbD m
theorem bB_or {x y : Int32} {m : Nat} : bB (x ||| y) m = (bB x m || bB y m) := by
  unfold bB
  rw [Int32.toBitVec_or, BitVec.getLsbD_or]
theorem bB_and {x y : Int32} {m : Nat} : bB (x &&& y) m = (bB x m && bB y m) := by
  unfold bB
  rw [Int32.toBitVec_and, BitVec.getLsbD_and]
theorem bB_0 {m : Nat} : bB 0 m = false := by
  unfold bB
  simp
theorem bB_not {x : Int32} {m : Nat} (hm : m < 32) : bB (x ^^^ -1) m = !bB x m := by
  unfold bB
  rw [Int32.toBitVec_xor, BitVec.getLsbD_xor]
  have : ∀ m, m < 32 → (Int32.toBitVec (-1)).getLsbD m = true := by decide
  rw [this m hm]
  simp
theorem bB_one : ∀ j, j < 10 → ∀ m, m < 32 → bB ((1 : Int32) <<< (nI j &&& 31)) m = decide (j = m) := by decide +kernel
theorem bB_ext {x y : Int32} (h : ∀ m, m < 32 → bB x m = bB y m) : x = y := by
  apply Int32.toBitVec_inj.mp
  apply BitVec.eq_of_getLsbD_eq
  intro i hi
  exact h i hi
theorem bB_low {y : Int32} : (y &&& 1) = 0 ↔ bB y 0 = false := by
  constructor
  · intro h
    have : bB (y &&& 1) 0 = false := by rw [h, bB_0]
    rw [bB_and] at this
    have e : bB 1 0 = true := by decide
    rw [e] at this
    simpa using this
  · intro h
    apply bB_ext
    intro m hm
    rw [bB_and, bB_0]
    by_cases h0 : m = 0
    · subst h0
      rw [h]
      rfl
    · have : ∀ m, m < 32 → m ≠ 0 → bB 1 m = false := by decide
      rw [this m hm h0]
      simp
theorem bt_iff {x : Int32} {m : Nat} (hm : m < 32) : ((x >>> (nI m &&& 31)) &&& 1) = 0 ↔ bB x m = false := by
  rw [bB_low]
  unfold bB
  have e1 : ∀ m, m < 32 → ((nI m &&& 31).toBitVec.smod 32).toNat = m := by decide +kernel
  have e2 : (x >>> (nI m &&& 31)).toBitVec = x.toBitVec.sshiftRight m := by
    rw [Int32.toBitVec_shiftRight, BitVec.sshiftRight_eq', e1 m hm]
  rw [e2, BitVec.getLsbD_sshiftRight]
  simp
  omega
theorem bt_iff1 {x : Int32} {m : Nat} (hm : m < 32) : ((x >>> (nI m &&& 31)) &&& 1) = if bB x m then 1 else 0 := by
  apply bB_ext
  intro i hi
  by_cases h : bB x m = true
  · rw [if_pos h, bB_and]
    by_cases h0 : i = 0
    · subst h0
      have : ¬ ((x >>> (nI m &&& 31)) &&& 1) = 0 := fun q => by rw [(bt_iff hm).mp q] at h; cases h
      have : bB (x >>> (nI m &&& 31)) 0 = true := by
        cases hb : bB (x >>> (nI m &&& 31)) 0 with
        | true => rfl
        | false => exact absurd (bB_low.mpr hb) this
      rw [this]
      rfl
    · have : ∀ m, m < 32 → m ≠ 0 → bB 1 m = false := by decide
      rw [this i hi h0]
      simp
  · have h2 : bB x m = false := by simpa using h
    rw [(bt_iff hm).mpr h2, if_neg h]
theorem fstI_none {P : Nat → Prop} [DecidablePred P] : ∀ k i, i + k < 2 ^ 31 → (fstI P k i = -1 ↔ ∀ j, i ≤ j → j < i + k → ¬ P j)
  | 0, i, _ => ⟨fun _ j h1 h2 => by omega, fun _ => rfl⟩
  | k + 1, i, hb => by
    rw [fstI]
    by_cases h : P i
    · rw [if_pos h]
      constructor
      · intro e
        exfalso
        have := congrArg Int32.toInt e
        rw [nI_toInt (by omega)] at this
        have e2 : (-1 : Int32).toInt = -1 := rfl
        omega
      · intro q
        exact absurd h (q i (Nat.le_refl _) (by omega))
    · rw [if_neg h, fstI_none k (i + 1) (by omega)]
      constructor
      · intro q j h1 h2
        by_cases e : j = i
        · subst e; exact h
        · exact q j (by omega) (by omega)
      · intro q j h1 h2
        exact q j (by omega) (by omega)
theorem anyI_none {P : Nat → Prop} [DecidablePred P] : ∀ k i, (anyI P k i = 0 ↔ ∀ j, i ≤ j → j < i + k → ¬ P j)
  | 0, i => ⟨fun _ j h1 h2 => by omega, fun _ => rfl⟩
  | k + 1, i => by
    rw [anyI]
    by_cases h : P i
    · rw [if_pos h]
      constructor
      · intro e
        exact absurd e (by decide)
      · intro q
        exact absurd h (q i (Nat.le_refl _) (by omega))
    · rw [if_neg h, anyI_none k (i + 1)]
      constructor
      · intro q j h1 h2
        by_cases e : j = i
        · subst e; exact h
        · exact q j (by omega) (by omega)
      · intro q j h1 h2
        exact q j (by omega) (by omega)
theorem bB_tk {st fr to_ : Nat → Int32} {m : Nat} (hm : m < 32) : ∀ r, (∀ i, i < r → ∃ f, f < 6 ∧ fr i = nI f) → (∀ i, i < r → ∃ f, f < 6 ∧ to_ i = nI f) → (bB (tkF st fr to_ r) m = false ↔ ∀ j, j < r → ¬ (st j = 1 ∧ (fr j = nI m ∨ to_ j = nI m)))
  | 0, _, _ => ⟨fun _ j hj => by omega, fun _ => bB_0⟩
  | r + 1, h1, h2 => by
    have ih := bB_tk (st := st) hm r (fun i hi => h1 i (by omega)) (fun i hi => h2 i (by omega))
    obtain ⟨f, hf, ef⟩ := h1 r (by omega)
    obtain ⟨g, hg, eg⟩ := h2 r (by omega)
    have key : (∀ j, j < r + 1 → ¬ (st j = 1 ∧ (fr j = nI m ∨ to_ j = nI m))) ↔ ((∀ j, j < r → ¬ (st j = 1 ∧ (fr j = nI m ∨ to_ j = nI m))) ∧ ¬ (st r = 1 ∧ (fr r = nI m ∨ to_ r = nI m))) := by
      constructor
      · intro q
        exact ⟨fun j hj => q j (by omega), q r (by omega)⟩
      · rintro ⟨q1, q2⟩ j hj
        by_cases e : j = r
        · subst e; exact q2
        · exact q1 j (by omega)
    rw [key, tkF]
    by_cases c : st r = 1
    · rw [if_pos c, bB_or, bB_or, ef, eg, bB_one f (by omega) m hm, bB_one g (by omega) m hm, nI_eq (by omega) (by omega), nI_eq (by omega) (by omega)]
      simp only [Bool.or_eq_false_iff, decide_eq_false_iff_not, ih]
      constructor
      · rintro ⟨q1, q2, q3⟩
        exact ⟨q1, fun z => z.2.elim q2 q3⟩
      · rintro ⟨q1, q2⟩
        exact ⟨q1, fun z => q2 ⟨c, Or.inl z⟩, fun z => q2 ⟨c, Or.inr z⟩⟩
    · rw [if_neg c, ih]
      exact ⟨fun q => ⟨q, fun z => c z.1⟩, fun q => q.1⟩
theorem bB_tn {st mn : Nat → Int32} {m : Nat} (hm : m < 32) : ∀ t, (∀ i, i < t → ∃ f, f < 6 ∧ mn i = nI f) → (bB (tnF st mn t) m = false ↔ ∀ j, j < t → ¬ (st j = 1 ∧ mn j = nI m))
  | 0, _ => ⟨fun _ j hj => by omega, fun _ => bB_0⟩
  | r + 1, h1 => by
    have ih := bB_tn (st := st) hm r (fun i hi => h1 i (by omega))
    obtain ⟨f, hf, ef⟩ := h1 r (by omega)
    have key : (∀ j, j < r + 1 → ¬ (st j = 1 ∧ mn j = nI m)) ↔ ((∀ j, j < r → ¬ (st j = 1 ∧ mn j = nI m)) ∧ ¬ (st r = 1 ∧ mn r = nI m)) := by
      constructor
      · intro q
        exact ⟨fun j hj => q j (by omega), q r (by omega)⟩
      · rintro ⟨q1, q2⟩ j hj
        by_cases e : j = r
        · subst e; exact q2
        · exact q1 j (by omega)
    rw [key, tnF]
    by_cases c : st r = 1
    · rw [if_pos c, bB_or, ef, bB_one f (by omega) m hm, nI_eq (by omega) (by omega)]
      simp only [Bool.or_eq_false_iff, decide_eq_false_iff_not, ih]
      constructor
      · rintro ⟨q1, q2⟩
        exact ⟨q1, fun z => q2 z.2⟩
      · rintro ⟨q1, q2⟩
        exact ⟨q1, fun z => q2 ⟨c, z⟩⟩
    · rw [if_neg c, ih]
      exact ⟨fun q => ⟨q, fun z => c z.1⟩, fun q => q.1⟩
section BX
variable {X : aW} {t r p : Nat}
theorem wfX.m2 (hX : wfX X t r p) : ∀ i, i < t → ∃ f, f < 6 ∧ fA X 2 i = nI f := fun i hi => by
  obtain ⟨m, h1, h2⟩ := hX.2.2.1 i hi
  exact ⟨m, by have := hX.2.1; omega, h2⟩
theorem wfX.m6 (hX : wfX X t r p) : ∀ i, i < r → ∃ f, f < 6 ∧ fA X 6 i = nI f := fun i hi => by
  obtain ⟨m, h1, h2⟩ := hX.2.2.2.1 i hi
  exact ⟨m, by have := hX.2.1; omega, h2⟩
theorem wfX.m7 (hX : wfX X t r p) : ∀ i, i < r → ∃ f, f < 6 ∧ fA X 7 i = nI f := fun i hi => by
  obtain ⟨m, h1, h2⟩ := hX.2.2.2.2 i hi
  exact ⟨m, by have := hX.2.1; omega, h2⟩
theorem tk_co (hX : wfX X t r p) {m : Nat} (hm : m < 32) : bB (tkF (fA X 10) (fA X 6) (fA X 7) r) m = false ↔ coI X r (nI m) = -1 := by
  have hr := hX.1.2.2.2.1
  rw [bB_tk hm r hX.m6 hX.m7]
  unfold coI
  rw [fstI_none r 0 (by omega)]
  exact ⟨fun q j _ hj => q j (by omega), fun q j hj => q j (by omega) (by omega)⟩
theorem tn_ht (hX : wfX X t r p) {m : Nat} (hm : m < 32) : bB (tnF (fA X 5) (fA X 2) t) m = false ↔ htI X t (nI m) = 0 := by
  rw [bB_tn hm t hX.m2]
  unfold htI
  rw [anyI_none t 0]
  exact ⟨fun q j _ hj => q j (by omega), fun q j hj => q j (by omega) (by omega)⟩
theorem eg_iff (hX : wfX X t r p) {m : Nat} (hm : m < 32) : bB (engX X t r) m = false ↔ egI X t r (nI m) = 0 := by
  unfold engX egI
  rw [bB_or, Bool.or_eq_false_iff, tk_co hX hm, tn_ht hX hm]
  by_cases c : coI X r (nI m) = -1
  · rw [if_pos c]
    exact ⟨fun q => q.2, fun q => ⟨c, q⟩⟩
  · rw [if_neg c]
    exact ⟨fun q => absurd q.1 c, fun q => absurd q (by decide)⟩
/-- nobody else is engaged -/
theorem eng_hi (hX : wfX X t r p) {m : Nat} (h1 : p ≤ m) (hm : m < 32) : bB (engX X t r) m = false := by
  unfold engX
  rw [bB_or, Bool.or_eq_false_iff, bB_tk hm r hX.m6 hX.m7, bB_tn hm t hX.m2]
  refine ⟨fun j hj z => ?_, fun j hj z => ?_⟩
  · obtain ⟨f, hf, ef⟩ := hX.2.2.2.1 j hj
    obtain ⟨g, hg, eg⟩ := hX.2.2.2.2 j hj
    have hp := hX.2.1
    rcases z.2 with z | z
    · rw [ef, nI_eq (by omega) (by omega)] at z; omega
    · rw [eg, nI_eq (by omega) (by omega)] at z; omega
  · obtain ⟨f, hf, ef⟩ := hX.2.2.1 j hj
    have hp := hX.2.1
    have := z.2
    rw [ef, nI_eq (by omega) (by omega)] at this
    omega
def cntB (k : Nat) : Nat → Nat
  | 0 => 0
  | m + 1 => cntB k m + if k.testBit m then 1 else 0
theorem bc_all : ∀ k, k < 64 → bcI (nI k) = nI (cntB k 6) := by decide +kernel
theorem bB_nI {k m : Nat} (hk : k < 2 ^ 32) : bB (nI k) m = k.testBit m := by
  unfold bB
  rw [BitVec.getLsbD, pk_tn hk]
theorem low6 {x : Int32} (h : ∀ m, 6 ≤ m → m < 32 → bB x m = false) : ∃ k, k < 64 ∧ x = nI k := by
  have e : x &&& 63 = x := by
    apply bB_ext
    intro m hm
    rw [bB_and]
    by_cases c : m < 6
    · have : ∀ m, m < 6 → bB 63 m = true := by decide
      rw [this m c]
      simp
    · rw [h m (by omega) hm]
      rfl
  refine ⟨x.toBitVec.toNat % 2 ^ 6, Nat.mod_lt _ (by decide), ?_⟩
  rw [← pk_and x (m := 63) 6 (by decide), e]
theorem em_bc (hX : wfX X t r p) : bcI (engX X t r) = emF X t r p := by
  have hp := hX.2.1
  obtain ⟨k, hk, ek⟩ := low6 (x := engX X t r) (fun m h1 h2 => eng_hi hX (by omega) h2)
  have tb : ∀ m, m < 32 → k.testBit m = bB (engX X t r) m := fun m _ => by rw [ek, bB_nI (by omega)]
  have e1 : ∀ i, i ≤ 6 → emF X t r i = nI (cntB k i) := by
    intro i
    induction i with
    | zero => intro _; rfl
    | succ i ih =>
      intro hi
      rw [emF, cntB, ih (by omega), tb i (by omega)]
      by_cases c : egI X t r (nI i) = 0
      · rw [if_pos c, if_neg (by rw [(eg_iff hX (by omega)).mpr c]; decide), Nat.add_zero]
      · rw [if_neg c, if_pos, nI_1]
        cases hb : bB (engX X t r) i with
        | true => rfl
        | false => exact absurd ((eg_iff hX (by omega)).mp hb) c
  have e2 : ∀ j, p + j ≤ 6 → cntB k (p + j) = cntB k p := by
    intro j
    induction j with
    | zero => intro _; rfl
    | succ j ih =>
      intro hj
      rw [show p + (j + 1) = (p + j) + 1 by omega, cntB, ih (by omega), tb _ (by omega), eng_hi hX (by omega) (by omega)]
      rfl
  rw [e1 p hp, ← e2 (6 - p) (by omega), show p + (6 - p) = 6 by omega, ek, bc_all k hk]
end BX
