/-! The reference: a law worked out. -/
def smI (v : Int64) : Prop := -1000000000000 ≤ v.toInt ∧ v.toInt ≤ 1000000000000
def smA (st : List Int64) : Prop := ∀ v ∈ st, smI v
theorem sm32 (x : Int32) : smI x.toInt64 := by
  unfold smI
  rw [Int32.toInt_toInt64]
  have h1 := Int32.le_toInt x
  have h2 := Int32.toInt_lt x
  omega
theorem sm0 : smI 0 := by unfold smI; decide
theorem neg_t {y : Int64} (h : -2000000000000 ≤ y.toInt) (h2 : y.toInt ≤ 2000000000000) : (-y).toInt = -y.toInt := by
  rw [Int64.toInt_neg, Int.bmod_def]
  split <;> omega
theorem abs_t {y : Int64} (h : smI y) : (if y < 0 then -y else y).toInt = if y.toInt < 0 then -y.toInt else y.toInt := by
  obtain ⟨h1, h2⟩ := h
  have e0 : (0 : Int64).toInt = 0 := rfl
  by_cases c : y < 0
  · have c2 := Int64.lt_iff_toInt_lt.mp c
    rw [e0] at c2
    rw [if_pos c, if_pos c2, neg_t (by omega) (by omega)]
  · have c2 : ¬ y.toInt < 0 := fun q => c (Int64.lt_iff_toInt_lt.mpr (by rw [e0]; exact q))
    rw [if_neg c, if_neg c2]
theorem i64_0 {x : Int64} (h : x.toInt = 0) : x = 0 := Int64.toInt_inj.mp h
theorem mul_ok {x y : Int64} (hx : smI x) (hy : smI y) (h0 : ¬ x = 0) : (1000000000000 / (if x < 0 then -x else x) < (if y < 0 then -y else y)) ↔ (1000000000000 / (if x < 0 then -x else x) < y ∨ y < -(1000000000000 / (if x < 0 then -x else x))) := by
  have ha := abs_t hx
  have hb := abs_t hy
  have hx0 : x.toInt ≠ 0 := fun q => h0 (i64_0 q)
  generalize (if x < 0 then -x else x) = ax at *
  generalize (if y < 0 then -y else y) = ay at *
  have hm : ((1000000000000 : Int64) / ax).toInt = (1000000000000 : Int) / ax.toInt := by
    rw [Int64.toInt_div_of_ne_left _ _ (by decide)]
    have e : (1000000000000 : Int64).toInt = 1000000000000 := by decide
    rw [e]
    exact Int.tdiv_eq_ediv_of_nonneg (by decide)
  have hp : 0 < ax.toInt := by rw [ha]; split <;> omega
  have hm0 : 0 ≤ (1000000000000 : Int) / ax.toInt := Int.ediv_nonneg (by decide) (by omega)
  have hm1 : (1000000000000 : Int) / ax.toInt ≤ 1000000000000 := Int.ediv_le_self _ (by decide)
  rw [← hm] at hm0 hm1
  generalize (1000000000000 : Int64) / ax = m at *
  rw [Int64.lt_iff_toInt_lt, Int64.lt_iff_toInt_lt, Int64.lt_iff_toInt_lt, neg_t (by omega) (by omega), hb]
  split <;> omega
def sgR (k v : Int32) : Prop := (k = 28 ∧ v = 43) ∨ (k = 29 ∧ v = 45) ∨ (k = 30 ∧ v = 42) ∨ (k = 31 ∧ v = 47) ∨ (k = 32 ∧ v = 61) ∨ (k = 33 ∧ v = 60) ∨ (k = 34 ∧ v = 256) ∨ (k = 35 ∧ v = 257) ∨ (k = 36 ∧ v = 62) ∨ (k = 37 ∧ v = 258) ∨ (k = 23 ∧ v = 261) ∨ (k = 22 ∧ v = 262)
abbrev ovr (v : Int64) : Prop := 1000000000000 < v ∨ v < -1000000000000
theorem ovr_sm {v : Int64} (h : ¬ ovr v) : smI v := by
  have e1 : (1000000000000 : Int64).toInt = 1000000000000 := by decide
  have e2 : (-1000000000000 : Int64).toInt = -1000000000000 := by decide
  constructor
  · apply Int.not_lt.mp
    intro q
    exact h (Or.inr (Int64.lt_iff_toInt_lt.mpr (by rw [e2]; exact q)))
  · apply Int.not_lt.mp
    intro q
    exact h (Or.inl (Int64.lt_iff_toInt_lt.mpr (by rw [e1]; exact q)))
theorem sm_ovr {v : Int64} (h : smI v) : ¬ ovr v := by
  have e1 : (1000000000000 : Int64).toInt = 1000000000000 := by decide
  have e2 : (-1000000000000 : Int64).toInt = -1000000000000 := by decide
  obtain ⟨h1, h2⟩ := h
  rintro (q | q)
  · have := Int64.lt_iff_toInt_lt.mp q
    omega
  · have := Int64.lt_iff_toInt_lt.mp q
    omega
theorem ovr_min : ovr (-9223372036854775808) := Or.inr (by decide)
section KW2
variable (xs : List Int32) (d : Nat) {h : ia_H} {a : Nat} {M : aG} {b : Nat} {X : aW} {dr : Int32} {ms vs : List Int64}
theorem m_is (v : Int32) (g : ia_H) : ia_cal xs (d + 1) im_Mod_is [.int v] g = some (some (.long (if v = 0 then 0 else 1)), g) := by
  rw [iu_Mod_is, iq_Mod_is_0]
  split <;> rfl
theorem m_w171 (c : Nat → List Value → ia_H → Option ia_R) (N : Nat) (v : Int64) {q : Nat} (hvs : vs.length = 64) (hq : q < 64) : ia_qr xs c im_Mod_works (N + 1) 171 [.ref a, .float 0, .float 0, .float 0, .float 0, .float 0, .long v, .float 0] [] (my h a M b X dr (nI (q + 1)) (ms, vs)) = some (some (.int (if ovr v then 0 else 1)), my h a M b X dr (nI (q + 1)) (ms, vs.set q v)) := by
  rw [iq_Mod_works_171]
  have e : nI (q + 1) - 1 = nI q := nI_pred q
  have w1 : wr vs (nI q) v = some (vs.set q v) := wr_nI (by omega) (by omega)
  simp only [↓my_Rb, ↓my_Ib, e, ↓my_lsb, ↓bs w1, ↓ok0, ↓ok1, lgp, lgn]
  unfold ovr
  by_cases c1 : 1000000000000 < v
  · simp only [if_pos c1, if_pos (Or.inl c1 : 1000000000000 < v ∨ v < -1000000000000)]
  · by_cases c2 : v < -1000000000000
    · simp only [if_neg c1, if_pos c2, if_pos (Or.inr c2 : 1000000000000 < v ∨ v < -1000000000000)]
    · simp only [if_neg c1, if_neg c2, if_neg (fun z : 1000000000000 < v ∨ v < -1000000000000 => z.elim c1 c2)]
theorem m_worksJ {k v : Int32} (hk : sgR k v) {x y : Int64} {r : List Int64} (hvs : vs.length = 64) (hr : r.length + 2 ≤ 64) (hag : ag vs (y :: x :: r)) (hx : smI x) (hy : smI y) :
    ∃ vs', vs'.length = 64 ∧ (¬ ovr (jnV k x y) → ag vs' (jnV k x y :: r)) ∧ ia_cal xs (d + 2) im_Mod_works [.ref a, .int v] (my h a M b X dr (nI (r.length + 2)) (ms, vs)) = some (some (.int (if ovr (jnV k x y) then 0 else 1)), my h a M b X dr (nI (r.length + 1)) (ms, vs')) := by
  have e1 : nI (r.length + 2) - 1 = nI (r.length + 1) := nI_pred _
  have e2 : nI (r.length + 2) - 2 = nI r.length := by
    rw [show (2 : Int32) = nI 2 from rfl, pk_sub (by omega)]
    rfl
  have g1 : rd vs (nI (r.length + 1)) = some y := by rw [rdL (by omega) (by omega)]; exact congrArg some hag.1
  have g2 : rd vs (nI r.length) = some x := by rw [rdL (by omega) (by omega)]; exact congrArg some hag.2.1
  have key : ∀ N w, w = jnV k x y → ∃ vs', vs'.length = 64 ∧ (¬ ovr (jnV k x y) → ag vs' (jnV k x y :: r)) ∧ ia_qr xs (ia_cal xs (d + 1)) im_Mod_works (N + 1) 171 [.ref a, .float 0, .float 0, .float 0, .float 0, .float 0, .long w, .float 0] [] (my h a M b X dr (nI (r.length + 1)) (ms, vs)) = some (some (.int (if ovr (jnV k x y) then 0 else 1)), my h a M b X dr (nI (r.length + 1)) (ms, vs')) := by
    intro N w hw
    subst hw
    refine ⟨vs.set r.length (jnV k x y), by rw [List.length_set]; exact hvs, fun _ => ag_push (by omega) hag.2.2, ?_⟩
    exact m_w171 xs _ N _ hvs (by omega)
  have err : jnV k x y = -9223372036854775808 → ∃ vs', vs'.length = 64 ∧ (¬ ovr (jnV k x y) → ag vs' (jnV k x y :: r)) ∧ some (some (Value.int 0), my h a M b X dr (nI (r.length + 1)) (ms, vs)) = some (some (.int (if ovr (jnV k x y) then 0 else 1)), my h a M b X dr (nI (r.length + 1)) (ms, vs')) := by
    intro q
    rw [q]
    exact ⟨vs, hvs, fun z => absurd ovr_min z, by rw [if_pos ovr_min]⟩
  have n24 : ∀ N s w, w = jnV k x y → w = (if s = (0 : Int32) then 0 else 1) → ∀ pc, (pc = 91 ∨ pc = 101 ∨ pc = 111 ∨ pc = 121 ∨ pc = 131 ∨ pc = 141 ∨ pc = 155 ∨ pc = 169) → ∃ vs', vs'.length = 64 ∧ (¬ ovr (jnV k x y) → ag vs' (jnV k x y :: r)) ∧ ia_qr xs (ia_cal xs (d + 1)) im_Mod_works (N + 1 + 1) pc [.ref a, .float 0, .float 0, .float 0, .float 0, .float 0, .float 0, .float 0] [.int s] (my h a M b X dr (nI (r.length + 1)) (ms, vs)) = some (some (.int (if ovr (jnV k x y) then 0 else 1)), my h a M b X dr (nI (r.length + 1)) (ms, vs')) := by
    intro N s w hw hs pc hpc
    rcases hpc with rfl | rfl | rfl | rfl | rfl | rfl | rfl | rfl
    · rw [iq_Mod_works_91]; simp only [↓cL_of (m_is xs d s _), ← hs]; exact key N w hw
    · rw [iq_Mod_works_101]; simp only [↓cL_of (m_is xs d s _), ← hs]; exact key N w hw
    · rw [iq_Mod_works_111]; simp only [↓cL_of (m_is xs d s _), ← hs]; exact key N w hw
    · rw [iq_Mod_works_121]; simp only [↓cL_of (m_is xs d s _), ← hs]; exact key N w hw
    · rw [iq_Mod_works_131]; simp only [↓cL_of (m_is xs d s _), ← hs]; exact key N w hw
    · rw [iq_Mod_works_141]; simp only [↓cL_of (m_is xs d s _), ← hs]; exact key N w hw
    · rw [iq_Mod_works_155]; simp only [↓cL_of (m_is xs d s _), ← hs]; exact key N w hw
    · rw [iq_Mod_works_169]; simp only [↓cL_of (m_is xs d s _), ← hs]; exact key N w hw
  rw [iu_Mod_works, iq_Mod_works_0]
  simp only [↓my_Rb, ↓my_Ib, e1, e2, ↓my_llb, ↓bs g1, ↓bs g2, ↓my_pfw, ↓ok0, ↓cL_of (k_absJ xs d _ _), lg0, lgp, lgn]
  rcases hk with ⟨rfl, rfl⟩ | ⟨rfl, rfl⟩ | ⟨rfl, rfl⟩ | ⟨rfl, rfl⟩ | ⟨rfl, rfl⟩ | ⟨rfl, rfl⟩ | ⟨rfl, rfl⟩ | ⟨rfl, rfl⟩ | ⟨rfl, rfl⟩ | ⟨rfl, rfl⟩ | ⟨rfl, rfl⟩ | ⟨rfl, rfl⟩
  · exact key _ _ (by simp [jnV])
  · exact key _ _ (by simp [jnV])
  · have ej : jnV 30 x y = if x = 0 then x * y else (if 1000000000000 / (if x < 0 then -x else x) < (if y < 0 then -y else y) then -9223372036854775808 else x * y) := by
      by_cases c0 : x = 0
      · rw [if_pos c0]
        have := sm_ovr hy
        unfold ovr at this
        simp [jnV, c0]
        exact ⟨Int64.not_lt.mp fun q => this (Or.inl q), Int64.not_lt.mp fun q => this (Or.inr q)⟩
      · rw [if_neg c0]
        have hm := mul_ok hx hy c0
        simp only [jnV]
        simp only [show ¬ (30 : Int32) = 22 by decide, show ¬ (30 : Int32) = 23 by decide, show ¬ (30 : Int32) = 28 by decide, show ¬ (30 : Int32) = 29 by decide, if_false, if_true, if_neg c0]
        by_cases c1 : 1000000000000 / (if x < 0 then -x else x) < (if y < 0 then -y else y)
        · rw [if_pos c1, if_pos (hm.mp c1)]
        · rw [if_neg c1, if_neg (fun q => c1 (hm.mpr q))]
    by_cases c0 : x = 0
    · rw [if_neg (by decide), if_pos (by decide), if_pos c0, iq_Mod_works_68]
      exact key _ _ (by rw [ej, if_pos c0])
    · rw [if_neg (by decide), if_pos (by decide), if_neg c0, if_neg]
      · by_cases c1 : 1000000000000 / (if x < 0 then -x else x) < (if y < 0 then -y else y)
        · rw [if_pos c1]
          exact err (by rw [ej, if_neg c0, if_pos c1])
        · rw [if_neg c1, iq_Mod_works_68]
          exact key _ _ (by rw [ej, if_neg c0, if_neg c1])
      · intro q
        have := congrArg Int64.toInt q
        rw [abs_t hx] at this
        have e0 : (0 : Int64).toInt = 0 := rfl
        rw [e0] at this
        apply c0
        apply i64_0
        split at this <;> omega
  · have ej : jnV 31 x y = if y = 0 then -9223372036854775808 else x / y := by simp [jnV]
    rw [if_neg (by decide), if_neg (by decide), if_neg (by decide), if_neg (by decide), if_pos (by decide)]
    by_cases c0 : y = 0
    · rw [if_pos c0]
      exact err (by rw [ej, if_pos c0])
    · rw [if_neg c0, if_neg c0]
      exact key _ _ (by rw [ej, if_neg c0])
  · have ej : jnV 32 x y = if x = y then 1 else 0 := by simp [jnV]
    simp only [show ¬ (61 : Int32) = 260 by decide, show ¬ (61 : Int32) = 42 by decide, show ¬ (61 : Int32) = 43 by decide, show ¬ (61 : Int32) = 45 by decide, show ¬ (61 : Int32) = 47 by decide, show ¬ (61 : Int32) = 60 by decide, if_false, if_true]
    by_cases c : x = y
    · rw [if_pos c]; exact n24 _ 1 1 (by rw [ej, if_pos c]) rfl _ (by decide)
    · rw [if_neg c]; exact n24 _ 0 0 (by rw [ej, if_neg c]) rfl _ (by decide)
  · have ej : jnV 33 x y = if x < y then 1 else 0 := by simp [jnV]
    simp only [show ¬ (60 : Int32) = 260 by decide, show ¬ (60 : Int32) = 42 by decide, show ¬ (60 : Int32) = 43 by decide, show ¬ (60 : Int32) = 45 by decide, show ¬ (60 : Int32) = 47 by decide, if_false, if_true]
    by_cases c : x < y
    · rw [if_pos c]; exact n24 _ 1 1 (by rw [ej, if_pos c]) rfl _ (by decide)
    · rw [if_neg c]; exact n24 _ 0 0 (by rw [ej, if_neg c]) rfl _ (by decide)
  · have ej : jnV 34 x y = if y < x then 0 else 1 := by simp [jnV]
    simp only [show ¬ (256 : Int32) = 260 by decide, show ¬ (256 : Int32) = 42 by decide, show ¬ (256 : Int32) = 43 by decide, show ¬ (256 : Int32) = 45 by decide, show ¬ (256 : Int32) = 47 by decide, show ¬ (256 : Int32) = 60 by decide, show ¬ (256 : Int32) = 61 by decide, show ¬ (256 : Int32) = 62 by decide, if_false, if_true]
    by_cases c : y < x
    · rw [if_pos c]; exact n24 _ 0 0 (by rw [ej, if_pos c]) rfl _ (by decide)
    · rw [if_neg c]; exact n24 _ 1 1 (by rw [ej, if_neg c]) rfl _ (by decide)
  · have ej : jnV 35 x y = if x = y then 0 else 1 := by simp [jnV]
    simp only [show ¬ (257 : Int32) = 260 by decide, show ¬ (257 : Int32) = 42 by decide, show ¬ (257 : Int32) = 43 by decide, show ¬ (257 : Int32) = 45 by decide, show ¬ (257 : Int32) = 47 by decide, show ¬ (257 : Int32) = 60 by decide, show ¬ (257 : Int32) = 61 by decide, show ¬ (257 : Int32) = 62 by decide, show ¬ (257 : Int32) = 256 by decide, if_false, if_true]
    by_cases c : x = y
    · rw [if_pos c]; exact n24 _ 0 0 (by rw [ej, if_pos c]) rfl _ (by decide)
    · rw [if_neg c]; exact n24 _ 1 1 (by rw [ej, if_neg c]) rfl _ (by decide)
  · have ej : jnV 36 x y = if y < x then 1 else 0 := by simp [jnV]
    simp only [show ¬ (62 : Int32) = 260 by decide, show ¬ (62 : Int32) = 42 by decide, show ¬ (62 : Int32) = 43 by decide, show ¬ (62 : Int32) = 45 by decide, show ¬ (62 : Int32) = 47 by decide, show ¬ (62 : Int32) = 60 by decide, show ¬ (62 : Int32) = 61 by decide, if_false, if_true]
    by_cases c : y < x
    · rw [if_pos c]; exact n24 _ 1 1 (by rw [ej, if_pos c]) rfl _ (by decide)
    · rw [if_neg c]; exact n24 _ 0 0 (by rw [ej, if_neg c]) rfl _ (by decide)
  · have ej : jnV 37 x y = if x < y then 0 else 1 := by simp [jnV]
    simp only [show ¬ (258 : Int32) = 260 by decide, show ¬ (258 : Int32) = 42 by decide, show ¬ (258 : Int32) = 43 by decide, show ¬ (258 : Int32) = 45 by decide, show ¬ (258 : Int32) = 47 by decide, show ¬ (258 : Int32) = 60 by decide, show ¬ (258 : Int32) = 61 by decide, show ¬ (258 : Int32) = 62 by decide, show ¬ (258 : Int32) = 256 by decide, show ¬ (258 : Int32) = 257 by decide, if_false, if_true]
    by_cases c : x < y
    · rw [if_pos c]; exact n24 _ 0 0 (by rw [ej, if_pos c]) rfl _ (by decide)
    · rw [if_neg c]; exact n24 _ 1 1 (by rw [ej, if_neg c]) rfl _ (by decide)
  · have ej : jnV 23 x y = if x = 0 ∨ y = 0 then 0 else 1 := by simp [jnV]
    simp only [show ¬ (261 : Int32) = 260 by decide, show ¬ (261 : Int32) = 42 by decide, show ¬ (261 : Int32) = 43 by decide, show ¬ (261 : Int32) = 45 by decide, show ¬ (261 : Int32) = 47 by decide, show ¬ (261 : Int32) = 60 by decide, show ¬ (261 : Int32) = 61 by decide, show ¬ (261 : Int32) = 62 by decide, show ¬ (261 : Int32) = 256 by decide, show ¬ (261 : Int32) = 257 by decide, show ¬ (261 : Int32) = 258 by decide, if_false, if_true]
    by_cases c : x = 0
    · rw [if_pos c, iq_Mod_works_154]; exact n24 _ 0 0 (by rw [ej, if_pos (Or.inl c)]) rfl _ (by decide)
    · by_cases c2 : y = 0
      · rw [if_neg c, if_pos c2, iq_Mod_works_154]; exact n24 _ 0 0 (by rw [ej, if_pos (Or.inr c2)]) rfl _ (by decide)
      · rw [if_neg c, if_neg c2]; exact n24 _ 1 1 (by rw [ej, if_neg (fun z => z.elim c c2)]) rfl _ (by decide)
  · have ej : jnV 22 x y = if x = 0 ∧ y = 0 then 0 else 1 := by simp [jnV]
    simp only [show ¬ (262 : Int32) = 260 by decide, show ¬ (262 : Int32) = 42 by decide, show ¬ (262 : Int32) = 43 by decide, show ¬ (262 : Int32) = 45 by decide, show ¬ (262 : Int32) = 47 by decide, show ¬ (262 : Int32) = 60 by decide, show ¬ (262 : Int32) = 61 by decide, show ¬ (262 : Int32) = 62 by decide, show ¬ (262 : Int32) = 256 by decide, show ¬ (262 : Int32) = 257 by decide, show ¬ (262 : Int32) = 258 by decide, show ¬ (262 : Int32) = 261 by decide, if_false, if_true]
    by_cases c : x = 0
    · by_cases c2 : y = 0
      · rw [if_pos c, if_pos c2]; exact n24 _ 0 0 (by rw [ej, if_pos ⟨c, c2⟩]) rfl _ (by decide)
      · rw [if_pos c, if_neg c2, iq_Mod_works_166]; exact n24 _ 1 1 (by rw [ej, if_neg (fun z => c2 z.2)]) rfl _ (by decide)
    · rw [if_neg c, iq_Mod_works_166]; exact n24 _ 1 1 (by rw [ej, if_neg (fun z => c z.1)]) rfl _ (by decide)
theorem m_worksN {y : Int64} {r : List Int64} (hvs : vs.length = 64) (hr : r.length + 1 ≤ 64) (hag : ag vs (y :: r)) :
    ∃ vs', vs'.length = 64 ∧ ag vs' ((if y = 0 then 1 else 0) :: r) ∧ ia_cal xs (d + 2) im_Mod_works [.ref a, .int 260] (my h a M b X dr (nI (r.length + 1)) (ms, vs)) = some (some (.int 1), my h a M b X dr (nI (r.length + 1)) (ms, vs')) := by
  have e1 : nI (r.length + 1) - 1 = nI r.length := nI_pred _
  have g1 : rd vs (nI r.length) = some y := by rw [rdL (by omega) (by omega)]; exact congrArg some hag.1
  refine ⟨vs.set r.length (if y = 0 then 1 else 0), by rw [List.length_set]; exact hvs, ag_push (by omega) hag.2, ?_⟩
  have w1 : ∀ v : Int64, wr vs (nI r.length) v = some (vs.set r.length v) := fun v => wr_nI (by omega) (by omega)
  rw [iu_Mod_works, iq_Mod_works_0]
  simp only [↓my_Rb, ↓my_Ib, e1, ↓my_llb, ↓bs g1, if_true, lg0]
  by_cases c : y = 0
  · rw [if_pos c, iq_Mod_works_24]
    simp only [↓cL_of (m_is xs d _ _), ↓my_lsb, ↓bs (w1 _), ↓ok1, if_pos c, show ¬ (1 : Int32) = 0 by decide, if_false]
  · rw [if_neg c, iq_Mod_works_24]
    simp only [↓cL_of (m_is xs d _ _), ↓my_lsb, ↓bs (w1 _), ↓ok1, if_neg c, if_true]
end KW2
