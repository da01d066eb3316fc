/-! text: a law read, as it should go: values, signs that wait, what is written. -/
/-- a fault and where, or where it goes on, knots, what was written -/
def pR : Type := Sum (Nat × Nat) (Nat × Nat × List (Nat × Nat))
def pB (k p : Nat) : pR := Sum.inl (k, p)
def pO (i kn : Nat) (out : List (Nat × Nat)) : pR := Sum.inr (i, kn, out)
def rkK (K : Nat) : Nat := if K = 22 then 1 else if K = 23 then 2 else if K = 24 then 3 else if K = 28 ∨ K = 29 then 5 else if K = 30 ∨ K = 31 then 6 else if 32 ≤ K ∧ K ≤ 37 then 4 else 0
def topR (st : List Nat) : Nat := rkK (st.headD 26)
def popF (r : Nat) : List Nat → List (Nat × Nat) → List Nat × List (Nat × Nat)
  | [], out => ([], out)
  | o :: st, out => if r < rkK o then popF r st (out ++ [(o, 0)]) else (o :: st, out)
def cR (K V P J : Nat → Nat) : Nat → Bool → Nat → List Nat → Nat → Nat → List (Nat × Nat) → pR
  | 0, _, _, _, _, _, _ => pB 0 0
  | n + 1, true, i, st, op, kn, out =>
    if K i = 26 then (if 8 ≤ op then pB 2 (P i) else cR K V P J n true (J i) (26 :: st) (op + 1) kn out)
    else if K i = 24 then (if 3 < topR st then pB 1 (P i) else if 64 ≤ kn then pB 2 (P i) else cR K V P J n true (J i) (24 :: st) op (kn + 1) out)
    else if K i = 3 ∨ (15 ≤ K i ∧ K i ≤ 21) then (if K i = 3 ∧ 9999 < V i then pB 2 (P i) else if 64 ≤ kn then pB 2 (P i) else cR K V P J n false (J i) st op (kn + 1) (out ++ [(K i, V i)]))
    else pB 1 (P i)
  | n + 1, false, i, st, op, kn, out =>
    if K i = 27 ∧ 0 < op then cR K V P J n false (J i) (popF 0 st out).1.tail (op - 1) kn (popF 0 st out).2
    else if rkK (K i) = 0 ∨ K i = 24 then (if 0 < op then pB 1 (P i) else pO i kn (popF 0 st out).2)
    else if rkK (K i) = 4 then (if topR (popF 4 st out).1 = 4 then pB 1 (P i) else if 64 ≤ kn then pB 2 (P i) else cR K V P J n true (J i) (K i :: (popF 4 st out).1) op (kn + 1) (popF 4 st out).2)
    else (if 64 ≤ kn then pB 2 (P i) else cR K V P J n true (J i) (K i :: (popF (rkK (K i) - 1) st out).1) op (kn + 1) (popF (rkK (K i) - 1) st out).2)
section DX5
variable {K V P J : Nat → Nat} {T : Nat}
theorem rk_le (k : Nat) : rkK k ≤ 6 ∧ (rkK k = 3 → k = 24) ∧ (k ≤ 3 → rkK k = 0) := by
  unfold rkK
  repeat' split
  all_goals omega
theorem cR_fuel (hJ : ∀ i, i ≤ T → K i ≠ 0 → i < J i ∧ J i ≤ T) : ∀ n n' b i st op kn out, i ≤ T → T - i < n → T - i < n' → cR K V P J n b i st op kn out = cR K V P J n' b i st op kn out := by
  intro n
  induction n with
  | zero => intro n' b i st op kn out hi h; exact absurd h (by omega)
  | succ n ih =>
    intro n' b i st op kn out hi h h'
    obtain ⟨n', rfl⟩ : ∃ k, n' = k + 1 := ⟨n' - 1, by omega⟩
    have go : K i ≠ 0 → ∀ b st op kn out, cR K V P J n b (J i) st op kn out = cR K V P J n' b (J i) st op kn out := fun hk b st op kn out => by
      obtain ⟨j1, j2⟩ := hJ i hi hk
      exact ih n' b (J i) st op kn out j2 (by omega) (by omega)
    cases b
    · rw [cR, cR]
      by_cases c1 : K i = 27 ∧ 0 < op
      · rw [if_pos c1, if_pos c1, go (by omega)]
      · rw [if_neg c1, if_neg c1]
        by_cases c2 : rkK (K i) = 0 ∨ K i = 24
        · rw [if_pos c2, if_pos c2]
        · have hk : K i ≠ 0 := fun z => c2 (Or.inl (by rw [z]; rfl))
          rw [if_neg c2, if_neg c2, go hk, go hk]
    · rw [cR, cR]
      by_cases c1 : K i = 26
      · rw [if_pos c1, if_pos c1, go (by omega)]
      · rw [if_neg c1, if_neg c1]
        by_cases c2 : K i = 24
        · rw [if_pos c2, if_pos c2, go (by omega)]
        · rw [if_neg c2, if_neg c2]
          by_cases c3 : K i = 3 ∨ (15 ≤ K i ∧ K i ≤ 21)
          · rw [if_pos c3, if_pos c3, go (by omega)]
          · rw [if_neg c3, if_neg c3]
/-- the same, with as much patience as there is text -/
def cRu (K V P J : Nat → Nat) (T : Nat) (b : Bool) (i : Nat) (st : List Nat) (op kn : Nat) (out : List (Nat × Nat)) : pR := cR K V P J (T - i + 1) b i st op kn out
theorem cRu_n (hJ : ∀ i, i ≤ T → K i ≠ 0 → i < J i ∧ J i ≤ T) {i : Nat} (hi : i ≤ T) (hk : K i ≠ 0) (b : Bool) (st : List Nat) (op kn : Nat) (out : List (Nat × Nat)) : cR K V P J (T - i) b (J i) st op kn out = cRu K V P J T b (J i) st op kn out := by
  obtain ⟨j1, j2⟩ := hJ i hi hk
  exact cR_fuel hJ _ _ _ _ _ _ _ _ j2 (by omega) (by omega)
theorem cRu_t (hJ : ∀ i, i ≤ T → K i ≠ 0 → i < J i ∧ J i ≤ T) {i : Nat} (hi : i ≤ T) (st : List Nat) (op kn : Nat) (out : List (Nat × Nat)) : cRu K V P J T true i st op kn out = if K i = 26 then (if 8 ≤ op then pB 2 (P i) else cRu K V P J T true (J i) (26 :: st) (op + 1) kn out)
    else if K i = 24 then (if 3 < topR st then pB 1 (P i) else if 64 ≤ kn then pB 2 (P i) else cRu K V P J T true (J i) (24 :: st) op (kn + 1) out)
    else if K i = 3 ∨ (15 ≤ K i ∧ K i ≤ 21) then (if K i = 3 ∧ 9999 < V i then pB 2 (P i) else if 64 ≤ kn then pB 2 (P i) else cRu K V P J T false (J i) st op (kn + 1) (out ++ [(K i, V i)]))
    else pB 1 (P i) := by
  rw [show cRu K V P J T true i st op kn out = cR K V P J (T - i + 1) true i st op kn out from rfl, cR]
  by_cases c1 : K i = 26
  · rw [if_pos c1, if_pos c1, cRu_n hJ hi (by omega)]
  · rw [if_neg c1, if_neg c1]
    by_cases c2 : K i = 24
    · rw [if_pos c2, if_pos c2, cRu_n hJ hi (by omega)]
    · rw [if_neg c2, if_neg c2]
      by_cases c3 : K i = 3 ∨ (15 ≤ K i ∧ K i ≤ 21)
      · rw [if_pos c3, if_pos c3, cRu_n hJ hi (by omega)]
      · rw [if_neg c3, if_neg c3]
theorem cRu_f (hJ : ∀ i, i ≤ T → K i ≠ 0 → i < J i ∧ J i ≤ T) {i : Nat} (hi : i ≤ T) (st : List Nat) (op kn : Nat) (out : List (Nat × Nat)) : cRu K V P J T false i st op kn out = if K i = 27 ∧ 0 < op then cRu K V P J T false (J i) (popF 0 st out).1.tail (op - 1) kn (popF 0 st out).2
    else if rkK (K i) = 0 ∨ K i = 24 then (if 0 < op then pB 1 (P i) else pO i kn (popF 0 st out).2)
    else if rkK (K i) = 4 then (if topR (popF 4 st out).1 = 4 then pB 1 (P i) else if 64 ≤ kn then pB 2 (P i) else cRu K V P J T true (J i) (K i :: (popF 4 st out).1) op (kn + 1) (popF 4 st out).2)
    else (if 64 ≤ kn then pB 2 (P i) else cRu K V P J T true (J i) (K i :: (popF (rkK (K i) - 1) st out).1) op (kn + 1) (popF (rkK (K i) - 1) st out).2) := by
  rw [show cRu K V P J T false i st op kn out = cR K V P J (T - i + 1) false i st op kn out from rfl, cR]
  by_cases c1 : K i = 27 ∧ 0 < op
  · rw [if_pos c1, if_pos c1, cRu_n hJ hi (by omega)]
  · rw [if_neg c1, if_neg c1]
    by_cases c2 : rkK (K i) = 0 ∨ K i = 24
    · rw [if_pos c2, if_pos c2]
    · have hk : K i ≠ 0 := fun z => c2 (Or.inl (by rw [z]; rfl))
      rw [if_neg c2, if_neg c2, cRu_n hJ hi hk, cRu_n hJ hi hk]
/-- a sign that waits may as well be written, if what comes binds less -/
theorem cRu_w (hJ : ∀ i, i ≤ T → K i ≠ 0 → i < J i ∧ J i ≤ T) {i : Nat} (hi : i ≤ T) {o : Nat} (ho : 0 < rkK o) (h : rkK (K i) = 0 ∨ K i = 24 ∨ (rkK (K i) = 4 ∧ 4 < rkK o) ∨ (rkK (K i) ≠ 4 ∧ rkK (K i) ≤ rkK o)) (st : List Nat) (op kn : Nat) (out : List (Nat × Nat)) : cRu K V P J T false i (o :: st) op kn out = cRu K V P J T false i st op kn (out ++ [(o, 0)]) := by
  have pp : ∀ r, r < rkK o → popF r (o :: st) out = popF r st (out ++ [(o, 0)]) := fun r hr => by rw [popF, if_pos hr]
  rw [cRu_f hJ hi, cRu_f hJ hi, pp 0 ho]
  by_cases c1 : K i = 27 ∧ 0 < op
  · rw [if_pos c1, if_pos c1]
  · rw [if_neg c1, if_neg c1]
    by_cases c2 : rkK (K i) = 0 ∨ K i = 24
    · rw [if_pos c2, if_pos c2]
    · rw [if_neg c2, if_neg c2]
      have z0 : rkK (K i) ≠ 0 := fun z => c2 (Or.inl z)
      have z4 : K i ≠ 24 := fun z => c2 (Or.inr z)
      by_cases c3 : rkK (K i) = 4
      · rw [if_pos c3, if_pos c3, pp 4 (by omega)]
      · rw [if_neg c3, if_neg c3, pp (rkK (K i) - 1) (by omega)]
/-- what may stand behind -/
def nxL (lev r : Nat) : Prop := (lev ≤ 5 → r ≤ 5) ∧ (lev ≤ 4 → r ≤ 4) ∧ (lev ≤ 1 → r ≠ 2) ∧ (lev = 0 → r ≠ 1)
def okS (K : Nat → Nat) (lev i : Nat) (st : List Nat) : Prop := topR st ≤ lev ∧ (lev < 4 ∨ K i ≠ 24 ∨ 4 ≤ topR st)
/-- reading on from i comes to reading on from i', a value of this closeness read -/
def sF (K V P J : Nat → Nat) (T lev i op kn : Nat) (out : List (Nat × Nat)) (i' kn' : Nat) (out' : List (Nat × Nat)) : Prop := ∀ st, okS K lev i st → cRu K V P J T true i st op kn out = if rkK (K i') = 4 ∧ lev < 4 then pB 1 (P i') else cRu K V P J T false i' st op kn' out'
def sB (K V P J : Nat → Nat) (T lev i op kn : Nat) (out : List (Nat × Nat)) (k p : Nat) : Prop := ∀ st, okS K lev i st → cRu K V P J T true i st op kn out = pB k p
theorem topR_c {o : Nat} {st : List Nat} : topR (o :: st) = rkK o := rfl
/-- a sign, and what it joins -/
theorem sF_join (hJ : ∀ i, i ≤ T → K i ≠ 0 → i < J i ∧ J i ≤ T) {lev i op kn i1 kn1 : Nat} {out out1 : List (Nat × Nat)} (h1 : sF K V P J T lev i op kn out i1 kn1 out1) (hi : i1 ≤ T) {r : Nat} (hr : rkK (K i1) = r) (hlev : lev = r - 1 ∨ (lev = 0 ∧ r = 1)) (hr4 : r ≠ 4) (hr3 : r ≠ 3) (hr0 : 0 < r) (hk : kn1 < 64) (st : List Nat) (hs : okS K lev i st) : cRu K V P J T true i st op kn out = cRu K V P J T true (J i1) (K i1 :: st) op (kn1 + 1) out1 := by
  have hp : popF (r - 1) st out1 = (st, out1) := by
    cases st with
    | nil => rfl
    | cons o st =>
      have := hs.1
      rw [topR_c] at this
      rw [popF, if_neg (by omega)]
  have h27 : K i1 ≠ 27 := fun z => by rw [z] at hr; have : r = 0 := hr.symm; omega
  have h24 : K i1 ≠ 24 := fun z => by rw [z] at hr; have : r = 3 := hr.symm; omega
  rw [h1 st hs, hr, if_neg (fun z => hr4 z.1), cRu_f hJ hi, hr, if_neg (fun z => h27 z.1), if_neg (show ¬ (r = 0 ∨ K i1 = 24) from fun z => by rcases z with z | z; omega; exact h24 z), if_neg hr4, if_neg (by omega), hp]
theorem sF_knot (hJ : ∀ i, i ≤ T → K i ≠ 0 → i < J i ∧ J i ≤ T) {lev i op kn i1 kn1 : Nat} {out out1 : List (Nat × Nat)} (h1 : sF K V P J T lev i op kn out i1 kn1 out1) (hi : i1 ≤ T) {r : Nat} (hr : rkK (K i1) = r) (hr4 : r ≠ 4) (hr3 : r ≠ 3) (hr0 : 0 < r) (hk : 64 ≤ kn1) : sB K V P J T lev i op kn out 2 (P i1) := by
  intro st hs
  have h27 : K i1 ≠ 27 := fun z => by rw [z] at hr; have : r = 0 := hr.symm; omega
  have h24 : K i1 ≠ 24 := fun z => by rw [z] at hr; have : r = 3 := hr.symm; omega
  rw [h1 st hs, hr, if_neg (fun z => hr4 z.1), cRu_f hJ hi, hr, if_neg (fun z => h27 z.1), if_neg (show ¬ (r = 0 ∨ K i1 = 24) from fun z => by rcases z with z | z; omega; exact h24 z), if_neg hr4, if_pos hk]
/-- level, closeness of its sign, level of what its sign joins -/
def lvO (lev r sub : Nat) : Prop := (lev = 5 ∧ r = 6 ∧ sub = 6) ∨ (lev = 4 ∧ r = 5 ∧ sub = 5) ∨ (lev = 1 ∧ r = 2 ∧ sub = 3) ∨ (lev = 0 ∧ r = 1 ∧ sub = 1)
theorem sF_bad (hJ : ∀ i, i ≤ T → K i ≠ 0 → i < J i ∧ J i ≤ T) {lev i op kn i1 kn1 : Nat} {out out1 : List (Nat × Nat)} (h1 : sF K V P J T lev i op kn out i1 kn1 out1) (hi : i1 ≤ T) {r sub : Nat} (hr : rkK (K i1) = r) (hl : lvO lev r sub) (hk : kn1 < 64) {k p : Nat} (h2 : sB K V P J T sub (J i1) op (kn1 + 1) out1 k p) : sB K V P J T lev i op kn out k p := by
  intro st hs
  rw [sF_join hJ h1 hi hr (by unfold lvO at hl; omega) (by unfold lvO at hl; omega) (by unfold lvO at hl; omega) (by unfold lvO at hl; omega) hk st hs]
  refine h2 (K i1 :: st) ⟨?_, ?_⟩
  · rw [topR_c, hr]; unfold lvO at hl; omega
  · rw [topR_c, hr]; unfold lvO at hl; omega
theorem sF_ok (hJ : ∀ i, i ≤ T → K i ≠ 0 → i < J i ∧ J i ≤ T) {lev i op kn i1 kn1 : Nat} {out out1 : List (Nat × Nat)} (h1 : sF K V P J T lev i op kn out i1 kn1 out1) (hi : i1 ≤ T) {r sub : Nat} (hr : rkK (K i1) = r) (hl : lvO lev r sub) (hk : kn1 < 64) {i2 kn2 : Nat} {out2 : List (Nat × Nat)} (h2 : sF K V P J T sub (J i1) op (kn1 + 1) out1 i2 kn2 out2) (hi2 : i2 ≤ T) (hn : nxL sub (rkK (K i2))) : sF K V P J T lev i op kn out i2 kn2 (out2 ++ [(K i1, 0)]) := by
  intro st hs
  rw [sF_join hJ h1 hi hr (by unfold lvO at hl; omega) (by unfold lvO at hl; omega) (by unfold lvO at hl; omega) (by unfold lvO at hl; omega) hk st hs]
  rw [h2 (K i1 :: st) ⟨by rw [topR_c, hr]; unfold lvO at hl; omega, by rw [topR_c, hr]; unfold lvO at hl; omega⟩]
  have e : (rkK (K i2) = 4 ∧ sub < 4) ↔ (rkK (K i2) = 4 ∧ lev < 4) := by unfold lvO at hl; omega
  by_cases c : rkK (K i2) = 4 ∧ sub < 4
  · rw [if_pos c, if_pos (e.mp c)]
  · rw [if_neg c, if_neg (fun z => c (e.mpr z))]
    refine cRu_w hJ hi2 (by rw [hr]; unfold lvO at hl; omega) ?_ st op kn2 out2
    rw [hr]
    have r6 := rk_le (K i2)
    unfold nxL at hn
    unfold lvO at hl
    omega
theorem sF_up {lev sub i op kn i1 kn1 : Nat} {out out1 : List (Nat × Nat)} (hl : (lev = 5 ∧ sub = 6) ∨ (lev = 4 ∧ sub = 5) ∨ (lev = 1 ∧ sub = 3) ∨ (lev = 0 ∧ sub = 1)) (h : sF K V P J T sub i op kn out i1 kn1 out1) : sF K V P J T lev i op kn out i1 kn1 out1 := by
  intro st hs
  rw [h st ⟨by have := hs.1; omega, by have := hs.2; omega⟩]
  have e : (rkK (K i1) = 4 ∧ sub < 4) ↔ (rkK (K i1) = 4 ∧ lev < 4) := by omega
  by_cases c : rkK (K i1) = 4 ∧ sub < 4
  · rw [if_pos c, if_pos (e.mp c)]
  · rw [if_neg c, if_neg (fun z => c (e.mpr z))]
theorem sB_up {lev sub i op kn k p : Nat} {out : List (Nat × Nat)} (hl : (lev = 5 ∧ sub = 6) ∨ (lev = 4 ∧ sub = 5) ∨ (lev = 1 ∧ sub = 3) ∨ (lev = 0 ∧ sub = 1)) (h : sB K V P J T sub i op kn out k p) : sB K V P J T lev i op kn out k p := fun st hs => h st ⟨by have := hs.1; omega, by have := hs.2; omega⟩
end DX5
