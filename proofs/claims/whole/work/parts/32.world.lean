/-! World: contracts. -/
def tkF (st fr to_ : Nat → Int32) : Nat → Int32
  | 0 => 0
  | i + 1 => if st i = 1 then tkF st fr to_ i ||| (((1 : Int32) <<< (fr i &&& 31)) ||| ((1 : Int32) <<< (to_ i &&& 31))) else tkF st fr to_ i
def tnF (st mn : Nat → Int32) : Nat → Int32
  | 0 => 0
  | i + 1 => if st i = 1 then tnF st mn i ||| ((1 : Int32) <<< (mn i &&& 31)) else tnF st mn i
def sumF (f : Nat → Int32) : Nat → Int32
  | 0 => 0
  | i + 1 => sumF f i + f i
section KW
variable (xs : List Int32) (d : Nat) (h : ia_H) (a : Nat) (X : aW) {t r : Nat} (hw : wfW X t r)
theorem k_ringsF (hw : wfW X t r) (st : Int32) : ia_cal xs (d + 1) im_World_ringsThatAre [.ref a, .int st] (pW h a X) = some (some (.int (nI (cntF (fA X 10) st r))), pW h a X) := k_ringsThatAre xs d h a X hw st
theorem k_talking (hw : wfW X t r) : ia_cal xs (d + 1) im_World_talking [.ref a] (pW h a X) = some (some (.int (tkF (fA X 10) (fA X 6) (fA X 7) r)), pW h a X) := by
  have hr := hw.2.1
  have hr10 := hw.2.2.2.1
  rw [iu_World_talking, iq_World_talking_0]
  refine lp_up (F := fun n i => ia_qr xs (ia_cal xs d) im_World_talking n 4 [.ref a, .int (tkF (fA X 10) (fA X 6) (fA X 7) i), .int (nI i)] [] (pW h a X)) (N := r) (cost := 1) (fun i hi n hn => ?_) (fun n => ?_) r 0 (by omega) _ (by omega)
  · obtain ⟨m, rfl⟩ : ∃ m, n = m + 1 := ⟨n - 1, by omega⟩
    refine ⟨m, Nat.le_refl _, ?_⟩
    simp only [iq_World_talking_4, pW_I, pW_R, pW_ld, Option.bind_some, hr, hw.rr hi]
    rw [if_pos (nI_lt hi (by omega))]
    simp only [nI_1, tkF]
    split <;> rfl
  · simp only [iq_World_talking_4, pW_I, Option.bind_some, hr]
    rw [if_neg (nI_nlt (Nat.le_refl _) (by omega))]
theorem k_toning (hw : wfW X t r) : ia_cal xs (d + 1) im_World_toning [.ref a] (pW h a X) = some (some (.int (tnF (fA X 5) (fA X 2) t)), pW h a X) := by
  have hr := hw.1
  have hr10 := hw.2.2.1
  rw [iu_World_toning, iq_World_toning_0]
  refine lp_up (F := fun n i => ia_qr xs (ia_cal xs d) im_World_toning n 4 [.ref a, .int (tnF (fA X 5) (fA X 2) i), .int (nI i)] [] (pW h a X)) (N := t) (cost := 1) (fun i hi n hn => ?_) (fun n => ?_) t 0 (by omega) _ (by omega)
  · obtain ⟨m, rfl⟩ : ∃ m, n = m + 1 := ⟨n - 1, by omega⟩
    refine ⟨m, Nat.le_refl _, ?_⟩
    simp only [iq_World_toning_4, pW_I, pW_R, pW_ld, Option.bind_some, hr, hw.rt hi]
    rw [if_pos (nI_lt hi (by omega))]
    simp only [nI_1, tnF]
    split <;> rfl
  · simp only [iq_World_toning_4, pW_I, Option.bind_some, hr]
    rw [if_neg (nI_nlt (Nat.le_refl _) (by omega))]
theorem k_engaged (hw : wfW X t r) : ia_cal xs (d + 2) im_World_engaged [.ref a] (pW h a X) = some (some (.int (tkF (fA X 10) (fA X 6) (fA X 7) r ||| tnF (fA X 5) (fA X 2) t)), pW h a X) := by
  rw [iu_World_engaged, iq_World_engaged_0]
  simp only [pW_cls, if_true, k_talking xs d h a X hw, k_toning xs d h a X hw, ia_cI]
theorem k_ringOf (hw : wfW X t r) (p : Int32) : ia_cal xs (d + 1) im_World_ringOf [.ref a, .int p] (pW h a X) = some (some (.int (fstI (fun i => fA X 10 i = 1 ∧ (fA X 6 i = p ∨ fA X 7 i = p)) r 0)), pW h a X) := by
  have hr := hw.2.1
  have hr10 := hw.2.2.2.1
  rw [iu_World_ringOf, iq_World_ringOf_0, ← srch_fst]
  refine lp_find (F := fun n i => ia_qr xs (ia_cal xs d) im_World_ringOf n 2 [.ref a, .int p, .int (nI i)] [] (pW h a X)) (N := r) (cost := 1) (fun i hi n hn => ?_) (fun n => ?_) r 0 (by omega) _ (by omega)
  · obtain ⟨m, rfl⟩ : ∃ m, n = m + 1 := ⟨n - 1, by omega⟩
    refine ⟨m, Nat.le_refl _, ?_⟩
    simp only [iq_World_ringOf_2, pW_I, pW_R, pW_ld, Option.bind_some, hr, hw.rr hi]
    rw [if_pos (nI_lt hi (by omega))]
    simp only [nI_1]
    by_cases h1 : fA X 10 i = 1 <;> by_cases h2 : fA X 6 i = p <;> by_cases h3 : fA X 7 i = p <;> simp [h1, h2, h3]
  · simp only [iq_World_ringOf_2, pW_I, Option.bind_some, hr]
    rw [if_neg (nI_nlt (Nat.le_refl _) (by omega))]
def thruI (s : Int32) : Int32 := if s = 1 ∨ s = 2 then 1 else 0
theorem k_isThrough (hw : wfW X t r) {i : Nat} (hi : i < r) : ia_cal xs (d + 1) im_World_isThrough [.ref a, .int (nI i)] (pW h a X) = some (some (.int (thruI (fA X 10 i))), pW h a X) := by
  rw [iu_World_isThrough, iq_World_isThrough_0]
  simp only [pW_R, pW_ld, Option.bind_some, hw.rr hi, thruI]
  by_cases h1 : fA X 10 i = 1 <;> by_cases h2 : fA X 10 i = 2 <;> simp [h1, h2]
theorem k_throughs (hw : wfW X t r) : ia_cal xs (d + 2) im_World_throughs [.ref a] (pW h a X) = some (some (.int (nI (cntF (fA X 10) 1 r) + nI (cntF (fA X 10) 2 r))), pW h a X) := by
  rw [iu_World_throughs, iq_World_throughs_0]
  simp only [pW_cls, if_true, k_ringsF xs d h a X hw, ia_cI]
theorem k_triesSoFar (hw : wfW X t r) : ia_cal xs (d + 1) im_World_triesSoFar [.ref a] (pW h a X) = some (some (.int (sumF (fA X 11) r)), pW h a X) := by
  have hr := hw.2.1
  have hr10 := hw.2.2.2.1
  rw [iu_World_triesSoFar, iq_World_triesSoFar_0]
  refine lp_up (F := fun n i => ia_qr xs (ia_cal xs d) im_World_triesSoFar n 4 [.ref a, .int (sumF (fA X 11) i), .int (nI i)] [] (pW h a X)) (N := r) (cost := 1) (fun i hi n hn => ?_) (fun n => ?_) r 0 (by omega) _ (by omega)
  · obtain ⟨m, rfl⟩ : ∃ m, n = m + 1 := ⟨n - 1, by omega⟩
    refine ⟨m, Nat.le_refl _, ?_⟩
    simp only [iq_World_triesSoFar_4, pW_I, pW_R, pW_ld, Option.bind_some, hr, hw.rr hi]
    rw [if_pos (nI_lt hi (by omega))]
    simp only [nI_1, sumF]
  · simp only [iq_World_triesSoFar_4, pW_I, Option.bind_some, hr]
    rw [if_neg (nI_nlt (Nat.le_refl _) (by omega))]
def cwF (st fr to_ : Nat → Int32) (ppl : Int32) : Nat → Int32
  | 0 => 0
  | i + 1 => if (st i = 1 ∨ st i = 2) ∧ ¬ ((((1 : Int32) <<< (fr i &&& 31)) ||| ((1 : Int32) <<< (to_ i &&& 31))) &&& ppl) = 0 then cwF st fr to_ ppl i ||| (((1 : Int32) <<< (fr i &&& 31)) ||| ((1 : Int32) <<< (to_ i &&& 31))) else cwF st fr to_ ppl i
theorem k_calledWith (hw : wfW X t r) (ppl : Int32) : ia_cal xs (d + 2) im_World_calledWith [.ref a, .int ppl] (pW h a X) = some (some (.int (cwF (fA X 10) (fA X 6) (fA X 7) ppl r)), pW h a X) := by
  have hr := hw.2.1
  have hr10 := hw.2.2.2.1
  rw [iu_World_calledWith, iq_World_calledWith_0]
  refine lp_up (F := fun n i => ia_qr xs (ia_cal xs (d + 1)) im_World_calledWith n 4 [.ref a, .int ppl, .int (cwF (fA X 10) (fA X 6) (fA X 7) ppl i), .int (nI i), .float 0] [] (pW h a X)) (N := r) (cost := 1) (fun i hi n hn => ?_) (fun n => ?_) r 0 (by omega) _ (by omega)
  · obtain ⟨m, rfl⟩ : ∃ m, n = m + 1 := ⟨n - 1, by omega⟩
    refine ⟨m, Nat.le_refl _, ?_⟩
    simp only [iq_World_calledWith_4, pW_I, pW_R, pW_ld, Option.bind_some, hr, hw.rr hi, pW_cls, if_true, k_isThrough xs d h a X hw hi, ia_cI]
    rw [if_pos (nI_lt hi (by omega))]
    simp only [nI_1, cwF, thruI]
    by_cases h1 : fA X 10 i = 1 ∨ fA X 10 i = 2
    · by_cases h2 : ((((1 : Int32) <<< (fA X 6 i &&& 31)) ||| ((1 : Int32) <<< (fA X 7 i &&& 31))) &&& ppl) = 0 <;> simp [h1, h2]
    · simp [h1]
  · simp only [iq_World_calledWith_4, pW_I, Option.bind_some, hr]
    rw [if_neg (nI_nlt (Nat.le_refl _) (by omega))]
def lvF (st mn : Nat → Int32) (who : Int32) : Nat → Int32
  | 0 => 0
  | i + 1 => if ¬ (1 : Int32) < st i ∧ ¬ mn i = who then lvF st mn who i ||| ((1 : Int32) <<< (nI i &&& 31)) else lvF st mn who i
theorem k_livingTones (hw : wfW X t r) (who : Int32) : ia_cal xs (d + 1) im_World_livingTones [.ref a, .int who] (pW h a X) = some (some (.int (lvF (fA X 5) (fA X 2) who t)), pW h a X) := by
  have hr := hw.1
  have hr10 := hw.2.2.1
  rw [iu_World_livingTones, iq_World_livingTones_0]
  refine lp_up (F := fun n i => ia_qr xs (ia_cal xs d) im_World_livingTones n 4 [.ref a, .int who, .int (lvF (fA X 5) (fA X 2) who i), .int (nI i)] [] (pW h a X)) (N := t) (cost := 1) (fun i hi n hn => ?_) (fun n => ?_) t 0 (by omega) _ (by omega)
  · obtain ⟨m, rfl⟩ : ∃ m, n = m + 1 := ⟨n - 1, by omega⟩
    refine ⟨m, Nat.le_refl _, ?_⟩
    simp only [iq_World_livingTones_4, pW_I, pW_R, pW_ld, Option.bind_some, hr, hw.rt hi]
    rw [if_pos (nI_lt hi (by omega))]
    simp only [nI_1, lvF]
    by_cases h1 : (1 : Int32) < fA X 5 i <;> by_cases h2 : fA X 2 i = who <;> simp [h1, h2]
  · simp only [iq_World_livingTones_4, pW_I, Option.bind_some, hr]
    rw [if_neg (nI_nlt (Nat.le_refl _) (by omega))]
end KW
