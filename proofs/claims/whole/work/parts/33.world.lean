/-! World: contracts of what writes. -/
theorem sA_sA {X : aW} {k : Nat} {l m : List Int32} : sA (sA X k l) k m = sA X k m := by
  unfold sA
  congr 1
  funext j
  show (if j = k then m else if j = k then l else X.2 j) = if j = k then m else X.2 j
  by_cases h : j = k
  · rw [if_pos h, if_pos h]
  · rw [if_neg h, if_neg h, if_neg h]
theorem sA_self {X : aW} {k : Nat} : sA X k (X.2 k) = X := by
  unfold sA
  have : va_up X.2 k (X.2 k) = X.2 := by
    funext j
    show (if j = k then X.2 k else X.2 j) = X.2 j
    by_cases h : j = k
    · rw [if_pos h, h]
    · rw [if_neg h]
  rw [this]
theorem sA_1 {X : aW} {k : Nat} {l : List Int32} : (sA X k l).1 = X.1 := rfl
theorem sA_2 {X : aW} {k : Nat} {l : List Int32} : (sA X k l).2 k = l := by
  show (if k = k then l else X.2 k) = l
  rw [if_pos rfl]
theorem sA_n {X : aW} {k j : Nat} {l : List Int32} (h : j ≠ k) : (sA X k l).2 j = X.2 j := by
  show (if j = k then l else X.2 j) = X.2 j
  rw [if_neg h]
theorem sI_2 {X : aW} {k : Nat} {v : Int32} : (sI X k v).2 = X.2 := rfl
theorem sI_1 {X : aW} {k : Nat} {v : Int32} : (sI X k v).1 k = v := by
  show (if k = k then v else X.1 k) = v
  rw [if_pos rfl]
theorem sI_n {X : aW} {k j : Nat} {v : Int32} (h : j ≠ k) : (sI X k v).1 j = X.1 j := by
  show (if j = k then v else X.1 j) = X.1 j
  rw [if_neg h]
theorem wfW_sA {X : aW} {t r : Nat} (hw : wfW X t r) {k : Nat} {l : List Int32} (hl : l.length = (X.2 k).length) : wfW (sA X k l) t r := by
  obtain ⟨h1, h2, h3, h4, h5, h6, h7⟩ := hw
  have key : ∀ j, ((sA X k l).2 j).length = (X.2 j).length := fun j => by
    by_cases h : j = k
    · subst h
      rw [sA_2, hl]
    · rw [sA_n h]
  exact ⟨h1, h2, h3, h4, fun j hj => by rw [key]; exact h5 j hj, fun j hj hj2 => by rw [key]; exact h6 j hj hj2, fun j hj hj2 => by rw [key]; exact h7 j hj hj2⟩
theorem updTo_rd {l : List Int32} {g : Nat → Int32} {i : Nat} (hi : i < l.length) (h31 : l.length < 2 ^ 31) : rd (updTo l g i) (nI i) = some (l.getD i 0) := by
  rw [rdN (by rw [updTo_len]; exact hi) (by rw [updTo_len]; exact h31), updTo_get i i (by omega), if_neg (by omega)]
theorem updTo_wr {l : List Int32} {g : Nat → Int32} {i : Nat} {v : Int32} (hi : i < l.length) (h31 : l.length < 2 ^ 31) (hv : g i = v) : wr (updTo l g i) (nI i) v = some (updTo l g (i + 1)) := by
  rw [wr_nI (by omega) (by rw [updTo_len]; exact hi), updTo, hv]
section KX
variable (xs : List Int32) (d : Nat) (h : ia_H) (a : Nat) (X : aW) {t r : Nat}
def killG (X : aW) (set : Int32) (i : Nat) : Int32 := if ((set >>> (nI i &&& 31)) &&& (1 : Int32)) = 0 then fA X 5 i else 3
def killX (X : aW) (set : Int32) (t : Nat) : aW := sA X 5 (updTo (X.2 5) (killG X set) t)
theorem k_killTones (hw : wfW X t r) (set : Int32) : ia_cal xs (d + 1) im_World_killTones [.ref a, .int set] (pW h a X) = some (none, pW h a (killX X set t)) := by
  have hr := hw.1
  have hr8 := hw.2.2.1
  have hl5 : (X.2 5).length = 8 := hw.ln.2.2.2.2.2.1
  rw [iu_World_killTones, iq_World_killTones_0]
  have := lp_up (F := fun n i => ia_qr xs (ia_cal xs d) im_World_killTones n 2 [.ref a, .int set, .int (nI i)] [] (pW h a (killX X set i))) (N := t) (cost := 1) (res := some (none, pW h a (killX X set t))) (fun i hi n hn => ?_) (fun n => ?_) t 0 (by omega) 999999 (by omega)
  · have e : killX X set 0 = X := sA_self
    rw [e] at this
    exact this
  · obtain ⟨m, rfl⟩ : ∃ m, n = m + 1 := ⟨n - 1, by omega⟩
    refine ⟨m, Nat.le_refl _, ?_⟩
    simp only [iq_World_killTones_2, pW_I, pW_R, pW_st, Option.bind_some, killX, sA_1, hr, sA_2]
    rw [if_pos (nI_lt hi (by omega))]
    by_cases h1 : ((set >>> (nI i &&& 31)) &&& (1 : Int32)) = 0
    · rw [if_pos h1, nI_1, updTo_same (by omega) (by unfold killG; rw [if_pos h1]; rfl)]
    · rw [if_neg h1, updTo_wr (by omega) (by omega) (by unfold killG; rw [if_neg h1])]
      simp only [Option.map_some, Option.bind_some, nI_1, sA_sA]
  · simp only [iq_World_killTones_2, pW_I, Option.bind_some, killX, sA_1, hr]
    rw [if_neg (nI_nlt (Nat.le_refl _) (by omega))]
def endCG (X : aW) (i : Nat) : Int32 := if fA X 10 i = 1 ∧ ¬ X.1 0 < fA X 8 i + fA X 9 i then 2 else fA X 10 i
def endCX (X : aW) (r : Nat) : aW := sA X 10 (updTo (X.2 10) (endCG X) r)
theorem k_endCalls (hw : wfW X t r) : ia_cal xs (d + 1) im_World_endCalls [.ref a] (pW h a X) = some (none, pW h a (endCX X r)) := by
  have hr := hw.2.1
  have hr10 := hw.2.2.2.1
  have hl : (X.2 10).length = 10 := hw.ln.2.2.2.2.2.2.2.2.2.2.1
  rw [iu_World_endCalls, iq_World_endCalls_0]
  have := lp_up (F := fun n i => ia_qr xs (ia_cal xs d) im_World_endCalls n 2 [.ref a, .int (nI i)] [] (pW h a (endCX X i))) (N := r) (cost := 1) (res := some (none, pW h a (endCX X r))) (fun i hi n hn => ?_) (fun n => ?_) r 0 (by omega) 999999 (by omega)
  · have e : endCX X 0 = X := sA_self
    rw [e] at this
    exact this
  · obtain ⟨m, rfl⟩ : ∃ m, n = m + 1 := ⟨n - 1, by omega⟩
    refine ⟨m, Nat.le_refl _, ?_⟩
    have rr := hw.rr hi
    have e0 : rd (updTo (X.2 10) (endCG X) i) (nI i) = some (fA X 10 i) := updTo_rd (by omega) (by omega)
    simp only [iq_World_endCalls_2, pW_I, pW_R, pW_ld, pW_st, Option.bind_some, endCX, sA_1, hr, sA_2, sA_n (show (8 : Nat) ≠ 10 by decide), sA_n (show (9 : Nat) ≠ 10 by decide), e0, rr]
    rw [if_pos (nI_lt hi (by omega))]
    by_cases h1 : fA X 10 i = 1
    · by_cases h2 : X.1 0 < fA X 8 i + fA X 9 i
      · rw [if_pos h1, if_pos h2, nI_1, updTo_same (by omega) (by unfold endCG; rw [if_neg (fun q => q.2 h2)]; rfl)]
      · rw [if_pos h1, if_neg h2, updTo_wr (by omega) (by omega) (by unfold endCG; rw [if_pos ⟨h1, h2⟩])]
        simp only [Option.map_some, Option.bind_some, nI_1, sA_sA]
    · rw [if_neg h1, nI_1, updTo_same (by omega) (by unfold endCG; rw [if_neg (fun q => h1 q.1)]; rfl)]
  · simp only [iq_World_endCalls_2, pW_I, Option.bind_some, endCX, sA_1, hr]
    rw [if_neg (nI_nlt (Nat.le_refl _) (by omega))]
def endTG (X : aW) (i : Nat) : Int32 := if fA X 5 i = 1 ∧ ¬ X.1 0 < fA X 3 i + fA X 4 i then 2 else fA X 5 i
def endTX (X : aW) (t : Nat) : aW := sA X 5 (updTo (X.2 5) (endTG X) t)
theorem k_endTones (hw : wfW X t r) : ia_cal xs (d + 1) im_World_endTones [.ref a] (pW h a X) = some (none, pW h a (endTX X t)) := by
  have hr := hw.1
  have hr8 := hw.2.2.1
  have hl : (X.2 5).length = 8 := hw.ln.2.2.2.2.2.1
  rw [iu_World_endTones, iq_World_endTones_0]
  have := lp_up (F := fun n i => ia_qr xs (ia_cal xs d) im_World_endTones n 2 [.ref a, .int (nI i)] [] (pW h a (endTX X i))) (N := t) (cost := 1) (res := some (none, pW h a (endTX X t))) (fun i hi n hn => ?_) (fun n => ?_) t 0 (by omega) 999999 (by omega)
  · have e : endTX X 0 = X := sA_self
    rw [e] at this
    exact this
  · obtain ⟨m, rfl⟩ : ∃ m, n = m + 1 := ⟨n - 1, by omega⟩
    refine ⟨m, Nat.le_refl _, ?_⟩
    have rt := hw.rt hi
    have e0 : rd (updTo (X.2 5) (endTG X) i) (nI i) = some (fA X 5 i) := updTo_rd (by omega) (by omega)
    simp only [iq_World_endTones_2, pW_I, pW_R, pW_ld, pW_st, Option.bind_some, endTX, sA_1, hr, sA_2, sA_n (show (3 : Nat) ≠ 5 by decide), sA_n (show (4 : Nat) ≠ 5 by decide), e0, rt]
    rw [if_pos (nI_lt hi (by omega))]
    by_cases h1 : fA X 5 i = 1
    · by_cases h2 : X.1 0 < fA X 3 i + fA X 4 i
      · rw [if_pos h1, if_pos h2, nI_1, updTo_same (by omega) (by unfold endTG; rw [if_neg (fun q => q.2 h2)]; rfl)]
      · rw [if_pos h1, if_neg h2, updTo_wr (by omega) (by omega) (by unfold endTG; rw [if_pos ⟨h1, h2⟩])]
        simp only [Option.map_some, Option.bind_some, nI_1, sA_sA]
    · rw [if_neg h1, nI_1, updTo_same (by omega) (by unfold endTG; rw [if_neg (fun q => h1 q.1)]; rfl)]
  · simp only [iq_World_endTones_2, pW_I, Option.bind_some, endTX, sA_1, hr]
    rw [if_neg (nI_nlt (Nat.le_refl _) (by omega))]
/-- the k-th one that is yet to begin -/
def nthB (st : Nat → Int32) : Nat → Nat → Int32 → Int32
  | 0, _, _ => -1
  | n + 1, i, k => if st i = 0 then (if k = 0 then nI i else nthB st n (i + 1) (k + (-1 : Int32))) else nthB st n (i + 1) k
theorem k_toneToBegin (hw : wfW X t r) (k : Int32) : ia_cal xs (d + 1) im_World_toneToBegin [.ref a, .int k] (pW h a X) = some (some (.int (nthB (fA X 5) t 0 k)), pW h a X) := by
  have hr := hw.1
  have hr8 := hw.2.2.1
  rw [iu_World_toneToBegin, iq_World_toneToBegin_0]
  have key : ∀ q i k n, i + q = t → q + 1 ≤ n → ia_qr xs (ia_cal xs d) im_World_toneToBegin n 4 [.ref a, .float 0, .int k, .int (nI i)] [] (pW h a X) = some (some (.int (nthB (fA X 5) q i k)), pW h a X) := by
    intro q
    induction q with
    | zero =>
      intro i k n hi hn
      obtain ⟨m, rfl⟩ : ∃ m, n = m + 1 := ⟨n - 1, by omega⟩
      simp only [iq_World_toneToBegin_4, pW_I, Option.bind_some, hr]
      rw [if_neg (nI_nlt (by omega) (by omega))]
      rfl
    | succ q ih =>
      intro i k n hi hn
      obtain ⟨m, rfl⟩ : ∃ m, n = m + 1 := ⟨n - 1, by omega⟩
      simp only [iq_World_toneToBegin_4, pW_I, pW_R, pW_ld, Option.bind_some, hr, hw.rt (show i < t by omega)]
      rw [if_pos (nI_lt (by omega) (by omega)), nthB, nI_1, ih (i + 1) (k + (-1 : Int32)) m (by omega) (by omega), ih (i + 1) k m (by omega) (by omega)]
      split
      · split <;> rfl
      · rfl
  exact key t 0 k _ (by omega) (by omega)
theorem k_dropTone (hw : wfW X t r) : ia_cal xs (d + 1) im_World_dropTone [.ref a] (pW h a X) = some (none, pW h a (sI X 2 (nI (t - 1)))) := by
  have hr := hw.1
  have hr8 := hw.2.2.1
  rw [iu_World_dropTone, iq_World_dropTone_0]
  simp only [pW_I, pW_pf, Option.bind_some, hr]
  cases t with
  | zero =>
    rw [if_neg (by decide)]
    have : sI X 2 (nI (0 - 1)) = X := by
      unfold sI
      have : va_up X.1 2 (nI (0 - 1)) = X.1 := by
        funext j
        show (if j = 2 then nI (0 - 1) else X.1 j) = X.1 j
        by_cases h : j = 2
        · rw [if_pos h, h, hr]
        · rw [if_neg h]
      rw [this]
    rw [this]
  | succ t =>
    rw [if_pos (show (0 : Int32) < nI (t + 1) from nI_lt (a := 0) (by omega) (by omega)), nI_pred]
    rfl
theorem k_addTone (hw : wfW X t r) (ht : t < 8) (v1 v2 v3 : Int32) : ia_cal xs (d + 1) im_World_addTone [.ref a, .int v1, .int v2, .int v3] (pW h a X) = some (none, pW h a (sI (sA (sA (sA (sA X 2 ((X.2 2).set t v1)) 3 ((X.2 3).set t v2)) 4 ((X.2 4).set t v3)) 5 ((X.2 5).set t 0)) 2 (nI (t + 1)))) := by
  have hr := hw.1
  obtain ⟨-, -, h2, h3, h4, h5, -⟩ := hw.ln
  rw [iu_World_addTone, iq_World_addTone_0]
  simp only [pW_I, pW_R, pW_st, pW_pf, Option.bind_some, hr, sA_1, sA_n (show (3 : Nat) ≠ 2 by decide), sA_n (show (4 : Nat) ≠ 2 by decide), sA_n (show (5 : Nat) ≠ 2 by decide), sA_n (show (4 : Nat) ≠ 3 by decide), sA_n (show (5 : Nat) ≠ 3 by decide), sA_n (show (5 : Nat) ≠ 4 by decide)]
  rw [if_pos (show nI t < (8 : Int32) from nI_lt (b := 8) ht (by omega))]
  simp only [wr_nI (show t < 2 ^ 31 by omega) (show t < (X.2 2).length by omega), wr_nI (show t < 2 ^ 31 by omega) (show t < (X.2 3).length by omega), wr_nI (show t < 2 ^ 31 by omega) (show t < (X.2 4).length by omega), wr_nI (show t < 2 ^ 31 by omega) (show t < (X.2 5).length by omega), Option.map_some, Option.bind_some, pW_I, pW_R, pW_st, pW_pf, hr, sA_1, sA_n (show (3 : Nat) ≠ 2 by decide), sA_n (show (4 : Nat) ≠ 2 by decide), sA_n (show (5 : Nat) ≠ 2 by decide), sA_n (show (4 : Nat) ≠ 3 by decide), sA_n (show (5 : Nat) ≠ 3 by decide), sA_n (show (5 : Nat) ≠ 4 by decide), nI_1]
end KX
