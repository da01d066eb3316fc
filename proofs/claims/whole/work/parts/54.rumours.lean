/-! What was heard; quarters till a call is over, quarters engaged. -/
def bcU (U : aG) : Int32 := if U.1 1 = -1 then U.1 0 else U.1 1
def wfU (U : aG) (m : Nat) : Prop := (U.2.1 0).length = 24 ∧ (U.2.1 1).length = 24 ∧ (U.2.1 2).length = 24 ∧ (U.2.1 3).length = 24 ∧ bcU U = nI m ∧ m ≤ 24
def ctU (U : aG) (i : Nat) : Prop := ¬ fG U 0 i = 2 ∧ fG U 3 i = 0
def jd (kd wh : Nat → Int32) : Nat → List Int32 → List Int32
  | 0, l => l
  | i + 1, l => jd kd wh i (if kd i = 2 ∧ l.getD i 0 = 0 ∧ ¬ wh i < 0 ∧ wh i < nI i then l.set (wh i).toNatClampNeg 1 else l)
def lqF (U : aG) : Nat → Int32
  | 0 => -1
  | i + 1 => if ¬ fG U 0 i = 2 ∧ fG U 3 i = 0 then (if lqF U i < fG U 1 i then fG U 1 i else lqF U i) else lqF U i
def agF (U : aG) (qv eng : Int32) (m : Nat) : Int32 := anyI (fun i => (¬ fG U 0 i = 2 ∧ fG U 3 i = 0) ∧ fG U 1 i = qv ∧ ¬ ((eng >>> (fG U 2 i &&& 31)) &&& 1) = fG U 0 i) m 0
theorem jd_len {kd wh : Nat → Int32} : ∀ i l, (jd kd wh i l).length = l.length
  | 0, _ => rfl
  | i + 1, l => by
    rw [jd, jd_len i]
    split
    · rw [List.length_set]
    · rfl
section TU
variable (xs : List Int32) (d : Nat) {H : ia_H} {x : Nat} {C : aC} {m : Nat}
theorem k_maxI (v w : Int32) (g : ia_H) : ia_cal xs (d + 1) im_Math_maxI [.int v, .int w] g = some (some (.int (if v < w then w else v)), g) := by
  rw [iu_Math_maxI, iq_Math_maxI_0]
  split <;> rfl
theorem u_count : ia_cal xs (d + 1) im_Rumours_believedCount [.ref (x + 149)] (tot H x C) = some (some (.int (bcU (C.1 15))), tot H x C) := by
  rw [iu_Rumours_believedCount, iq_Rumours_believedCount_0]
  simp only [↓tU_Ib, bcU]
  split <;> rfl
theorem u_counts (hU : wfU (C.1 15) m) {i : Nat} (hi : i < m) : ia_cal xs (d + 1) im_Rumours_counts [.ref (x + 149), .int (nI i)] (tot H x C) = some (some (.int (if ¬ fG (C.1 15) 0 i = 2 ∧ fG (C.1 15) 3 i = 0 then 1 else 0)), tot H x C) := by
  obtain ⟨l0, l1, l2, l3, hb, hm⟩ := hU
  have r0 : rd ((C.1 15).2.1 0) (nI i) = some (fG (C.1 15) 0 i) := rdG (by omega) (by omega)
  have r3 : rd ((C.1 15).2.1 3) (nI i) = some (fG (C.1 15) 3 i) := rdG (by omega) (by omega)
  rw [iu_Rumours_counts, iq_Rumours_counts_0]
  simp only [↓tU_Rb, ↓tU_ldb, ↓bs r0, ↓bs r3, ↓ok0, ↓ok1]
  by_cases c1 : fG (C.1 15) 0 i = 2 <;> by_cases c2 : fG (C.1 15) 3 i = 0 <;> simp [c1, c2]
theorem u_judge (hU : wfU (C.1 15) m) : ia_cal xs (d + 2) im_Rumours_judge [.ref (x + 149)] (tot H x C) = some (none, tot H x (uG C 15 (gA (C.1 15) 3 (jd (fG (C.1 15) 0) (fG (C.1 15) 2) m (updTo ((C.1 15).2.1 3) (fun _ => 0) m))))) := by
  obtain ⟨l0, l1, l2, l3, hb, hm⟩ := hU
  rw [iu_Rumours_judge, iq_Rumours_judge_0]
  simp only [↓tU_clsb, ↓cI_of (u_count xs d), hb]
  have e0 : vp_nar .boolean (0 : Int32) = 0 := by decide
  have e1 : vp_nar .boolean (1 : Int32) = 1 := by decide
  have sU : ∀ l, (uG C 15 (gA (C.1 15) 3 l)).1 15 = gA (C.1 15) 3 l := fun l => uG_s
  have second : ∀ i l N, i ≤ m → l.length = 24 → i + 1 ≤ N → ia_qr xs (ia_cal xs (d + 1)) im_Rumours_judge N 19 [.ref (x + 149), .float 0, .int (nI i - 1)] [] (tot H x (uG C 15 (gA (C.1 15) 3 l))) = some (none, tot H x (uG C 15 (gA (C.1 15) 3 (jd (fG (C.1 15) 0) (fG (C.1 15) 2) i l)))) := by
    intro i
    induction i with
    | zero =>
      intro l N hi hl hN
      obtain ⟨N, rfl⟩ : ∃ m, N = m + 1 := ⟨N - 1, by omega⟩
      rw [iq_Rumours_judge_19, if_p (by decide)]
      rfl
    | succ i ih =>
      intro l N hi hl hN
      obtain ⟨N, rfl⟩ : ∃ m, N = m + 1 := ⟨N - 1, by omega⟩
      have r0 : rd ((C.1 15).2.1 0) (nI i) = some (fG (C.1 15) 0 i) := rdG (by omega) (by omega)
      have r2 : rd ((C.1 15).2.1 2) (nI i) = some (fG (C.1 15) 2 i) := rdG (by omega) (by omega)
      have r3 : rd l (nI i) = some (l.getD i 0) := rdN (by omega) (by omega)
      have em : nI i + (-1) = nI i - 1 := (Int32.sub_eq_add_neg _ _).symm
      rw [nI_pred, iq_Rumours_judge_19]
      simp only [↓if_n (nI_pos (show i < 2 ^ 31 by omega)), ↓tU_Rb, ↓tU_ldb, sU, gA_s, gA_n (show 0 ≠ 3 by decide), gA_n (show 2 ≠ 3 by decide), ↓bs r0, ↓bs r2, ↓bs r3, em, ↓tU_stb, e1, uG_G, gA_A]
      rw [jd]
      by_cases c1 : fG (C.1 15) 0 i = 2
      · by_cases c2 : l.getD i 0 = 0
        · by_cases c3 : fG (C.1 15) 2 i < 0
          · rw [if_pos c1, if_pos c2, if_pos c3, if_neg (fun z => z.2.2.1 c3)]
            exact ih l N (by omega) hl (by omega)
          · by_cases c4 : fG (C.1 15) 2 i < nI i
            · obtain ⟨j, hj, ej⟩ := nI_of c3
              have hji : j < i := by
                rw [ej, nI_ltI hj (by omega)] at c4
                exact c4
              rw [if_pos c1, if_pos c2, if_neg c3, if_pos c4, if_pos ⟨c1, c2, c3, c4⟩, ej, wr_nI hj (by omega), nI_clamp hj]
              simp only [Option.bind_some]
              exact ih (l.set j 1) N (by omega) (by rw [List.length_set]; exact hl) (by omega)
            · rw [if_pos c1, if_pos c2, if_neg c3, if_neg c4, if_neg (fun z => c4 z.2.2.2)]
              exact ih l N (by omega) hl (by omega)
        · rw [if_pos c1, if_neg c2, if_neg (fun z => c2 z.2.1)]
          exact ih l N (by omega) hl (by omega)
      · rw [if_neg c1, if_neg (fun z => c1 z.1)]
        exact ih l N (by omega) hl (by omega)
  have h0 : tot H x C = tot H x (uG C 15 (gA (C.1 15) 3 (updTo ((C.1 15).2.1 3) (fun _ => 0) 0))) := by
    show _ = tot H x (uG C 15 (gA (C.1 15) 3 ((C.1 15).2.1 3)))
    rw [gA_id, uG_id]
  rw [h0]
  refine lp_sc (σ := Unit) (F := fun N i _ => ia_qr xs (ia_cal xs (d + 1)) im_Rumours_judge N 5 [.ref (x + 149), .int (nI m), .int (nI i)] [] (tot H x (uG C 15 (gA (C.1 15) 3 (updTo ((C.1 15).2.1 3) (fun _ => 0) i))))) (I := fun _ => True) (N := m) (cost := 1) (c0 := m + 2) (R := fun o => o = some (none, tot H x (uG C 15 (gA (C.1 15) 3 (jd (fG (C.1 15) 0) (fG (C.1 15) 2) m (updTo ((C.1 15).2.1 3) (fun _ => 0) m)))))) (fun i hi s _ N hN => ?_) (fun N s hN _ => ?_) m 0 (by omega) () trivial 999999 (by omega)
  · obtain ⟨N, rfl⟩ : ∃ m, N = m + 1 := ⟨N - 1, by omega⟩
    refine ⟨N, (), Nat.le_refl _, trivial, ?_⟩
    show ia_qr xs (ia_cal xs (d + 1)) im_Rumours_judge (N + 1) 5 [.ref (x + 149), .int (nI m), .int (nI i)] [] _ = _
    rw [iq_Rumours_judge_5]
    simp only [↓if_p (nI_lt hi (show m < 2 ^ 31 by omega)), ↓tU_Rb, ↓tU_stb, sU, gA_s, e0, uG_G, gA_A, ↓bs (updTo_wr (l := (C.1 15).2.1 3) (g := fun _ => 0) (i := i) (v := 0) (by omega) (by omega) rfl), nI_1]
  · obtain ⟨N, rfl⟩ : ∃ m, N = m + 1 := ⟨N - 1, by omega⟩
    show ia_qr xs (ia_cal xs (d + 1)) im_Rumours_judge (N + 1) 5 [.ref (x + 149), .int (nI m), .int (nI m)] [] _ = _
    rw [iq_Rumours_judge_5]
    simp only [↓if_n (nI_nlt (Nat.le_refl m) (show m < 2 ^ 31 by omega))]
    exact second m _ N (Nat.le_refl m) (by rw [updTo_len]; exact l3) (by omega)
theorem u_last (hU : wfU (C.1 15) m) : ia_cal xs (d + 2) im_Rumours_lastQuarter [.ref (x + 149)] (tot H x C) = some (some (.int (lqF (C.1 15) m)), tot H x C) := by
  have hm := hU.2.2.2.2.2
  have hb := hU.2.2.2.2.1
  have l1 := hU.2.1
  rw [iu_Rumours_lastQuarter, iq_Rumours_lastQuarter_0]
  simp only [↓tU_clsb, ↓cI_of (u_count xs d), hb]
  refine lp_up (F := fun N i => ia_qr xs (ia_cal xs (d + 1)) im_Rumours_lastQuarter N 7 [.ref (x + 149), .int (lqF (C.1 15) i), .int (nI m), .int (nI i)] [] (tot H x C)) (N := m) (cost := 1) (fun i hi N hN => ?_) (fun N => ?_) m 0 (by omega) _ (by omega)
  · obtain ⟨N, rfl⟩ : ∃ m, N = m + 1 := ⟨N - 1, by omega⟩
    refine ⟨N, Nat.le_refl _, ?_⟩
    have r1 : rd ((C.1 15).2.1 1) (nI i) = some (fG (C.1 15) 1 i) := rdG (by omega) (by omega)
    rw [iq_Rumours_lastQuarter_7]
    simp only [↓if_p (nI_lt hi (show m < 2 ^ 31 by omega)), ↓tU_clsb, ↓cI_of (u_counts xs d hU hi), nI_1, lqF]
    by_cases c : ¬ fG (C.1 15) 0 i = 2 ∧ fG (C.1 15) 3 i = 0
    · simp only [if_pos c, ↓if_n (show ¬ (1 : Int32) = 0 by decide), ↓tU_Rb, ↓tU_ldb, ↓bs r1, ↓cI_of (k_maxI xs d _ _ _)]
    · simp only [if_neg c, if_true]
  · rw [iq_Rumours_lastQuarter_7]
    simp only [↓if_n (nI_nlt (Nat.le_refl m) (show m < 2 ^ 31 by omega))]
theorem u_agree (hU : wfU (C.1 15) m) (qv eng : Int32) : ia_cal xs (d + 2) im_Rumours_agree [.ref (x + 149), .int qv, .int eng] (tot H x C) = some (some (.int (if agF (C.1 15) qv eng m = 0 then 1 else 0)), tot H x C) := by
  have hm := hU.2.2.2.2.2
  have hb := hU.2.2.2.2.1
  have l1 := hU.2.1
  have l0 := hU.1
  have l2 := hU.2.2.1
  rw [iu_Rumours_agree, iq_Rumours_agree_0]
  simp only [↓tU_clsb, ↓cI_of (u_count xs d), hb]
  have key : ∀ k i, srch (fun i => (¬ fG (C.1 15) 0 i = 2 ∧ fG (C.1 15) 3 i = 0) ∧ fG (C.1 15) 1 i = qv ∧ ¬ ((eng >>> (fG (C.1 15) 2 i &&& 31)) &&& 1) = fG (C.1 15) 0 i) (fun _ => some (some (.int 0), tot H x C)) (some (some (.int 1), tot H x C)) k i = some (some (.int (if anyI (fun i => (¬ fG (C.1 15) 0 i = 2 ∧ fG (C.1 15) 3 i = 0) ∧ fG (C.1 15) 1 i = qv ∧ ¬ ((eng >>> (fG (C.1 15) 2 i &&& 31)) &&& 1) = fG (C.1 15) 0 i) k i = 0 then 1 else 0)), tot H x C) := by
    intro k
    induction k with
    | zero => intro i; rfl
    | succ k ih =>
      intro i
      rw [srch, anyI]
      split
      · rfl
      · exact ih (i + 1)
  unfold agF
  rw [← key]
  refine lp_find (F := fun N i => ia_qr xs (ia_cal xs (d + 1)) im_Rumours_agree N 5 [.ref (x + 149), .int qv, .int eng, .int (nI m), .int (nI i)] [] (tot H x C)) (N := m) (cost := 1) (fun i hi N hN => ?_) (fun N => ?_) m 0 (by omega) _ (by omega)
  · obtain ⟨N, rfl⟩ : ∃ m, N = m + 1 := ⟨N - 1, by omega⟩
    refine ⟨N, Nat.le_refl _, ?_⟩
    have r0 : rd ((C.1 15).2.1 0) (nI i) = some (fG (C.1 15) 0 i) := rdG (by omega) (by omega)
    have r1 : rd ((C.1 15).2.1 1) (nI i) = some (fG (C.1 15) 1 i) := rdG (by omega) (by omega)
    have r2 : rd ((C.1 15).2.1 2) (nI i) = some (fG (C.1 15) 2 i) := rdG (by omega) (by omega)
    rw [iq_Rumours_agree_5]
    simp only [↓if_p (nI_lt hi (show m < 2 ^ 31 by omega)), ↓tU_clsb, ↓cI_of (u_counts xs d hU hi), nI_1]
    by_cases c : ¬ fG (C.1 15) 0 i = 2 ∧ fG (C.1 15) 3 i = 0
    · simp only [if_pos c, ↓if_n (show ¬ (1 : Int32) = 0 by decide), ↓tU_Rb, ↓tU_ldb, ↓bs r0, ↓bs r1, ↓bs r2, ↓ok0]
      by_cases c2 : fG (C.1 15) 1 i = qv
      · by_cases c3 : ((eng >>> (fG (C.1 15) 2 i &&& 31)) &&& 1) = fG (C.1 15) 0 i
        · rw [if_pos c2, if_pos c3, if_neg (fun z => z.2.2 c3)]
        · rw [if_pos c2, if_neg c3, if_pos (Or.inl trivial), if_pos ⟨c, c2, c3⟩]
      · rw [if_neg c2, if_neg (fun z => c2 z.2.1)]
    · simp only [if_neg c, if_true]
      rw [if_neg (fun z => c z.1)]
  · rw [iq_Rumours_agree_5]
    simp only [↓if_n (nI_nlt (Nat.le_refl m) (show m < 2 ^ 31 by omega)), ↓ok1]
end TU
def qO (f : Nat → Int32) : Nat → Nat → Int32
  | 0, _ => -2
  | k + 1, i => if f (i - 1) = 3 then -2 else if f i = 2 then nI i else qO f k (i + 1)
def enF (g : Nat → Int32) : Nat → Int32
  | 0 => 0
  | i + 1 => enF g i + g (i + 1)
def boF (g : Nat → Int32) : Nat → Nat → Int32
  | 0, _ => 1
  | k + 1, i => if g i = 0 then boF g k (i + 1) else 0
section TG2
variable (xs : List Int32) (d : Nat) {H : ia_H} {x : Nat} {C : aC} {σ : Bool} {t r p n : Nat} {X : aW} {dr : Int64} {sc : List Int64 × List Int64}
theorem t_qOver (q : fx x C σ) (hE : (C.1 12).2.2.2.2 0 = sd x σ) (hS : wfS (C.1 (kS σ)) p n) (hQ : wfQ (C.1 (kL σ))) (hX : wfX X t r p) (hsc : scw sc) {c : Nat} (hc : c < r) {m : Nat} (hm : m ≤ 99) {mI : Int32} (hmI : mI = nI m) :
    ∃ X' dr' sc', scw sc' ∧ wfX X' t r p ∧ ia_cal xs (d + 6) im_Foresight_quartersTillOver [.ref (x + 109), .int (nI c), .int mI] (tot H x (nx C true 5 σ X dr sc)) = some (some (.int (qO (fun i => fA (fN C σ t r p n (X, dr) i).1 10 c) m 1)), tot H x (nx C true 5 σ X' dr' sc')) := by
  subst hmI
  have hr10 := hX.1.2.2.2.1
  rw [iu_Foresight_quartersTillOver, iq_Foresight_quartersTillOver_0]
  have key : ∀ k i s N, i + k = m → scw s → k + 1 ≤ N → ∃ X' dr' sc', scw sc' ∧ wfX X' t r p ∧ ia_qr xs (ia_cal xs (d + 5)) im_Foresight_quartersTillOver N 2 [.ref (x + 109), .int (nI c), .int (nI m), .int (nI (i + 1))] [] (tot H x (nx C true 5 σ (fN C σ t r p n (X, dr) i).1 (fN C σ t r p n (X, dr) i).2 s)) = some (some (.int (qO (fun i => fA (fN C σ t r p n (X, dr) i).1 10 c) k (i + 1))), tot H x (nx C true 5 σ X' dr' sc')) := by
    intro k
    induction k with
    | zero =>
      intro i s N hi hs hN
      obtain ⟨N, rfl⟩ : ∃ m, N = m + 1 := ⟨N - 1, by omega⟩
      refine ⟨_, (fN C σ t r p n (X, dr) i).2, s, hs, fN_wf (C := C) (σ := σ) (n := n) (dr := dr) hX i, ?_⟩
      rw [iq_Foresight_quartersTillOver_2, if_p (nI_lt (show m < i + 1 by omega) (by omega))]
      rfl
    | succ k ih =>
      intro i s N hi hs hN
      obtain ⟨N, rfl⟩ : ∃ m, N = m + 1 := ⟨N - 1, by omega⟩
      have hw := fN_wf (C := C) (σ := σ) (n := n) (dr := dr) hX i
      have hw1 := fN_wf (C := C) (σ := σ) (n := n) (dr := dr) hX (i + 1)
      have r10 := (hw.1.rr hc).2.2.2.2.1
      have s10 := (hw1.1.rr hc).2.2.2.2.1
      rw [iq_Foresight_quartersTillOver_2, qO]
      simp only [↓if_n (nI_nlt (show i + 1 ≤ m by omega) (by omega)), ↓tF_Rb (nx_fx q), ↓tW_Rb (show 5 < 7 by decide), ↓tW_ldb (show 5 < 7 by decide), nx_W, ↓bs r10, Nat.add_sub_cancel]
      by_cases c1 : fA (fN C σ t r p n (X, dr) i).1 10 c = 3
      · simp only [if_pos c1]
        exact ⟨(fN C σ t r p n (X, dr) i).1, (fN C σ t r p n (X, dr) i).2, s, hs, hw, rfl⟩
      · obtain ⟨s', h1, h2⟩ := t_stepN xs d (H := H) (dr := dr) q hE hS hQ hX i hs
        simp only [if_neg c1, ↓tE_clsb, ↓cV_of h2, ↓tF_Rb (nx_fx q), ↓tW_Rb (show 5 < 7 by decide), ↓tW_ldb (show 5 < 7 by decide), nx_W, ↓bs s10, nI_1]
        by_cases c2 : fA (fN C σ t r p n (X, dr) (i + 1)).1 10 c = 2
        · simp only [if_pos c2]
          exact ⟨(fN C σ t r p n (X, dr) (i + 1)).1, (fN C σ t r p n (X, dr) (i + 1)).2, s', h1, hw1, rfl⟩
        · simp only [if_neg c2]
          exact ih (i + 1) s' N (by omega) h1 (by omega)
  exact key m 0 sc 999999 (by omega) hsc (by omega)
theorem t_engagedIn (q : fx x C σ) (hE : (C.1 12).2.2.2.2 0 = sd x σ) (hS : wfS (C.1 (kS σ)) p n) (hQ : wfQ (C.1 (kL σ))) (hX : wfX X t r p) (hsc : scw sc) {m : Nat} (hm : m ≤ 99) {mI : Int32} (hmI : mI = nI m) (man : Int32) :
    ∃ X' dr' sc', scw sc' ∧ wfX X' t r p ∧ ia_cal xs (d + 6) im_Foresight_engagedIn [.ref (x + 109), .int mI, .int man] (tot H x (nx C true 5 σ X dr sc)) = some (some (.int (enF (fun i => (engX (fN C σ t r p n (X, dr) i).1 t r >>> (man &&& 31)) &&& 1) m)), tot H x (nx C true 5 σ X' dr' sc')) := by
  subst hmI
  have we := fun (X : aW) (dr : Int64) (s : List Int64 × List Int64) (hX : wfX X t r p) => w_engaged xs (d + 3) (H := H) (x := x) (C := nx C true 5 σ X dr s) (k := 5) (t := t) (r := r) (by decide) (by rw [nx_W]; exact hX.1)
  simp only [nx_W] at we
  rw [iu_Foresight_engagedIn, iq_Foresight_engagedIn_0]
  refine lp_sc (σ := List Int64 × List Int64) (F := fun N i s => ia_qr xs (ia_cal xs (d + 5)) im_Foresight_engagedIn N 4 [.ref (x + 109), .int (nI m), .int man, .int (enF (fun i => (engX (fN C σ t r p n (X, dr) i).1 t r >>> (man &&& 31)) &&& 1) i), .int (nI i)] [] (tot H x (nx C true 5 σ (fN C σ t r p n (X, dr) i).1 (fN C σ t r p n (X, dr) i).2 s))) (I := scw) (N := m) (cost := 1) (c0 := 1) (R := fun o => ∃ X' dr' sc', scw sc' ∧ wfX X' t r p ∧ o = some (some (.int (enF (fun i => (engX (fN C σ t r p n (X, dr) i).1 t r >>> (man &&& 31)) &&& 1) m)), tot H x (nx C true 5 σ X' dr' sc'))) (fun i hi s hs N hN => ?_) (fun N s hN hs => ?_) m 0 (by omega) sc hsc 999999 (by omega)
  · obtain ⟨N, rfl⟩ : ∃ m, N = m + 1 := ⟨N - 1, by omega⟩
    have hw1 := fN_wf (C := C) (σ := σ) (n := n) (dr := dr) hX (i + 1)
    obtain ⟨s', h1, h2⟩ := t_stepN xs d (H := H) (dr := dr) q hE hS hQ hX i hs
    refine ⟨N, s', Nat.le_refl _, h1, ?_⟩
    show ia_qr xs (ia_cal xs (d + 5)) im_Foresight_engagedIn (N + 1) 4 _ [] _ = _
    rw [iq_Foresight_engagedIn_4]
    simp only [↓if_p (nI_lt hi (show m < 2 ^ 31 by omega)), ↓tF_Rb (nx_fx q), ↓tE_clsb, ↓cV_of h2, ↓tW_clsb (show 5 < 7 by decide), ↓cI_of (we _ _ s' hw1), nI_1]
    rfl
  · obtain ⟨N, rfl⟩ : ∃ m, N = m + 1 := ⟨N - 1, by omega⟩
    refine ⟨(fN C σ t r p n (X, dr) m).1, (fN C σ t r p n (X, dr) m).2, s, hs, fN_wf (C := C) (σ := σ) (n := n) (dr := dr) hX m, ?_⟩
    show ia_qr xs (ia_cal xs (d + 5)) im_Foresight_engagedIn (N + 1) 4 _ [] _ = _
    rw [iq_Foresight_engagedIn_4]
    simp only [↓if_n (nI_nlt (Nat.le_refl m) (show m < 2 ^ 31 by omega))]
theorem t_bearsOut (q : fx x C σ) (hE : (C.1 12).2.2.2.2 0 = sd x σ) (hS : wfS (C.1 (kS σ)) p n) (hQ : wfQ (C.1 (kL σ))) (hX : wfX X t r p) (hsc : scw sc) {w : Nat} (hU : wfU (C.1 15) w) {m : Nat} (hm : m ≤ 99) (hl : lqF (C.1 15) w = nI m - 1) :
    ∃ X' dr' sc', scw sc' ∧ wfX X' t r p ∧ ia_cal xs (d + 6) im_Foresight_bearsOut [.ref (x + 109), .ref (x + 149)] (tot H x (nx C true 5 σ X dr sc)) = some (some (.int (boF (fun i => agF (C.1 15) (nI i) (engX (fN C σ t r p n (X, dr) (i + 1)).1 t r) w) m 0)), tot H x (nx C true 5 σ X' dr' sc')) := by
  have we := fun (X : aW) (dr : Int64) (s : List Int64 × List Int64) (hX : wfX X t r p) => w_engaged xs (d + 3) (H := H) (x := x) (C := nx C true 5 σ X dr s) (k := 5) (t := t) (r := r) (by decide) (by rw [nx_W]; exact hX.1)
  simp only [nx_W] at we
  have n15 : ∀ X dr s, (nx C true 5 σ X dr s).1 15 = C.1 15 := fun X dr s => nx_n (by decide) (kne2 σ true).2.2.2.2.2.2.1
  have ul := u_last xs (d + 3) (H := H) (x := x) (C := nx C true 5 σ X dr sc) (m := w) (by rw [n15]; exact hU)
  rw [n15, hl] at ul
  have ua := fun (X : aW) (dr : Int64) (s : List Int64 × List Int64) => u_agree xs (d + 3) (H := H) (x := x) (C := nx C true 5 σ X dr s) (m := w) (by rw [n15]; exact hU)
  simp only [n15] at ua
  rw [iu_Foresight_bearsOut, iq_Foresight_bearsOut_0]
  simp only [↓tU_clsb, ↓cI_of ul]
  have lt1 : ∀ i, i < m → ¬ (nI m - 1 < nI i) := fun i hi => by
    obtain ⟨m', rfl⟩ : ∃ m', m = m' + 1 := ⟨m - 1, by omega⟩
    rw [nI_pred]
    exact nI_nlt (by omega) (by omega)
  have lt2 : nI m - 1 < nI m := by
    cases m with
    | zero => decide
    | succ m' =>
      rw [nI_pred]
      exact nI_lt (by omega) (by omega)
  have key : ∀ k i s N, i + k = m → scw s → k + 1 ≤ N → ∃ X' dr' sc', scw sc' ∧ wfX X' t r p ∧ ia_qr xs (ia_cal xs (d + 5)) im_Foresight_bearsOut N 5 [.ref (x + 109), .ref (x + 149), .int (nI m - 1), .int (nI i)] [] (tot H x (nx C true 5 σ (fN C σ t r p n (X, dr) i).1 (fN C σ t r p n (X, dr) i).2 s)) = some (some (.int (boF (fun i => agF (C.1 15) (nI i) (engX (fN C σ t r p n (X, dr) (i + 1)).1 t r) w) k i)), tot H x (nx C true 5 σ X' dr' sc')) := by
    intro k
    induction k with
    | zero =>
      intro i s N hi hs hN
      obtain ⟨N, rfl⟩ : ∃ m, N = m + 1 := ⟨N - 1, by omega⟩
      refine ⟨_, (fN C σ t r p n (X, dr) i).2, s, hs, fN_wf (C := C) (σ := σ) (n := n) (dr := dr) hX i, ?_⟩
      rw [show i = m by omega, iq_Foresight_bearsOut_5, if_p lt2, ok1]
      rfl
    | succ k ih =>
      intro i s N hi hs hN
      obtain ⟨N, rfl⟩ : ∃ m, N = m + 1 := ⟨N - 1, by omega⟩
      have hw1 := fN_wf (C := C) (σ := σ) (n := n) (dr := dr) hX (i + 1)
      obtain ⟨s', h1, h2⟩ := t_stepN xs d (H := H) (dr := dr) q hE hS hQ hX i hs
      rw [iq_Foresight_bearsOut_5, boF]
      simp only [↓if_n (lt1 i (by omega)), ↓tF_Rb (nx_fx q), ↓tE_clsb, ↓cV_of h2, ↓tW_clsb (show 5 < 7 by decide), ↓cI_of (we _ _ s' hw1), ↓tU_clsb, ↓cI_of (ua _ _ s' _ _), ↓ok0, nI_1]
      by_cases c2 : agF (C.1 15) (nI i) (engX (fN C σ t r p n (X, dr) (i + 1)).1 t r) w = 0
      · simp only [if_pos c2, ↓if_n (show ¬ (1 : Int32) = 0 by decide)]
        exact ih (i + 1) s' N (by omega) h1 (by omega)
      · simp only [if_neg c2, if_true]
        exact ⟨(fN C σ t r p n (X, dr) (i + 1)).1, (fN C σ t r p n (X, dr) (i + 1)).2, s', h1, hw1, rfl⟩
  exact key m 0 sc 999999 (by omega) hsc (by omega)
end TG2
