/-! The reference: a desk as the text tells it. -/
def stg (M : aG) (k i : Nat) : Int32 := if k = 0 then (if nI i < fG M 1 0 then fG M 4 i else 0) else if k = 2 then (if nI i < fG M 1 1 then fG M 5 i else 0) else if k = 3 then (if nI i < fG M 1 1 then fG M 6 i else 0) else if k = 4 then (if nI i < fG M 1 1 then fG M 7 i else 0) else if k = 8 then (if nI i < fG M 1 3 then fG M 12 i else 0) else if k = 9 then (if nI i < fG M 1 3 then fG M 13 i else 0) else 0
def stW (M : aG) (X : aW) : aW := (fun k => if k < 2 then 0 else if k = 2 then fG M 1 1 else X.1 k, fun k => if k = 6 ∨ k = 7 then X.2 k else (List.range (lenW k)).map (stg M k))
theorem rng_get {g : Nat → Int32} {w i : Nat} (hi : i < w) : ((List.range w).map g).getD i 0 = g i := by
  rw [List.getD_eq_getElem?_getD, List.getElem?_map, List.getElem?_range hi]
  rfl
theorem stW_f {M : aG} {X : aW} {k i : Nat} (h6 : k ≠ 6) (h7 : k ≠ 7) (hi : i < lenW k) : fA (stW M X) k i = stg M k i := by
  unfold fA
  show (if k = 6 ∨ k = 7 then X.2 k else (List.range (lenW k)).map (stg M k)).getD i 0 = _
  rw [if_neg (fun z => z.elim h6 h7), rng_get hi]
theorem stW_ln {M : aG} {X : aW} (h : lnX X) : lnX (stW M X) := by
  have key : ∀ k, k < 12 → ((stW M X).2 k).length = lenW k := fun k hk => by
    show (if k = 6 ∨ k = 7 then X.2 k else (List.range (lenW k)).map (stg M k)).length = lenW k
    split
    · exact lnX_len h hk
    · rw [List.length_map, List.length_range]
  refine ⟨fun k hk => ?_, fun k h1 h2 => ?_, fun k h1 h2 => ?_⟩
  · rw [key k (by omega)]; unfold lenW; rw [if_pos hk]
  · rw [key k (by omega)]; unfold lenW; rw [if_neg (by omega), if_pos h2]
  · rw [key k h2]; unfold lenW; rw [if_neg (by omega), if_neg (by omega)]
def sp1 (M : aG) (Y : aW) (i : Nat) : aW := sA (sA Y 0 (updTo (Y.2 0) (stg M 0) i)) 1 (updTo (Y.2 1) (stg M 1) i)
def sp2 (M : aG) (Y : aW) (i : Nat) : aW := sA (sA (sA (sA Y 2 (updTo (Y.2 2) (stg M 2) i)) 3 (updTo (Y.2 3) (stg M 3) i)) 4 (updTo (Y.2 4) (stg M 4) i)) 5 (updTo (Y.2 5) (stg M 5) i)
def sp3 (M : aG) (Y : aW) (i : Nat) : aW := sA (sA (sA (sA Y 8 (updTo (Y.2 8) (stg M 8) i)) 9 (updTo (Y.2 9) (stg M 9) i)) 10 (updTo (Y.2 10) (stg M 10) i)) 11 (updTo (Y.2 11) (stg M 11) i)
theorem lnS1 {Y : aW} {M : aG} {i : Nat} (h : lnX Y) : lnX (sp1 M Y i) := lnX_sA (lnX_sA h (updTo_len i)) (by rw [updTo_len, sA_n (by decide)])
theorem lnS2 {Y : aW} {M : aG} {i : Nat} (h : lnX Y) : lnX (sp2 M Y i) := lnX_sA (lnX_sA (lnX_sA (lnX_sA h (updTo_len i)) (by rw [updTo_len, sA_n (by decide)])) (by rw [updTo_len, sA_n (by decide), sA_n (by decide)])) (by rw [updTo_len, sA_n (by decide), sA_n (by decide), sA_n (by decide)])
theorem lnS3 {Y : aW} {M : aG} {i : Nat} (h : lnX Y) : lnX (sp3 M Y i) := lnX_sA (lnX_sA (lnX_sA (lnX_sA h (updTo_len i)) (by rw [updTo_len, sA_n (by decide)])) (by rw [updTo_len, sA_n (by decide), sA_n (by decide)])) (by rw [updTo_len, sA_n (by decide), sA_n (by decide), sA_n (by decide)])
section KS3
variable (xs : List Int32) (d : Nat) {h : ia_H} {a : Nat} {M : aG} {b : Nat} {Y : aW} {dr wk : Int32} {sc : List Int64 × List Int64}
theorem m_starts3 (hl : lnM M) (hb : b < 23) {Y3 : aW} (hY3 : lnX Y3) (X : aW) (hI : ∀ k, k < 3 → Y3.1 k = (stW M X).1 k) (hr3 : ∀ k, k < 6 → Y3.2 k = (stW M X).2 k) (N : Nat) (hN : 50 ≤ N) : ia_qr xs (ia_cal xs d) im_Mod_starts N 120 [.ref a, .int (nI b), .int 0, .float 0, .float 0] [] (my h a M b Y3 dr wk sc) = some (none, my h a M b (stW M X) dr wk sc) := by
  obtain ⟨n0, n1, -, n3, -⟩ := num_M hl
  have hlw : ∀ k, k < 12 → k ≠ 6 → k ≠ 7 → ((stW M X).2 k).length = lenW k := fun k hk h6 h7 => by
    show (if k = 6 ∨ k = 7 then X.2 k else (List.range (lenW k)).map (stg M k)).length = lenW k
    rw [if_neg (fun z => z.elim h6 h7), List.length_map, List.length_range]
  have e0 : my h a M b Y3 dr wk sc = my h a M b (sp3 M Y3 0) dr wk sc := my_ext (fun k hk => rfl) (fun k hk _ _ => by
    match k, hk with
    | 0, _ => rfl
    | 1, _ => rfl
    | 2, _ => rfl
    | 3, _ => rfl
    | 4, _ => rfl
    | 5, _ => rfl
    | 6, _ => rfl
    | 7, _ => rfl
    | 8, _ => rfl
    | 9, _ => rfl
    | 10, _ => rfl
    | 11, _ => rfl)
  rw [e0]
  refine lp_sc (σ := Unit) (F := fun N i _ => ia_qr xs (ia_cal xs d) im_Mod_starts N 120 [.ref a, .int (nI b), .int (nI i), .float 0, .float 0] [] (my h a M b (sp3 M Y3 i) dr wk sc)) (I := fun _ => True) (N := 10) (cost := 4) (c0 := 1) (R := fun o => o = some (none, my h a M b (stW M X) dr wk sc)) (fun i hi s _ N hN => ?_) (fun N s hN _ => ?_) 10 0 (by omega) () trivial N (by omega)
  · obtain ⟨N, rfl⟩ : ∃ m, N = m + 1 + 1 + 1 + 1 := ⟨N - 4, by omega⟩
    refine ⟨N, (), by omega, trivial, ?_⟩
    have hz : lnX (sp3 M Y3 i) := lnS3 hY3
    have hy : wfY M b (sp3 M Y3 i) := ⟨hl, hb, hz⟩
    have hz2 : ∀ v, lnX (sA (sp3 M Y3 i) 8 (((sp3 M Y3 i).2 8).set i v)) := fun v => lnX_sA hz (List.length_set ..)
    have hz3 : ∀ v w, lnX (sA (sA (sp3 M Y3 i) 8 (((sp3 M Y3 i).2 8).set i v)) 9 (((sA (sp3 M Y3 i) 8 (((sp3 M Y3 i).2 8).set i v)).2 9).set i w)) := fun v w => lnX_sA (hz2 v) (List.length_set ..)
    have hz4 : ∀ v w u, lnX (sA (sA (sA (sp3 M Y3 i) 8 (((sp3 M Y3 i).2 8).set i v)) 9 (((sA (sp3 M Y3 i) 8 (((sp3 M Y3 i).2 8).set i v)).2 9).set i w)) 10 (((sA (sA (sp3 M Y3 i) 8 (((sp3 M Y3 i).2 8).set i v)) 9 (((sA (sp3 M Y3 i) 8 (((sp3 M Y3 i).2 8).set i v)).2 9).set i w)).2 10).set i u)) := fun v w u => lnX_sA (hz3 v w) (List.length_set ..)
    have hy2 : ∀ v, wfY M b _ := fun v => ⟨hl, hb, hz2 v⟩
    have hy3 : ∀ v w, wfY M b _ := fun v w => ⟨hl, hb, hz3 v w⟩
    have hy4 : ∀ v w u, wfY M b _ := fun v w u => ⟨hl, hb, hz4 v w u⟩
    have r12 : rd (M.2.1 12) (nI i) = some (fG M 12 i) := rdM hl (by decide) (by show i < 20; omega) (by decide)
    have r13 : rd (M.2.1 13) (nI i) = some (fG M 13 i) := rdM hl (by decide) (by show i < 20; omega) (by decide)
    show ia_qr xs (ia_cal xs d) im_Mod_starts (N + 1 + 1 + 1 + 1) 120 _ [] _ = _
    rw [iq_Mod_starts_120]
    simp only [↓if_p (show nI i < (10 : Int32) from nI_lt (b := 10) hi (by decide)), ↓my_Rb, ↓my_ldb, ↓bs n3]
    by_cases c : nI i < fG M 1 3
    · rw [if_pos c, iq_Mod_starts_138]
      simp only [↓my_Rb, ↓if_n (show ¬ (1 : Int32) = 0 by decide), ↓my_ldb, ↓bs r12]
      rw [iq_Mod_starts_150]
      simp only [↓my_w27 hy hi, ↓my_Rb, ↓if_n (show ¬ (1 : Int32) = 0 by decide), ↓my_ldb, ↓bs r13]
      rw [iq_Mod_starts_162]
      simp only [↓my_w28 (hy2 _) hi, ↓my_Rb, ↓my_w29 (hy3 _ _) hi, ↓my_w30 (hy4 _ _ _) hi, nI_1]
      have g2 : stg M 8 i = fG M 12 i := by unfold stg; rw [if_neg (by decide), if_neg (by decide), if_neg (by decide), if_neg (by decide), if_pos rfl, if_pos c]
      have g3 : stg M 9 i = fG M 13 i := by unfold stg; rw [if_neg (by decide), if_neg (by decide), if_neg (by decide), if_neg (by decide), if_neg (by decide), if_pos rfl, if_pos c]
      rw [← g2, ← g3]
      exact congrArg (ia_qr xs (ia_cal xs d) im_Mod_starts N 120 _ []) (my_ext (fun k hk => rfl) (fun k hk _ _ => by
        match k, hk with
        | 0, _ => rfl
        | 1, _ => rfl
        | 2, _ => rfl
        | 3, _ => rfl
        | 4, _ => rfl
        | 5, _ => rfl
        | 6, _ => rfl
        | 7, _ => rfl
        | 8, _ => rfl
        | 9, _ => rfl
        | 10, _ => rfl
        | 11, _ => rfl))
    · rw [if_neg c, iq_Mod_starts_138]
      simp only [↓my_Rb, if_true]
      rw [iq_Mod_starts_150]
      simp only [↓my_w27 hy hi, ↓my_Rb, if_true]
      rw [iq_Mod_starts_162]
      simp only [↓my_w28 (hy2 _) hi, ↓my_Rb, ↓my_w29 (hy3 _ _) hi, ↓my_w30 (hy4 _ _ _) hi, nI_1]
      have g2 : stg M 8 i = 0 := by unfold stg; rw [if_neg (by decide), if_neg (by decide), if_neg (by decide), if_neg (by decide), if_pos rfl, if_neg c]
      have g3 : stg M 9 i = 0 := by unfold stg; rw [if_neg (by decide), if_neg (by decide), if_neg (by decide), if_neg (by decide), if_neg (by decide), if_pos rfl, if_neg c]
      refine congrArg (ia_qr xs (ia_cal xs d) im_Mod_starts N 120 _ []) (my_ext (fun k hk => rfl) (fun k hk _ _ => ?_))
      match k, hk with
      | 0, _ => rfl
      | 1, _ => rfl
      | 2, _ => rfl
      | 3, _ => rfl
      | 4, _ => rfl
      | 5, _ => rfl
      | 6, _ => rfl
      | 7, _ => rfl
      | 8, _ => exact congrArg (List.set (updTo (Y3.2 8) (stg M 8) i) i) g2.symm
      | 9, _ => exact congrArg (List.set (updTo (Y3.2 9) (stg M 9) i) i) g3.symm
      | 10, _ => rfl
      | 11, _ => rfl
  · obtain ⟨N, rfl⟩ : ∃ m, N = m + 1 := ⟨N - 1, by omega⟩
    show ia_qr xs (ia_cal xs d) im_Mod_starts (N + 1) 120 [.ref a, .int (nI b), .int (nI 10), .float 0, .float 0] [] _ = _
    rw [iq_Mod_starts_120]
    simp only [↓if_n (show ¬ nI 10 < (10 : Int32) by decide)]
    refine congrArg some (congrArg (Prod.mk none) (my_ext (fun k hk => ?_) (fun k hk h6 h7 => ?_)))
    · exact hI k hk
    · match k, hk with
      | 0, _ => exact hr3 0 (by decide)
      | 1, _ => exact hr3 1 (by decide)
      | 2, _ => exact hr3 2 (by decide)
      | 3, _ => exact hr3 3 (by decide)
      | 4, _ => exact hr3 4 (by decide)
      | 5, _ => exact hr3 5 (by decide)
      | 8, _ => exact updTo_all (hY3.2.2 8 (by decide) (by decide)) (hlw 8 (by decide) (by decide) (by decide)) (fun i hi => stW_f (by decide) (by decide) hi)
      | 9, _ => exact updTo_all (hY3.2.2 9 (by decide) (by decide)) (hlw 9 (by decide) (by decide) (by decide)) (fun i hi => stW_f (by decide) (by decide) hi)
      | 10, _ => exact updTo_all (hY3.2.2 10 (by decide) (by decide)) (hlw 10 (by decide) (by decide) (by decide)) (fun i hi => stW_f (by decide) (by decide) hi)
      | 11, _ => exact updTo_all (hY3.2.2 11 (by decide) (by decide)) (hlw 11 (by decide) (by decide) (by decide)) (fun i hi => stW_f (by decide) (by decide) hi)
      | 6, _ => exact absurd rfl h6
      | 7, _ => exact absurd rfl h7
theorem m_starts2 (hl : lnM M) (hb : b < 23) {Y2 : aW} (hY2 : lnX Y2) (X : aW) (hI : ∀ k, k < 3 → Y2.1 k = (stW M X).1 k) (hr2 : ∀ k, k < 2 → Y2.2 k = (stW M X).2 k) (N : Nat) (hN : 110 ≤ N) : ia_qr xs (ia_cal xs d) im_Mod_starts N 56 [.ref a, .int (nI b), .int 0, .float 0, .float 0] [] (my h a M b Y2 dr wk sc) = some (none, my h a M b (stW M X) dr wk sc) := by
  obtain ⟨n0, n1, -, n3, -⟩ := num_M hl
  have hlw : ∀ k, k < 12 → k ≠ 6 → k ≠ 7 → ((stW M X).2 k).length = lenW k := fun k hk h6 h7 => by
    show (if k = 6 ∨ k = 7 then X.2 k else (List.range (lenW k)).map (stg M k)).length = lenW k
    rw [if_neg (fun z => z.elim h6 h7), List.length_map, List.length_range]
  have e0 : my h a M b Y2 dr wk sc = my h a M b (sp2 M Y2 0) dr wk sc := my_ext (fun k hk => rfl) (fun k hk _ _ => by
    match k, hk with
    | 0, _ => rfl
    | 1, _ => rfl
    | 2, _ => rfl
    | 3, _ => rfl
    | 4, _ => rfl
    | 5, _ => rfl
    | k + 6, _ => rfl)
  rw [e0]
  refine lp_sc (σ := Unit) (F := fun N i _ => ia_qr xs (ia_cal xs d) im_Mod_starts N 56 [.ref a, .int (nI b), .int (nI i), .float 0, .float 0] [] (my h a M b (sp2 M Y2 i) dr wk sc)) (I := fun _ => True) (N := 8) (cost := 5) (c0 := 60) (R := fun o => o = some (none, my h a M b (stW M X) dr wk sc)) (fun i hi s _ N hN => ?_) (fun N s hN _ => ?_) 8 0 (by omega) () trivial N (by omega)
  · obtain ⟨N, rfl⟩ : ∃ m, N = m + 1 + 1 + 1 + 1 + 1 := ⟨N - 5, by omega⟩
    refine ⟨N, (), by omega, trivial, ?_⟩
    have hz : lnX (sp2 M Y2 i) := lnS2 hY2
    have hy : wfY M b (sp2 M Y2 i) := ⟨hl, hb, hz⟩
    have hz2 : ∀ v, lnX (sA (sp2 M Y2 i) 2 (((sp2 M Y2 i).2 2).set i v)) := fun v => lnX_sA hz (List.length_set ..)
    have hz3 : ∀ v w, lnX (sA (sA (sp2 M Y2 i) 2 (((sp2 M Y2 i).2 2).set i v)) 3 (((sA (sp2 M Y2 i) 2 (((sp2 M Y2 i).2 2).set i v)).2 3).set i w)) := fun v w => lnX_sA (hz2 v) (List.length_set ..)
    have hz4 : ∀ v w u, lnX (sA (sA (sA (sp2 M Y2 i) 2 (((sp2 M Y2 i).2 2).set i v)) 3 (((sA (sp2 M Y2 i) 2 (((sp2 M Y2 i).2 2).set i v)).2 3).set i w)) 4 (((sA (sA (sp2 M Y2 i) 2 (((sp2 M Y2 i).2 2).set i v)) 3 (((sA (sp2 M Y2 i) 2 (((sp2 M Y2 i).2 2).set i v)).2 3).set i w)).2 4).set i u)) := fun v w u => lnX_sA (hz3 v w) (List.length_set ..)
    have hy2 : ∀ v, wfY M b _ := fun v => ⟨hl, hb, hz2 v⟩
    have hy3 : ∀ v w, wfY M b _ := fun v w => ⟨hl, hb, hz3 v w⟩
    have hy4 : ∀ v w u, wfY M b _ := fun v w u => ⟨hl, hb, hz4 v w u⟩
    have r5 : rd (M.2.1 5) (nI i) = some (fG M 5 i) := rdM hl (by decide) (by show i < 16; omega) (by decide)
    have r6 : rd (M.2.1 6) (nI i) = some (fG M 6 i) := rdM hl (by decide) (by show i < 16; omega) (by decide)
    have r7 : rd (M.2.1 7) (nI i) = some (fG M 7 i) := rdM hl (by decide) (by show i < 16; omega) (by decide)
    show ia_qr xs (ia_cal xs d) im_Mod_starts (N + 1 + 1 + 1 + 1 + 1) 56 _ [] _ = _
    rw [iq_Mod_starts_56]
    simp only [↓if_p (show nI i < (8 : Int32) from nI_lt (b := 8) hi (by decide)), ↓my_Rb, ↓my_ldb, ↓bs n1]
    by_cases c : nI i < fG M 1 1
    · rw [if_pos c, iq_Mod_starts_74]
      simp only [↓my_Rb, ↓if_n (show ¬ (1 : Int32) = 0 by decide), ↓my_ldb, ↓bs r5]
      rw [iq_Mod_starts_86]
      simp only [↓my_w23 hy hi, ↓my_Rb, ↓if_n (show ¬ (1 : Int32) = 0 by decide), ↓my_ldb, ↓bs r6]
      rw [iq_Mod_starts_98]
      simp only [↓my_w24 (hy2 _) hi, ↓my_Rb, ↓if_n (show ¬ (1 : Int32) = 0 by decide), ↓my_ldb, ↓bs r7]
      rw [iq_Mod_starts_110]
      simp only [↓my_w25 (hy3 _ _) hi, ↓my_Rb, ↓my_w26 (hy4 _ _ _) hi, nI_1]
      have g2 : stg M 2 i = fG M 5 i := by unfold stg; rw [if_neg (by decide), if_pos rfl, if_pos c]
      have g3 : stg M 3 i = fG M 6 i := by unfold stg; rw [if_neg (by decide), if_neg (by decide), if_pos rfl, if_pos c]
      have g4 : stg M 4 i = fG M 7 i := by unfold stg; rw [if_neg (by decide), if_neg (by decide), if_neg (by decide), if_pos rfl, if_pos c]
      rw [← g2, ← g3, ← g4]
      exact congrArg (ia_qr xs (ia_cal xs d) im_Mod_starts N 56 _ []) (my_ext (fun k hk => rfl) (fun k hk _ _ => by
        match k, hk with
        | 0, _ => rfl
        | 1, _ => rfl
        | 2, _ => rfl
        | 3, _ => rfl
        | 4, _ => rfl
        | 5, _ => rfl
        | k + 6, _ => rfl))
    · rw [if_neg c, iq_Mod_starts_74]
      simp only [↓my_Rb, if_true]
      rw [iq_Mod_starts_86]
      simp only [↓my_w23 hy hi, ↓my_Rb, if_true]
      rw [iq_Mod_starts_98]
      simp only [↓my_w24 (hy2 _) hi, ↓my_Rb, if_true]
      rw [iq_Mod_starts_110]
      simp only [↓my_w25 (hy3 _ _) hi, ↓my_Rb, ↓my_w26 (hy4 _ _ _) hi, nI_1]
      have g2 : stg M 2 i = 0 := by unfold stg; rw [if_neg (by decide), if_pos rfl, if_neg c]
      have g3 : stg M 3 i = 0 := by unfold stg; rw [if_neg (by decide), if_neg (by decide), if_pos rfl, if_neg c]
      have g4 : stg M 4 i = 0 := by unfold stg; rw [if_neg (by decide), if_neg (by decide), if_neg (by decide), if_pos rfl, if_neg c]
      refine congrArg (ia_qr xs (ia_cal xs d) im_Mod_starts N 56 _ []) (my_ext (fun k hk => rfl) (fun k hk _ _ => ?_))
      match k, hk with
      | 0, _ => rfl
      | 1, _ => rfl
      | 2, _ => exact congrArg (List.set (updTo (Y2.2 2) (stg M 2) i) i) g2.symm
      | 3, _ => exact congrArg (List.set (updTo (Y2.2 3) (stg M 3) i) i) g3.symm
      | 4, _ => exact congrArg (List.set (updTo (Y2.2 4) (stg M 4) i) i) g4.symm
      | 5, _ => rfl
      | k + 6, _ => rfl
  · obtain ⟨N, rfl⟩ : ∃ m, N = m + 1 := ⟨N - 1, by omega⟩
    show ia_qr xs (ia_cal xs d) im_Mod_starts (N + 1) 56 [.ref a, .int (nI b), .int (nI 8), .float 0, .float 0] [] _ = _
    rw [iq_Mod_starts_56]
    simp only [↓if_n (show ¬ nI 8 < (8 : Int32) by decide)]
    have hY3 : lnX (sp2 M Y2 8) := lnS2 hY2
    have hr3 : ∀ k, k < 6 → (sp2 M Y2 8).2 k = (stW M X).2 k := fun k hk => by
      match k, hk with
      | 0, _ => exact hr2 0 (by decide)
      | 1, _ => exact hr2 1 (by decide)
      | 2, _ => exact updTo_all (hY2.2.1 2 (by decide) (by decide)) (hlw 2 (by decide) (by decide) (by decide)) (fun i hi => stW_f (by decide) (by decide) hi)
      | 3, _ => exact updTo_all (hY2.2.1 3 (by decide) (by decide)) (hlw 3 (by decide) (by decide) (by decide)) (fun i hi => stW_f (by decide) (by decide) hi)
      | 4, _ => exact updTo_all (hY2.2.1 4 (by decide) (by decide)) (hlw 4 (by decide) (by decide) (by decide)) (fun i hi => stW_f (by decide) (by decide) hi)
      | 5, _ => exact updTo_all (hY2.2.1 5 (by decide) (by decide)) (hlw 5 (by decide) (by decide) (by decide)) (fun i hi => stW_f (by decide) (by decide) hi)
    exact m_starts3 xs d hl hb hY3 X hI hr3 N (by omega)
theorem m_starts (hl : lnM M) (hb : b < 23) (hY : lnX Y) (X : aW) {bI : Int32} (hbI : bI = nI b) : ia_cal xs (d + 1) im_Mod_starts [.ref a, .int bI] (my h a M b Y dr wk sc) = some (none, my h a M b (stW M X) dr wk sc) := by
  subst hbI
  obtain ⟨n0, n1, -, n3, -⟩ := num_M hl
  have y0 : wfY M b Y := ⟨hl, hb, hY⟩
  have y1 : ∀ v, wfY M b (sI Y 0 v) := fun v => ⟨hl, hb, hY⟩
  have y2 : ∀ v w, wfY M b (sI (sI Y 0 v) 1 w) := fun v w => ⟨hl, hb, hY⟩
  rw [iu_Mod_starts, iq_Mod_starts_0]
  simp only [↓my_Rb, ↓my_w18 y0, ↓my_w19 (y1 _), ↓my_ldb, ↓bs n1, ↓my_w20 (y2 _ _)]
  have hY1 : lnX (sI (sI (sI Y 0 0) 1 0) 2 (fG M 1 1)) := hY
  have hI : ∀ k, k < 3 → (sI (sI (sI Y 0 0) 1 0) 2 (fG M 1 1)).1 k = (stW M X).1 k := fun k hk => by
    match k, hk with
    | 0, _ => rfl
    | 1, _ => rfl
    | 2, _ => rfl
  generalize sI (sI (sI Y 0 0) 1 0) 2 (fG M 1 1) = Y1 at *
  have e0 : my h a M b Y1 dr wk sc = my h a M b (sp1 M Y1 0) dr wk sc := my_ext (fun k hk => rfl) (fun k hk _ _ => by
    match k, hk with
    | 0, _ => rfl
    | 1, _ => rfl
    | k + 2, _ => rfl)
  rw [e0]
  have hlw : ∀ k, k < 12 → k ≠ 6 → k ≠ 7 → ((stW M X).2 k).length = lenW k := fun k hk h6 h7 => by
    show (if k = 6 ∨ k = 7 then X.2 k else (List.range (lenW k)).map (stg M k)).length = lenW k
    rw [if_neg (fun z => z.elim h6 h7), List.length_map, List.length_range]
  refine lp_sc (σ := Unit) (F := fun N i _ => ia_qr xs (ia_cal xs d) im_Mod_starts N 20 [.ref a, .int (nI b), .int (nI i), .float 0, .float 0] [] (my h a M b (sp1 M Y1 i) dr wk sc)) (I := fun _ => True) (N := 6) (cost := 2) (c0 := 150) (R := fun o => o = some (none, my h a M b (stW M X) dr wk sc)) (fun i hi s _ N hN => ?_) (fun N s hN _ => ?_) 6 0 (by omega) () trivial 999999 (by omega)
  · obtain ⟨N, rfl⟩ : ∃ m, N = m + 1 + 1 := ⟨N - 2, by omega⟩
    refine ⟨N, (), by omega, trivial, ?_⟩
    have hy : wfY M b (sp1 M Y1 i) := ⟨hl, hb, lnS1 hY1⟩
    have hy2 : ∀ v, wfY M b (sA (sp1 M Y1 i) 0 (((sp1 M Y1 i).2 0).set i v)) := fun v => ⟨hl, hb, lnX_sA (lnS1 hY1) (List.length_set ..)⟩
    have r4 : rd (M.2.1 4) (nI i) = some (fG M 4 i) := rdM hl (by decide) (by show i < 12; omega) (by decide)
    have k42 : ∀ v, v = stg M 0 i → ia_qr xs (ia_cal xs d) im_Mod_starts (N + 1) 42 [.ref a, .int (nI b), .int (nI i), .float 0, .float 0] [.int v, .int ((6 : Int32) * nI b + nI i), .ref (a + 24)] (my h a M b (sp1 M Y1 i) dr wk sc) = ia_qr xs (ia_cal xs d) im_Mod_starts N 20 [.ref a, .int (nI b), .int (nI (i + 1)), .float 0, .float 0] [] (my h a M b (sp1 M Y1 (i + 1)) dr wk sc) := fun v hv => by
      rw [iq_Mod_starts_42]
      simp only [↓my_w21 hy hi, ↓my_Rb, ↓my_w22 (hy2 _) hi, nI_1]
      subst hv
      exact congrArg (ia_qr xs (ia_cal xs d) im_Mod_starts N 20 _ []) (my_ext (fun k hk => rfl) (fun k hk _ _ => by
        match k, hk with
        | 0, _ => rfl
        | 1, _ => rfl
        | k + 2, _ => rfl))
    show ia_qr xs (ia_cal xs d) im_Mod_starts (N + 1 + 1) 20 _ [] _ = _
    rw [iq_Mod_starts_20]
    simp only [↓if_p (show nI i < (6 : Int32) from nI_lt (b := 6) hi (by decide)), ↓my_Rb, ↓my_ldb, ↓bs n0]
    by_cases c : nI i < fG M 1 0
    · rw [if_pos c]
      simp only [↓my_Rb, ↓my_ldb, ↓bs r4]
      exact k42 _ (by unfold stg; rw [if_pos rfl, if_pos c])
    · rw [if_neg c]
      exact k42 _ (by unfold stg; rw [if_pos rfl, if_neg c])
  · obtain ⟨N, rfl⟩ : ∃ m, N = m + 1 := ⟨N - 1, by omega⟩
    show ia_qr xs (ia_cal xs d) im_Mod_starts (N + 1) 20 [.ref a, .int (nI b), .int (nI 6), .float 0, .float 0] [] _ = _
    rw [iq_Mod_starts_20]
    simp only [↓if_n (show ¬ nI 6 < (6 : Int32) by decide)]
    have hY2 : lnX (sp1 M Y1 6) := lnS1 hY1
    have hr2 : ∀ k, k < 2 → (sp1 M Y1 6).2 k = (stW M X).2 k := fun k hk => by
      match k, hk with
      | 0, _ => exact updTo_all (hY1.1 0 (by decide)) (hlw 0 (by decide) (by decide) (by decide)) (fun i hi => stW_f (by decide) (by decide) hi)
      | 1, _ => exact updTo_all (hY1.1 1 (by decide)) (hlw 1 (by decide) (by decide) (by decide)) (fun i hi => stW_f (by decide) (by decide) hi)
    exact m_starts2 xs d hl hb hY2 X hI hr2 N (by omega)
end KS3
