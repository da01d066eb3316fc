/-! The reference: a law's value. -/
theorem tkR_c {k n s v : Int32} (h : tkR k n s v) : (k = 3 ∧ s = 0 ∧ v = n) ∨ (∃ j : Nat, j < 7 ∧ k = nI (15 + j) ∧ s = 1 ∧ v = nI j) ∨ (s = 2 ∧ k = 24 ∧ v = 260) ∨ (s = 2 ∧ sgR k v) := by
  rcases h with h | h | ⟨h0, h⟩
  · exact Or.inl h
  · exact Or.inr (Or.inl h)
  · unfold sgR
    rcases h with h | h | h | h | h | h | h | h | h | h | h | h | h <;> simp [h0, h]
theorem sg_f {k v : Int32} (h : sgR k v) : ¬ k = 3 ∧ ¬ (¬ k < 15 ∧ ¬ 21 < k) ∧ ¬ k = 24 := by
  rcases h with ⟨rfl, rfl⟩ | ⟨rfl, rfl⟩ | ⟨rfl, rfl⟩ | ⟨rfl, rfl⟩ | ⟨rfl, rfl⟩ | ⟨rfl, rfl⟩ | ⟨rfl, rfl⟩ | ⟨rfl, rfl⟩ | ⟨rfl, rfl⟩ | ⟨rfl, rfl⟩ | ⟨rfl, rfl⟩ | ⟨rfl, rfl⟩ <;> decide
theorem me_f : ∀ j, j < 7 → (¬ nI (15 + j) = 3 ∧ (¬ nI (15 + j) < 15 ∧ ¬ 21 < nI (15 + j)) ∧ (nI (15 + j) - 15).toNatClampNeg = j) := by decide +kernel
def evO (L : aG) (ms : List Int64) (k : Nat) : Option Int64 := evF (fG L 0) (fG L 1) ms ((fG L 3 k).toNatClampNeg - (fG L 2 k).toNatClampNeg) (fG L 2 k).toNatClampNeg []
section KG
variable (xs : List Int32) (d : Nat) {h : ia_H} {a : Nat} {M : aG} {b : Nat} {X : aW} {dr wk : Int32} {ms : List Int64} {sc : List Int64 × List Int64} {E S L : aG} {t r p n : Nat}
theorem m_goes_lp (hl : lnM M) {k e : Nat} (hk : k < 3) (he : fG M 15 k = nI e) (he64 : e ≤ 64) {kf nf : Nat → Int32} (hms : ms.length = 7) (hsm : smA ms) : ∀ q i st vs n, i + q = e → st.length + q ≤ 64 → vs.length = 64 → ag vs st → smA st → wfR kf q i st.length → (∀ j, i ≤ j → j < e → tkR (kf j) (nf j) (fG M 16 j) (fG M 17 j)) → 2 * q + 1 ≤ n →
    ∃ wk' vs', vs'.length = 64 ∧ (∀ v, evF kf nf ms q i st = some v → vs'.getD 0 0 = v ∧ smI v) ∧ ia_qr xs (ia_cal xs (d + 2)) im_Mod_goes n 8 [.ref a, .int (nI k), .int (nI i)] [] (my h a M b X dr (nI st.length) (ms, vs)) = some (some (.int (if (evF kf nf ms q i st).isSome then 1 else 0)), my h a M b X dr wk' (ms, vs')) := by
  have r15 : rd (M.2.1 15) (nI k) = some (nI e) := by rw [rdM hl (by decide) (by show k < 6; omega) (by decide), he]
  intro q
  induction q with
  | zero =>
    intro i st vs n hi hst hvs hag hsa hwf htk hn
    obtain ⟨N, rfl⟩ : ∃ N, n = N + 1 := ⟨n - 1, by omega⟩
    refine ⟨nI st.length, vs, hvs, ?_, ?_⟩
    · intro v hv
      have hl : st.length = 1 := hwf
      obtain ⟨w, rfl⟩ : ∃ w, st = [w] := by
        match st, hl with
        | [w], _ => exact ⟨w, rfl⟩
      have : w = v := Option.some.inj hv
      subst this
      exact ⟨hag.1, hsa w (List.mem_singleton.mpr rfl)⟩
    · rw [iq_Mod_goes_8]
      simp only [↓my_Rb, ↓my_ldb, ↓bs r15, ↓if_n (nI_nlt (show e ≤ i by omega) (show i < 2 ^ 31 by omega)), ↓ok1, evF, Option.isSome_some, if_true]
  | succ q ih =>
    intro i st vs n hi hst hvs hag hsa hwf htk hn
    obtain ⟨N, rfl⟩ : ∃ N, n = N + 1 + 1 := ⟨n - 2, by omega⟩
    have r16 : rd (M.2.1 16) (nI i) = some (fG M 16 i) := rdM hl (by decide) (by show i < 128; omega) (by decide)
    have r17 : rd (M.2.1 17) (nI i) = some (fG M 17 i) := rdM hl (by decide) (by show i < 128; omega) (by decide)
    have htk' : ∀ j, i + 1 ≤ j → j < e → tkR (kf j) (nf j) (fG M 16 j) (fG M 17 j) := fun j h1 h2 => htk j (by omega) h2
    have ti := htk i (Nat.le_refl _) (by omega)
    have push : ∀ w : Int64, smI w → tok1 ms (kf i) (nf i) st = some (w :: st) → wfR kf q (i + 1) (st.length + 1) → ∃ wk' vs', vs'.length = 64 ∧ (∀ v, evF kf nf ms (q + 1) i st = some v → vs'.getD 0 0 = v ∧ smI v) ∧ ia_qr xs (ia_cal xs (d + 2)) im_Mod_goes (N + 1) 51 [.ref a, .int (nI k), .int (nI i)] [.long w, .int (nI st.length), .ref (a + 20)] (my h a M b X dr (nI st.length) (ms, vs)) = some (some (.int (if (evF kf nf ms (q + 1) i st).isSome then 1 else 0)), my h a M b X dr wk' (ms, vs')) := by
      intro w hw ht hwf2
      have w1 : wr vs (nI st.length) w = some (vs.set st.length w) := wr_nI (by omega) (by omega)
      rw [iq_Mod_goes_51, evF, ht]
      simp only [↓my_lsb, ↓bs w1, ↓my_Ib, ↓my_pfw, nI_1]
      exact ih (i + 1) (w :: st) (vs.set st.length w) N (by omega) (by simp only [List.length_cons]; omega) (by rw [List.length_set]; exact hvs) (ag_push (by omega) hag) (fun v hv => by
        rcases List.mem_cons.mp hv with rfl | hv
        · exact hw
        · exact hsa v hv) hwf2 htk' (by omega)
    rw [iq_Mod_goes_8]
    simp only [↓my_Rb, ↓my_ldb, ↓bs r15, ↓if_p (nI_lt (show i < e by omega) (show e < 2 ^ 31 by omega)), ↓bs r16, ↓bs r17, ↓my_Ib, ↓my_clsb]
    rw [wfR] at hwf
    rcases tkR_c ti with ⟨e1, e2, e3⟩ | ⟨j, hj, e1, e2, e3⟩ | ⟨e2, e1, e3⟩ | ⟨e2, hsg⟩
    · rw [if_pos (Or.inl e1)] at hwf
      rw [if_neg (by rw [e2]; decide), if_pos e2, e3]
      exact push _ (sm32 _) (by unfold tok1; rw [if_pos e1]) hwf
    · obtain ⟨f1, f2, f3⟩ := me_f j hj
      rw [e1, if_pos (Or.inr f2)] at hwf
      have rm : rd ms (nI j) = some (ms.getD j 0) := rdL (by omega) (by omega)
      rw [if_neg (by rw [e2]; decide), if_neg (by rw [e2]; decide), e3]
      simp only [↓my_llb, ↓bs rm]
      refine push _ ?_ (by unfold tok1; rw [e1, if_neg f1, if_pos f2, f3]) hwf
      rw [List.getD_eq_getElem?_getD, List.getElem?_eq_getElem (by omega)]
      exact hsm _ (List.getElem_mem _)
    · rw [e1, if_neg (by decide), if_pos rfl] at hwf
      match st, hst, hag, hsa, hwf with
      | y :: r0, hst, hag, hsa, hwf =>
        have hle : (y :: r0).length = r0.length + 1 := rfl
        rw [hle] at hst
        obtain ⟨vs1, hv1, hag1, hc⟩ := m_worksN xs d (h := h) (a := a) (M := M) (b := b) (X := X) (dr := dr) (ms := ms) hvs (by omega) hag
        rw [if_pos e2, e3, hle]
        have et : tok1 ms (kf i) (nf i) (y :: r0) = some ((if y = 0 then 1 else 0) :: r0) := by unfold tok1; rw [e1, if_neg (by decide), if_neg (by decide), if_pos rfl]
        simp only [↓cI_of hc, ↓if_n (show ¬ (1 : Int32) = 0 by decide), nI_1]
        rw [evF, et]
        exact ih (i + 1) ((if y = 0 then 1 else 0) :: r0) vs1 (N + 1) (by omega) (by simp only [List.length_cons]; omega) hv1 hag1 (fun v hv => by
          rcases List.mem_cons.mp hv with rfl | hv
          · unfold smI; split <;> decide
          · exact hsa v (List.mem_cons_of_mem _ hv)) hwf.2 htk' (by omega)
    · obtain ⟨f1, f2, f3⟩ := sg_f hsg
      rw [if_neg (fun z => z.elim f1 f2), if_neg f3] at hwf
      match st, hst, hag, hsa, hwf with
      | y :: x :: r0, hst, hag, hsa, hwf =>
        have hle : (y :: x :: r0).length = r0.length + 2 := rfl
        rw [hle] at hst
        obtain ⟨vs1, hv1, hag1, hc⟩ := m_worksJ xs d (h := h) (a := a) (M := M) (b := b) (X := X) (dr := dr) (ms := ms) hsg hvs (by omega) hag (hsa x (by simp)) (hsa y (by simp))
        rw [if_pos e2, hle]
        have et : tok1 ms (kf i) (nf i) (y :: x :: r0) = if ovr (jnV (kf i) x y) then none else some (jnV (kf i) x y :: r0) := by unfold tok1; rw [if_neg f1, if_neg f2, if_neg f3]
        simp only [↓cI_of hc, nI_1]
        rw [evF, et]
        by_cases c : ovr (jnV (kf i) x y)
        · refine ⟨nI (r0.length + 1), vs1, hv1, ?_, ?_⟩
          · intro v hv
            rw [if_pos c] at hv
            cases hv
          · simp only [if_pos c, if_true, ↓ok0, Option.isSome_none]
            rfl
        · simp only [if_neg c, ↓if_n (show ¬ (1 : Int32) = 0 by decide)]
          exact ih (i + 1) (jnV (kf i) x y :: r0) vs1 (N + 1) (by omega) (by simp only [List.length_cons]; omega) hv1 (hag1 c) (fun v hv => by
            rcases List.mem_cons.mp hv with rfl | hv
            · exact ovr_sm c
            · exact hsa v (by simp [hv])) hwf.2 htk' (by omega)
theorem m_goes (hs : rsM M S L r p n) (hq : wfQ L) {k : Nat} (hk : k < 3) {kI : Int32} (hkI : kI = nI k) (ht : ¬ tldI L k = 0) (hsc : scw sc) (hsm : smA sc.1) :
    ∃ wk' vs', vs'.length = 64 ∧ (∀ v, evO L sc.1 k = some v → vs'.getD 0 0 = v ∧ smI v) ∧ ia_cal xs (d + 3) im_Mod_goes [.ref a, .int kI] (my h a M b X dr wk sc) = some (some (.int (if (evO L sc.1 k).isSome then 1 else 0)), my h a M b X dr wk' (sc.1, vs')) := by
  subst hkI
  obtain ⟨u, e, hu, he, he64, hwf, hu64⟩ := hq.2 k hk
  have hue : u < e := by
    unfold tldI at ht
    rw [hu, he] at ht
    by_cases c : u < e
    · exact c
    · exfalso
      rw [if_neg (nI_nlt (by omega) (by omega))] at ht
      exact ht rfl
  have hl := hs.1
  obtain ⟨-, -, -, -, -, -, -, -, -, hse, htk⟩ := hs
  have r14 : rd (M.2.1 14) (nI k) = some (nI u) := by rw [rdM hl (by decide) (by show k < 6; omega) (by decide), (hse k hk).1, hu]
  have tk2 := htk k hk
  have he' := (hse k hk).2.trans he
  unfold evO
  rw [hu, he, nI_clamp (by omega), nI_clamp (by omega)] at tk2 ⊢
  obtain ⟨wk', vs', h1, h2, h3⟩ := m_goes_lp xs d (h := h) (a := a) (M := M) (b := b) (X := X) (dr := dr) (ms := sc.1) hl hk he' he64 hsc.1 hsm (kf := fG L 0) (nf := fG L 1) (e - u) u [] sc.2 999999 (by omega) (by simp only [List.length_nil]; omega) hsc.2 trivial (fun v hv => by cases hv) (hwf hue) tk2 (by omega)
  refine ⟨wk', vs', h1, h2, ?_⟩
  rw [iu_Mod_goes, iq_Mod_goes_0]
  simp only [↓my_pfw, ↓my_Rb, ↓my_ldb, ↓bs r14]
  exact h3
theorem m_hasLaw (hs : rsM M S L r p n) {k : Nat} (hk : k < 3) {kI : Int32} (hkI : kI = nI k) : ia_cal xs (d + 1) im_Mod_hasLaw [.ref a, .int kI] (my h a M b X dr wk sc) = some (some (.int (tldI L k)), my h a M b X dr wk sc) := by
  subst hkI
  have hl := hs.1
  obtain ⟨-, -, -, -, -, -, -, -, -, hse, htk⟩ := hs
  have r14 : rd (M.2.1 14) (nI k) = some (fG L 2 k) := by rw [rdM hl (by decide) (by show k < 6; omega) (by decide), (hse k hk).1]
  have r15 : rd (M.2.1 15) (nI k) = some (fG L 3 k) := by rw [rdM hl (by decide) (by show k < 6; omega) (by decide), (hse k hk).2]
  rw [iu_Mod_hasLaw, iq_Mod_hasLaw_0]
  simp only [↓my_Rb, ↓my_ldb, ↓bs r14, ↓bs r15, ↓ok0, ↓ok1, tldI]
  split <;> rfl
def valV (L : aG) (ms : List Int64) (k : Nat) : Int64 := if tldI L k = 0 then -9223372036854775808 else evL L ms k
theorem m_within (hs : rsM M S L r p n) (hq : wfQ L) {k : Nat} (hk : k < 3) {kI : Int32} (hkI : kI = nI k) (hsc : scw sc) (hsm : smA sc.1) (lo hi pl : Int32) :
    ∃ wk' sc', scw sc' ∧ ia_cal xs (d + 4) im_Mod_within [.ref a, .int kI, .int lo, .int hi, .int pl] (my h a M b X dr wk sc) = some (some (.int (if valV L sc.1 k = -9223372036854775808 then pl else clampL lo.toInt64 hi.toInt64 (valV L sc.1 k))), my h a M b X dr wk' sc') := by
  rw [iu_Mod_within, iq_Mod_within_0]
  simp only [↓my_clsb, ↓cI_of (m_hasLaw xs (d + 2) hs hk hkI)]
  unfold valV
  by_cases ht : tldI L k = 0
  · refine ⟨wk, sc, hsc, ?_⟩
    simp only [if_pos ht, if_true]
  · obtain ⟨wk', vs', h1, h2, h3⟩ := m_goes xs d (h := h) (a := a) (b := b) (X := X) (dr := dr) (wk := wk) hs hq hk hkI ht hsc hsm
    refine ⟨wk', (sc.1, vs'), ⟨hsc.1, h1⟩, ?_⟩
    simp only [if_neg ht, ↓cI_of h3]
    have e : evL L sc.1 k = (evO L sc.1 k).getD (-9223372036854775808) := rfl
    rw [e]
    cases ho : evO L sc.1 k with
    | none => simp
    | some v =>
      obtain ⟨g1, g2⟩ := h2 v ho
      have r0 : rd vs' (0 : Int32) = some v := by rw [show (0 : Int32) = nI 0 from rfl, rdL (by omega) (by omega), g1]
      have hv : ¬ v = -9223372036854775808 := fun q => sm_ovr g2 (by rw [q]; exact ovr_min)
      simp only [Option.isSome_some, if_true, ↓if_n (show ¬ (1 : Int32) = 0 by decide), ↓my_Rb, ↓my_llb, ↓bs r0, ↓cL_of (k_minJ xs _ _ _ _), ↓cL_of (k_maxJ xs _ _ _ _), Option.getD_some, if_neg hv]
      rfl
theorem ms_sm {m : Nat} {turn : Int32} : smA (msX E S X t r n m turn) := by
  intro v hv
  unfold msX at hv
  simp only [List.mem_cons, List.not_mem_nil, or_false] at hv
  rcases hv with rfl | rfl | rfl | rfl | rfl | rfl | rfl
  · exact sm32 _
  · exact sm32 _
  · exact sm32 _
  · exact sm32 _
  · exact sm32 _
  · split
    · exact sm32 _
    · exact sm0
  · exact sm32 _
theorem m_calls (hs : rsM M S L r p n) (ho : opM M E) (hc : cmM M X r) (hX : wfX X t r p) (hy : wfY M b X) (hsc : scw sc) {m : Nat} (hm : m < p) {mI : Int32} (hmI : mI = nI m) (turn : Int32) :
    ia_cal xs (d + 4) im_Mod_calls [.ref a, .int (nI b), .int mI, .int turn] (my h a M b X dr wk sc) = some (none, my h a M b X dr wk (msX E S X t r n m turn, sc.2)) := by
  subst hmI
  have hp6 := hX.2.1
  obtain ⟨ms, vs⟩ := sc
  obtain ⟨a0, a1, a2, a3, a4, a5, a6, rfl⟩ := len7 hsc.1
  have r3 : rd (M.2.1 3) (nI m) = some (fG S 1 m) := by rw [rdM hs.1 (by decide) (by show m < 12; omega) (by decide), hs.2.2.2.2.2.2.2.1 m hm]
  rw [iu_Mod_calls, iq_Mod_calls_0]
  simp only [↓my_Rb, ↓my_lsb, ↓bs w7_0, ↓bs w7_1, ↓bs w7_2, ↓bs w7_3, ↓bs w7_4, ↓my_ldb, ↓bs r3, ↓my_r21 hy (show m < 6 by omega), ↓my_r22 hy (show m < 6 by omega), ↓my_clsb, ↓cI_of (m_engagedMany xs d hs hc hX.1 hy), ↓my_Ib, ↓my_r18 hy, ↓cI_of (m_priceAt xs (d + 2) hs _)]
  by_cases hf : M.1 18 = 5
  · have hE : ¬ E.1 2 = 0 := ho.2.2.1.mp hf
    rw [if_pos hf, iq_Mod_calls_65]
    simp only [↓my_Rb, ↓my_lsb, ↓bs w7_5, ↓bs w7_6, ↓my_r18 hy, msX, if_neg hE, em_bc hX]
  · have hE : E.1 2 = 0 := Classical.byContradiction fun q => hf (ho.2.2.1.mpr q)
    rw [if_neg hf, iq_Mod_calls_65]
    simp only [↓my_Rb, ↓my_lsb, ↓bs w7_5, ↓bs w7_6, ↓my_r18 hy, msX, if_pos hE, em_bc hX]
/-- the law's value for a person, in bounds -/
theorem m_val (hs : rsM M S L r p n) (hq : wfQ L) (ho : opM M E) (hc : cmM M X r) (hX : wfX X t r p) (hy : wfY M b X) (hsc : scw sc) {m : Nat} (hm : m < p) (turn : Int32) {k : Nat} (hk : k < 3) {kI : Int32} (hkI : kI = nI k) (lo hi pl : Int32) :
    ∃ wk' sc', scw sc' ∧ ia_cal xs (d + 4) im_Mod_within [.ref a, .int kI, .int lo, .int hi, .int pl] (my h a M b X dr wk (msX E S X t r n m turn, sc.2)) = some (some (.int (if valX E S L X t r n k m turn = -9223372036854775808 then pl else clampL lo.toInt64 hi.toInt64 (valX E S L X t r n k m turn))), my h a M b X dr wk' sc') :=
  m_within xs d (sc := (msX E S X t r n m turn, sc.2)) hs hq hk hkI ⟨rfl, hsc.2⟩ ms_sm lo hi pl
end KG
