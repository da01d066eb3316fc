/-! The reference: readers. -/
def tkR (k n s v : Int32) : Prop := (k = 3 ∧ s = 0 ∧ v = n) ∨ (∃ j : Nat, j < 7 ∧ k = nI (15 + j) ∧ s = 1 ∧ v = nI j) ∨
  (s = 2 ∧ ((k = 28 ∧ v = 43) ∨ (k = 29 ∧ v = 45) ∨ (k = 30 ∧ v = 42) ∨ (k = 31 ∧ v = 47) ∨ (k = 32 ∧ v = 61) ∨ (k = 33 ∧ v = 60) ∨ (k = 34 ∧ v = 256) ∨ (k = 35 ∧ v = 257) ∨ (k = 36 ∧ v = 62) ∨ (k = 37 ∧ v = 258) ∨ (k = 24 ∧ v = 260) ∨ (k = 23 ∧ v = 261) ∨ (k = 22 ∧ v = 262)))
/-- what the text tells, in the reference as in the class -/
def rsM (M S L : aG) (r p n : Nat) : Prop := lnM M ∧ fG M 1 0 = nI p ∧ fG M 1 2 = nI n ∧ fG M 1 3 = nI r ∧ p ≤ 6 ∧ n ≤ 6 ∧ r ≤ 10 ∧ (∀ i, i < p → fG M 3 i = fG S 1 i) ∧ (∀ i, i < n → fG M 8 i = fG S 2 i ∧ fG M 9 i = fG S 3 i ∧ ¬ fG S 2 i < 0) ∧
  (∀ k, k < 3 → fG M 14 k = fG L 2 k ∧ fG M 15 k = fG L 3 k) ∧ (∀ k, k < 3 → ∀ i, (fG L 2 k).toNatClampNeg ≤ i → i < (fG L 3 k).toNatClampNeg → tkR (fG L 0 i) (fG L 1 i) (fG M 16 i) (fG M 17 i))
/-- how it goes, in the reference as in the class -/
def opM (M E : aG) : Prop := (if M.1 20 = -1 then (if M.1 18 = 3 then 6 else fG M 1 4) else M.1 20) = E.1 0 ∧ (if M.1 18 = 4 then 9 else fG M 1 5) = E.1 1 ∧ (M.1 18 = 5 ↔ ¬ E.1 2 = 0) ∧ (if M.1 18 = 2 then M.1 19 = E.1 3 else E.1 3 = -1) ∧ (M.1 21 = 0 ↔ E.1 4 = 0)
def cmM (M : aG) (X : aW) (r : Nat) : Prop := ∀ i, i < r → fG M 10 i = fA X 6 i ∧ fG M 11 i = fA X 7 i
/-- the first k from i on: 1 if it is so of one of them -/
def anyI (P : Nat → Prop) [DecidablePred P] : Nat → Nat → Int32
  | 0, _ => 0
  | k + 1, i => if P i then 1 else anyI P k (i + 1)
theorem srch_any {P : Nat → Prop} [DecidablePred P] {h : ia_H} : ∀ k i, srch P (fun _ => some (some (.int 1), h)) (some (some (.int 0), h)) k i = some (some (.int (anyI P k i)), h)
  | 0, _ => rfl
  | k + 1, i => by
    rw [srch, anyI]
    split
    · rfl
    · exact srch_any k (i + 1)
def coI (X : aW) (r : Nat) (p : Int32) : Int32 := fstI (fun i => fA X 10 i = 1 ∧ (fA X 6 i = p ∨ fA X 7 i = p)) r 0
def htI (X : aW) (t : Nat) (p : Int32) : Int32 := anyI (fun i => fA X 5 i = 1 ∧ fA X 2 i = p) t 0
def egI (X : aW) (t r : Nat) (p : Int32) : Int32 := if coI X r p = -1 then htI X t p else 1
def emF (X : aW) (t r : Nat) : Nat → Int32
  | 0 => 0
  | i + 1 => if egI X t r (nI i) = 0 then emF X t r i else emF X t r i + 1
theorem a0 (x : Int32) : x + 0 = x := by
  apply Int32.toBitVec_inj.mp
  simp
section KM
variable (xs : List Int32) (d : Nat) {h : ia_H} {a : Nat} {M : aG} {b : Nat} {X : aW} {dr wk : Int32} {sc : List Int64 × List Int64} {E S L : aG} {t r p n : Nat}
theorem rdM {M : aG} (hl : lnM M) {k i : Nat} (hk : k < 39) (hi : i < mlen k) (h31 : mlen k < 2 ^ 31) : rd (M.2.1 k) (nI i) = some (fG M k i) := rdG (by rw [hl k hk]; exact hi) (by rw [hl k hk]; exact h31)
theorem num_M {M : aG} (hl : lnM M) : rd (M.2.1 1) (0 : Int32) = some (fG M 1 0) ∧ rd (M.2.1 1) (1 : Int32) = some (fG M 1 1) ∧ rd (M.2.1 1) (2 : Int32) = some (fG M 1 2) ∧ rd (M.2.1 1) (3 : Int32) = some (fG M 1 3) ∧ rd (M.2.1 1) (4 : Int32) = some (fG M 1 4) ∧ rd (M.2.1 1) (5 : Int32) = some (fG M 1 5) ∧ rd (M.2.1 1) (6 : Int32) = some (fG M 1 6) ∧ rd (M.2.1 1) (7 : Int32) = some (fG M 1 7) :=
  ⟨rdM (i := 0) hl (by decide) (by decide) (by decide), rdM (i := 1) hl (by decide) (by decide) (by decide), rdM (i := 2) hl (by decide) (by decide) (by decide), rdM (i := 3) hl (by decide) (by decide) (by decide), rdM (i := 4) hl (by decide) (by decide) (by decide), rdM (i := 5) hl (by decide) (by decide) (by decide), rdM (i := 6) hl (by decide) (by decide) (by decide), rdM (i := 7) hl (by decide) (by decide) (by decide)⟩
theorem m_linesNow (hl : lnM M) (ho : opM M E) : ia_cal xs (d + 1) im_Mod_linesNow [.ref a] (my h a M b X dr wk sc) = some (some (.int (E.1 0)), my h a M b X dr wk sc) := by
  rw [iu_Mod_linesNow, iq_Mod_linesNow_0, ← ho.1]
  have hn := (num_M hl).2.2.2.2.1
  simp only [↓my_Ib, ↓my_Rb, ↓my_ldb, ↓bs hn]
  by_cases c1 : M.1 20 = -1
  · by_cases c2 : M.1 18 = 3
    · simp only [if_pos c1, if_pos c2]
    · simp only [if_pos c1, if_neg c2]
  · simp only [if_neg c1]
theorem m_triesNow (hl : lnM M) (ho : opM M E) : ia_cal xs (d + 1) im_Mod_triesNow [.ref a] (my h a M b X dr wk sc) = some (some (.int (E.1 1)), my h a M b X dr wk sc) := by
  rw [iu_Mod_triesNow, iq_Mod_triesNow_0, ← ho.2.1]
  have hn := (num_M hl).2.2.2.2.2.1
  simp only [↓my_Ib, ↓my_Rb, ↓my_ldb, ↓bs hn]
  by_cases c1 : M.1 18 = 4
  · simp only [if_pos c1]
  · simp only [if_neg c1]
theorem m_priceAt (hs : rsM M S L r p n) (q : Int32) : ia_cal xs (d + 1) im_Mod_priceAt [.ref a, .int q] (my h a M b X dr wk sc) = some (some (.int (prF (fG S 2) (fG S 3) q n).2), my h a M b X dr wk sc) := by
  obtain ⟨hl, hp, hn, hr, hp6, hn6, hr10, hv, hpr, -, -⟩ := hs
  have nn := (num_M hl).2.2.1
  rw [hn] at nn
  rw [iu_Mod_priceAt, iq_Mod_priceAt_0]
  have key : ∀ k i v N, i + k = n → k + 1 ≤ N → ((v = -1 ∧ prF (fG S 2) (fG S 3) q i = (-1, 5)) ∨ ∃ j, j < i ∧ v = nI j ∧ prF (fG S 2) (fG S 3) q i = (fG S 2 j, fG S 3 j)) →
      ia_qr xs (ia_cal xs d) im_Mod_priceAt N 4 [.ref a, .int q, .int v, .int (nI i)] [] (my h a M b X dr wk sc) = some (some (.int (prF (fG S 2) (fG S 3) q n).2), my h a M b X dr wk sc) := by
    intro k
    induction k with
    | zero =>
      intro i v N hi hN hv
      obtain ⟨N, rfl⟩ : ∃ m, N = m + 1 := ⟨N - 1, by omega⟩
      have : i = n := by omega
      subst this
      rw [iq_Mod_priceAt_4]
      simp only [↓my_Rb, ↓my_ldb, ↓bs nn, ↓if_n (nI_nlt (Nat.le_refl i) (show i < 2 ^ 31 by omega))]
      rcases hv with ⟨h1, h2⟩ | ⟨j, hj, h1, h2⟩
      · rw [if_pos h1, h2]
      · have rj : rd (M.2.1 9) (nI j) = some (fG S 3 j) := by rw [rdM hl (by decide) (by show j < 12; omega) (by decide), (hpr j hj).2.1]
        have hne : ¬ nI j = (-1 : Int32) := by
          intro e
          have := congrArg Int32.toInt e
          rw [nI_toInt (by omega)] at this
          have e2 : (-1 : Int32).toInt = -1 := rfl
          omega
        subst h1
        rw [if_neg hne, h2]
        simp only [↓bs rj]
    | succ k ih =>
      intro i v N hi hN hv
      obtain ⟨N, rfl⟩ : ∃ m, N = m + 1 := ⟨N - 1, by omega⟩
      have ri : rd (M.2.1 8) (nI i) = some (fG S 2 i) := by rw [rdM hl (by decide) (by show i < 12; omega) (by decide), (hpr i (by omega)).1]
      rw [iq_Mod_priceAt_4]
      simp only [↓my_Rb, ↓my_ldb, ↓bs nn, ↓if_p (nI_lt (show i < n by omega) (show n < 2 ^ 31 by omega)), ↓bs ri, nI_1]
      by_cases c1 : q < fG S 2 i
      · rw [if_pos c1]
        refine ih (i + 1) v N (by omega) (by omega) ?_
        rw [prF, if_pos c1]
        rcases hv with h1 | ⟨j, hj, h1⟩
        · exact Or.inl h1
        · exact Or.inr ⟨j, by omega, h1⟩
      · rw [if_neg c1]
        rcases hv with ⟨h1, h2⟩ | ⟨j, hj, h1, h2⟩
        · rw [if_pos h1]
          refine ih (i + 1) (nI i) N (by omega) (by omega) (Or.inr ⟨i, by omega, rfl, ?_⟩)
          rw [prF, if_neg c1, h2, if_neg]
          intro c2
          refine (hpr i (by omega)).2.2 ?_
          exact Int32.lt_trans c2 (by decide)
        · have rj : rd (M.2.1 8) (nI j) = some (fG S 2 j) := by rw [rdM hl (by decide) (by show j < 12; omega) (by decide), (hpr j (by omega)).1]
          have hne : ¬ nI j = (-1 : Int32) := by
            intro e
            have := congrArg Int32.toInt e
            rw [nI_toInt (by omega)] at this
            have e2 : (-1 : Int32).toInt = -1 := rfl
            omega
          subst h1
          rw [if_neg hne]
          simp only [↓bs rj]
          by_cases c2 : fG S 2 i < fG S 2 j
          · rw [if_pos c2]
            refine ih (i + 1) (nI j) N (by omega) (by omega) (Or.inr ⟨j, by omega, rfl, ?_⟩)
            rw [prF, if_neg c1, h2, if_pos c2]
          · rw [if_neg c2]
            refine ih (i + 1) (nI i) N (by omega) (by omega) (Or.inr ⟨i, by omega, rfl, ?_⟩)
            rw [prF, if_neg c1, h2, if_neg c2]
  exact key n 0 (-1) _ (by omega) (by omega) (Or.inl ⟨rfl, rfl⟩)
theorem m_callOf (hs : rsM M S L r p n) (hc : cmM M X r) (hy : wfY M b X) (v : Int32) : ia_cal xs (d + 1) im_Mod_callOf [.ref a, .int (nI b), .int v] (my h a M b X dr wk sc) = some (some (.int (coI X r v)), my h a M b X dr wk sc) := by
  obtain ⟨hl, hp, hn, hr, hp6, hn6, hr10, -⟩ := hs
  have nn := (num_M hl).2.2.2.1
  rw [hr] at nn
  rw [iu_Mod_callOf, iq_Mod_callOf_0]
  unfold coI
  rw [← srch_fst]
  refine lp_find (F := fun N i => ia_qr xs (ia_cal xs d) im_Mod_callOf N 2 [.ref a, .int (nI b), .int v, .int (nI i)] [] (my h a M b X dr wk sc)) (N := r) (cost := 1) (fun i hi N hN => ?_) (fun N => ?_) r 0 (by omega) _ (by omega)
  · obtain ⟨N, rfl⟩ : ∃ m, N = m + 1 := ⟨N - 1, by omega⟩
    refine ⟨N, Nat.le_refl _, ?_⟩
    have r10 : rd (M.2.1 10) (nI i) = some (fA X 6 i) := by rw [rdM hl (by decide) (by show i < 20; omega) (by decide), (hc i hi).1]
    have r11 : rd (M.2.1 11) (nI i) = some (fA X 7 i) := by rw [rdM hl (by decide) (by show i < 20; omega) (by decide), (hc i hi).2]
    rw [iq_Mod_callOf_2]
    simp only [↓my_Rb, ↓my_ldb, ↓bs nn, ↓if_p (nI_lt hi (show r < 2 ^ 31 by omega)), ↓my_r29 hy (show i < 10 by omega), ↓bs r10, ↓bs r11, nI_1]
    by_cases h1 : fA X 10 i = 1 <;> by_cases h2 : fA X 6 i = v <;> by_cases h3 : fA X 7 i = v <;> simp [h1, h2, h3]
  · rw [iq_Mod_callOf_2]
    simp only [↓my_Rb, ↓my_ldb, ↓bs nn, ↓if_n (nI_nlt (Nat.le_refl r) (show r < 2 ^ 31 by omega))]
theorem m_hasTone (hX : wfW X t r) (hy : wfY M b X) (v : Int32) : ia_cal xs (d + 1) im_Mod_hasTone [.ref a, .int (nI b), .int v] (my h a M b X dr wk sc) = some (some (.int (htI X t v)), my h a M b X dr wk sc) := by
  have ht := hX.1
  have ht8 := hX.2.2.1
  rw [iu_Mod_hasTone, iq_Mod_hasTone_0]
  unfold htI
  rw [← srch_any]
  refine lp_find (F := fun N i => ia_qr xs (ia_cal xs d) im_Mod_hasTone N 2 [.ref a, .int (nI b), .int v, .int (nI i)] [] (my h a M b X dr wk sc)) (N := t) (cost := 1) (fun i hi N hN => ?_) (fun N => ?_) t 0 (by omega) _ (by omega)
  · obtain ⟨N, rfl⟩ : ∃ m, N = m + 1 := ⟨N - 1, by omega⟩
    refine ⟨N, Nat.le_refl _, ?_⟩
    rw [iq_Mod_hasTone_2]
    simp only [↓my_Rb, ↓my_r20 hy, ht, ↓if_p (nI_lt hi (show t < 2 ^ 31 by omega)), ↓my_r26 hy (show i < 8 by omega), ↓my_r23 hy (show i < 8 by omega), ↓ok1, nI_1]
    by_cases h1 : fA X 5 i = 1 <;> by_cases h2 : fA X 2 i = v <;> simp [h1, h2]
  · rw [iq_Mod_hasTone_2]
    simp only [↓my_Rb, ↓my_r20 hy, ht, ↓if_n (nI_nlt (Nat.le_refl t) (show t < 2 ^ 31 by omega)), ↓ok0]
theorem anyI_01 {P : Nat → Prop} [DecidablePred P] : ∀ k i, anyI P k i = 0 ∨ anyI P k i = 1
  | 0, _ => Or.inl rfl
  | k + 1, i => by
    rw [anyI]
    split
    · exact Or.inr rfl
    · exact anyI_01 k (i + 1)
theorem m_isEngaged (hs : rsM M S L r p n) (hc : cmM M X r) (hX : wfW X t r) (hy : wfY M b X) (v : Int32) : ia_cal xs (d + 2) im_Mod_isEngaged [.ref a, .int (nI b), .int v] (my h a M b X dr wk sc) = some (some (.int (egI X t r v)), my h a M b X dr wk sc) := by
  rw [iu_Mod_isEngaged, iq_Mod_isEngaged_0]
  simp only [↓my_clsb, ↓cI_of (m_callOf xs d hs hc hy _), ↓cI_of (m_hasTone xs d hX hy _), ↓ok0, ↓ok1]
  unfold egI
  by_cases c1 : coI X r v = -1
  · simp only [if_pos c1]
    have : htI X t v = 0 ∨ htI X t v = 1 := anyI_01 t 0
    rcases this with c2 | c2
    · rw [if_pos c2, c2]
    · rw [if_neg (by rw [c2]; decide), c2]
  · simp only [if_neg c1]
theorem m_engagedMany (hs : rsM M S L r p n) (hc : cmM M X r) (hX : wfW X t r) (hy : wfY M b X) : ia_cal xs (d + 3) im_Mod_engagedMany [.ref a, .int (nI b)] (my h a M b X dr wk sc) = some (some (.int (emF X t r p)), my h a M b X dr wk sc) := by
  have hp6 := hs.2.2.2.2.1
  have nn := (num_M hs.1).1
  rw [hs.2.1] at nn
  rw [iu_Mod_engagedMany, iq_Mod_engagedMany_0]
  refine lp_up (F := fun N i => ia_qr xs (ia_cal xs (d + 2)) im_Mod_engagedMany N 4 [.ref a, .int (nI b), .int (emF X t r i), .int (nI i)] [] (my h a M b X dr wk sc)) (N := p) (cost := 1) (fun i hi N hN => ?_) (fun N => ?_) p 0 (by omega) _ (by omega)
  · obtain ⟨N, rfl⟩ : ∃ m, N = m + 1 := ⟨N - 1, by omega⟩
    refine ⟨N, Nat.le_refl _, ?_⟩
    rw [iq_Mod_engagedMany_4]
    simp only [↓my_Rb, ↓my_ldb, ↓bs nn, ↓if_p (nI_lt hi (show p < 2 ^ 31 by omega)), ↓my_clsb, ↓cI_of (m_isEngaged xs d hs hc hX hy _), nI_1, emF, a0]
    by_cases c : egI X t r (nI i) = 0
    · simp only [if_pos c]
    · simp only [if_neg c]
  · rw [iq_Mod_engagedMany_4]
    simp only [↓my_Rb, ↓my_ldb, ↓bs nn, ↓if_n (nI_nlt (Nat.le_refl p) (show p < 2 ^ 31 by omega))]
theorem m_callsOf (hs : rsM M S L r p n) (hy : wfY M b X) (how : Int32) : ia_cal xs (d + 1) im_Mod_callsOf [.ref a, .int (nI b), .int how] (my h a M b X dr wk sc) = some (some (.int (nI (cntF (fA X 10) how r))), my h a M b X dr wk sc) := by
  obtain ⟨hl, hp, hn, hr, hp6, hn6, hr10, -⟩ := hs
  have nn := (num_M hl).2.2.2.1
  rw [hr] at nn
  rw [iu_Mod_callsOf, iq_Mod_callsOf_0]
  refine lp_up (F := fun N i => ia_qr xs (ia_cal xs d) im_Mod_callsOf N 4 [.ref a, .int (nI b), .int how, .int (nI (cntF (fA X 10) how i)), .int (nI i)] [] (my h a M b X dr wk sc)) (N := r) (cost := 1) (fun i hi N hN => ?_) (fun N => ?_) r 0 (by omega) _ (by omega)
  · obtain ⟨N, rfl⟩ : ∃ m, N = m + 1 := ⟨N - 1, by omega⟩
    refine ⟨N, Nat.le_refl _, ?_⟩
    rw [iq_Mod_callsOf_4]
    simp only [↓my_Rb, ↓my_ldb, ↓bs nn, ↓if_p (nI_lt hi (show r < 2 ^ 31 by omega)), ↓my_r29 hy (show i < 10 by omega), nI_1, cntF, a0]
    by_cases c : fA X 10 i = how
    · simp only [if_pos c]
    · simp only [if_neg c, Nat.add_zero]
  · rw [iq_Mod_callsOf_4]
    simp only [↓my_Rb, ↓my_ldb, ↓bs nn, ↓if_n (nI_nlt (Nat.le_refl r) (show r < 2 ^ 31 by omega))]
end KM
