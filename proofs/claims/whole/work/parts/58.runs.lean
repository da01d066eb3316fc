/-! The reference: quarters ahead. -/
section RN
variable {E S L : aG} {Y : aW × Int64} {t r p n : Nat}
theorem stN_cm {M : aG} (h : cmM M Y.1 r) : ∀ i, cmM M (stN E S L t r p n Y i).1 r
  | 0 => h
  | i + 1 => stX_cm (stN_cm h i)
theorem stN_ag {X Z : aW} {dr : Int64} (hX : wfX X t r p) (hZ : wfX Z t r p) (h : agW X Z t r p) : ∀ i, agW (stN E S L t r p n (X, dr) i).1 (stN E S L t r p n (Z, dr) i).1 t r p ∧ (stN E S L t r p n (X, dr) i).2 = (stN E S L t r p n (Z, dr) i).2
  | 0 => ⟨h, rfl⟩
  | i + 1 => by
    have ih := stN_ag (dr := dr) hX hZ h i
    have h1 := stN_wf (E := E) (S := S) (L := L) (n := n) (Y := (X, dr)) hX i
    have h2 := stN_wf (E := E) (S := S) (L := L) (n := n) (Y := (Z, dr)) hZ i
    show agW (stX E S L t r p n (stN E S L t r p n (X, dr) i)).1 (stX E S L t r p n (stN E S L t r p n (Z, dr) i)).1 t r p ∧ (stX E S L t r p n (stN E S L t r p n (X, dr) i)).2 = (stX E S L t r p n (stN E S L t r p n (Z, dr) i)).2
    generalize stN E S L t r p n (X, dr) i = A at *
    generalize stN E S L t r p n (Z, dr) i = B at *
    obtain ⟨A, da⟩ := A
    obtain ⟨B, db⟩ := B
    obtain ⟨g1, g2⟩ := ih
    simp only at g1 g2 h1 h2
    subst g2
    exact ag_stX h1 h2 g1 _
def rT (f : Nat → Int32) : Nat → Nat → Int32
  | 0, _ => -2
  | k + 1, i => if thruI (f i) = 0 then rT f k (i + 1) else nI i
def rO (f : Nat → Int32) : Nat → Nat → Int32
  | 0, _ => -2
  | k + 1, i => if f i = 2 then nI i else rO f k (i + 1)
theorem rT_no {f : Nat → Int32} : ∀ k i, (∀ j, i ≤ j → thruI (f j) = 0) → rT f k i = -2
  | 0, _, _ => rfl
  | k + 1, i, h => by rw [rT, if_pos (h i (Nat.le_refl i)), rT_no k (i + 1) (fun j hj => h j (by omega))]
theorem rO_no {f : Nat → Int32} : ∀ k i, (∀ j, i ≤ j → ¬ f j = 2) → rO f k i = -2
  | 0, _, _ => rfl
  | k + 1, i, h => by rw [rO, if_neg (h i (Nat.le_refl i)), rO_no k (i + 1) (fun j hj => h j (by omega))]
theorem stuck {f : Nat → Int32} (hs : ∀ j, ¬ f j = 0 → ¬ f j = 1 → f (j + 1) = f j) {j : Nat} (h0 : ¬ f j = 0) (h1 : ¬ f j = 1) : ∀ i, f (j + i) = f j
  | 0 => rfl
  | i + 1 => by
    have ih := stuck hs h0 h1 i
    rw [← ih]
    exact hs (j + i) (by rw [ih]; exact h0) (by rw [ih]; exact h1)
theorem qT_rT {f : Nat → Int32} (hs : ∀ j, ¬ f j = 0 → ¬ f j = 1 → f (j + 1) = f j) : ∀ k i, thruI (f i) = 0 → qT f k (i + 1) = rT f k (i + 1)
  | 0, _, _ => rfl
  | k + 1, i, h => by
    rw [qT, rT, Nat.add_sub_cancel]
    by_cases c : f i = 0
    · rw [if_pos c]
      by_cases c2 : thruI (f (i + 1)) = 0
      · rw [if_pos c2, if_pos c2, qT_rT hs k (i + 1) c2]
      · rw [if_neg c2, if_neg c2]
    · have h1 : ¬ f i = 1 := fun e => by rw [e] at h; exact absurd h (by decide)
      have hst := stuck hs c h1
      rw [if_neg c]
      have : rT f (k + 1) (i + 1) = -2 := rT_no (k + 1) (i + 1) (fun j hj => by
        have := hst (j - i)
        rw [show i + (j - i) = j by omega] at this
        rw [this]
        exact h)
      rw [rT] at this
      exact this.symm
theorem qO_rO {f : Nat → Int32} (hs : ∀ j, ¬ f j = 0 → ¬ f j = 1 → f (j + 1) = f j) : ∀ k i, qO f k (i + 1) = rO f k (i + 1)
  | 0, _ => rfl
  | k + 1, i => by
    rw [qO, Nat.add_sub_cancel]
    by_cases c : f i = 3
    · have hst := stuck hs (j := i) (by rw [c]; decide) (by rw [c]; decide)
      rw [if_pos c]
      exact (rO_no (k + 1) (i + 1) (fun j hj => by
        have := hst (j - i)
        rw [show i + (j - i) = j by omega] at this
        rw [this, c]
        decide)).symm
    · rw [if_neg c, rO, qO_rO hs k (i + 1)]
theorem stN_hs (hX : wfX Y.1 t r p) {c : Nat} (hc : c < r) : ∀ j, ¬ fA (stN E S L t r p n Y j).1 10 c = 0 → ¬ fA (stN E S L t r p n Y j).1 10 c = 1 → fA (stN E S L t r p n Y (j + 1)).1 10 c = fA (stN E S L t r p n Y j).1 10 c :=
  fun j h0 h1 => st3 (stN_wf hX j) hc h0 h1
theorem rT_c {f g : Nat → Int32} : ∀ k i, (∀ j, f j = g j) → rT f k i = rT g k i := fun k i h => by rw [show f = g from funext h]
theorem gu_mono (hX : wfX Y.1 t r p) : ∀ j, cntF (fA Y.1 10) 3 r ≤ cntF (fA (stN E S L t r p n Y j).1 10) 3 r
  | 0 => Nat.le_refl _
  | j + 1 => by
    refine Nat.le_trans (gu_mono hX j) ?_
    have hw := stN_wf (E := E) (S := S) (L := L) (n := n) hX j
    have key : ∀ i, i ≤ r → cntF (fA (stN E S L t r p n Y j).1 10) 3 i ≤ cntF (fA (stN E S L t r p n Y (j + 1)).1 10) 3 i := by
      intro i
      induction i with
      | zero => intro _; exact Nat.le_refl _
      | succ i ih =>
        intro hi
        have := ih (by omega)
        rw [cntF, cntF]
        by_cases c : fA (stN E S L t r p n Y j).1 10 i = 3
        · have e : fA (stN E S L t r p n Y (j + 1)).1 10 i = fA (stN E S L t r p n Y j).1 10 i := st3 hw (by omega) (by rw [c]; decide) (by rw [c]; decide)
          rw [if_pos c, if_pos (e.trans c)]
          omega
        · rw [if_neg c]
          split <;> omega
    exact key r (Nat.le_refl r)
end RN
section RM
variable (xs : List Int32) (d : Nat) {h : ia_H} {a : Nat} {M : aG} {b : Nat} {Y : aW} {dr wk : Int32} {sc : List Int64 × List Int64} {E S L : aG} {t r p n q : Nat}
theorem m_goesOn (hs : rsM M S L r p n) (hq : wfQ L) (ho : opM M E) (hc : cmM M Y r) (hY : wfX Y t r p) (hsc : scw sc) (hbd : bdX Y r q) {m : Nat} (hm : m ≤ 99) (hq1 : q + m ≤ 11000) {mI : Int32} (hmI : mI = nI m) :
    ∃ dr' wk' sc', scw sc' ∧ dr'.toInt64 = (stN E S L t r p n (Y, dr.toInt64) m).2 ∧ bdX (stN E S L t r p n (Y, dr.toInt64) m).1 r (q + m) ∧ ia_cal xs (d + 9) im_Mod_goesOn [.ref a, .int mI] (my h a M 1 Y dr wk sc) = some (none, my h a M 1 (stN E S L t r p n (Y, dr.toInt64) m).1 dr' wk' sc') := by
  subst hmI
  rw [iu_Mod_goesOn, iq_Mod_goesOn_0]
  refine lp_si (σ := Int32 × Int32 × List Int64 × List Int64) (F := fun N i s => ia_qr xs (ia_cal xs (d + 8)) im_Mod_goesOn N 2 [.ref a, .int (nI m), .int (nI i)] [] (my h a M 1 (stN E S L t r p n (Y, dr.toInt64) i).1 s.1 s.2.1 s.2.2)) (I := fun i s => scw s.2.2 ∧ s.1.toInt64 = (stN E S L t r p n (Y, dr.toInt64) i).2 ∧ bdX (stN E S L t r p n (Y, dr.toInt64) i).1 r (q + i)) (N := m) (cost := 1) (c0 := 1) (R := fun o => ∃ dr' wk' sc', scw sc' ∧ Int32.toInt64 dr' = (stN E S L t r p n (Y, dr.toInt64) m).2 ∧ bdX (stN E S L t r p n (Y, dr.toInt64) m).1 r (q + m) ∧ o = some (none, my h a M 1 (stN E S L t r p n (Y, dr.toInt64) m).1 dr' wk' sc')) (fun i hi s hss N hN => ?_) (fun N s hN hss => ?_) m 0 (by omega) (dr, wk, sc) ⟨hsc, rfl, hbd⟩ 999999 (by omega)
  · obtain ⟨N, rfl⟩ : ∃ m, N = m + 1 := ⟨N - 1, by omega⟩
    obtain ⟨s1, s2, s3⟩ := hss
    have hw := stN_wf (E := E) (S := S) (L := L) (n := n) (Y := (Y, dr.toInt64)) hY i
    have hcm := stN_cm (E := E) (S := S) (L := L) (t := t) (p := p) (n := n) (Y := (Y, dr.toInt64)) hc i
    have e : stN E S L t r p n (Y, dr.toInt64) (i + 1) = stX E S L t r p n (stN E S L t r p n (Y, dr.toInt64) i) := rfl
    rw [e]
    generalize stN E S L t r p n (Y, dr.toInt64) i = Z at *
    obtain ⟨Z, dz⟩ := Z
    simp only at s2 s3 hw hcm
    subst s2
    obtain ⟨dr', wk', sc', h1, h2, h3, h4⟩ := m_passes xs d (h := h) (a := a) (b := 1) (dr := s.1) (wk := s.2.1) hs hq ho hcm hw (by decide) s1 s3 (by omega)
    refine ⟨N, (dr', wk', sc'), Nat.le_refl _, ⟨h1, h2, h3⟩, ?_⟩
    show ia_qr xs (ia_cal xs (d + 8)) im_Mod_goesOn (N + 1) 2 _ [] (my h a M 1 Z s.1 s.2.1 s.2.2) = _
    rw [iq_Mod_goesOn_2]
    have h4' : ia_cal xs (d + 8) im_Mod_passes [.ref a, .int 1] (my h a M 1 Z s.1 s.2.1 s.2.2) = _ := h4
    simp only [↓if_p (nI_lt hi (show m < 2 ^ 31 by omega)), ↓my_clsb, ↓cV_of h4', nI_1]
  · obtain ⟨N, rfl⟩ : ∃ m, N = m + 1 := ⟨N - 1, by omega⟩
    refine ⟨s.1, s.2.1, s.2.2, hss.1, hss.2.1, hss.2.2, ?_⟩
    show ia_qr xs (ia_cal xs (d + 8)) im_Mod_goesOn (N + 1) 2 _ [] _ = _
    rw [iq_Mod_goesOn_2]
    simp only [↓if_n (nI_nlt (Nat.le_refl m) (show m < 2 ^ 31 by omega))]
theorem m_isThrough (v : Int32) (g : ia_H) : ia_cal xs (d + 1) im_Mod_isThrough [.int v] g = some (some (.int (thruI v)), g) := by
  rw [iu_Mod_isThrough, iq_Mod_isThrough_0]
  simp only [↓ok0, ↓ok1, thruI]
  by_cases c1 : v = 1 <;> by_cases c2 : v = 2 <;> simp [c1, c2]
theorem m_throughIn (hs : rsM M S L r p n) (hq : wfQ L) (ho : opM M E) (hc : cmM M Y r) (hY : wfX Y t r p) (hsc : scw sc) (hbd : bdX Y r q) (hq1 : q + 99 ≤ 11000) {c : Nat} (hcr : c < r) {cI : Int32} (hcI : cI = nI c) :
    ∃ Y' dr' wk' sc', scw sc' ∧ lnX Y' ∧ ia_cal xs (d + 9) im_Mod_throughIn [.ref a, .int cI] (my h a M 1 Y dr wk sc) = some (some (.int (rT (fun i => fA (stN E S L t r p n (Y, dr.toInt64) i).1 10 c) 99 1)), my h a M 1 Y' dr' wk' sc') := by
  subst hcI
  have hr10 := hY.1.2.2.2.1
  rw [iu_Mod_throughIn, iq_Mod_throughIn_0]
  have key : ∀ (k i : Nat) (s : Int32 × Int32 × List Int64 × List Int64) (N : Nat), i + k = 99 → (scw s.2.2 ∧ s.1.toInt64 = (stN E S L t r p n (Y, dr.toInt64) i).2 ∧ bdX (stN E S L t r p n (Y, dr.toInt64) i).1 r (q + i)) → k + 1 ≤ N → ∃ Y' dr' wk' sc', scw sc' ∧ lnX Y' ∧ ia_qr xs (ia_cal xs (d + 8)) im_Mod_throughIn N 2 [.ref a, .int (nI c), .int (nI (i + 1))] [] (my h a M 1 (stN E S L t r p n (Y, dr.toInt64) i).1 s.1 s.2.1 s.2.2) = some (some (.int (rT (fun i => fA (stN E S L t r p n (Y, dr.toInt64) i).1 10 c) k (i + 1))), my h a M 1 Y' dr' wk' sc') := by
    intro k
    induction k with
    | zero =>
      intro i s N hi hss hN
      obtain ⟨N, rfl⟩ : ∃ m, N = m + 1 := ⟨N - 1, by omega⟩
      refine ⟨_, s.1, s.2.1, s.2.2, hss.1, (stN_wf (E := E) (S := S) (L := L) (n := n) (Y := (Y, dr.toInt64)) hY i).1.lnX, ?_⟩
      rw [iq_Mod_throughIn_2, if_p (show (99 : Int32) < nI (i + 1) from nI_lt (a := 99) (by omega) (by omega))]
      rfl
    | succ k ih =>
      intro i s N hi hss hN
      obtain ⟨N, rfl⟩ : ∃ m, N = m + 1 := ⟨N - 1, by omega⟩
      obtain ⟨s1, s2, s3⟩ := hss
      have hw := stN_wf (E := E) (S := S) (L := L) (n := n) (Y := (Y, dr.toInt64)) hY i
      have hw1 := stN_wf (E := E) (S := S) (L := L) (n := n) (Y := (Y, dr.toInt64)) hY (i + 1)
      have hcm := stN_cm (E := E) (S := S) (L := L) (t := t) (p := p) (n := n) (Y := (Y, dr.toInt64)) hc i
      obtain ⟨dr', wk', sc', h1, h2, h3, h4⟩ := m_passes xs d (h := h) (a := a) (b := 1) (dr := s.1) (wk := s.2.1) hs hq ho hcm hw (by decide) s1 s3 (by omega)
      rw [s2] at h2 h3 h4
      have h4' : ia_cal xs (d + 8) im_Mod_passes [.ref a, .int 1] (my h a M 1 (stN E S L t r p n (Y, dr.toInt64) i).1 s.1 s.2.1 s.2.2) = some (none, my h a M 1 (stN E S L t r p n (Y, dr.toInt64) (i + 1)).1 dr' wk' sc') := h4
      have hy1 := hw1.y hs.1 (show 1 < 23 by decide)
      have rr : ∀ f : Int32 → Option ia_R, (ia_ald (my h a M 1 (stN E S L t r p n (Y, dr.toInt64) (i + 1)).1 dr' wk' sc') (a + 32) 0 ((10 : Int32) + nI c)).bind f = f (fA (stN E S L t r p n (Y, dr.toInt64) (i + 1)).1 10 c) := my_r29 hy1 (show c < 10 by omega)
      rw [iq_Mod_throughIn_2, rT]
      simp only [↓if_n (show ¬ (99 : Int32) < nI (i + 1) from nI_nlt (a := 99) (by omega) (by omega)), ↓my_clsb, ↓cV_of h4', ↓my_Rb, ↓rr, ↓cI_of (m_isThrough xs (d + 7) _ _), nI_1]
      by_cases c2 : thruI (fA (stN E S L t r p n (Y, dr.toInt64) (i + 1)).1 10 c) = 0
      · simp only [if_pos c2]
        exact ih (i + 1) (dr', wk', sc') N (by omega) ⟨h1, h2, h3⟩ (by omega)
      · simp only [if_neg c2]
        exact ⟨_, dr', wk', sc', h1, hw1.1.lnX, rfl⟩
  exact key 99 0 (dr, wk, sc) 999999 (by omega) ⟨hsc, rfl, hbd⟩ (by omega)
theorem m_runs (hs : rsM M S L r p n) (hq : wfQ L) (ho : opM M E) {X : aW} (hc : cmM M X r) (hX : wfX X t r p) (hk : dkA M 0 X t r p) (hY : lnX Y) (hsc : scw sc) (hbd : bdX X r q) {m : Nat} (hm : m ≤ 99) (hq1 : q + m ≤ 11000) {mI : Int32} (hmI : mI = nI m) :
    ∃ dr' wk' sc', scw sc' ∧ dr'.toInt64 = (stN E S L t r p n (dkW M 0 X, dr.toInt64) m).2 ∧ ia_cal xs (d + 10) im_Mod_runs [.ref a, .int mI] (my h a M 1 Y dr wk sc) = some (none, my h a M 1 (stN E S L t r p n (dkW M 0 X, dr.toInt64) m).1 dr' wk' sc') := by
  have hw := dk_wf hs.1 (show 0 < 23 by decide) hX hk
  have hb := ag_bd (dk_ag hX.2.1 hX.1.2.2.1 hX.1.2.2.2.1 hk) hbd
  obtain ⟨dr', wk', sc', h1, h2, -, h4⟩ := m_goesOn xs d (h := h) (a := a) (dr := dr) (wk := wk) hs hq ho (dk_cm hc) hw hsc hb hm hq1 hmI
  refine ⟨dr', wk', sc', h1, h2, ?_⟩
  rw [iu_Mod_runs, iq_Mod_runs_0]
  simp only [↓my_clsb, ↓cV_of (m_copies xs (d + 8) hs.1 (show 1 < 23 by decide) (show 0 < 23 by decide) (by decide) hY X (bI := 1) (cI := 0) rfl rfl), ↓cV_of h4]
theorem m_gotThrough (hs : rsM M S L r p n) {X : aW} (hy : wfY M b X) {bI : Int32} (hbI : bI = nI b) : ia_cal xs (d + 2) im_Mod_gotThrough [.ref a, .int bI] (my h a M b X dr wk sc) = some (some (.int (nI (cntF (fA X 10) 1 r) + nI (cntF (fA X 10) 2 r))), my h a M b X dr wk sc) := by
  subst hbI
  rw [iu_Mod_gotThrough, iq_Mod_gotThrough_0]
  simp only [↓my_clsb, ↓cI_of (m_callsOf xs d hs hy _)]
end RM
