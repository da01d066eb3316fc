/-! The reference: a quarter goes by. -/
/-- quarter q; when calls are due, how long they are -/
def bdX (X : aW) (r q : Nat) : Prop := X.1 0 = nI q ∧ (∀ i, i < r → ∃ u, u ≤ 12000 ∧ fA X 8 i = nI u) ∧ ∀ i, i < r → ∃ v, v ≤ 9 ∧ fA X 9 i = nI v
def cmX (E S L : aG) (t r n : Nat) (Y : aW × Int64) : aW × Int64 := trX E S L t r n (bgX E S L t r n (endTX (endCX Y.1 r) t) t, Y.2) r
def faX (E S L : aG) (t r p n : Nat) (X : aW) : aW := sI (fmX E S L t r n (idX X t r) X p) 0 ((fmX E S L t r n (idX X t r) X p).1 0 + 1)
theorem stX_eq {E S L : aG} {t r p n : Nat} {Y : aW × Int64} : stX E S L t r p n Y = (faX E S L t r p n (cmX E S L t r n Y).1, (cmX E S L t r n Y).2) := rfl
theorem bd_sA {X : aW} {r q k : Nat} {l : List Int32} (h : bdX X r q) (h8 : 8 ≠ k) (h9 : 9 ≠ k) : bdX (sA X k l) r q := by
  unfold bdX fA at *
  rw [sA_n h8, sA_n h9]
  exact h
theorem bd_sI {X : aW} {r q k : Nat} {v : Int32} (h : bdX X r q) (h0 : 0 ≠ k) : bdX (sI X k v) r q := ⟨by rw [sI_n h0]; exact h.1, h.2⟩
theorem endC_c {X : aW} {r q i : Nat} (h : bdX X r q) (hq : q ≤ 12000) (hi : i < r) : (X.1 0 - fA X 8 i < fA X 9 i) ↔ X.1 0 < fA X 8 i + fA X 9 i := by
  obtain ⟨e0, e8, e9⟩ := h
  obtain ⟨u, hu, eu⟩ := e8 i hi
  obtain ⟨v, hv, ev⟩ := e9 i hi
  rw [e0, eu, ev, nI_add, nI_ltI (by omega) (by omega), Int32.lt_iff_toInt_lt, pk_sub_toInt (by omega) (by omega), nI_toInt (by omega)]
  omega
theorem bgT_bd {E S L : aG} {X : aW} {t r n i q : Nat} (h : bdX X r q) : bdX (bgT E S L X t r n i) r q := by
  unfold bgT
  split
  · exact bd_sA h (by decide) (by decide)
  · exact bd_sA (bd_sI (bd_sA h (by decide) (by decide)) (by decide)) (by decide) (by decide)
theorem bgX_bd {E S L : aG} {X : aW} {t r n q : Nat} (h : bdX X r q) : ∀ i, bdX (bgX E S L t r n X i) r q
  | 0 => h
  | i + 1 => by
    rw [bgX]
    split
    · exact bgT_bd (bgX_bd h i)
    · exact bgX_bd h i
theorem bd_8 {X : aW} {r q i u : Nat} {v : Int32} (h : bdX X r q) (hl : i < (X.2 8).length) (hu : u ≤ 12000) (hv : v = nI u) : bdX (sA X 8 ((X.2 8).set i v)) r q := by
  refine ⟨h.1, fun j hj => ?_, fun j hj => ?_⟩
  · have : fA (sA X 8 ((X.2 8).set i v)) 8 j = if j = i then v else fA X 8 j := by
      unfold fA
      rw [sA_2, ia_set_getD hl]
    rw [this]
    split
    · exact ⟨u, hu, hv⟩
    · exact h.2.1 j hj
  · unfold fA
    rw [sA_n (by decide)]
    exact h.2.2 j hj
theorem bd_9 {X : aW} {r q i u : Nat} {v : Int32} (h : bdX X r q) (hl : i < (X.2 9).length) (hu : u ≤ 9) (hv : v = nI u) : bdX (sA X 9 ((X.2 9).set i v)) r q := by
  refine ⟨h.1, fun j hj => ?_, fun j hj => ?_⟩
  · unfold fA
    rw [sA_n (by decide)]
    exact h.2.1 j hj
  · have : fA (sA X 9 ((X.2 9).set i v)) 9 j = if j = i then v else fA X 9 j := by
      unfold fA
      rw [sA_2, ia_set_getD hl]
    rw [this]
    split
    · exact ⟨u, hu, hv⟩
    · exact h.2.2 j hj
theorem trR_bd {E S L : aG} {X : aW} {dr : Int32} {t r p n i q : Nat} (hX : wfX X t r p) (h : bdX X r q) (hq : q ≤ 11000) (hi : i < r) : bdX (trR E S L t r n (X, dr.toInt64) i).1 r q := by
  have hr10 := hX.1.2.2.2.1
  have h1 : bdX (sA X 11 ((X.2 11).set i (fA X 11 i + 1))) r q := bd_sA h (by decide) (by decide)
  have hX1 : wfX (sA X 11 ((X.2 11).set i (fA X 11 i + 1))) t r p := wfX_sA hX (List.length_set ..) (by decide) (by decide) (by decide)
  unfold trR
  simp only
  generalize sA X 11 ((X.2 11).set i (fA X 11 i + 1)) = Y at *
  have l8 : (Y.2 8).length = 10 := hX1.1.ln.2.2.2.2.2.2.2.2.1
  have l9 : (Y.2 9).length = 10 := hX1.1.ln.2.2.2.2.2.2.2.2.2.1
  split
  · split
    · exact bd_sA h1 (by decide) (by decide)
    · obtain ⟨v, hv, ev, -⟩ := drV_n dr
      have h2 : bdX (sA Y 10 ((Y.2 10).set i 1)) r q := bd_sA h1 (by decide) (by decide)
      have e9 : (sA Y 10 ((Y.2 10).set i 1)).2 9 = Y.2 9 := sA_n (by decide)
      have := bd_9 (i := i) (u := v % 9 + 1) (v := (drV dr.toInt64 - drV dr.toInt64 / 9 * 9) + 1) h2 (by rw [e9]; omega) (by omega) (by
        rw [ev, show (9 : Int32) = nI 9 from rfl, pk_rem hv (by decide) (by decide), nI_1])
      rw [e9] at this
      exact this
  · split
    · obtain ⟨c, hc1, hc2, ec⟩ := clamp19 (valX E S L Y t r n 0 (mnX Y 6 i) (fA X 11 i + 1))
      exact bd_8 (u := q + c) h1 (by omega) (by omega) (by rw [ec, h1.1, nI_add])
    · exact bd_sA h1 (by decide) (by decide)
theorem fmX_row {E S L : aG} {X : aW} {t r n k : Nat} {idle : Int32} (hk : k ≠ 1) : ∀ i, (fmX E S L t r n idle X i).2 k = X.2 k
  | 0 => rfl
  | i + 1 => by
    rw [fmX]
    split
    · exact fmX_row hk i
    · unfold fmR
      rw [sA_n hk]
      exact fmX_row hk i
theorem fmX_1 {E S L : aG} {X : aW} {t r n : Nat} {idle : Int32} : ∀ i, (fmX E S L t r n idle X i).1 = X.1
  | 0 => rfl
  | i + 1 => by
    rw [fmX]
    split
    · exact fmX_1 i
    · exact fmX_1 i
theorem fmX_f {E S L : aG} {X : aW} {t r n k : Nat} {idle : Int32} (hk : k ≠ 1) (i : Nat) : fA (fmX E S L t r n idle X i) k = fA X k := by
  unfold fA
  rw [fmX_row hk i]
section KT4
variable (xs : List Int32) (d : Nat) {h : ia_H} {a : Nat} {M : aG} {b : Nat} {X : aW} {dr wk : Int32} {sc : List Int64 × List Int64} {E S L : aG} {t r p n q : Nat}
theorem m_comes (hs : rsM M S L r p n) (hq : wfQ L) (ho : opM M E) (hc : cmM M X r) (hX : wfX X t r p) (hb : b < 23) (hsc : scw sc) (hbd : bdX X r q) (hq1 : q ≤ 11000) :
    ∃ dr' wk' sc', scw sc' ∧ dr'.toInt64 = (cmX E S L t r n (X, dr.toInt64)).2 ∧ bdX (cmX E S L t r n (X, dr.toInt64)).1 r q ∧ ia_cal xs (d + 7) im_Mod_comes [.ref a, .int (nI b)] (my h a M b X dr wk sc) = some (none, my h a M b (cmX E S L t r n (X, dr.toInt64)).1 dr' wk' sc') := by
  have hl := hs.1
  have hr10 := hX.1.2.2.2.1
  have hl10 : (X.2 10).length = 10 := hX.1.ln.2.2.2.2.2.2.2.2.2.2.1
  have nn := (num_M hl).2.2.2.1
  rw [hs.2.2.2.1] at nn
  rw [iu_Mod_comes, iq_Mod_comes_0]
  have first : ∀ k i N, i + k = r → k + (2 * r + 5) ≤ N → ∃ N', 2 * r + 5 ≤ N' ∧ ia_qr xs (ia_cal xs (d + 6)) im_Mod_comes N 2 [.ref a, .int (nI b), .int (nI i), .float 0] [] (my h a M b (endCX X i) dr wk sc) = ia_qr xs (ia_cal xs (d + 6)) im_Mod_comes N' 2 [.ref a, .int (nI b), .int (nI r), .float 0] [] (my h a M b (endCX X r) dr wk sc) := by
    intro k
    induction k with
    | zero =>
      intro i N hi hN
      rw [show i = r by omega]
      exact ⟨N, by omega, rfl⟩
    | succ k ih =>
      intro i N hi hN
      obtain ⟨N, rfl⟩ : ∃ m, N = m + 1 := ⟨N - 1, by omega⟩
      have hX1 : wfX (endCX X i) t r p := wfX_sA hX (updTo_len i) (by decide) (by decide) (by decide)
      have hy := hX1.y hl hb
      have e0 : fA (endCX X i) 10 i = fA X 10 i := by
        unfold fA endCX
        rw [sA_2, updTo_get i i (by omega), if_neg (by omega)]
      have e3 : fA (endCX X i) 8 i = fA X 8 i := by
        unfold fA endCX
        rw [sA_n (by decide)]
      have e4 : fA (endCX X i) 9 i = fA X 9 i := by
        unfold fA endCX
        rw [sA_n (by decide)]
      have eq0 : (endCX X i).1 0 = X.1 0 := rfl
      have hcc := endC_c hbd (show q ≤ 12000 by omega) (show i < r by omega)
      rw [iq_Mod_comes_2]
      simp only [↓my_Rb, ↓my_ldb, ↓bs nn, ↓if_p (nI_lt (show i < r by omega) (show r < 2 ^ 31 by omega)), ↓my_r29 hy (show i < 10 by omega), ↓my_r18 hy, ↓my_r27 hy (show i < 10 by omega), ↓my_r28 hy (show i < 10 by omega), ↓my_w29 hy (show i < 10 by omega), e0, e3, e4, eq0, nI_1]
      by_cases c1 : fA X 10 i = 1
      · by_cases c2 : X.1 0 < fA X 8 i + fA X 9 i
        · rw [if_pos c1, if_pos (hcc.mpr c2)]
          have : endCX X i = endCX X (i + 1) := by
            unfold endCX
            rw [updTo_same (by omega) (by unfold endCG; rw [if_neg (fun q => q.2 c2)]; rfl)]
          rw [this]
          exact ih (i + 1) N (by omega) (by omega)
        · rw [if_pos c1, if_neg (fun z => c2 (hcc.mp z))]
          have : sA (endCX X i) 10 (((endCX X i).2 10).set i 2) = endCX X (i + 1) := by
            unfold endCX
            rw [sA_sA, sA_2, updTo]
            congr 2
            unfold endCG
            rw [if_pos ⟨c1, c2⟩]
          rw [this]
          exact ih (i + 1) N (by omega) (by omega)
      · rw [if_neg c1]
        have : endCX X i = endCX X (i + 1) := by
          unfold endCX
          rw [updTo_same (by omega) (by unfold endCG; rw [if_neg (fun q => c1 q.1)]; rfl)]
        rw [this]
        exact ih (i + 1) N (by omega) (by omega)
  obtain ⟨N', hN', e⟩ := first r 0 999999 (by omega) (by omega)
  have ez : endCX X 0 = X := sA_self
  rw [ez] at e
  have n0 : nI 0 = 0 := rfl
  rw [n0] at e
  rw [e]
  unfold cmX
  have hX2 := endCX_wf hX
  have hc2 : cmM M (endCX X r) r := cm_sA hc (by decide) (by decide)
  have hb2 : bdX (endCX X r) r q := bd_sA hbd (by decide) (by decide)
  simp only
  generalize endCX X r = X2 at *
  obtain ⟨N', rfl⟩ : ∃ m, N' = m + 1 := ⟨N' - 1, by omega⟩
  obtain ⟨wk1, sc1, hs1, ht1⟩ := m_tonesGo xs d (h := h) (a := a) (dr := dr) (wk := wk) hs hq ho hc2 hX2 hb hsc
  rw [iq_Mod_comes_2]
  simp only [↓my_Rb, ↓my_ldb, ↓bs nn, ↓if_n (nI_nlt (Nat.le_refl r) (show r < 2 ^ 31 by omega)), ↓my_clsb, ↓cV_of ht1]
  have hX3 := bgX_wf (E := E) (S := S) (L := L) (n := n) (endTX_wf hX2) t
  have hc3 : cmM M (bgX E S L t r n (endTX X2 t) t) r := bgX_cm (cm_sA hc2 (by decide) (by decide)) t
  have hb3 : bdX (bgX E S L t r n (endTX X2 t) t) r q := bgX_bd (bd_sA hb2 (by decide) (by decide)) t
  generalize bgX E S L t r n (endTX X2 t) t = X3 at *
  rw [← n0]
  refine lp_si (σ := Int32 × Int32 × List Int64 × List Int64) (F := fun N i s => ia_qr xs (ia_cal xs (d + 6)) im_Mod_comes N 46 [.ref a, .int (nI b), .int (nI i), .float 0] [] (my h a M b (trX E S L t r n (X3, dr.toInt64) i).1 s.1 s.2.1 s.2.2)) (I := fun i s => scw s.2.2 ∧ s.1.toInt64 = (trX E S L t r n (X3, dr.toInt64) i).2 ∧ bdX (trX E S L t r n (X3, dr.toInt64) i).1 r q) (N := r) (cost := 2) (c0 := 1) (R := fun o => ∃ dr' wk' sc', scw sc' ∧ Int32.toInt64 dr' = (trX E S L t r n (X3, dr.toInt64) r).2 ∧ bdX (trX E S L t r n (X3, dr.toInt64) r).1 r q ∧ o = some (none, my h a M b (trX E S L t r n (X3, dr.toInt64) r).1 dr' wk' sc')) (fun i hi s hss N hN => ?_) (fun N s hN hss => ?_) r 0 (by omega) (dr, wk1, sc1) ⟨hs1, rfl, hb3⟩ N' (by omega)
  · obtain ⟨N, rfl⟩ : ∃ m, N = m + 1 + 1 := ⟨N - 2, by omega⟩
    have hbX := trX_wf (E := E) (S := S) (L := L) (n := n) (Y := (X3, dr.toInt64)) hX3 i
    have hbc := trX_cm (E := E) (S := S) (L := L) (t := t) (n := n) (Y := (X3, dr.toInt64)) hc3 i
    obtain ⟨hs2, hd2, hb2⟩ := hss
    rw [trX]
    generalize trX E S L t r n (X3, dr.toInt64) i = Z at *
    obtain ⟨Y, dz⟩ := Z
    simp only at hbX hbc hd2 hb2
    subst hd2
    have hyY := hbX.y hl hb
    have r10 : rd (M.2.1 10) (nI i) = some (fA Y 6 i) := by rw [rdM hl (by decide) (by show i < 20; omega) (by decide), (hbc i hi).1]
    show ∃ n' s', _ ∧ _ ∧ ia_qr xs (ia_cal xs (d + 6)) im_Mod_comes (N + 1 + 1) 46 [.ref a, .int (nI b), .int (nI i), .float 0] [] (my h a M b Y s.1 s.2.1 s.2.2) = _
    rw [iq_Mod_comes_46]
    simp only [↓my_Rb, ↓my_ldb, ↓bs nn, ↓if_p (nI_lt hi (show r < 2 ^ 31 by omega)), ↓my_r29 hyY (show i < 10 by omega), ↓my_r27 hyY (show i < 10 by omega), ↓my_r18 hyY, ↓my_Ib, ↓bs r10, nI_1]
    obtain ⟨m, hm, em⟩ := hbX.2.2.2.1 i hi
    have hp6 := hbX.2.1
    have hne : ¬ nI m = (-1 : Int32) := by
      intro e
      have := congrArg Int32.toInt e
      rw [nI_toInt (by omega)] at this
      have e2 : (-1 : Int32).toInt = -1 := rfl
      omega
    by_cases c1 : fA Y 10 i = 0
    · by_cases c2 : fA Y 8 i = Y.1 0
      · have go : ∃ (n' : Nat) (s' : Int32 × Int32 × List Int64 × List Int64), N + 1 + 1 ≤ n' + 2 ∧ (scw s'.2.2 ∧ s'.1.toInt64 = (trR E S L t r n (Y, s.1.toInt64) i).2 ∧ bdX (trR E S L t r n (Y, s.1.toInt64) i).1 r q) ∧ ia_qr xs (ia_cal xs (d + 6)) im_Mod_comes (N + 1) 83 [.ref a, .int (nI b), .int (nI i), .float 0] [] (my h a M b Y s.1 s.2.1 s.2.2) = ia_qr xs (ia_cal xs (d + 6)) im_Mod_comes n' 46 [.ref a, .int (nI b), .int (nI (i + 1)), .float 0] [] (my h a M b (trR E S L t r n (Y, s.1.toInt64) i).1 s'.1 s'.2.1 s'.2.2) := by
          obtain ⟨dr', wk', sc', h1, h2, h3⟩ := m_tries xs (d + 1) (h := h) (a := a) (dr := s.1) (wk := s.2.1) hs hq ho hbc hbX hb hs2 hi c2
          have h4 := trR_bd (E := E) (S := S) (L := L) (n := n) (dr := s.1) hbX hb2 hq1 hi
          refine ⟨N, (dr', wk', sc'), by omega, ⟨h1, ?_, ?_⟩, ?_⟩
          · exact h2
          · exact h4
          · rw [iq_Mod_comes_83]
            simp only [↓my_clsb, ↓cV_of h3, nI_1]
        by_cases c3 : fA Y 6 i = E.1 3
        · have c4 : M.1 18 = 2 := by
            have := ho.2.2.2.1
            split at this
            · rename_i q; exact q
            · rw [this, em] at c3
              exact absurd c3 hne
          have c5 : fA Y 6 i = M.1 19 := by
            have := ho.2.2.2.1
            rw [if_pos c4] at this
            rw [this]
            exact c3
          refine ⟨N + 1, s, by omega, ?_, ?_⟩
          · rw [if_neg (fun z => z.2.2 c3)]
            exact ⟨hs2, rfl, hb2⟩
          · simp only [if_pos c1, if_pos c2, if_pos c4, if_pos c5, if_neg (fun z : _ ∧ _ ∧ ¬ _ => z.2.2 c3)]
        · have := go
          simp only [if_pos (And.intro c1 (And.intro c2 c3))]
          rw [if_pos c1, if_pos c2]
          by_cases c4 : M.1 18 = 2
          · have c5 : ¬ fA Y 6 i = M.1 19 := by
              have := ho.2.2.2.1
              rw [if_pos c4] at this
              rw [this]
              exact c3
            rw [if_pos c4, if_neg c5]
            exact this
          · rw [if_neg c4]
            exact this
      · refine ⟨N + 1, s, by omega, ?_, ?_⟩
        · rw [if_neg (fun z => c2 z.2.1)]
          exact ⟨hs2, rfl, hb2⟩
        · simp only [if_pos c1, if_neg c2, if_neg (fun z : _ ∧ _ ∧ ¬ _ => c2 z.2.1)]
    · refine ⟨N + 1, s, by omega, ?_, ?_⟩
      · rw [if_neg (fun z => c1 z.1)]
        exact ⟨hs2, rfl, hb2⟩
      · simp only [if_neg c1, if_neg (fun z : _ ∧ _ ∧ ¬ _ => c1 z.1)]
  · obtain ⟨N, rfl⟩ : ∃ m, N = m + 1 := ⟨N - 1, by omega⟩
    refine ⟨s.1, s.2.1, s.2.2, hss.1, hss.2.1, hss.2.2, ?_⟩
    show ia_qr xs (ia_cal xs (d + 6)) im_Mod_comes (N + 1) 46 [.ref a, .int (nI b), .int (nI r), .float 0] [] (my h a M b (trX E S L t r n (X3, dr.toInt64) r).1 s.1 s.2.1 s.2.2) = _
    rw [iq_Mod_comes_46]
    simp only [↓my_Rb, ↓my_ldb, ↓bs nn, ↓if_n (nI_nlt (Nat.le_refl r) (show r < 2 ^ 31 by omega))]
theorem id_iff (hX : wfX X t r p) {m : Nat} (hm : m < 32) : ((idX X t r >>> (nI m &&& 31)) &&& 1) = 0 ↔ (htI X t (nI m) = 0 ∨ ¬ coI X r (nI m) = -1) := by
  rw [bt_iff hm]
  unfold idX
  rw [bB_and, bB_not hm, Bool.and_eq_false_iff, tn_ht hX hm, ← tk_co hX hm]
  constructor
  · rintro (q | q)
    · exact Or.inl q
    · refine Or.inr fun z => ?_
      rw [z] at q
      cases q
  · rintro (q | q)
    · exact Or.inl q
    · refine Or.inr ?_
      cases hb : bB (tkF (fA X 10) (fA X 6) (fA X 7) r) m with
      | true => rfl
      | false => exact absurd hb q
theorem m_fames (hs : rsM M S L r p n) (hq : wfQ L) (ho : opM M E) (hc : cmM M X r) (hX : wfX X t r p) (hb : b < 23) (hsc : scw sc) :
    ∃ wk' sc', scw sc' ∧ ia_cal xs (d + 5) im_Mod_fames [.ref a, .int (nI b)] (my h a M b X dr wk sc) = some (none, my h a M b (faX E S L t r p n X) dr wk' sc') := by
  have hl := hs.1
  have hp6 := hX.2.1
  have nn := (num_M hl).1
  rw [hs.2.1] at nn
  rw [iu_Mod_fames, iq_Mod_fames_0]
  have n0 : nI 0 = 0 := rfl
  rw [← n0]
  refine lp_sc (σ := Int32 × List Int64 × List Int64) (F := fun N i s => ia_qr xs (ia_cal xs (d + 4)) im_Mod_fames N 2 [.ref a, .int (nI b), .int (nI i), .float 0] [] (my h a M b (fmX E S L t r n (idX X t r) X i) dr s.1 s.2)) (I := fun s => scw s.2) (N := p) (cost := 1) (c0 := 1) (R := fun o => ∃ wk' sc', scw sc' ∧ o = some (none, my h a M b (faX E S L t r p n X) dr wk' sc')) (fun i hi s hss N hN => ?_) (fun N s hN hss => ?_) p 0 (by omega) (wk, sc) hsc 999999 (by omega)
  · obtain ⟨N, rfl⟩ : ∃ m, N = m + 1 := ⟨N - 1, by omega⟩
    have hbX := fmX_wf (E := E) (S := S) (L := L) (n := n) (idle := idX X t r) hX i
    have hbc := fmX_cm (E := E) (S := S) (L := L) (t := t) (n := n) (idle := idX X t r) hc i
    have ht : htI (fmX E S L t r n (idX X t r) X i) t (nI i) = htI X t (nI i) := by
      unfold htI
      rw [fmX_f (by decide), fmX_f (by decide)]
    have hco : coI (fmX E S L t r n (idX X t r) X i) r (nI i) = coI X r (nI i) := by
      unfold coI
      rw [fmX_f (by decide), fmX_f (by decide), fmX_f (by decide)]
    have hid := id_iff hX (m := i) (by omega)
    rw [fmX]
    generalize fmX E S L t r n (idX X t r) X i = Y at *
    have hyY := hbX.y hl hb
    have r3 : rd (M.2.1 3) (nI i) = some (fG S 1 i) := by rw [rdM hs.1 (by decide) (by show i < 12; omega) (by decide), hs.2.2.2.2.2.2.2.1 i hi]
    show ∃ n' s', _ ∧ _ ∧ ia_qr xs (ia_cal xs (d + 4)) im_Mod_fames (N + 1) 2 [.ref a, .int (nI b), .int (nI i), .float 0] [] (my h a M b Y dr s.1 s.2) = _
    rw [iq_Mod_fames_2]
    simp only [↓my_Rb, ↓my_ldb, ↓bs nn, ↓if_p (nI_lt hi (show p < 2 ^ 31 by omega)), ↓my_clsb, ↓cI_of (m_hasTone xs (d + 3) hbX.1 hyY _), ↓cI_of (m_callOf xs (d + 3) hs hbc hyY _), ht, hco, nI_1]
    by_cases c1 : htI X t (nI i) = 0
    · refine ⟨N, s, Nat.le_refl _, hss, ?_⟩
      rw [if_pos c1, if_pos (hid.mpr (Or.inl c1))]
    · by_cases c2 : coI X r (nI i) = -1
      · obtain ⟨wk', sc', h1, h2⟩ := m_val xs d (h := h) (a := a) (b := b) (dr := dr) (wk := s.1) hs hq ho hbc hbX hyY hss hi 0 (k := 1) (by decide) (kI := 1) rfl 0 99 (fG S 1 i / 10 + 1)
        refine ⟨N, (wk', sc'), Nat.le_refl _, h1, ?_⟩
        rw [if_neg c1, if_pos c2, if_neg (fun z => (hid.mp z).elim c1 (fun w => w c2))]
        simp only [↓cV_of (m_calls xs d hs ho hbc hbX hyY hss hi rfl 0), ↓my_Rb, ↓my_r22 hyY (show i < 6 by omega), ↓my_ldb, ↓bs r3, ↓if_n (show ¬ (10 : Int32) = 0 by decide), ↓my_clsb, ↓cI_of h2, ↓cI_of (k_minI xs _ _ _ _), ↓my_w22 hyY (show i < 6 by omega)]
        rfl
      · refine ⟨N, s, Nat.le_refl _, hss, ?_⟩
        rw [if_neg c1, if_neg c2, if_pos (hid.mpr (Or.inr c2))]
  · obtain ⟨N, rfl⟩ : ∃ m, N = m + 1 := ⟨N - 1, by omega⟩
    have hbX := fmX_wf (E := E) (S := S) (L := L) (n := n) (idle := idX X t r) hX p
    have hyY := hbX.y hl hb
    refine ⟨s.1, s.2, hss, ?_⟩
    show ia_qr xs (ia_cal xs (d + 4)) im_Mod_fames (N + 1) 2 [.ref a, .int (nI b), .int (nI p), .float 0] [] (my h a M b (fmX E S L t r n (idX X t r) X p) dr s.1 s.2) = _
    rw [iq_Mod_fames_2]
    simp only [↓my_Rb, ↓my_ldb, ↓bs nn, ↓if_n (nI_nlt (Nat.le_refl p) (show p < 2 ^ 31 by omega)), ↓my_r18 hyY, ↓my_w18 hyY]
    rfl
theorem faX_bd (h : bdX X r q) : bdX (faX E S L t r p n X) r (q + 1) := by
  unfold faX
  refine ⟨?_, ?_, ?_⟩
  · rw [sI_1, fmX_1, h.1, nI_1]
  · show ∀ i, i < r → ∃ u, u ≤ 12000 ∧ fA (fmX E S L t r n (idX X t r) X p) 8 i = nI u
    rw [fmX_f (by decide)]
    exact h.2.1
  · show ∀ i, i < r → ∃ u, u ≤ 9 ∧ fA (fmX E S L t r n (idX X t r) X p) 9 i = nI u
    rw [fmX_f (by decide)]
    exact h.2.2
theorem cmX_wf {Y : aW × Int64} (hw : wfX Y.1 t r p) : wfX (cmX E S L t r n Y).1 t r p := trX_wf (Y := (_, _)) (bgX_wf (endTX_wf (endCX_wf hw)) t) r
theorem cmX_cm {Y : aW × Int64} (hw : cmM M Y.1 r) : cmM M (cmX E S L t r n Y).1 r := trX_cm (Y := (_, _)) (bgX_cm (cm_sA (cm_sA hw (by decide) (by decide)) (by decide) (by decide)) t) r
theorem faX_wf (hw : wfX X t r p) : wfX (faX E S L t r p n X) t r p := wfX_sI (fmX_wf hw p) (by decide) (by decide)
theorem faX_cm (hw : cmM M X r) : cmM M (faX E S L t r p n X) r := cm_sI (fmX_cm hw p)
theorem stX_cm {Y : aW × Int64} (hw : cmM M Y.1 r) : cmM M (stX E S L t r p n Y).1 r := faX_cm (cmX_cm hw)
theorem m_passes (hs : rsM M S L r p n) (hq : wfQ L) (ho : opM M E) (hc : cmM M X r) (hX : wfX X t r p) (hb : b < 23) (hsc : scw sc) (hbd : bdX X r q) (hq1 : q ≤ 11000) :
    ∃ dr' wk' sc', scw sc' ∧ dr'.toInt64 = (stX E S L t r p n (X, dr.toInt64)).2 ∧ bdX (stX E S L t r p n (X, dr.toInt64)).1 r (q + 1) ∧ ia_cal xs (d + 8) im_Mod_passes [.ref a, .int (nI b)] (my h a M b X dr wk sc) = some (none, my h a M b (stX E S L t r p n (X, dr.toInt64)).1 dr' wk' sc') := by
  rw [stX_eq]
  obtain ⟨dr1, wk1, sc1, h1, h2, h3, h4⟩ := m_comes xs d (h := h) (a := a) (dr := dr) (wk := wk) hs hq ho hc hX hb hsc hbd hq1
  obtain ⟨wk2, sc2, g1, g2⟩ := m_fames xs (d + 2) (h := h) (a := a) (dr := dr1) (wk := wk1) (X := (cmX E S L t r n (X, dr.toInt64)).1) hs hq ho (cmX_cm hc) (cmX_wf hX) hb h1
  refine ⟨dr1, wk2, sc2, g1, h2, faX_bd h3, ?_⟩
  rw [iu_Mod_passes, iq_Mod_passes_0]
  simp only [↓my_clsb, ↓cV_of h4, ↓cV_of g2]
end KT4
