/-! Exchange: a quarter goes by. -/
section KT
variable (xs : List Int32) (d : Nat) {h : ia_H} {e w s : Nat} {E S L : aG} {dr : Int64} {X : aW} {sc : List Int64 × List Int64} {t r p n : Nat}
theorem k_draw : ia_cal xs (d + 1) im_Exchange_draw [.ref e] (cy h e w s E S L dr X sc) = some (some (.int (drV dr)), cy h e w s E S L (drN dr) X sc) := by
  rw [iu_Exchange_draw, iq_Exchange_draw_0]
  simp only [↓cy_E_Jb, ↓cy_E_pfb]
  rfl
theorem k_tryRing (q : wfC e w s E S L p n) (hX : wfX X t r p) (hsc : scw sc) {i : Nat} (hi : i < r) :
    ∃ sc', scw sc' ∧ ia_cal xs (d + 4) im_Exchange_tryRing [.ref e, .ref w, .int (nI i)] (cy h e w s E S L dr X sc) = some (none, cy h e w s E S L (trR E S L t r n (X, dr) i).2 (trR E S L t r n (X, dr) i).1 sc') := by
  have dq := q.1
  have hr10 := hX.1.2.2.2.1
  have hX1 : wfX (sA X 11 ((X.2 11).set i (fA X 11 i + 1))) t r p := wfX_sA hX (List.length_set ..) (by decide) (by decide) (by decide)
  obtain ⟨-, -, -, -, -, -, -, -, l8, l9, l10, l11⟩ := hX.1.ln
  obtain ⟨q6, q7, q8, q9, q10, q11⟩ := hX.1.rr hi
  have w11 : ∀ v, wr (X.2 11) (nI i) v = some ((X.2 11).set i v) := fun v => wr_nI (by omega) (by omega)
  rw [iu_Exchange_tryRing, iq_Exchange_tryRing_0]
  unfold trR
  simp only [↓cy_W_Rb dq, ↓cy_W_ldb dq, ↓bs q11, ↓cy_W_stb dq, ↓bs (w11 _), ↓cy_E_clsb]
  have ef : fA (sA X 11 ((X.2 11).set i (fA X 11 i + 1))) 11 i = fA X 11 i + 1 := by
    unfold fA
    rw [sA_2, ia_set_getD (by omega), if_pos rfl]
  have en : ∀ k, k ≠ 11 → (sA X 11 ((X.2 11).set i (fA X 11 i + 1))).2 k = X.2 k := fun k hk => sA_n hk
  generalize sA X 11 ((X.2 11).set i (fA X 11 i + 1)) = Y at *
  obtain ⟨r6, r7, r8, r9, r10, r11⟩ := hX1.1.rr hi
  rw [ef] at r11
  obtain ⟨-, -, -, -, -, -, -, -, m8, m9, m10, m11⟩ := hX1.1.ln
  have w8 : ∀ v, wr (Y.2 8) (nI i) v = some ((Y.2 8).set i v) := fun v => wr_nI (by omega) (by omega)
  have w9 : ∀ v, wr (Y.2 9) (nI i) v = some ((Y.2 9).set i v) := fun v => wr_nI (by omega) (by omega)
  have w10 : ∀ v, wr (Y.2 10) (nI i) v = some ((Y.2 10).set i v) := fun v => wr_nI (by omega) (by omega)
  simp only [↓cI_of (k_mayConnect xs (d + 1) q hX1 hi)]
  by_cases hc : mayX E Y t r i
  · refine ⟨sc, hsc, ?_⟩
    simp only [if_pos hc]
    have c10 : ¬ (1 : Int32) = 0 := by decide
    have w9' : ∀ u v, wr ((sA Y 10 u).2 9) (nI i) v = some ((Y.2 9).set i v) := fun u v => by rw [sA_n (by decide)]; exact w9 v
    have c9 : ¬ (9 : Int32) = 0 := by decide
    simp only [↓if_n c10, ↓cy_W_Rb dq, ↓cy_W_stb dq, ↓bs (w10 _), ↓cy_E_Ib]
    by_cases h4 : E.1 4 = 0
    · simp only [if_pos h4]
    · simp only [if_neg h4]
      simp only [↓cy_W_Rb dq, ↓cy_E_clsb, ↓cI_of (k_draw _ _), ↓if_n c9, ↓cy_W_stb dq, ↓bs (w9' _ _)]
  · simp only [if_neg hc, if_true]
    simp only [↓cy_W_Rb dq, ↓cy_W_ldb dq, ↓bs r11, ↓cy_E_Ib]
    by_cases ht : fA X 11 i + 1 < E.1 1
    · obtain ⟨m, hm, em⟩ := hX1.2.2.2.1 i hi
      have hm6 : m < 6 := by have := hX1.2.1; omega
      have emn : mnX Y 6 i = m := mnX_of hm6 em
      rw [em] at r6
      obtain ⟨sc1, hsc1, hv⟩ := k_valueOf xs d (h := h) (dr := dr) q hX1.1 hsc (k := 0) (m := m) (by decide) hm6 (kI := 0) (mI := nI m) rfl rfl (fA X 11 i + 1)
      refine ⟨sc1, hsc1, ?_⟩
      simp only [if_pos ht]
      simp only [↓cy_W_Rb dq, ↓cy_W_ldb dq, ↓bs r6, ↓bs r11, ↓cy_E_clsb, ↓cL_of hv, ↓cy_W_Ib dq, ↓cL_of (k_minJ _ _ _ _ _), ↓cL_of (k_maxJ _ _ _ _ _), ↓cy_W_stb dq, ↓bs (w8 _), emn]
      rfl
    · refine ⟨sc, hsc, ?_⟩
      simp only [if_neg ht]
      simp only [↓cy_W_Rb dq, ↓cy_W_stb dq, ↓bs (w10 _)]
theorem k_gainFame (q : wfC e w s E S L p n) (hX : wfX X t r p) (hsc : scw sc) {m : Nat} (hm : m < 6) :
    ∃ sc', scw sc' ∧ ia_cal xs (d + 4) im_Exchange_gainFame [.ref e, .ref w, .int (nI m)] (cy h e w s E S L dr X sc) = some (none, cy h e w s E S L dr (fmR E S L X t r n m) sc') := by
  have dq := q.1
  have hS := q.2.2.2.1
  have l1 := hX.1.ln.2.1
  have rv : rd (S.2.1 1) (nI m) = some (fG S 1 m) := rdG (by rw [hS.2.2.2.2.2.1]; exact hm) (by rw [hS.2.2.2.2.2.1]; decide)
  have r1 : rd (X.2 1) (nI m) = some (fA X 1 m) := rdA (by omega) (by omega)
  have w1 : ∀ v, wr (X.2 1) (nI m) v = some ((X.2 1).set m v) := fun v => wr_nI (by omega) (by omega)
  have c10 : ¬ (10 : Int32) = 0 := by decide
  obtain ⟨sc1, hsc1, hv⟩ := k_valueOf xs d (h := h) (dr := dr) q hX.1 hsc (k := 1) (m := m) (by decide) hm (kI := 1) (mI := nI m) rfl rfl 0
  refine ⟨sc1, hsc1, ?_⟩
  rw [iu_Exchange_gainFame, iq_Exchange_gainFame_0]
  unfold fmR fmM
  simp only [↓cy_E_clsb, ↓cL_of hv, lg0]
  by_cases h0 : valX E S L X t r n 1 m 0 = -9223372036854775808
  · simp only [if_pos h0]
    simp only [↓cy_Es q, ↓cy_S_Rb dq, ↓cy_S_ldb dq, ↓bs rv, ↓if_n c10]
    rw [iq_Exchange_gainFame_27]
    simp only [↓cy_W_Rb dq, ↓cy_W_ldb dq, ↓bs r1, ↓cI_of (k_minI _ _ _ _ _), ↓cy_W_stb dq, ↓bs (w1 _)]
  · simp only [if_neg h0]
    simp only [↓cL_of (k_minJ _ _ _ _ _), ↓cL_of (k_maxJ _ _ _ _ _)]
    rw [iq_Exchange_gainFame_27]
    simp only [↓cy_W_Rb dq, ↓cy_W_ldb dq, ↓bs r1, ↓cI_of (k_minI _ _ _ _ _), ↓cy_W_stb dq, ↓bs (w1 _)]
    rfl
end KT
/-- a counted loop with something that nobody looks at -/
theorem lp_sc {σ : Type} {F : Nat → Nat → σ → Option ia_R} {I : σ → Prop} {N cost c0 : Nat} {R : Option ia_R → Prop} (hstep : ∀ i, i < N → ∀ s, I s → ∀ n, cost ≤ n → ∃ n' s', n ≤ n' + cost ∧ I s' ∧ F n i s = F n' (i + 1) s') (hend : ∀ n s, c0 ≤ n → I s → R (F n N s)) :
    ∀ k i, i + k = N → ∀ s, I s → ∀ n, cost * k + c0 ≤ n → R (F n i s) := by
  intro k
  induction k with
  | zero =>
    intro i hi s hs n hn
    rw [show i = N by omega]
    exact hend n s (by omega) hs
  | succ k ih =>
    intro i hi s hs n hn
    rw [Nat.mul_succ] at hn
    obtain ⟨n', s', h1, h2, h3⟩ := hstep i (by omega) s hs n (by omega)
    rw [h3]
    exact ih (i + 1) (by omega) s' h2 n' (by omega)
def bgX (E S L : aG) (t r n : Nat) (X : aW) : Nat → aW
  | 0 => X
  | i + 1 => if fA (bgX E S L t r n X i) 5 i = 0 ∧ fA (bgX E S L t r n X i) 3 i = (bgX E S L t r n X i).1 0 then bgT E S L (bgX E S L t r n X i) t r n i else bgX E S L t r n X i
def trX (E S L : aG) (t r n : Nat) (Y : aW × Int64) : Nat → aW × Int64
  | 0 => Y
  | i + 1 => if fA (trX E S L t r n Y i).1 10 i = 0 ∧ fA (trX E S L t r n Y i).1 8 i = (trX E S L t r n Y i).1.1 0 ∧ ¬ fA (trX E S L t r n Y i).1 6 i = E.1 3 then trR E S L t r n (trX E S L t r n Y i) i else trX E S L t r n Y i
def fmX (E S L : aG) (t r n : Nat) (idle : Int32) (X : aW) : Nat → aW
  | 0 => X
  | i + 1 => if ((idle >>> (nI i &&& 31)) &&& 1) = 0 then fmX E S L t r n idle X i else fmR E S L (fmX E S L t r n idle X i) t r n i
def idX (X : aW) (t r : Nat) : Int32 := tnF (fA X 5) (fA X 2) t &&& (tkF (fA X 10) (fA X 6) (fA X 7) r ^^^ -1)
def stX (E S L : aG) (t r p n : Nat) (Y : aW × Int64) : aW × Int64 :=
  let Z := trX E S L t r n (bgX E S L t r n (endTX (endCX Y.1 r) t) t, Y.2) r
  let V := fmX E S L t r n (idX Z.1 t r) Z.1 p
  (sI V 0 (V.1 0 + 1), Z.2)
theorem bgX_wf {E S L : aG} {X : aW} {t r p n : Nat} (hw : wfX X t r p) : ∀ i, wfX (bgX E S L t r n X i) t r p
  | 0 => hw
  | i + 1 => by
    rw [bgX]
    split
    · exact bgT_wf (bgX_wf hw i)
    · exact bgX_wf hw i
theorem trX_wf {E S L : aG} {Y : aW × Int64} {t r p n : Nat} (hw : wfX Y.1 t r p) : ∀ i, wfX (trX E S L t r n Y i).1 t r p
  | 0 => hw
  | i + 1 => by
    rw [trX]
    split
    · exact trR_wf (trX_wf hw i)
    · exact trX_wf hw i
theorem fmX_wf {E S L : aG} {X : aW} {t r p n : Nat} {idle : Int32} (hw : wfX X t r p) : ∀ i, wfX (fmX E S L t r n idle X i) t r p
  | 0 => hw
  | i + 1 => by
    rw [fmX]
    split
    · exact fmX_wf hw i
    · exact fmR_wf (fmX_wf hw i)
theorem fmX_0 {E S L : aG} {X : aW} {t r n : Nat} {idle : Int32} (h0 : idle = 0) : ∀ i, fmX E S L t r n idle X i = X
  | 0 => rfl
  | i + 1 => by
    rw [fmX, if_pos, fmX_0 h0 i]
    subst h0
    simp
theorem endCX_wf {X : aW} {t r p : Nat} (hw : wfX X t r p) : wfX (endCX X r) t r p := wfX_sA hw (updTo_len r) (by decide) (by decide) (by decide)
theorem endTX_wf {X : aW} {t r p : Nat} (hw : wfX X t r p) : wfX (endTX X t) t r p := wfX_sA hw (updTo_len t) (by decide) (by decide) (by decide)
theorem stX_wf {E S L : aG} {Y : aW × Int64} {t r p n : Nat} (hw : wfX Y.1 t r p) : wfX (stX E S L t r p n Y).1 t r p :=
  wfX_sI (fmX_wf (trX_wf (Y := (_, _)) (bgX_wf (endTX_wf (endCX_wf hw)) t) r) p) (by decide) (by decide)
section KU
variable (xs : List Int32) (d : Nat) {h : ia_H} {e w s : Nat} {E S L : aG} {dr : Int64} {X : aW} {sc : List Int64 × List Int64} {t r p n : Nat}
theorem k_step (q : wfC e w s E S L p n) (hX : wfX X t r p) (hsc : scw sc) :
    ∃ sc', scw sc' ∧ ia_cal xs (d + 5) im_Exchange_step [.ref e, .ref w] (cy h e w s E S L dr X sc) = some (none, cy h e w s E S L (stX E S L t r p n (X, dr)).2 (stX E S L t r p n (X, dr)).1 sc') := by
  have dq := q.1
  have hS := q.2.2.2.1
  have hp6 := hX.2.1
  have ht8 := hX.1.2.2.1
  have hr10 := hX.1.2.2.2.1
  have h1 := endCX_wf hX
  have h2 := endTX_wf h1
  rw [iu_Exchange_step, iq_Exchange_step_0]
  simp only [↓cy_W_clsb dq, ↓cV_of (cy_endCalls xs (d + 3) dq hX.1), ↓cV_of (cy_endTones xs (d + 3) dq h1.1)]
  unfold stX
  simp only
  generalize endTX (endCX X r) t = X2 at *
  have gR : ∀ (P : Option ia_R → Prop), (P = fun o => ∃ sc', scw sc' ∧ o = some (none, cy h e w s E S L (trX E S L t r n (bgX E S L t r n X2 t, dr) r).2 (sI (fmX E S L t r n (idX (trX E S L t r n (bgX E S L t r n X2 t, dr) r).1 t r) (trX E S L t r n (bgX E S L t r n X2 t, dr) r).1 p) 0 ((fmX E S L t r n (idX (trX E S L t r n (bgX E S L t r n X2 t, dr) r).1 t r) (trX E S L t r n (bgX E S L t r n X2 t, dr) r).1 p).1 0 + 1)) sc')) → P (ia_qr xs (ia_cal xs (d + 4)) im_Exchange_step 999999 6 [.ref e, .ref w, .int 0, .float 0] [] (cy h e w s E S L dr X2 sc)) := by
    intro P hP
    refine lp_sc (σ := List Int64 × List Int64) (F := fun n2 i sc => ia_qr xs (ia_cal xs (d + 4)) im_Exchange_step n2 6 [.ref e, .ref w, .int (nI i), .float 0] [] (cy h e w s E S L dr (bgX E S L t r n X2 i) sc)) (I := scw) (N := t) (cost := 1) (c0 := r + p + 10) (R := P) (fun i hi sc hsc n2 hn2 => ?_) (fun n2 sc hn2 hsc => ?_) t 0 (by omega) sc hsc 999999 (by omega)
    · obtain ⟨N, rfl⟩ : ∃ N, n2 = N + 1 := ⟨n2 - 1, by omega⟩
      have hb := bgX_wf (E := E) (S := S) (L := L) (n := n) h2 i
      rw [bgX]
      obtain ⟨r2, r3, r4, r5⟩ := hb.1.rt hi
      generalize bgX E S L t r n X2 i = Y at *
      show ∃ n' s', _ ∧ _ ∧ ia_qr xs (ia_cal xs (d + 4)) im_Exchange_step (N + 1) 6 [.ref e, .ref w, .int (nI i), .float 0] [] (cy h e w s E S L dr Y sc) = _
      rw [iq_Exchange_step_6]
      have eI : Y.1 2 = nI t := hb.1.1
      simp only [↓cy_W_Ib dq, eI, ↓if_p (nI_lt hi (show t < 2 ^ 31 by omega)), ↓cy_W_Rb dq, ↓cy_W_ldb dq, ↓bs r5, ↓bs r3, ↓cy_E_clsb, nI_1]
      by_cases c1 : fA Y 5 i = 0
      · by_cases c2 : fA Y 3 i = Y.1 0
        · obtain ⟨sc1, hsc1, hv⟩ := k_beginTone xs d (h := h) (dr := dr) q hb hsc hi
          refine ⟨N, sc1, Nat.le_refl _, hsc1, ?_⟩
          simp only [if_pos c1, if_pos c2, if_pos (And.intro c1 c2), cV_of hv]
        · refine ⟨N, sc, Nat.le_refl _, hsc, ?_⟩
          simp only [if_pos c1, if_neg c2, if_neg (fun z : _ ∧ _ => c2 z.2)]
      · refine ⟨N, sc, Nat.le_refl _, hsc, ?_⟩
        simp only [if_neg c1, if_neg (fun z : _ ∧ _ => c1 z.1)]
    · have hb := bgX_wf (E := E) (S := S) (L := L) (n := n) h2 t
      generalize bgX E S L t r n X2 t = Y at *
      obtain ⟨N, rfl⟩ : ∃ N, n2 = N + 1 := ⟨n2 - 1, by omega⟩
      show P (ia_qr xs (ia_cal xs (d + 4)) im_Exchange_step (N + 1) 6 [.ref e, .ref w, .int (nI t), .float 0] [] (cy h e w s E S L dr Y sc))
      rw [iq_Exchange_step_6]
      have eI : Y.1 2 = nI t := hb.1.1
      simp only [↓cy_W_Ib dq, eI, ↓if_n (nI_nlt (Nat.le_refl t) (show t < 2 ^ 31 by omega))]
      refine lp_sc (σ := List Int64 × List Int64) (F := fun n2 i sc => ia_qr xs (ia_cal xs (d + 4)) im_Exchange_step n2 30 [.ref e, .ref w, .int (nI i), .float 0] [] (cy h e w s E S L (trX E S L t r n (Y, dr) i).2 (trX E S L t r n (Y, dr) i).1 sc)) (I := scw) (N := r) (cost := 1) (c0 := p + 5) (R := P) (fun i hi sc hsc n2 hn2 => ?_) (fun n2 sc hn2 hsc => ?_) r 0 (by omega) sc hsc N (by omega)
      · obtain ⟨N, rfl⟩ : ∃ N, n2 = N + 1 := ⟨n2 - 1, by omega⟩
        have hc := trX_wf (E := E) (S := S) (L := L) (n := n) (Y := (Y, dr)) hb i
        rw [trX]
        obtain ⟨r6, r7, r8, r9, r10, r11⟩ := hc.1.rr hi
        generalize trX E S L t r n (Y, dr) i = Z at *
        show ∃ n' s', _ ∧ _ ∧ ia_qr xs (ia_cal xs (d + 4)) im_Exchange_step (N + 1) 30 [.ref e, .ref w, .int (nI i), .float 0] [] (cy h e w s E S L Z.2 Z.1 sc) = _
        rw [iq_Exchange_step_30]
        have eI : Z.1.1 3 = nI r := hc.1.2.1
        simp only [↓cy_W_Ib dq, eI, ↓if_p (nI_lt hi (show r < 2 ^ 31 by omega)), ↓cy_W_Rb dq, ↓cy_W_ldb dq, ↓bs r10, ↓bs r8, ↓bs r6, ↓cy_E_Ib, ↓cy_E_clsb, nI_1]
        by_cases c1 : fA Z.1 10 i = 0
        · by_cases c2 : fA Z.1 8 i = Z.1.1 0
          · by_cases c3 : fA Z.1 6 i = E.1 3
            · refine ⟨N, sc, Nat.le_refl _, hsc, ?_⟩
              simp only [if_pos c1, if_pos c2, if_pos c3, if_neg (fun z : _ ∧ _ ∧ ¬ _ => z.2.2 c3)]
            · obtain ⟨sc1, hsc1, hv⟩ := k_tryRing xs d (h := h) (dr := Z.2) q hc hsc hi
              refine ⟨N, sc1, Nat.le_refl _, hsc1, ?_⟩
              simp only [if_pos c1, if_pos c2, if_neg c3, if_pos (And.intro c1 (And.intro c2 c3)), cV_of hv]
          · refine ⟨N, sc, Nat.le_refl _, hsc, ?_⟩
            simp only [if_pos c1, if_neg c2, if_neg (fun z : _ ∧ _ ∧ ¬ _ => c2 z.2.1)]
        · refine ⟨N, sc, Nat.le_refl _, hsc, ?_⟩
          simp only [if_neg c1, if_neg (fun z : _ ∧ _ ∧ ¬ _ => c1 z.1)]
      · have hc := trX_wf (E := E) (S := S) (L := L) (n := n) (Y := (Y, dr)) hb r
        generalize trX E S L t r n (Y, dr) r = Z at *
        obtain ⟨N, rfl⟩ : ∃ N, n2 = N + 1 := ⟨n2 - 1, by omega⟩
        show P (ia_qr xs (ia_cal xs (d + 4)) im_Exchange_step (N + 1) 30 [.ref e, .ref w, .int (nI r), .float 0] [] (cy h e w s E S L Z.2 Z.1 sc))
        rw [iq_Exchange_step_30]
        have eI : Z.1.1 3 = nI r := hc.1.2.1
        simp only [↓cy_W_Ib dq, eI, ↓if_n (nI_nlt (Nat.le_refl r) (show r < 2 ^ 31 by omega)), ↓cy_W_clsb dq, ↓cI_of (cy_toning xs (d + 3) dq hc.1), ↓cI_of (cy_talking xs (d + 3) dq hc.1)]
        have e88 : ∀ V sc N, scw sc → wfX V t r p → V = fmX E S L t r n (idX Z.1 t r) Z.1 p → P (ia_qr xs (ia_cal xs (d + 4)) im_Exchange_step (N + 1) 88 [.float 0, .ref w, .float 0, .float 0] [] (cy h e w s E S L Z.2 V sc)) := by
          intro V sc N hsc hV eV
          rw [iq_Exchange_step_88]
          simp only [↓cy_W_Ib dq, ↓cy_W_pfb dq]
          rw [hP, ← eV]
          exact ⟨sc, hsc, rfl⟩
        have eS : S.1 0 = nI p := hS.1
        have n0 : nI 0 = 0 := rfl
        show P (ia_qr xs (ia_cal xs (d + 4)) im_Exchange_step N 69 [.ref e, .ref w, .int (idX Z.1 t r), .int 0] [] (cy h e w s E S L Z.2 Z.1 sc))
        by_cases c0 : idX Z.1 t r = 0
        · obtain ⟨N, rfl⟩ : ∃ N', N = N' + 1 + 1 := ⟨N - 2, by omega⟩
          rw [iq_Exchange_step_69]
          simp only [↓cy_Es q, ↓cy_S_Ib dq]
          have := e88 Z.1 sc N hsc hc (fmX_0 c0 p).symm
          simp only [↓if_p c0]
          split
          · exact this
          · exact this
        · rw [← n0]
          refine lp_sc (σ := List Int64 × List Int64) (F := fun n2 i sc => ia_qr xs (ia_cal xs (d + 4)) im_Exchange_step n2 69 [.ref e, .ref w, .int (idX Z.1 t r), .int (nI i)] [] (cy h e w s E S L Z.2 (fmX E S L t r n (idX Z.1 t r) Z.1 i) sc)) (I := scw) (N := p) (cost := 1) (c0 := 2) (R := P) (fun i hi sc hsc n2 hn2 => ?_) (fun n2 sc hn2 hsc => ?_) p 0 (by omega) sc hsc N (by omega)
          · obtain ⟨N, rfl⟩ : ∃ N, n2 = N + 1 := ⟨n2 - 1, by omega⟩
            have hd := fmX_wf (E := E) (S := S) (L := L) (n := n) (idle := idX Z.1 t r) hc i
            rw [fmX]
            show ∃ n' s', _ ∧ _ ∧ ia_qr xs (ia_cal xs (d + 4)) im_Exchange_step (N + 1) 69 [.ref e, .ref w, .int (idX Z.1 t r), .int (nI i)] [] (cy h e w s E S L Z.2 (fmX E S L t r n (idX Z.1 t r) Z.1 i) sc) = _
            rw [iq_Exchange_step_69]
            simp only [↓cy_Es q, ↓cy_S_Ib dq, eS, ↓if_p (nI_lt hi (show p < 2 ^ 31 by omega)), ↓if_n c0, ↓cy_E_clsb, nI_1]
            by_cases c1 : ((idX Z.1 t r >>> (nI i &&& 31)) &&& 1) = 0
            · refine ⟨N, sc, Nat.le_refl _, hsc, ?_⟩
              simp only [if_pos c1]
            · obtain ⟨sc1, hsc1, hv⟩ := k_gainFame xs d (h := h) (dr := Z.2) q hd hsc (m := i) (by omega)
              refine ⟨N, sc1, Nat.le_refl _, hsc1, ?_⟩
              simp only [if_neg c1, cV_of hv]
          · obtain ⟨N, rfl⟩ : ∃ N, n2 = N + 1 + 1 := ⟨n2 - 2, by omega⟩
            show P (ia_qr xs (ia_cal xs (d + 4)) im_Exchange_step (N + 1 + 1) 69 [.ref e, .ref w, .int (idX Z.1 t r), .int (nI p)] [] (cy h e w s E S L Z.2 (fmX E S L t r n (idX Z.1 t r) Z.1 p) sc))
            rw [iq_Exchange_step_69]
            simp only [↓cy_Es q, ↓cy_S_Ib dq, eS, ↓if_n (nI_nlt (Nat.le_refl p) (show p < 2 ^ 31 by omega))]
            exact e88 _ sc N hsc (fmX_wf hc p) rfl
  have := gR _ rfl
  exact this
end KU
