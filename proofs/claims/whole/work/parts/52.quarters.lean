/-! Quarters on the whole heap. -/
theorem kne (σ ε : Bool) : kL σ ≠ kS σ ∧ kL σ ≠ kE ε ∧ kS σ ≠ kE ε ∧ 0 ≠ kL σ ∧ 0 ≠ kS σ ∧ 0 ≠ kE ε ∧ 3 ≠ kL σ ∧ 3 ≠ kS σ ∧ 3 ≠ kE ε ∧ 11 ≠ kL σ ∧ 11 ≠ kS σ ∧ 11 ≠ kE ε := by cases σ <;> cases ε <;> decide
theorem kne2 (σ ε : Bool) : 6 ≠ kL σ ∧ 6 ≠ kS σ ∧ 6 ≠ kE ε ∧ 7 ≠ kL σ ∧ 7 ≠ kS σ ∧ 7 ≠ kE ε ∧ 15 ≠ kL σ ∧ 15 ≠ kS σ ∧ 15 ≠ kE ε ∧ 16 ≠ kL σ ∧ 16 ≠ kS σ ∧ 16 ≠ kE ε := by cases σ <;> cases ε <;> decide
theorem kne3 (σ τ : Bool) : kS τ ≠ kL σ := by cases σ <;> cases τ <;> decide
/-- the world k, the exchange's number drawn, the laws' scratch rows anew -/
def nx (C : aC) (ε : Bool) (k : Nat) (σ : Bool) (X : aW) (dr : Int64) (sc : List Int64 × List Int64) : aC := uG (uW (uG C (kL σ) (gL (C.1 (kL σ)) sc)) k X) (kE ε) (gJ (C.1 (kE ε)) 0 dr)
section NX
variable {H : ia_H} {x : Nat} {C : aC} {ε σ : Bool} {k : Nat} {X : aW} {dr : Int64} {sc : List Int64 × List Int64}
theorem nx_E : (nx C ε k σ X dr sc).1 (kE ε) = gJ (C.1 (kE ε)) 0 dr := uG_s
theorem nx_L : (nx C ε k σ X dr sc).1 (kL σ) = gL (C.1 (kL σ)) sc := by
  unfold nx
  rw [uG_n (kne σ ε).2.1, uW_1, uG_s]
theorem nx_n {j : Nat} (h1 : j ≠ kE ε) (h2 : j ≠ kL σ) : (nx C ε k σ X dr sc).1 j = C.1 j := by
  unfold nx
  rw [uG_n h1, uW_1, uG_n h2]
theorem nx_S : (nx C ε k σ X dr sc).1 (kS σ) = C.1 (kS σ) := nx_n (kne σ ε).2.2.1 (kne σ ε).1.symm
theorem nx_W : (nx C ε k σ X dr sc).2 k = X := uW_s
theorem nx_Wn {j : Nat} (h : j ≠ k) : (nx C ε k σ X dr sc).2 j = C.2 j := by
  unfold nx
  rw [uG_2, uW_n h, uG_2]
theorem nx_fx {τ : Bool} (q : fx x C τ) : fx x (nx C ε k σ X dr sc) τ := by
  obtain ⟨h1, h2, h3, h4⟩ := q
  have n := kne σ ε
  refine ⟨?_, ?_, ?_, fun υ => ?_⟩
  · rw [nx_n n.2.2.2.2.2.1 n.2.2.2.1]
    exact h1
  · rw [nx_n n.2.2.2.2.2.2.2.2.1 n.2.2.2.2.2.2.1]
    exact h2
  · rw [nx_n n.2.2.2.2.2.2.2.2.2.2.2 n.2.2.2.2.2.2.2.2.2.1]
    exact h3
  · rw [nx_n (kne υ ε).2.2.1 (kne3 σ υ)]
    exact h4 υ
theorem nx_nx {X' : aW} {dr' : Int64} {sc' : List Int64 × List Int64} : nx (nx C ε k σ X dr sc) ε k σ X' dr' sc' = nx C ε k σ X' dr' sc' := by
  have hE : (nx C ε k σ X dr sc).1 (kE ε) = gJ (C.1 (kE ε)) 0 dr := nx_E
  have hL : (nx C ε k σ X dr sc).1 (kL σ) = gL (C.1 (kL σ)) sc := nx_L
  have eL : gL (gL (C.1 (kL σ)) sc) sc' = gL (C.1 (kL σ)) sc' := by
    unfold gL gB
    refine Prod.ext rfl (Prod.ext rfl (Prod.ext rfl (Prod.ext ?_ rfl)))
    funext j
    show (if j = 1 then sc'.2 else if j = 0 then sc'.1 else if j = 1 then sc.2 else if j = 0 then sc.1 else (C.1 (kL σ)).2.2.2.1 j) = if j = 1 then sc'.2 else if j = 0 then sc'.1 else (C.1 (kL σ)).2.2.2.1 j
    by_cases h1 : j = 1
    · rw [if_pos h1, if_pos h1]
    · by_cases h0 : j = 0
      · rw [if_neg h1, if_pos h0, if_neg h1, if_pos h0]
      · rw [if_neg h1, if_neg h0, if_neg h1, if_neg h0, if_neg h1, if_neg h0]
  refine Prod.ext ?_ ?_
  · funext j
    by_cases e1 : j = kE ε
    · subst e1
      rw [nx_E, nx_E, gJ_J, nx_E]
    · by_cases e2 : j = kL σ
      · subst e2
        rw [nx_L, nx_L, eL, nx_L]
      · rw [nx_n e1 e2, nx_n e1 e2, nx_n e1 e2]
  · funext j
    by_cases e1 : j = k
    · subst e1
      rw [nx_W, nx_W]
    · rw [nx_Wn e1, nx_Wn e1, nx_Wn e1]
theorem nx_id : nx C ε k σ (C.2 k) ((C.1 (kE ε)).2.2.1 0) ((C.1 (kL σ)).2.2.2.1 0, (C.1 (kL σ)).2.2.2.1 1) = C := by
  unfold nx
  have e : gJ (C.1 (kE ε)) 0 ((C.1 (kE ε)).2.2.1 0) = C.1 (kE ε) := Prod.ext rfl (Prod.ext rfl (Prod.ext up_id rfl))
  rw [gL_id, uG_id, uW_id, e, uG_id]
theorem cy_nx (hk : k < 7) : cy (tot H x C) (ed x ε) (wA x k) (sd x σ) (C.1 (kE ε)) (C.1 (kS σ)) (C.1 (kL σ)) dr X sc = tot H x (nx C ε k σ X dr sc) := by
  unfold cy nx
  have e : C.1 (kS σ) = (uG C (kL σ) (gL (C.1 (kL σ)) sc)).1 (kS σ) := (uG_n (kne σ ε).1.symm).symm
  rw [tq_L, e, tq_S, uG_id, tq_W hk, tq_E]
end NX
theorem dj15 (x : Nat) (σ : Bool) : dj (ed x false) (wA x 1) (sd x σ) ∧ dj (ed x true) (wA x 5) (sd x σ) := by
  unfold dj ed wA sd
  cases σ
  · refine ⟨⟨?_, ?_, ?_⟩, ⟨?_, ?_, ?_⟩⟩ <;> simp <;> omega
  · refine ⟨⟨?_, ?_, ?_⟩, ⟨?_, ?_, ?_⟩⟩ <;> simp <;> omega
/-- the exchange as it is opened for a text -/
def opE (E : aG) (s : Nat) (S : aG) : aG := gJ (gI (gI (gI (gI (gI (gR E 0 s) 0 (if S.1 2 = -1 then 3 else S.1 2)) 1 (if S.1 3 = -1 then 3 else S.1 3)) 2 0) 3 (-1)) 4 0) 0 0
section TX
variable (xs : List Int32) (d : Nat) {H : ia_H} {x : Nat} {C : aC} {ε σ : Bool} {k t r p n : Nat} {X : aW} {dr : Int64} {sc : List Int64 × List Int64}
theorem t_step (q : fx x C σ) (hk : k < 7) (hd : dj (ed x ε) (wA x k) (sd x σ)) (hE : (C.1 (kE ε)).2.2.2.2 0 = sd x σ) (hS : wfS (C.1 (kS σ)) p n) (hQ : wfQ (C.1 (kL σ))) (hX : wfX X t r p) (hsc : scw sc) :
    ∃ sc', scw sc' ∧ ia_cal xs (d + 5) im_Exchange_step [.ref (ed x ε), .ref (wA x k)] (tot H x (nx C ε k σ X dr sc)) = some (none, tot H x (nx C ε k σ (stX (C.1 (kE ε)) (C.1 (kS σ)) (C.1 (kL σ)) t r p n (X, dr)).1 (stX (C.1 (kE ε)) (C.1 (kS σ)) (C.1 (kL σ)) t r p n (X, dr)).2 sc')) := by
  obtain ⟨sc', h1, h2⟩ := k_step xs d (h := tot H x C) (dr := dr) ⟨hd, hE, (q.2.2.2 σ).2, hS, hQ⟩ hX hsc
  rw [cy_nx hk, cy_nx hk] at h2
  exact ⟨sc', h1, h2⟩
theorem t_valueOf (q : fx x C σ) (hk : k < 7) (hd : dj (ed x ε) (wA x k) (sd x σ)) (hE : (C.1 (kE ε)).2.2.2.2 0 = sd x σ) (hS : wfS (C.1 (kS σ)) p n) (hQ : wfQ (C.1 (kL σ))) (hX : wfW X t r) (hsc : scw sc) {j m : Nat} (hj : j < 3) (hm : m < 6) {jI mI : Int32} (hjI : jI = nI j) (hmI : mI = nI m) (turn : Int32) :
    ∃ sc', scw sc' ∧ ia_cal xs (d + 3) im_Exchange_valueOf [.ref (ed x ε), .ref (wA x k), .int jI, .int mI, .int turn] (tot H x (nx C ε k σ X dr sc)) = some (some (.long (valX (C.1 (kE ε)) (C.1 (kS σ)) (C.1 (kL σ)) X t r n j m turn)), tot H x (nx C ε k σ X dr sc')) := by
  obtain ⟨sc', h1, h2⟩ := k_valueOf xs d (h := tot H x C) (dr := dr) ⟨hd, hE, (q.2.2.2 σ).2, hS, hQ⟩ hX hsc hj hm hjI hmI turn
  rw [cy_nx hk, cy_nx hk] at h2
  exact ⟨sc', h1, h2⟩
theorem t_lineCount : ia_cal xs (d + 1) im_Script_lineCount [.ref (sd x σ)] (tot H x C) = some (some (.int (if (C.1 (kS σ)).1 2 = -1 then 3 else (C.1 (kS σ)).1 2)), tot H x C) := by
  have := k_lineCount xs d (tot H x C) (sd x σ) (C.1 (kS σ))
  rw [tq_S, uG_id] at this
  exact this
theorem t_tryCount : ia_cal xs (d + 1) im_Script_tryCount [.ref (sd x σ)] (tot H x C) = some (some (.int (if (C.1 (kS σ)).1 3 = -1 then 3 else (C.1 (kS σ)).1 3)), tot H x C) := by
  have := k_tryCount xs d (tot H x C) (sd x σ) (C.1 (kS σ))
  rw [tq_S, uG_id] at this
  exact this
theorem t_open : ia_cal xs (d + 2) im_Exchange_open [.ref (ed x ε), .ref (sd x σ)] (tot H x C) = some (none, tot H x (uG C (kE ε) (opE (C.1 (kE ε)) (sd x σ) (C.1 (kS σ))))) := by
  have nS := (kne σ ε).2.2.1
  have l1 := fun C => t_lineCount xs d (H := H) (x := x) (C := C) (σ := σ)
  have l2 := fun C => t_tryCount xs d (H := H) (x := x) (C := C) (σ := σ)
  rw [iu_Exchange_open, iq_Exchange_open_0]
  simp only [↓tE_pfb, ↓tS_clsb, ↓cI_of (l1 _), ↓cI_of (l2 _), ↓ok0, uG_s, uG_G, uG_n nS]
  rfl
theorem t_look (q : fx x C σ) {j : Nat} (hj : j < 7) (hj5 : j ≠ 5) (hJ : lnX (C.2 j)) (h5 : lnX (C.2 5)) : ia_cal xs (d + 3) im_Foresight_look [.ref (x + 109), .ref (sd x σ), .ref (wA x j)] (tot H x C) = some (none, tot H x (uG (uW C 5 (C.2 j)) 12 (opE (C.1 12) (sd x σ) (C.1 (kS σ))))) := by
  have q2 : fx x (uW C 5 (C.2 j)) σ := q
  have ho := t_open xs d (H := H) (x := x) (C := uW C 5 (C.2 j)) (ε := true) (σ := σ)
  rw [iu_Foresight_look, iq_Foresight_look_0]
  simp only [↓tF_Rb q, ↓tW_clsb (show 5 < 7 by decide), ↓cV_of (k_become xs (d + 1) hj (show 5 < 7 by decide) hj5 hJ h5), ↓tF_Rb q2, ↓tE_clsb, ↓cV_of ho]
  rfl
/-- i quarters on -/
def stN (E S L : aG) (t r p n : Nat) (Y : aW × Int64) : Nat → aW × Int64
  | 0 => Y
  | i + 1 => stX E S L t r p n (stN E S L t r p n Y i)
theorem stN_wf {E S L : aG} {Y : aW × Int64} (h : wfX Y.1 t r p) : ∀ i, wfX (stN E S L t r p n Y i).1 t r p
  | 0 => h
  | i + 1 => stX_wf (stN_wf h i)
theorem t_run (q : fx x C σ) (hE : (C.1 12).2.2.2.2 0 = sd x σ) (hS : wfS (C.1 (kS σ)) p n) (hQ : wfQ (C.1 (kL σ))) (hX : wfX X t r p) (hsc : scw sc) {m : Nat} (hm : m ≤ 99) {mI : Int32} (hmI : mI = nI m) :
    ∃ sc', scw sc' ∧ ia_cal xs (d + 6) im_Foresight_run [.ref (x + 109), .int mI] (tot H x (nx C true 5 σ X dr sc)) = some (none, tot H x (nx C true 5 σ (stN (C.1 12) (C.1 (kS σ)) (C.1 (kL σ)) t r p n (X, dr) m).1 (stN (C.1 12) (C.1 (kS σ)) (C.1 (kL σ)) t r p n (X, dr) m).2 sc')) := by
  subst hmI
  rw [iu_Foresight_run, iq_Foresight_run_0]
  refine lp_sc (σ := List Int64 × List Int64) (F := fun N i s => ia_qr xs (ia_cal xs (d + 5)) im_Foresight_run N 2 [.ref (x + 109), .int (nI m), .int (nI i)] [] (tot H x (nx C true 5 σ (stN (C.1 12) (C.1 (kS σ)) (C.1 (kL σ)) t r p n (X, dr) i).1 (stN (C.1 12) (C.1 (kS σ)) (C.1 (kL σ)) t r p n (X, dr) i).2 s))) (I := scw) (N := m) (cost := 1) (c0 := 1) (R := fun o => ∃ sc', scw sc' ∧ o = some (none, tot H x (nx C true 5 σ (stN (C.1 12) (C.1 (kS σ)) (C.1 (kL σ)) t r p n (X, dr) m).1 (stN (C.1 12) (C.1 (kS σ)) (C.1 (kL σ)) t r p n (X, dr) m).2 sc'))) (fun i hi s hs N hN => ?_) (fun N s hN hs => ?_) m 0 (by omega) sc hsc 999999 (by omega)
  · obtain ⟨N, rfl⟩ : ∃ m, N = m + 1 := ⟨N - 1, by omega⟩
    have hw := stN_wf (E := C.1 12) (S := C.1 (kS σ)) (L := C.1 (kL σ)) (n := n) (Y := (X, dr)) hX i
    obtain ⟨s', h1, h2⟩ := t_step xs d (H := H) (ε := true) (k := 5) (dr := (stN (C.1 12) (C.1 (kS σ)) (C.1 (kL σ)) t r p n (X, dr) i).2) q (by decide) (dj15 x σ).2 hE hS hQ hw hs
    refine ⟨N, s', Nat.le_refl _, h1, ?_⟩
    show ia_qr xs (ia_cal xs (d + 5)) im_Foresight_run (N + 1) 2 [.ref (x + 109), .int (nI m), .int (nI i)] [] _ = _
    rw [iq_Foresight_run_2]
    simp only [↓if_p (nI_lt hi (show m < 2 ^ 31 by omega)), ↓tF_Rb (nx_fx q), ↓tE_clsb, ↓cV_of h2, nI_1]
    rfl
  · obtain ⟨N, rfl⟩ : ∃ m, N = m + 1 := ⟨N - 1, by omega⟩
    refine ⟨s, hs, ?_⟩
    show ia_qr xs (ia_cal xs (d + 5)) im_Foresight_run (N + 1) 2 [.ref (x + 109), .int (nI m), .int (nI m)] [] _ = _
    rw [iq_Foresight_run_2]
    simp only [↓if_n (nI_nlt (Nat.le_refl m) (show m < 2 ^ 31 by omega))]
end TX
