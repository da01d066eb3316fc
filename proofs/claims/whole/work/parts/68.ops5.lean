/-! tried, put together. -/
section O5
variable (xs : List Int32) (d : Nat) {H h : ia_H} {x a : Nat} {C : aC} {M : aG} {σ : Bool} {p n r t t0 q : Nat}
theorem cnt_kill {X : aW} {v : Int32} : cntF (fA (killX X v t) 10) 3 r = cntF (fA X 10) 3 r := by
  unfold killX
  rw [fA_n (by decide)]
theorem tried_ok (hR : Rp x C M σ p n r t t0 q) (j : Nat) (v2 : Int32) {m : Nat} (hm : m ≤ 99) (E : aG) (h4 : E.1 4 = 0) (ho : opM (gI (gI (gI M 0 0) 18 (nI j)) 19 v2) E) (C3 : aC) (hf : fo x C C3 σ E p n) (hX3 : C3.2 5 = if nI j = 1 then killX (C.2 1) 255 t else C.2 1) (hJ3 : (C3.1 12).2.2.1 0 = 0) :
    ∃ v C' M', Rl x C' M' ∧ (∀ N, ia_qr xs (ia_cal xs (d + 19)) im_Eng_tried (N + 1) 63 [.ref x, .float 0, .float 0, .int (nI m)] [] (tot H x C3) = some (some (.int v), tot H x C')) ∧ ∀ N, t + 5 ≤ N → ia_qr xs (ia_cal xs (d + 19)) im_Mod_tried N 20 [.ref a, .int (nI j), .int v2, .int (nI m), .float 0, .float 0] [.int 1] (pM h a (gI M 0 0)) = some (some (.int v), pM h a M') := by
  have hR0 := hR.t 0
  have hT := hR0.2.1
  have hX := hR0.2.2.1.1
  obtain ⟨M2, k1, k2⟩ := tr_ref xs d (h := h) (a := a) hT.2.2.1 hT.2.1 hR0.2.2.1 hR0.2.2.2.1.2.2.2.2 (nI j) v2 ho h4 hm hR0.2.2.2.1.1 hR0.2.2.2.1.2.1
  have hX5 : wfX (C3.2 5) t r p := by
    rw [hX3]
    split
    · exact kill_wf hX
    · exact hX
  obtain ⟨C4, g1, g2⟩ := g_givenUpIn xs (d + 13) (H := H) hf hX5 hm (mI := nI m) rfl
  rw [hX3, hJ3] at g2
  have e : cntF (fA (if nI j = 1 then killX (C.2 1) 255 t else C.2 1) 10) 3 r = cntF (fA (C.2 1) 10) 3 r := by
    split
    · exact cnt_kill
    · rfl
  rw [e] at g2
  refine ⟨_, C4, M2, (hR0.sc g1 k1).l, fun N => ?_, k2⟩
  rw [iq_Eng_tried_63]
  simp only [↓tN_Rb hf.2.1, ↓tF_clsb, ↓cI_of g2]
theorem op_tried (hR : Rp x C M σ p n r t t0 q) (v1 v2 v3 : Int32) : opI xs d H h x a C M im_Eng_tried im_Mod_tried [.int v1, .int v2, .int v3] := by
  have hR0 := hR.t 0
  have hT := hR0.2.1
  have hs := hT.2.2.1
  have hn := hR0.2.2.1
  have hX := hn.1
  have hp6 := hX.2.1
  have ht8 := hX.1.2.2.1
  obtain ⟨o1, o2, o3, o4, o5⟩ := hR0.2.2.2.1
  have n4 : fG (gI M 0 0) 1 4 = (dE (C.1 (kS σ))).1 0 := hT.2.2.2.2.1
  have n5 : fG (gI M 0 0) 1 5 = (dE (C.1 (kS σ))).1 1 := hT.2.2.2.2.2.1
  -- answers that are -1
  have bad : ∀ (_ : (v1 < 0 ∨ 5 < v1) ∨ (v3 < 0 ∨ 99 < v3) ∨ (v1 = 2 ∧ inI v2 p = 0) ∨ (¬ v1 = 2 ∧ ¬ v2 = 0)), opI xs d H h x a C M im_Eng_tried im_Mod_tried [.int v1, .int v2, .int v3] := by
    intro hb
    refine ⟨-1, C, gI M 0 0, hR0.l, ?_, ?_⟩
    · rw [iu_Eng_tried, iq_Eng_tried_0]
      simp only [↓tN_clsb, ↓cI_of (e_isPerson xs (d + 18) hR.1 hT.1 v2)]
      by_cases b1 : v1 < 0
      · rw [if_pos b1]
      by_cases b2 : 5 < v1
      · rw [if_neg b1, if_pos b2]
      by_cases b3 : v3 < 0
      · rw [if_neg b1, if_neg b2, if_pos b3]
      by_cases b4 : 99 < v3
      · rw [if_neg b1, if_neg b2, if_neg b3, if_pos b4]
      rcases hb with (hb | hb) | (hb | hb) | ⟨hb, hb2⟩ | ⟨hb, hb2⟩
      · exact absurd hb b1
      · exact absurd hb b2
      · exact absurd hb b3
      · exact absurd hb b4
      · rw [if_neg b1, if_neg b2, if_neg b3, if_neg b4, if_pos hb, if_pos hb2]
      · rw [if_neg b1, if_neg b2, if_neg b3, if_neg b4, if_neg hb, if_neg hb2]
    · rw [iu_Mod_tried, iq_Mod_tried_0]
      have k19 : ∀ N, ia_qr xs (ia_cal xs (d + 19)) im_Mod_tried (N + 1 + 1) 19 [.ref a, .int v1, .int v2, .int v3, .float 0, .float 0] [] (pM h a (gI M 0 0)) = some (some (.int (-1)), pM h a (gI M 0 0)) := fun N => by
        rw [iq_Mod_tried_19, iq_Mod_tried_20, if_pos rfl]
      have k20 : ∀ N s, (v3 < 0 ∨ 99 < v3) → ia_qr xs (ia_cal xs (d + 19)) im_Mod_tried (N + 1) 20 [.ref a, .int v1, .int v2, .int v3, .float 0, .float 0] [.int s] (pM h a (gI M 0 0)) = some (some (.int (-1)), pM h a (gI M 0 0)) := fun N s hb => by
        rw [iq_Mod_tried_20]
        by_cases b0 : s = 0
        · rw [if_pos b0]
        by_cases b3 : v3 < 0
        · rw [if_neg b0, if_pos b3]
        by_cases b4 : 99 < v3
        · rw [if_neg b0, if_neg b3, if_pos b4]
        rcases hb with hb | hb
        · exact absurd hb b3
        · exact absurd hb b4
      simp only [↓pM_pfb, ↓pM_clsb, ↓cI_of (p_isMan xs (d + 18) hs v2)]
      by_cases b1 : v1 < 0
      · rw [if_neg (fun e => absurd b1 (by rw [e]; decide)), if_pos b1]
        exact k19 _
      by_cases b2 : 5 < v1
      · rw [if_neg (fun e => absurd b2 (by rw [e]; decide)), if_neg b1, if_pos b2]
        exact k19 _
      by_cases b5 : v1 = 2
      · rw [if_pos b5]
        rcases hb with (hb | hb) | hb | ⟨-, hb2⟩ | ⟨hb, -⟩
        · exact absurd hb b1
        · exact absurd hb b2
        · exact k20 _ _ hb
        · rw [iq_Mod_tried_20, if_pos hb2]
        · exact absurd b5 hb
      · rw [if_neg b5, if_neg b1, if_neg b2]
        by_cases b6 : v2 = 0
        · rw [if_pos b6]
          rcases hb with (hb | hb) | hb | ⟨hb, -⟩ | ⟨-, hb⟩
          · exact absurd hb b1
          · exact absurd hb b2
          · exact k20 _ _ hb
          · exact absurd hb b5
          · exact absurd b6 hb
        · rw [if_neg b6]
          exact k19 _
  by_cases b1 : v1 < 0
  · exact bad (Or.inl (Or.inl b1))
  by_cases b2 : 5 < v1
  · exact bad (Or.inl (Or.inr b2))
  by_cases b3 : v3 < 0
  · exact bad (Or.inr (Or.inl (Or.inl b3)))
  by_cases b4 : 99 < v3
  · exact bad (Or.inr (Or.inl (Or.inr b4)))
  by_cases b5 : v1 = 2 ∧ inI v2 p = 0
  · exact bad (Or.inr (Or.inr (Or.inl b5)))
  by_cases b6 : ¬ v1 = 2 ∧ ¬ v2 = 0
  · exact bad (Or.inr (Or.inr (Or.inr b6)))
  obtain ⟨j, hj, rfl⟩ := in_le (k := 5) rfl b1 b2
  obtain ⟨m, hm, rfl⟩ := in_le (k := 99) rfl b3 b4
  obtain ⟨C2, f1, f2, f3, f4⟩ := fo_lk xs (d + 16) (H := H) hR hR.sr (j := 1) (by decide) (by decide) hX.1.lnX
  -- how both begin
  have enterE : ∀ C3 v, (∀ N, ia_qr xs (ia_cal xs (d + 19)) im_Eng_tried (N + 1 + 1) 24 [.ref x, .int (nI j), .int v2, .int (nI m)] [] (tot H x C) = some (some (.int v), tot H x C3)) → ia_cal xs (d + 20) im_Eng_tried [.ref x, .int (nI j), .int v2, .int (nI m)] (tot H x C) = some (some (.int v), tot H x C3) := by
    intro C3 v hk
    rw [iu_Eng_tried, iq_Eng_tried_0]
    simp only [↓tN_clsb, ↓cI_of (e_isPerson xs (d + 18) hR.1 hT.1 v2)]
    rw [if_neg b1, if_neg b2, if_neg b3, if_neg b4]
    by_cases c2 : nI j = 2
    · rw [if_pos c2, if_neg (fun e => b5 ⟨c2, e⟩)]
      exact hk _
    · rw [if_neg c2, if_pos (Classical.byContradiction fun e => b6 ⟨c2, e⟩)]
      exact hk _
  have enterM : ∀ M3 v, (∀ N, t + 5 ≤ N → ia_qr xs (ia_cal xs (d + 19)) im_Mod_tried N 20 [.ref a, .int (nI j), .int v2, .int (nI m), .float 0, .float 0] [.int 1] (pM h a (gI M 0 0)) = some (some (.int v), pM h a M3)) → ia_cal xs (d + 20) im_Mod_tried [.ref a, .int (nI j), .int v2, .int (nI m)] (pM h a M) = some (some (.int v), pM h a M3) := by
    intro M3 v hk
    rw [iu_Mod_tried, iq_Mod_tried_0]
    simp only [↓pM_pfb, ↓pM_clsb, ↓cI_of (p_isMan xs (d + 18) hs v2)]
    by_cases c2 : nI j = 2
    · rw [if_pos c2]
      rcases inI_c v2 (show p < 2 ^ 31 by omega) with c0 | ⟨c0, -⟩
      · exact absurd ⟨c2, c0⟩ b5
      · rw [c0]
        exact hk _ (by omega)
    · rw [if_neg c2, if_neg b1, if_neg b2, if_pos (Classical.byContradiction fun e => b6 ⟨c2, e⟩)]
      exact hk _ (by omega)
  have fin : ∀ (E : aG) (C3 : aC), E.1 4 = 0 → opM (gI (gI (gI M 0 0) 18 (nI j)) 19 v2) E → fo x C C3 σ E p n → (C3.2 5 = if nI j = 1 then killX (C.2 1) 255 t else C.2 1) → (C3.1 12).2.2.1 0 = 0 → (∀ N, ia_qr xs (ia_cal xs (d + 19)) im_Eng_tried (N + 1 + 1) 24 [.ref x, .int (nI j), .int v2, .int (nI m)] [] (tot H x C) = ia_qr xs (ia_cal xs (d + 19)) im_Eng_tried (N + 1) 63 [.ref x, .float 0, .float 0, .int (nI m)] [] (tot H x C3)) → opI xs d H h x a C M im_Eng_tried im_Mod_tried [.int (nI j), .int v2, .int (nI m)] := by
    intro E C3 h4 ho hf h5 hJ hrun
    obtain ⟨v, C', M', k1, k2, k3⟩ := tried_ok xs d (H := H) (h := h) (a := a) hR j v2 hm E h4 ho C3 hf h5 hJ
    exact ⟨v, C', M', k1, enterE C' v (fun N => by rw [hrun]; exact k2 N), enterM M' v k3⟩
  have hj6 : j = 0 ∨ j = 1 ∨ j = 2 ∨ j = 3 ∨ j = 4 ∨ j = 5 := by omega
  have L0 : ∀ w : Int32, (gI (gI (gI M 0 0) 18 (nI j)) 19 w).1 18 = nI j := fun w => rfl
  have ops : ∀ E : aG, (if nI j = 3 then 6 else fG (gI M 0 0) 1 4) = E.1 0 → (if nI j = 4 then 9 else fG (gI M 0 0) 1 5) = E.1 1 → (nI j = 5 ↔ ¬ E.1 2 = 0) → (if nI j = 2 then v2 = E.1 3 else E.1 3 = -1) → E.1 4 = 0 → opM (gI (gI (gI M 0 0) 18 (nI j)) 19 v2) E := by
    intro E g1 g2 g3 g4 g5
    refine ⟨?_, g2, g3, g4, ?_⟩
    · show (if (gI M 0 0).1 20 = -1 then (if nI j = 3 then 6 else fG (gI M 0 0) 1 4) else (gI M 0 0).1 20) = E.1 0
      rw [if_pos o3]
      exact g1
    · show (gI M 0 0).1 21 = 0 ↔ E.1 4 = 0
      rw [o4, g5]
  rcases hj6 with rfl | rfl | rfl | rfl | rfl | rfl
  · refine fin (dE (C.1 (kS σ))) C2 rfl (ops _ n4 n5 ⟨fun e => absurd e (by decide), fun e => absurd rfl e⟩ rfl rfl) f1 f2 f3 fun N => ?_
    rw [iq_Eng_tried_24]
    simp only [↓tN_Rb hR.1, ↓tF_clsb, ↓cV_of f4]
    rw [if_neg (by decide), if_neg (by decide), if_neg (by decide), if_neg (by decide), if_neg (by decide)]
  · have hk := w_killTones xs (d + 18) (H := H) (x := x) (C := C2) (k := 5) (t := t) (r := r) (by decide) (by rw [f2]; exact hX.1) 255
    rw [f2] at hk
    refine fin (dE (C.1 (kS σ))) (uW C2 5 (killX (C.2 1) 255 t)) rfl (ops _ n4 n5 ⟨fun e => absurd e (by decide), fun e => absurd rfl e⟩ rfl rfl) (f1.w (kill_wf hX).1.lnX) (by rw [uW_s, if_pos (show nI 1 = 1 from rfl)]) f3 fun N => ?_
    rw [iq_Eng_tried_24]
    simp only [↓tN_Rb hR.1, ↓tF_clsb, ↓cV_of f4]
    rw [if_pos (by decide)]
    simp only [↓tN_Rb f1.2.1, ↓tF_Rb f1.2.1, ↓tW_clsb (show 5 < 7 by decide), ↓cV_of hk]
  · refine fin (gI (dE (C.1 (kS σ))) 3 v2) (uG C2 12 (gI (C2.1 12) 3 v2)) rfl (ops _ n4 n5 ⟨fun e => absurd e (by decide), fun e => absurd rfl e⟩ rfl rfl) f1.e (by rw [uG_2, f2]; rfl) (by rw [uG_s]; exact f3) fun N => ?_
    rw [iq_Eng_tried_24]
    simp only [↓tN_Rb hR.1, ↓tF_clsb, ↓cV_of f4]
    rw [if_neg (by decide), if_pos (by decide)]
    simp only [↓tN_Rb f1.2.1, ↓tF_Rb f1.2.1, ↓tE_pfb]
    rfl
  · refine fin (gI (dE (C.1 (kS σ))) 0 6) (uG C2 12 (gI (C2.1 12) 0 6)) rfl (ops _ rfl n5 ⟨fun e => absurd e (by decide), fun e => absurd rfl e⟩ rfl rfl) f1.e (by rw [uG_2, f2]; rfl) (by rw [uG_s]; exact f3) fun N => ?_
    rw [iq_Eng_tried_24]
    simp only [↓tN_Rb hR.1, ↓tF_clsb, ↓cV_of f4]
    rw [if_neg (by decide), if_neg (by decide), if_pos (by decide)]
    simp only [↓tN_Rb f1.2.1, ↓tF_Rb f1.2.1, ↓tE_pfb]
    rfl
  · refine fin (gI (dE (C.1 (kS σ))) 1 9) (uG C2 12 (gI (C2.1 12) 1 9)) rfl (ops _ n4 rfl ⟨fun e => absurd e (by decide), fun e => absurd rfl e⟩ rfl rfl) f1.e (by rw [uG_2, f2]; rfl) (by rw [uG_s]; exact f3) fun N => ?_
    rw [iq_Eng_tried_24]
    simp only [↓tN_Rb hR.1, ↓tF_clsb, ↓cV_of f4]
    rw [if_neg (by decide), if_neg (by decide), if_neg (by decide), if_pos (by decide)]
    simp only [↓tN_Rb f1.2.1, ↓tF_Rb f1.2.1, ↓tE_pfb]
    rfl
  · refine fin (gI (dE (C.1 (kS σ))) 2 1) (uG C2 12 (gI (C2.1 12) 2 1)) rfl (ops _ n4 n5 ⟨fun _ => show ¬ (1 : Int32) = 0 by decide, fun _ => rfl⟩ rfl rfl) f1.e (by rw [uG_2, f2]; rfl) (by rw [uG_s]; exact f3) fun N => ?_
    rw [iq_Eng_tried_24]
    simp only [↓tN_Rb hR.1, ↓tF_clsb, ↓cV_of f4]
    rw [if_neg (by decide), if_neg (by decide), if_neg (by decide), if_neg (by decide), if_pos (by decide)]
    simp only [↓tN_Rb f1.2.1, ↓tF_Rb f1.2.1, ↓ok1, ↓tE_pfb]
    rfl
end O5
