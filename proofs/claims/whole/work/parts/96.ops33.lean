/-! buy. -/
section O33
variable (xs : List Int32) (d : Nat) {H h : ia_H} {x a : Nat} {C : aC} {M M' D D' : aG} {σ : Bool} {p n r t t0 q : Nat}
theorem adT_f {X : aW} {v1 v2 v3 : Int32} (hl : lnX X) (ht : t < 8) : (∀ i, fA (adT X t v1 v2 v3) 2 i = if i = t then v1 else fA X 2 i) ∧ (∀ i, fA (adT X t v1 v2 v3) 3 i = if i = t then v2 else fA X 3 i) ∧ (∀ i, fA (adT X t v1 v2 v3) 4 i = if i = t then v3 else fA X 4 i) ∧ (∀ i, fA (adT X t v1 v2 v3) 5 i = if i = t then 0 else fA X 5 i) ∧ ∀ k, k < 2 ∨ 6 ≤ k → (adT X t v1 v2 v3).2 k = X.2 k := by
  have r2 : (adT X t v1 v2 v3).2 2 = (X.2 2).set t v1 := rfl
  have r3 : (adT X t v1 v2 v3).2 3 = (X.2 3).set t v2 := rfl
  have r4 : (adT X t v1 v2 v3).2 4 = (X.2 4).set t v3 := rfl
  have r5 : (adT X t v1 v2 v3).2 5 = (X.2 5).set t 0 := rfl
  have l2 := hl.2.1 2 (by decide) (by decide)
  have l3 := hl.2.1 3 (by decide) (by decide)
  have l4 := hl.2.1 4 (by decide) (by decide)
  have l5 := hl.2.1 5 (by decide) (by decide)
  refine ⟨fun i => ?_, fun i => ?_, fun i => ?_, fun i => ?_, fun k hk => ?_⟩
  · unfold fA; rw [r2, ia_set_getD (by omega)]
  · unfold fA; rw [r3, ia_set_getD (by omega)]
  · unfold fA; rw [r4, ia_set_getD (by omega)]
  · unfold fA; rw [r5, ia_set_getD (by omega)]
  · show (sA (sA (sA (sA X 2 ((X.2 2).set t v1)) 3 ((X.2 3).set t v2)) 4 ((X.2 4).set t v3)) 5 ((X.2 5).set t 0)).2 k = X.2 k
    rw [sA_n (by omega), sA_n (by omega), sA_n (by omega), sA_n (by omega)]
theorem adT_ln {X : aW} {v1 v2 v3 : Int32} (hl : lnX X) : lnX (adT X t v1 v2 v3) := by
  have h1 : lnX (sA (sA (sA (sA X 2 ((X.2 2).set t v1)) 3 ((X.2 3).set t v2)) 4 ((X.2 4).set t v3)) 5 ((X.2 5).set t 0)) := by
    refine lnX_sA (lnX_sA (lnX_sA (lnX_sA hl ?_) ?_) ?_) ?_
    · rw [List.length_set]
    · rw [sA_n (by decide), List.length_set]
    · rw [sA_n (by decide), sA_n (by decide), List.length_set]
    · rw [sA_n (by decide), sA_n (by decide), sA_n (by decide), List.length_set]
  exact h1
theorem adT_wf {X : aW} {v2 v3 : Int32} {m : Nat} (hX : wfX X t r p) (ht : t < 8) (hm : m < p) : wfX (adT X t (nI m) v2 v3) (t + 1) r p := by
  obtain ⟨f2, f3, f4, f5, fk⟩ := adT_f (v1 := nI m) (v2 := v2) (v3 := v3) hX.1.lnX ht
  obtain ⟨⟨h1, h2, h3, h4, h5⟩, hp, m1, m2, m3⟩ := hX
  refine ⟨⟨rfl, h2, by omega, h4, adT_ln h5⟩, hp, fun i hi => ?_, fun i hi => ?_, fun i hi => ?_⟩
  · rw [f2]
    by_cases e : i = t
    · rw [if_pos e]; exact ⟨m, hm, rfl⟩
    · rw [if_neg e]; exact m1 i (by omega)
  · unfold fA; rw [fk 6 (by omega)]; exact m2 i hi
  · unfold fA; rw [fk 7 (by omega)]; exact m3 i hi
theorem adT_ag {X Y : aW} {v1 v2 v3 : Int32} (hX : lnX X) (hY : lnX Y) (ht : t < 8) (h : agW Y X t r p) : agW (adT Y t v1 v2 v3) (adT X t v1 v2 v3) (t + 1) r p := by
  obtain ⟨f2, f3, f4, f5, fk⟩ := adT_f (v1 := v1) (v2 := v2) (v3 := v3) hX ht
  obtain ⟨g2, g3, g4, g5, gk⟩ := adT_f (v1 := v1) (v2 := v2) (v3 := v3) hY ht
  refine ⟨h.1, h.2.1, fun k hk i hi => ?_, fun k hk hk2 i hi => ?_, fun k hk hk2 i hi => ?_⟩
  · unfold fA; rw [fk k (by omega), gk k (by omega)]; exact h.2.2.1 k hk i hi
  · have k4 : k = 2 ∨ k = 3 ∨ k = 4 ∨ k = 5 := by omega
    have hh := fun (e : ¬ i = t) => h.2.2.2.1 k hk hk2 i (by omega)
    rcases k4 with rfl | rfl | rfl | rfl
    · rw [f2, g2]; by_cases e : i = t; rw [if_pos e, if_pos e]; rw [if_neg e, if_neg e, hh e]
    · rw [f3, g3]; by_cases e : i = t; rw [if_pos e, if_pos e]; rw [if_neg e, if_neg e, hh e]
    · rw [f4, g4]; by_cases e : i = t; rw [if_pos e, if_pos e]; rw [if_neg e, if_neg e, hh e]
    · rw [f5, g5]; by_cases e : i = t; rw [if_pos e, if_pos e]; rw [if_neg e, if_neg e, hh e]
  · unfold fA; rw [fk k (by omega), gk k (by omega)]; exact h.2.2.2.2 k hk hk2 i hi
theorem op_buy (hR : Rp x C M σ p n r t t0 q) (v1 v2 v3 : Int32) : opI xs d H h x a C M im_Eng_buy im_Mod_buy [.int v1, .int v2, .int v3] := by
  have hR0 := hR.t 0
  have hT := hR0.2.1
  have hs := hT.2.2.1
  have hn := hR0.2.2.1
  have hX := hn.1
  have hl := hs.1
  have hp6 := hX.2.1
  have ht8 := hX.1.2.2.1
  obtain ⟨g6, g7, g8⟩ := hR0.2.2.2.2.2.2.2.2.2.1.2.2.2.2.2
  rw [opI, iu_Eng_buy, iq_Eng_buy_0, iu_Mod_buy, iq_Mod_buy_0]
  simp only [↓pM_pfb, ↓tN_clsb, ↓cI_of (e_isPerson xs (d + 18) hR.1 hT.1 v1), ↓pM_clsb, ↓cI_of (p_isMan xs (d + 18) hs v1), ↓tN_Rb hR.1, ↓tW_Ib (show 1 < 7 by decide), ↓pM_Rb, ↓pM_ldb, ↓bs (d0_18 hn hl), ↓bs (d0_20 hn hl), hX.1.1]
  rcases inI_c v1 (show p < 2 ^ 31 by omega) with c0 | ⟨c0, m, hm, rfl⟩
  · exact ⟨-1, C, gI M 0 0, hR0.l, by rw [if_pos c0], by rw [if_pos c0]⟩
  have c1 : ¬ inI (nI m) p = 0 := by rw [c0]; decide
  rw [if_neg c1, if_neg c1]
  by_cases a1 : v2 < (C.2 1).1 0
  · exact ⟨-1, C, gI M 0 0, hR0.l, by rw [if_pos a1], by rw [if_pos a1]⟩
  by_cases a2 : 9999 < v2
  · exact ⟨-1, C, gI M 0 0, hR0.l, by rw [if_neg a1, if_pos a2], by rw [if_neg a1, if_pos a2]⟩
  by_cases a3 : v3 < 1
  · exact ⟨-1, C, gI M 0 0, hR0.l, by rw [if_neg a1, if_neg a2, if_pos a3], by rw [if_neg a1, if_neg a2, if_pos a3]⟩
  by_cases a4 : 16 < v3
  · exact ⟨-1, C, gI M 0 0, hR0.l, by rw [if_neg a1, if_neg a2, if_neg a3, if_pos a4], by rw [if_neg a1, if_neg a2, if_neg a3, if_pos a4]⟩
  rw [if_neg a1, if_neg a2, if_neg a3, if_neg a4, if_neg a1, if_neg a2, if_neg a3, if_neg a4]
  by_cases a5 : t = 8
  · subst a5
    exact ⟨-1, C, gI M 0 0, hR0.l, by rw [if_neg (show ¬ nI 8 < 8 by decide)], by rw [if_pos (show nI 8 = 8 from rfl)]⟩
  have ht : t < 8 := by omega
  have n8 : ¬ nI t = (8 : Int32) := fun e => a5 ((nI_eq (a := t) (b := 8) (by omega) (by omega)).mp e)
  rw [if_pos (show nI t < (8 : Int32) from nI_lt (b := 8) ht (by decide)), if_neg n8]
  obtain ⟨M', D', k', s, b1, b2, b3, b4, b5, b6, b7, b8, b9, b10, b11, b12, b13⟩ := pre xs d (H := H) (h := h) (a := a) hR0 0 (nI t) 0
  have wX := adT_wf (v2 := v2) (v3 := v3) hX ht hm
  have wW := adT_wf (v2 := v2) (v3 := v3) b10 ht hm
  obtain ⟨f2, f3, f4, f5, fk⟩ := adT_f (v1 := nI m) (v2 := v2) (v3 := v3) hX.1.lnX ht
  have m1 : nI (t + 1) - 1 = nI t := (pk_sub (a := t + 1) (b := 1) (by omega)).trans (by rw [Nat.add_sub_cancel])
  refine ⟨nI t, uG (uW C 1 (adT (C.2 1) t (nI m) v2 v3)) 16 D', mz M' 0 (adT (dkW M' 0 (C.2 1)) t (nI m) v2 v3) (M'.1 22) (M'.1 15) (M'.2.2.2.1 0, M'.2.2.2.1 1), ?_, ?_, ?_⟩
  · refine hR0.deed b1 b2 b3 b4 b5 b6 b7 (X' := sI (adT (C.2 1) t (nI m) v2 v3) 2 (nI t)) (Or.inl ⟨b7.2.2.2.1, rfl, rfl⟩) ⟨?_, fun k hk => (fk k hk).symm, fun k hk hk2 => ?_⟩ wX (fun i hi => ?_) ⟨hn.2.2.2.1.1, fun i hi => ?_, fun i hi => ?_⟩ wW.1.lnX rfl (adT_ag hX.1.lnX b10.1.lnX ht b11) ⟨0, by omega, rfl⟩ (fun i => ?_)
    · show (C.2 1).1 = va_up (va_up (C.2 1).1 2 (nI (t + 1))) 2 (nI t)
      rw [up_u, ← hX.1.1, up_id]
    · refine ⟨?_, fun i hi => ?_⟩
      · have h1 := hX.1.lnX.2.1 k hk hk2
        have h2 := wX.1.lnX.2.1 k hk hk2
        exact h1.trans h2.symm
      · have k4 : k = 2 ∨ k = 3 ∨ k = 4 ∨ k = 5 := by omega
        show _ = fA (adT (C.2 1) t (nI m) v2 v3) k i
        rcases k4 with rfl | rfl | rfl | rfl
        · rw [f2, if_neg (by omega)]
        · rw [f3, if_neg (by omega)]
        · rw [f4, if_neg (by omega)]
        · rw [f5, if_neg (by omega)]
    · have := hn.2.1 i hi
      unfold fA at *
      rw [fk 6 (by omega), fk 7 (by omega)]
      exact this
    · unfold fA; rw [fk 8 (by omega)]; exact hn.2.2.2.1.2.1 i hi
    · unfold fA; rw [fk 9 (by omega)]; exact hn.2.2.2.1.2.2 i hi
    · refine ⟨by unfold fA; rw [fk 0 (by omega)]; exact (g6 1 (by decide) i).1, ?_⟩
      rw [f4]
      split
      · exact in_le (k := 16) rfl (fun z => a3 (Int32.lt_trans z (by decide))) a4
      · exact (g6 1 (by decide) i).2
  · have fx1 : fx x (uG C 16 D') σ := fx16 hR.1
    have hat := w_addTone xs (d + 18) (H := H) (x := x) (C := uG C 16 D') (k := 1) (t := t) (r := r) (by decide) hX.1 ht (nI m) v2 v3
    have fx2 : fx x (uW (uG C 16 D') 1 (adT ((uG C 16 D').2 1) t (nI m) v2 v3)) σ := fx16 hR.1
    have i2 : ((uW (uG C 16 D') 1 (adT ((uG C 16 D').2 1) t (nI m) v2 v3)).2 1).1 2 = nI (t + 1) := rfl
    simp only [↓tD_clsb, ↓cV_of b13, ↓tN_Rb fx1, ↓tW_clsb (show 1 < 7 by decide), ↓cV_of hat, ↓tN_Rb fx2, ↓tW_Ib (show 1 < 7 by decide), i2, m1]
    rfl
  · simp only [↓cV_of b12]
    rw [b9]
    have lY := b10.1.lnX
    have eY : (dkW M' 0 (C.2 1)).1 2 = nI t := b10.1.1
    generalize dkW M' 0 (C.2 1) = Y at *
    have y0 : wfY M' 0 Y := ⟨b1.1, by decide, lY⟩
    have y1 : wfY M' 0 (sA Y 2 ((Y.2 2).set t (nI m))) := ⟨b1.1, by decide, lnX_sA lY (List.length_set ..)⟩
    have y2 : wfY M' 0 (sA (sA Y 2 ((Y.2 2).set t (nI m))) 3 ((Y.2 3).set t v2)) := ⟨b1.1, by decide, lnX_sA y1.2.2 (by rw [sA_n (by decide), List.length_set])⟩
    have y3 : wfY M' 0 (sA (sA (sA Y 2 ((Y.2 2).set t (nI m))) 3 ((Y.2 3).set t v2)) 4 ((Y.2 4).set t v3)) := ⟨b1.1, by decide, lnX_sA y2.2.2 (by rw [sA_n (by decide), sA_n (by decide), List.length_set])⟩
    have y4 : wfY M' 0 (sA (sA (sA (sA Y 2 ((Y.2 2).set t (nI m))) 3 ((Y.2 3).set t v2)) 4 ((Y.2 4).set t v3)) 5 ((Y.2 5).set t 0)) := ⟨b1.1, by decide, lnX_sA y3.2.2 (by rw [sA_n (by decide), sA_n (by decide), sA_n (by decide), List.length_set])⟩
    have q0 := my_r20 (h := h) (a := a) (dr := M'.1 22) (wk := M'.1 15) (sc := (M'.2.2.2.1 0, M'.2.2.2.1 1)) y0
    rw [eY] at q0
    have q0' : ∀ f : Int32 → Option ia_R, (ia_ald (my h a M' 0 Y (M'.1 22) (M'.1 15) (M'.2.2.2.1 0, M'.2.2.2.1 1)) (a + 23) 0 (0 : Int32)).bind f = f (nI t) := q0
    have w1 := my_w23 (h := h) (a := a) (dr := M'.1 22) (wk := M'.1 15) (sc := (M'.2.2.2.1 0, M'.2.2.2.1 1)) y0 ht
    have w2 := my_w24 (h := h) (a := a) (dr := M'.1 22) (wk := M'.1 15) (sc := (M'.2.2.2.1 0, M'.2.2.2.1 1)) y1 ht
    have w3 := my_w25 (h := h) (a := a) (dr := M'.1 22) (wk := M'.1 15) (sc := (M'.2.2.2.1 0, M'.2.2.2.1 1)) y2 ht
    have w4 := my_w26 (h := h) (a := a) (dr := M'.1 22) (wk := M'.1 15) (sc := (M'.2.2.2.1 0, M'.2.2.2.1 1)) y3 ht
    rw [z8] at w1 w2 w3 w4
    rw [sA_n (show 3 ≠ 2 by decide)] at w2
    rw [sA_n (show 4 ≠ 3 by decide), sA_n (show 4 ≠ 2 by decide)] at w3
    rw [sA_n (show 5 ≠ 4 by decide), sA_n (show 5 ≠ 3 by decide), sA_n (show 5 ≠ 2 by decide)] at w4
    have q4 : ∀ f : Int32 → Option ia_R, (ia_ald (my h a M' 0 (sA (sA (sA (sA Y 2 ((Y.2 2).set t (nI m))) 3 ((Y.2 3).set t v2)) 4 ((Y.2 4).set t v3)) 5 ((Y.2 5).set t 0)) (M'.1 22) (M'.1 15) (M'.2.2.2.1 0, M'.2.2.2.1 1)) (a + 23) 0 (0 : Int32)).bind f = f (Y.1 2) := my_r20 (h := h) (a := a) (dr := M'.1 22) (wk := M'.1 15) (sc := (M'.2.2.2.1 0, M'.2.2.2.1 1)) y4
    rw [eY] at q4
    have w5 : ∀ (v : Int32) (f : ia_H → Option ia_R), (ia_ast (my h a M' 0 (sA (sA (sA (sA Y 2 ((Y.2 2).set t (nI m))) 3 ((Y.2 3).set t v2)) 4 ((Y.2 4).set t v3)) 5 ((Y.2 5).set t 0)) (M'.1 22) (M'.1 15) (M'.2.2.2.1 0, M'.2.2.2.1 1)) (a + 23) 0 (0 : Int32) v).bind f = f (my h a M' 0 (sI (sA (sA (sA (sA Y 2 ((Y.2 2).set t (nI m))) 3 ((Y.2 3).set t v2)) 4 ((Y.2 4).set t v3)) 5 ((Y.2 5).set t 0)) 2 v) (M'.1 22) (M'.1 15) (M'.2.2.2.1 0, M'.2.2.2.1 1)) := my_w20 (h := h) (a := a) (dr := M'.1 22) (wk := M'.1 15) (sc := (M'.2.2.2.1 0, M'.2.2.2.1 1)) y4
    simp only [↓my_Rb, ↓q0', ↓w1, ↓w2, ↓w3, ↓w4, ↓q4, nI_1, ↓w5]
    rfl
end O33
