/-! undo, back. -/
def tkD (D : aG) (j : Nat) : aG := gI (gI (gI (gI D 0 (nI j)) 1 (fG D 0 j)) 2 (fG D 1 j)) 3 (fG D 2 j)
section O34
variable (xs : List Int32) (d : Nat) {H h : ia_H} {x a : Nat} {C : aC} {M M' D D' : aG} {σ : Bool} {p n r t t0 q : Nat}
theorem d_take {j : Nat} (hl : ∀ k, k < 3 → ((C.1 16).2.1 k).length = 20) (hk : (C.1 16).1 0 = nI (j + 1)) (hj : j < 20) : ia_cal xs (d + 1) im_Deeds_takeLatest [.ref (x + 154)] (tot H x C) = some (some (.int 1), tot H x (uG C 16 (tkD (C.1 16) j))) := by
  have l0 := hl 0 (by decide)
  have l1 := hl 1 (by decide)
  have l2 := hl 2 (by decide)
  have m1 : nI (j + 1) - 1 = nI j := (pk_sub (a := j + 1) (b := 1) (by omega)).trans (by rw [Nat.add_sub_cancel])
  generalize hD : C.1 16 = D at *
  have r0 : rd ((gI D 0 (nI j)).2.1 0) (nI j) = some (fG D 0 j) := rdG (S := D) (by omega) (by omega)
  have r1 : rd ((gI (gI D 0 (nI j)) 1 (fG D 0 j)).2.1 1) (nI j) = some (fG D 1 j) := rdG (S := D) (by omega) (by omega)
  have r2 : rd ((gI (gI (gI D 0 (nI j)) 1 (fG D 0 j)) 2 (fG D 1 j)).2.1 2) (nI j) = some (fG D 2 j) := rdG (S := D) (by omega) (by omega)
  have i0 : (gI D 0 (nI j)).1 0 = nI j := gI_s
  have i1 : (gI (gI D 0 (nI j)) 1 (fG D 0 j)).1 0 = nI j := rfl
  have i2 : (gI (gI (gI D 0 (nI j)) 1 (fG D 0 j)) 2 (fG D 1 j)).1 0 = nI j := rfl
  rw [iu_Deeds_takeLatest, iq_Deeds_takeLatest_0]
  simp only [↓tD_Ib, hD, hk, ↓if_p (show (0 : Int32) < nI (j + 1) from nI_lt (a := 0) (by omega) (by omega)), m1, ↓tD_pfb, uG_s, uG_G, ↓tD_Rb, ↓tD_ldb, i0, ↓bs r0, i1, ↓bs r1, i2, ↓bs r2, ↓ok1]
  rfl
theorem uDo_cm {k t' : Nat} {X X' : aW} (hu : uDo D k r p X t X' t') (h : cmM M X r) : cmM M X' r := by
  rcases hu with ⟨-, -, rfl⟩ | ⟨-, -, c, -, -, rfl⟩ | ⟨-, -, c, -, -, rfl⟩ | ⟨-, -, c, -, -, rfl⟩
  · exact h
  · exact cm_sA h (by decide) (by decide)
  · exact cm_sA h (by decide) (by decide)
  · exact cm_sA h (by decide) (by decide)
theorem uDo_nn {k t' : Nat} {X X' : aW} (hX : (X.2 0).length = 6) (hp : p ≤ 6) (hu : uDo D k r p X t X' t') (h : ∀ i, pcX X i) (hD : ∀ i, nnB (fG D 2 i)) : ∀ i, pcX X' i := by
  rcases hu with ⟨-, -, rfl⟩ | ⟨-, -, c, -, -, rfl⟩ | ⟨-, -, c, -, -, rfl⟩ | ⟨-, -, c, hc, -, rfl⟩
  · exact h
  · exact fun i => pcX_sA (h i) (by decide) (by decide)
  · exact fun i => pcX_sA (h i) (by decide) (by decide)
  · intro i
    refine ⟨?_, by rw [fA_n (by decide)]; exact (h i).2⟩
    rw [fA_set (by omega)]
    split
    · exact hD k
    · exact (h i).1
/-- the reference goes back to desk c -/
theorem smN.cp {c : Nat} {v : Int32} (hl : lnM M) (hJ : scw (M.2.2.2.1 0, M.2.2.2.1 1)) (hc : c < 23) (hc0 : c ≠ 0) : smN M (cpM (gI M 17 v) 0 c) := by
  have hl' : lnM (gI M 17 v) := hl
  refine ⟨cp_ln hl' (by decide) hc, fun k hk => cp_k (by omega), fun k hk h0 h15 h17 _ _ _ _ => ?_, ?_, ?_, fun X t r p hX hd => cp_ne hl' (by decide) hc (by decide) hX hd⟩
  · rw [cp_1]; exact gI_n h17
  · rw [cp_2]; exact hJ.1
  · rw [cp_2]; exact hJ.2
theorem op_undo (hR : Rp x C M σ p n r t t0 q) : opI xs d H h x a C M im_Eng_undo im_Mod_undo [] := by
  have hR0 := hR.t 0
  have hT := hR0.2.1
  have hn := hR0.2.2.1
  have hX := hn.1
  have hl := hT.2.2.1.1
  have hp6 := hX.2.1
  have hr10 := hX.1.2.2.2.1
  obtain ⟨g6, g7, g8⟩ := hR0.2.2.2.2.2.2.2.2.2.1.2.2.2.2.2
  obtain ⟨dl, k, hk, dk1, dk2, dkc⟩ := hR0.2.2.2.2.2.1
  have dk2' : (gI M 0 0).1 17 = nI k := dk2
  rw [opI, iu_Eng_undo, iq_Eng_undo_0, iu_Mod_undo, iq_Mod_undo_0]
  simp only [↓pM_pfb, ↓tN_Rb hR.1, ↓tD_clsb, ↓pM_Ib, dk2']
  cases k with
  | zero =>
    have ht : ia_cal xs (d + 19) im_Deeds_takeLatest [.ref (x + 154)] (tot H x C) = some (some (.int 0), tot H x C) := by
      rw [iu_Deeds_takeLatest, iq_Deeds_takeLatest_0]
      simp only [↓tD_Ib, dk1, ↓if_n (show ¬ (0 : Int32) < nI 0 by decide), ↓ok0]
    refine ⟨-1, C, gI M 0 0, hR0.l, ?_, ?_⟩
    · simp only [↓cI_of ht]
      rw [if_pos trivial]
    · rw [if_pos (show nI 0 = 0 from rfl)]
  | succ j =>
    obtain ⟨X', t', h1, h2, h3, h4, h5⟩ := dkc
    have ht := d_take xs (d + 18) (H := H) (x := x) (C := C) dl dk1 (show j < 20 by omega)
    have m1 : nI (j + 1) - 1 = nI j := (pk_sub (a := j + 1) (b := 1) (by omega)).trans (by rw [Nat.add_sub_cancel])
    have hl17 : lnM (gI (gI M 0 0) 17 (nI j)) := hl
    have hcp := p_copies xs (d + 18) (h := h) (a := a) hl17 (b := 0) (c := 3 + j) (by decide) (by omega) (by omega) (bI := 0) (cI := 3 + nI j) rfl (by rw [show (3 : Int32) = nI 3 from rfl, nI_add])
    have i17 : (gI (gI M 0 0) 17 (nI j)).1 17 = nI j := gI_s
    have i17' : (cpM (gI (gI M 0 0) 17 (nI j)) 0 (3 + j)).1 17 = nI j := by rw [cp_1]; exact gI_s
    have fx1 : fx x (uG C 16 (tkD (C.1 16) j)) σ := fx16 hR.1
    have res : Rl x (uG (uW C 1 X') 16 (tkD (C.1 16) j)) (cpM (gI (gI M 0 0) 17 (nI j)) 0 (3 + j)) := by
      refine (hR0.nw (D' := tkD (C.1 16) j) (smN.cp hl hR0.2.2.2.1.2.2.2.2 (by omega) (by omega)) ⟨h2, ?_, cp_eq hl17 (by decide) (by omega) h2 h3, h4, hn.2.2.2.2⟩ ⟨dl, j, by omega, rfl, i17', ?_⟩ (uDo_nn hX.1.ln.1 hp6 h1 (g6 1 (by decide)) g8) g8).l
      · exact cm_s (uDo_cm h1 hn.2.1) (fun k hk => cp_k (Or.inl hk))
      · exact DDc_sh (D := C.1 16) (D' := tkD (C.1 16) j) (M := gI M 0 0) (s := 0) (k' := j) (fun _ _ _ _ => rfl) (fun i X t r p hi hx hd => cp_ne (b := 0) (c := 3 + j) hl17 (by decide) (by omega) (by omega) hx hd) j X' t' (Nat.le_refl _) h5
    refine ⟨nI j, _, _, res, ?_, ?_⟩
    · have q0 : ((uG C 16 (tkD (C.1 16) j)).1 16).1 0 = nI j := rfl
      have q1 : ((uG C 16 (tkD (C.1 16) j)).1 16).1 1 = fG (C.1 16) 0 j := rfl
      have q2 : ((uG C 16 (tkD (C.1 16) j)).1 16).1 2 = fG (C.1 16) 1 j := rfl
      have q3 : ((uG C 16 (tkD (C.1 16) j)).1 16).1 3 = fG (C.1 16) 2 j := rfl
      have fxw : ∀ Z, fx x (uW (uG C 16 (tkD (C.1 16) j)) 1 Z) σ := fun Z => fx16 hR.1
      have qw : ∀ Z, ((uW (uG C 16 (tkD (C.1 16) j)) 1 Z).1 16).1 0 = nI j := fun Z => rfl
      simp only [↓cI_of ht, ↓if_n (show ¬ (1 : Int32) = 0 by decide), ↓tN_Rb fx1, ↓tD_Ib, q1, q2, q3]
      rcases h1 with ⟨e1, e2, rfl⟩ | ⟨e1, e2, c, hc, e3, rfl⟩ | ⟨e1, e2, c, hc, e3, rfl⟩ | ⟨e1, e2, c, hc, e3, rfl⟩
      · have hdr := w_dropTone xs (d + 18) (H := H) (x := x) (C := uG C 16 (tkD (C.1 16) j)) (k := 1) (t := t) (r := r) (by decide) hX.1
        rw [e2, Nat.add_sub_cancel] at hdr
        rw [e1, if_pos rfl]
        simp only [↓tW_clsb (show 1 < 7 by decide), ↓cV_of hdr, ↓tN_Rb (fxw _), ↓tD_Ib, qw]
        rfl
      · have w8 : wr (((uG C 16 (tkD (C.1 16) j)).2 1).2 8) (nI c) (fG (C.1 16) 2 j) = some (((C.2 1).2 8).set c (fG (C.1 16) 2 j)) := wr_nI (l := (C.2 1).2 8) (by omega) (by have := hX.1.lnX.2.2 8 (by decide) (by decide); omega)
        rw [e1, if_neg (show ¬ (1 : Int32) = 0 by decide), if_pos rfl, e3]
        simp only [↓tW_Rb (show 1 < 7 by decide), ↓tW_stb (show 1 < 7 by decide), ↓bs w8, ↓tN_Rb (fxw _), ↓tD_Ib, qw]
        rfl
      · have w8 : wr (((uG C 16 (tkD (C.1 16) j)).2 1).2 10) (nI c) 1 = some (((C.2 1).2 10).set c 1) := wr_nI (l := (C.2 1).2 10) (by omega) (by have := hX.1.lnX.2.2 10 (by decide) (by decide); omega)
        rw [e1, if_neg (show ¬ (2 : Int32) = 0 by decide), if_neg (show ¬ (2 : Int32) = 1 by decide), if_pos rfl, e3]
        simp only [↓tW_Rb (show 1 < 7 by decide), ↓tW_stb (show 1 < 7 by decide), ↓bs w8, ↓tN_Rb (fxw _), ↓tD_Ib, qw]
        rfl
      · have w8 : wr (((uG C 16 (tkD (C.1 16) j)).2 1).2 0) (nI c) (fG (C.1 16) 2 j) = some (((C.2 1).2 0).set c (fG (C.1 16) 2 j)) := wr_nI (l := (C.2 1).2 0) (by omega) (by have := hX.1.lnX.1 0 (by decide); omega)
        rw [e1, if_neg (show ¬ (3 : Int32) = 0 by decide), if_neg (show ¬ (3 : Int32) = 1 by decide), if_neg (show ¬ (3 : Int32) = 2 by decide), e3]
        simp only [↓tW_Rb (show 1 < 7 by decide), ↓tW_stb (show 1 < 7 by decide), ↓bs w8, ↓tN_Rb (fxw _), ↓tD_Ib, qw]
        rfl
    · rw [if_neg (nI_ne0 (show 0 < j + 1 by omega) (by omega))]
      simp only [↓pM_pfb, m1, ↓pM_Ib, i17, ↓pM_clsb, ↓cV_of hcp, i17']
end O34
