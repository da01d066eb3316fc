/-! part. -/
section O8
variable (xs : List Int32) (d : Nat) {H h : ia_H} {x a : Nat} {C : aC} {M : aG} {σ : Bool} {p n r t t0 q : Nat}
theorem bt_eg {X : aW} (hX : wfX X t r p) {m : Nat} (hm : m < 6) : ((engX X t r >>> (nI m &&& 31)) &&& 1) = if egI X t r (nI m) = 0 then 0 else 1 := by
  rw [bt_iff1 (by omega)]
  by_cases c : egI X t r (nI m) = 0
  · rw [if_pos c, (eg_iff hX (by omega)).mpr c]; rfl
  · rw [if_neg c, if_pos]
    cases hb : bB (engX X t r) m with
    | true => rfl
    | false => exact absurd ((eg_iff hX (by omega)).mp hb) c
theorem egI_r {X Y : aW} (h10 : Y.2 10 = X.2 10) (h6 : Y.2 6 = X.2 6) (h7 : Y.2 7 = X.2 7) (h5 : Y.2 5 = X.2 5) (h2 : Y.2 2 = X.2 2) (v : Int32) : egI Y t r v = egI X t r v := by
  unfold egI coI htI fA
  rw [h10, h6, h7, h5, h2]
theorem eg_cm {E S L : aG} {Y : aW × Int64} (v : Int32) : egI (cmX E S L t r n Y).1 t r v = egI (stX E S L t r p n Y).1 t r v := by
  rw [stX_eq]
  symm
  have hf : ∀ k, k ≠ 1 → (faX E S L t r p n (cmX E S L t r n Y).1).2 k = (cmX E S L t r n Y).1.2 k := fun k hk => by
    unfold faX
    rw [sI_2, fmX_row hk]
  exact egI_r (hf 10 (by decide)) (hf 6 (by decide)) (hf 7 (by decide)) (hf 5 (by decide)) (hf 2 (by decide)) v
/-- in how many of the first i quarters one is engaged -/
def enN (f : Nat → Int32) : Nat → Nat
  | 0 => 0
  | i + 1 => enN f i + if f (i + 1) = 0 then 0 else 1
theorem enN_le (f : Nat → Int32) : ∀ i, enN f i ≤ i
  | 0 => Nat.le_refl 0
  | i + 1 => by
    rw [enN]
    have := enN_le f i
    split <;> omega
theorem enF_N {f g : Nat → Int32} (hg : ∀ i, g i = if f i = 0 then 0 else 1) : ∀ i, enF g i = nI (enN f i)
  | 0 => rfl
  | i + 1 => by
    rw [enF, enN, enF_N hg i, hg]
    split
    · rw [Nat.add_zero, a0]
    · rw [nI_1]
theorem k_gcd (u v : Nat) (hu : u ≤ 99) (hv : v ≤ 99) (g : ia_H) : ia_cal xs (d + 1) im_Eng_greatestCommon [.int (nI u), .int (nI v)] g = some (some (.int (nI (Nat.gcd v u))), g) := by
  rw [iu_Eng_greatestCommon, iq_Eng_greatestCommon_0]
  have key : ∀ k i u v N, i + k = 99 → u ≤ 99 → v ≤ k → k + 1 ≤ N → ia_qr xs (ia_cal xs d) im_Eng_greatestCommon N 6 [.float 0, .float 0, .int (nI u), .int (nI v), .int (nI i), .float 0] [] g = some (some (.int (nI (Nat.gcd v u))), g) := by
    intro k
    induction k with
    | zero =>
      intro i u v N hi hu hv hN
      obtain ⟨N, rfl⟩ : ∃ k, N = k + 1 := ⟨N - 1, by omega⟩
      have : v = 0 := by omega
      subst this
      rw [iq_Eng_greatestCommon_6, if_n (show ¬ nI i < (99 : Int32) from nI_nlt (b := 99) (by omega) (by omega)), Nat.gcd_zero_left]
    | succ k ih =>
      intro i u v N hi hu hv hN
      obtain ⟨N, rfl⟩ : ∃ k, N = k + 1 := ⟨N - 1, by omega⟩
      rw [iq_Eng_greatestCommon_6, if_p (show nI i < (99 : Int32) from nI_lt (b := 99) (by omega) (by decide))]
      by_cases c : v = 0
      · subst c
        rw [if_pos (show nI 0 = 0 from rfl), Nat.gcd_zero_left]
      · have hne : ¬ nI v = 0 := nI_ne0 (by omega) (by omega)
        have hlt : u % v < v := Nat.mod_lt _ (by omega)
        rw [if_neg hne, if_neg hne, pk_rem (by omega) (by omega) (by omega), nI_1, ih (i + 1) v (u % v) N (by omega) (by omega) (by omega) (by omega), Nat.gcd_rec v u]
  exact key 99 0 u v _ (by omega) hu hv (by omega)
theorem m_gcd (u v : Nat) (hu : u ≤ 99) (hv : v ≤ 99) (g : ia_H) : ia_cal xs (d + 1) im_Mod_common [.int (nI u), .int (nI v)] g = some (some (.int (nI (Nat.gcd v u))), g) := by
  rw [iu_Mod_common, iq_Mod_common_0]
  have key : ∀ v u N, u ≤ 99 → v ≤ 99 → v + 1 ≤ N → ia_qr xs (ia_cal xs d) im_Mod_common N 4 [.float 0, .float 0, .int (nI u), .int (nI v), .float 0] [] g = some (some (.int (nI (Nat.gcd v u))), g) := by
    intro v
    induction v using Nat.strongRecOn with
    | _ v ih =>
      intro u N hu hv hN
      obtain ⟨N, rfl⟩ : ∃ k, N = k + 1 := ⟨N - 1, by omega⟩
      rw [iq_Mod_common_4]
      by_cases c : v = 0
      · subst c
        rw [if_pos (show nI 0 = 0 from rfl), Nat.gcd_zero_left]
      · have hne : ¬ nI v = 0 := nI_ne0 (by omega) (by omega)
        have hlt : u % v < v := Nat.mod_lt _ (by omega)
        rw [if_neg hne, if_neg hne, pk_rem (by omega) (by omega) (by omega), ih (u % v) hlt v N (by omega) (by omega) (by omega), Nat.gcd_rec v u]
  exact key v u _ hu hv (by omega)
theorem op_part (hR : Rp x C M σ p n r t t0 q) (v1 v2 v3 : Int32) : opI xs d H h x a C M im_Eng_part im_Mod_part [.int v1, .int v2, .int v3] := by
  have hR0 := hR.t 0
  have hT := hR0.2.1
  have hs := hT.2.2.1
  have hn := hR0.2.2.1
  have hX := hn.1
  have hp6 := hX.2.1
  have hl := hs.1
  rw [opI, iu_Eng_part, iq_Eng_part_0, iu_Mod_part, iq_Mod_part_0]
  simp only [↓pM_pfb, ↓tN_clsb, ↓cI_of (e_isPerson xs (d + 18) hR.1 hT.1 v1), ↓pM_clsb, ↓cI_of (p_isMan xs (d + 18) hs v1)]
  rcases inI_c v1 (show p < 2 ^ 31 by omega) with c0 | ⟨c0, m1, hm1, rfl⟩
  · exact ⟨-1, C, gI M 0 0, hR0.l, by rw [if_pos c0], by rw [if_pos c0]⟩
  have c1 : ¬ inI (nI m1) p = 0 := by rw [c0]; decide
  by_cases a2 : v2 < 1
  · exact ⟨-1, C, gI M 0 0, hR0.l, by rw [if_neg c1, if_pos a2], by rw [if_neg c1, if_pos a2]⟩
  by_cases a3 : 99 < v2
  · exact ⟨-1, C, gI M 0 0, hR0.l, by rw [if_neg c1, if_neg a2, if_pos a3], by rw [if_neg c1, if_neg a2, if_pos a3]⟩
  by_cases a4 : v3 < 0
  · exact ⟨-1, C, gI M 0 0, hR0.l, by rw [if_neg c1, if_neg a2, if_neg a3, if_pos a4], by rw [if_neg c1, if_neg a2, if_neg a3, if_pos a4]⟩
  by_cases a5 : 1 < v3
  · exact ⟨-1, C, gI M 0 0, hR0.l, by rw [if_neg c1, if_neg a2, if_neg a3, if_neg a4, if_pos a5], by rw [if_neg c1, if_neg a2, if_neg a3, if_neg a4, if_pos a5]⟩
  have a2' : ¬ v2 < 0 := fun z => a2 (Int32.lt_trans z (by decide))
  obtain ⟨m, hm, rfl⟩ := in_le (k := 99) rfl a2' a3
  have hm1' : 1 ≤ m := by
    refine Classical.byContradiction fun z => ?_
    have : m = 0 := by omega
    subst this
    exact a2 (by decide)
  obtain ⟨C2, f1, f2, f3, f4⟩ := fo_lk xs (d + 16) (H := H) hR hR.sr (j := 1) (by decide) (by decide) hX.1.lnX
  have hX2 : wfX (C2.2 5) t r p := by rw [f2]; exact hX
  obtain ⟨C4, g1, g2⟩ := g_engagedIn xs (d + 13) (H := H) f1 hX2 hm (mI := nI m) rfl (nI m1)
  rw [f2, f3] at g2
  have eN := enF_N (f := fun i => egI (stN (dE (C.1 (kS σ))) (C.1 (kS σ)) (C.1 (kL σ)) t r p n (C.2 1, 0) i).1 t r (nI m1)) (g := fun i => (engX (stN (dE (C.1 (kS σ))) (C.1 (kS σ)) (C.1 (kL σ)) t r p n (C.2 1, 0) i).1 t r >>> (nI m1 &&& 31)) &&& 1) (fun i => bt_eg (stN_wf (Y := (C.2 1, 0)) hX i) (by omega)) m
  rw [eN] at g2
  have hle := enN_le (fun i => egI (stN (dE (C.1 (kS σ))) (C.1 (kS σ)) (C.1 (kL σ)) t r p n (C.2 1, 0) i).1 t r (nI m1)) m
  -- the reference's loop
  obtain ⟨e1, e2, e3⟩ := r1 (h := h) (a := a) hR0
  obtain ⟨b1, b2, b3, b4⟩ := hR0.bd1
  have ho : opM (gI M 0 0) (dE (C.1 (kS σ))) := op0 hR0.2.2.2.1 hT
  have hcp := m_copies xs (d + 18) (h := h) (a := a) (dr := (gI M 0 0).1 22) (wk := (gI M 0 0).1 15) (sc := ((gI M 0 0).2.2.2.1 0, (gI M 0 0).2.2.2.1 1)) hl (show 1 < 23 by decide) (show 0 < 23 by decide) (by decide) e2 (C.2 1) (bI := 1) (cI := 0) rfl rfl
  rw [← e1] at hcp
  have eY : ∀ i, egI (stN (dE (C.1 (kS σ))) (C.1 (kS σ)) (C.1 (kL σ)) t r p n (dkW (gI M 0 0) 0 (C.2 1), ((gI M 0 0).1 22).toInt64) i).1 t r (nI m1) = egI (stN (dE (C.1 (kS σ))) (C.1 (kS σ)) (C.1 (kL σ)) t r p n (C.2 1, 0) i).1 t r (nI m1) := fun i => ag_eg (both hX b2 b4 rfl i) _
  have loop : ∃ Y' dr' wk' sc', scw sc' ∧ lnX Y' ∧ ia_qr xs (ia_cal xs (d + 19)) im_Mod_part 999999 28 [.ref a, .int (nI m1), .int (nI m), .int v3, .int (nI 0), .int (nI 0)] [] (my h a (gI M 0 0) 1 (dkW (gI M 0 0) 0 (C.2 1)) ((gI M 0 0).1 22) ((gI M 0 0).1 15) ((gI M 0 0).2.2.2.1 0, (gI M 0 0).2.2.2.1 1)) = some (some (.int (if v3 = 0 then nI (enN (fun i => egI (stN (dE (C.1 (kS σ))) (C.1 (kS σ)) (C.1 (kL σ)) t r p n (C.2 1, 0) i).1 t r (nI m1)) m) / nI (Nat.gcd m (enN (fun i => egI (stN (dE (C.1 (kS σ))) (C.1 (kS σ)) (C.1 (kL σ)) t r p n (C.2 1, 0) i).1 t r (nI m1)) m)) else nI m / nI (Nat.gcd m (enN (fun i => egI (stN (dE (C.1 (kS σ))) (C.1 (kS σ)) (C.1 (kL σ)) t r p n (C.2 1, 0) i).1 t r (nI m1)) m)))), my h a (gI M 0 0) 1 Y' dr' wk' sc') := by
    refine lp_si (σ := Int32 × Int32 × List Int64 × List Int64) (F := fun N i s => ia_qr xs (ia_cal xs (d + 19)) im_Mod_part N 28 [.ref a, .int (nI m1), .int (nI m), .int v3, .int (nI (enN (fun i => egI (stN (dE (C.1 (kS σ))) (C.1 (kS σ)) (C.1 (kL σ)) t r p n (C.2 1, 0) i).1 t r (nI m1)) i)), .int (nI i)] [] (my h a (gI M 0 0) 1 (stN (dE (C.1 (kS σ))) (C.1 (kS σ)) (C.1 (kL σ)) t r p n (dkW (gI M 0 0) 0 (C.2 1), ((gI M 0 0).1 22).toInt64) i).1 s.1 s.2.1 s.2.2)) (I := fun i s => scw s.2.2 ∧ s.1.toInt64 = (stN (dE (C.1 (kS σ))) (C.1 (kS σ)) (C.1 (kL σ)) t r p n (dkW (gI M 0 0) 0 (C.2 1), ((gI M 0 0).1 22).toInt64) i).2 ∧ bdX (stN (dE (C.1 (kS σ))) (C.1 (kS σ)) (C.1 (kL σ)) t r p n (dkW (gI M 0 0) 0 (C.2 1), ((gI M 0 0).1 22).toInt64) i).1 r (q + i)) (N := m) (cost := 2) (c0 := 1) (R := fun o => ∃ Y' dr' wk' sc', scw sc' ∧ lnX Y' ∧ o = some (some (.int (if v3 = 0 then nI (enN (fun i => egI (stN (dE (C.1 (kS σ))) (C.1 (kS σ)) (C.1 (kL σ)) t r p n (C.2 1, 0) i).1 t r (nI m1)) m) / nI (Nat.gcd m (enN (fun i => egI (stN (dE (C.1 (kS σ))) (C.1 (kS σ)) (C.1 (kL σ)) t r p n (C.2 1, 0) i).1 t r (nI m1)) m)) else nI m / nI (Nat.gcd m (enN (fun i => egI (stN (dE (C.1 (kS σ))) (C.1 (kS σ)) (C.1 (kL σ)) t r p n (C.2 1, 0) i).1 t r (nI m1)) m)))), my h a (gI M 0 0) 1 Y' dr' wk' sc')) (fun i hi s hss N hN => ?_) (fun N s hN hss => ?_) m 0 (by omega) ((gI M 0 0).1 22, (gI M 0 0).1 15, ((gI M 0 0).2.2.2.1 0, (gI M 0 0).2.2.2.1 1)) ⟨e3, rfl, b1⟩ 999999 (by omega)
    · obtain ⟨N, rfl⟩ : ∃ k, N = k + 1 + 1 := ⟨N - 2, by omega⟩
      obtain ⟨s1, s2, s3⟩ := hss
      have hw := stN_wf (E := dE (C.1 (kS σ))) (S := C.1 (kS σ)) (L := C.1 (kL σ)) (n := n) (Y := (dkW (gI M 0 0) 0 (C.2 1), ((gI M 0 0).1 22).toInt64)) b2 i
      have hcm := stN_cm (E := dE (C.1 (kS σ))) (S := C.1 (kS σ)) (L := C.1 (kL σ)) (t := t) (p := p) (n := n) (Y := (dkW (gI M 0 0) 0 (C.2 1), ((gI M 0 0).1 22).toInt64)) b3 i
      have ei := eY (i + 1)
      have est : stN (dE (C.1 (kS σ))) (C.1 (kS σ)) (C.1 (kL σ)) t r p n (dkW (gI M 0 0) 0 (C.2 1), ((gI M 0 0).1 22).toInt64) (i + 1) = stX (dE (C.1 (kS σ))) (C.1 (kS σ)) (C.1 (kL σ)) t r p n (stN (dE (C.1 (kS σ))) (C.1 (kS σ)) (C.1 (kL σ)) t r p n (dkW (gI M 0 0) 0 (C.2 1), ((gI M 0 0).1 22).toInt64) i) := rfl
      rw [est] at ei ⊢
      rw [enN, ← ei]
      generalize stN (dE (C.1 (kS σ))) (C.1 (kS σ)) (C.1 (kL σ)) t r p n (dkW (gI M 0 0) 0 (C.2 1), ((gI M 0 0).1 22).toInt64) i = Z at *
      obtain ⟨Z, dz⟩ := Z
      simp only at s2 s3 hw hcm
      subst s2
      obtain ⟨dr1, wk1, sc1, h1, h2, h3, h4⟩ := m_comes xs (d + 12) (h := h) (a := a) (b := 1) (dr := s.1) (wk := s.2.1) hs hT.2.1 ho hcm hw (by decide) s1 s3 (by have := hn.2.2.2.2; omega)
      obtain ⟨wk2, sc2, k1, k2⟩ := m_fames xs (d + 14) (h := h) (a := a) (b := 1) (dr := dr1) (wk := wk1) (X := (cmX (dE (C.1 (kS σ))) (C.1 (kS σ)) (C.1 (kL σ)) t r n (Z, s.1.toInt64)).1) hs hT.2.1 ho (cmX_cm hcm) (cmX_wf hw) (by decide) h1
      have hg := m_isEngaged xs (d + 17) (h := h) (a := a) (b := 1) (dr := dr1) (wk := wk1) (sc := sc1) hs (cmX_cm (E := dE (C.1 (kS σ))) (S := C.1 (kS σ)) (L := C.1 (kL σ)) (t := t) (n := n) (Y := (Z, s.1.toInt64)) hcm) (cmX_wf (E := dE (C.1 (kS σ))) (S := C.1 (kS σ)) (L := C.1 (kL σ)) (n := n) (Y := (Z, s.1.toInt64)) hw).1 ((cmX_wf (E := dE (C.1 (kS σ))) (S := C.1 (kS σ)) (L := C.1 (kL σ)) (n := n) (Y := (Z, s.1.toInt64)) hw).y hl (by decide)) (nI m1)
      rw [eg_cm (p := p)] at hg
      have hg' : ia_cal xs (d + 19) im_Mod_isEngaged [.ref a, .int 1, .int (nI m1)] (my h a (gI M 0 0) 1 (cmX (dE (C.1 (kS σ))) (C.1 (kS σ)) (C.1 (kL σ)) t r n (Z, s.1.toInt64)).1 dr1 wk1 sc1) = _ := hg
      have h4' : ia_cal xs (d + 19) im_Mod_comes [.ref a, .int 1] (my h a (gI M 0 0) 1 Z s.1 s.2.1 s.2.2) = _ := h4
      have k2' : ia_cal xs (d + 19) im_Mod_fames [.ref a, .int 1] (my h a (gI M 0 0) 1 (cmX (dE (C.1 (kS σ))) (C.1 (kS σ)) (C.1 (kL σ)) t r n (Z, s.1.toInt64)).1 dr1 wk1 sc1) = some (none, my h a (gI M 0 0) 1 (stX (dE (C.1 (kS σ))) (C.1 (kS σ)) (C.1 (kL σ)) t r p n (Z, s.1.toInt64)).1 dr1 wk2 sc2) := k2
      refine ⟨N, (dr1, wk2, sc2), by omega, ⟨k1, h2, faX_bd h3⟩, ?_⟩
      show ia_qr xs (ia_cal xs (d + 19)) im_Mod_part (N + 1 + 1) 28 _ [] (my h a (gI M 0 0) 1 Z s.1 s.2.1 s.2.2) = _
      rw [iq_Mod_part_28]
      simp only [↓if_p (nI_lt hi (show m < 2 ^ 31 by omega)), ↓my_clsb, ↓cV_of h4', ↓cI_of hg']
      by_cases c : egI (stX (dE (C.1 (kS σ))) (C.1 (kS σ)) (C.1 (kL σ)) t r p n (Z, s.1.toInt64)).1 t r (nI m1) = 0
      · rw [if_pos c, if_pos c, iq_Mod_part_43]
        simp only [↓my_clsb, ↓cV_of k2', nI_1, a0, Nat.add_zero]
      · rw [if_neg c, if_neg c, iq_Mod_part_43]
        simp only [↓my_clsb, ↓cV_of k2', nI_1]
    · obtain ⟨N, rfl⟩ : ∃ k, N = k + 1 := ⟨N - 1, by omega⟩
      have hw := stN_wf (E := dE (C.1 (kS σ))) (S := C.1 (kS σ)) (L := C.1 (kL σ)) (n := n) (Y := (dkW (gI M 0 0) 0 (C.2 1), ((gI M 0 0).1 22).toInt64)) b2 m
      refine ⟨_, s.1, s.2.1, s.2.2, hss.1, hw.1.lnX, ?_⟩
      show ia_qr xs (ia_cal xs (d + 19)) im_Mod_part (N + 1) 28 _ [] _ = _
      generalize enN (fun i => egI (stN (dE (C.1 (kS σ))) (C.1 (kS σ)) (C.1 (kL σ)) t r p n (C.2 1, 0) i).1 t r (nI m1)) m = e at *
      have hgp : 0 < Nat.gcd m e := Nat.gcd_pos_of_pos_left _ (by omega)
      have hgl : Nat.gcd m e ≤ m := Nat.gcd_le_left _ (by omega)
      have hne : ¬ nI (Nat.gcd m e) = 0 := nI_ne0 hgp (by omega)
      rw [iq_Mod_part_28]
      simp only [↓if_n (nI_nlt (Nat.le_refl m) (show m < 2 ^ 31 by omega)), ↓cI_of (m_gcd xs (d + 18) e m (by omega) (by omega) _), ↓if_n hne]
      by_cases c : v3 = 0
      · rw [if_pos c, if_pos c]
      · rw [if_neg c, if_neg c]
  obtain ⟨Y', dr', wk', sc', l1, l2, l3⟩ := loop
  generalize enN (fun i => egI (stN (dE (C.1 (kS σ))) (C.1 (kS σ)) (C.1 (kL σ)) t r p n (C.2 1, 0) i).1 t r (nI m1)) m = e at *
  have hgp : 0 < Nat.gcd m e := Nat.gcd_pos_of_pos_left _ (by omega)
  have hgl : Nat.gcd m e ≤ m := Nat.gcd_le_left _ (by omega)
  have hne : ¬ nI (Nat.gcd m e) = 0 := nI_ne0 hgp (by omega)
  have hcg := k_gcd xs (d + 18) m e hm (by omega) (tot H x C4)
  rw [Nat.gcd_comm] at hcg
  refine ⟨if v3 = 0 then nI e / nI (Nat.gcd m e) else nI m / nI (Nat.gcd m e), C4, mz (gI M 0 0) 1 Y' dr' wk' sc', (hR0.sc g1 (smM.mz hl l2 l1)).l, ?_, ?_⟩
  · rw [if_neg c1, if_neg a2, if_neg a3, if_neg a4, if_neg a5]
    simp only [↓tN_Rb hR.1, ↓tF_clsb, ↓cV_of f4, ↓tN_Rb f1.2.1, ↓cI_of g2, ↓cI_of hcg, ↓if_n hne]
    by_cases c : v3 = 0
    · rw [if_pos c, if_pos c]
    · rw [if_neg c, if_neg c]
  · rw [if_neg c1, if_neg a2, if_neg a3, if_neg a4, if_neg a5]
    simp only [↓cV_of hcp]
    exact l3
end O8
