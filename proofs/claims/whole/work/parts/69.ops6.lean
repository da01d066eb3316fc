/-! lines, chance. -/
theorem mz_gI {M : aG} {k : Nat} {w : Int32} {Y : aW} {dr wk : Int32} {sc : List Int64 × List Int64} (h1 : k ≠ 15) (h2 : k ≠ 22) : gI (mz M 1 Y dr wk sc) k w = mz (gI M k w) 1 Y dr wk sc := by
  refine Prod.ext ?_ rfl
  funext j
  show (if j = k then w else if j = 22 then dr else if j = 15 then wk else M.1 j) = if j = 22 then dr else if j = 15 then wk else if j = k then w else M.1 j
  by_cases e : j = k
  · subst e
    rw [if_pos rfl, if_neg h2, if_neg h1, if_pos rfl]
  · rw [if_neg e, if_neg e]
theorem sub0 {u v : Nat} (hu : u ≤ 10) (hv : v ≤ 10) : nI u - nI v = 0 ↔ u = v := by
  constructor
  · intro e
    have := congrArg Int32.toInt e
    rw [pk_sub_toInt (by omega) (by omega)] at this
    have e0 : (0 : Int32).toInt = 0 := rfl
    omega
  · intro e
    subst e
    rw [pk_sub (Nat.le_refl _), Nat.sub_self]
    rfl
def liF (P : Nat → Prop) [DecidablePred P] : Nat → Nat → Int32
  | 0, _ => -2
  | k + 1, l => if P l then nI l else liF P k (l + 1)
def lrF (P : Nat → Prop) [DecidablePred P] : Nat → Int32 → Int32
  | 0, b => b
  | l + 1, b => lrF P l (if P (l + 1) then nI (l + 1) else b)
theorem li_lr (P : Nat → Prop) [DecidablePred P] : liF P 6 1 = lrF P 6 (-2) := by
  simp only [liF, lrF]
section O6
variable (xs : List Int32) (d : Nat) {H h : ia_H} {x a : Nat} {C : aC} {M : aG} {σ : Bool} {p n r t t0 q : Nat}
theorem r_runs3 {S L E : aG} {X : aW} (hs : rsM M S L r p n) (hq : wfQ L) (hn : NWr X M t r p q) (hsc : scw (M.2.2.2.1 0, M.2.2.2.1 1)) (ho : opM M E) {m : Nat} (hm : m ≤ 99) {mI : Int32} (hmI : mI = nI m) :
    ∃ Y dr' wk' sc', scw sc' ∧ wfX Y t r p ∧ agW Y (stN E S L t r p n (X, (M.1 22).toInt64) m).1 t r p ∧ dr'.toInt64 = (stN E S L t r p n (X, (M.1 22).toInt64) m).2 ∧ ia_cal xs (d + 10) im_Mod_runs [.ref a, .int mI] (pM h a M) = some (none, pM h a (mz M 1 Y dr' wk' sc')) := by
  have e2 : lnX (dkW M 1 X) := dk_len hs.1 (by decide) hn.1.1.lnX
  have e1 : pM h a M = my h a M 1 (dkW M 1 X) (M.1 22) (M.1 15) (M.2.2.2.1 0, M.2.2.2.1 1) := (my_dk hs.1 (by decide)).symm
  have b2 := hn.wf hs.1
  obtain ⟨dr', wk', sc', k1, k2, k3⟩ := m_runs xs d (h := h) (a := a) (dr := M.1 22) (wk := M.1 15) hs hq ho hn.2.1 hn.1 hn.2.2.1 e2 hsc hn.2.2.2.1 hm (by have := hn.2.2.2.2; omega) hmI
  rw [← e1] at k3
  have hw := stN_wf (E := E) (S := S) (L := L) (n := n) (Y := (dkW M 0 X, (M.1 22).toInt64)) b2 m
  have hg := stN_ag (E := E) (S := S) (L := L) (n := n) (dr := (M.1 22).toInt64) b2 hn.1 hn.ag m
  exact ⟨_, dr', wk', sc', k1, hw, hg.1, k2.trans hg.2, k3⟩
theorem op_lines (hR : Rp x C M σ p n r t t0 q) : opI xs d H h x a C M im_Eng_lines im_Mod_lines [] := by
  have hR0 := hR.t 0
  have hT := hR0.2.1
  have hs := hT.2.2.1
  have hn := hR0.2.2.1
  have hX := hn.1
  have hr10 := hX.1.2.2.2.1
  obtain ⟨o1, o2, o3, o4, o5⟩ := hR0.2.2.2.1
  have n5 : fG (gI M 0 0) 1 5 = (dE (C.1 (kS σ))).1 1 := hT.2.2.2.2.2.1
  have hcls : ∀ k l C1 N, l + k = 7 → 1 ≤ l → scC C C1 σ → k + 1 ≤ N → ∃ C4, scC C C4 σ ∧ ia_qr xs (ia_cal xs (d + 19)) im_Eng_lines N 2 [.ref x, .int (nI l)] [] (tot H x C1) = some (some (.int (liF (fun l => cntF (fA (stN (gI (dE (C.1 (kS σ))) 0 (nI l)) (C.1 (kS σ)) (C.1 (kL σ)) t r p n (C.2 1, 0) 99).1 10) 3 r = cntF (fA (C.2 1) 10) 3 r) k l)), tot H x C4) := by
    intro k
    induction k with
    | zero =>
      intro l C1 N hl hl1 hc hN
      obtain ⟨N, rfl⟩ : ∃ k, N = k + 1 := ⟨N - 1, by omega⟩
      refine ⟨C1, hc, ?_⟩
      rw [iq_Eng_lines_2, if_p (show (6 : Int32) < nI l from nI_lt (a := 6) (by omega) (by omega))]
      rfl
    | succ k ih =>
      intro l C1 N hl hl1 hc hN
      obtain ⟨N, rfl⟩ : ∃ k, N = k + 1 := ⟨N - 1, by omega⟩
      have hR1 := hR.sc hc hR.sm
      obtain ⟨C2, f1, f2, f3, f4⟩ := fo_lk xs (d + 16) (H := H) hR hc (j := 1) (by decide) (by decide) hX.1.lnX
      have fe := f1.e (k := 0) (v := nI l)
      have hX2 : wfX ((uG C2 12 (gI (C2.1 12) 0 (nI l))).2 5) t r p := by rw [uG_2, f2]; exact hX
      obtain ⟨C4, g1, g2⟩ := g_givenUpIn xs (d + 13) (H := H) fe hX2 (m := 99) (by omega) (mI := 99) rfl
      rw [uG_2, f2, show ((uG C2 12 (gI (C2.1 12) 0 (nI l))).1 12).2.2.1 0 = 0 by rw [uG_s]; exact f3] at g2
      have hz := sub0 (Nat.le_trans (cnt_le (f := fA (stN (gI (dE (C.1 (kS σ))) 0 (nI l)) (C.1 (kS σ)) (C.1 (kL σ)) t r p n (C.2 1, 0) 99).1 10) (v := 3) r) hr10) (Nat.le_trans (cnt_le (f := fA (C.2 1) 10) (v := 3) r) hr10)
      have g2' : ia_cal xs (d + 19) im_Foresight_givenUpIn [.ref (x + 109), .int 99] (tot H x (uG C2 (kE true) (gI (C2.1 (kE true)) 0 (nI l)))) = _ := g2
      have fe2 : fx x (uG C2 (kE true) (gI (C2.1 (kE true)) 0 (nI l))) σ := fe.2.1
      rw [iq_Eng_lines_2, liF]
      simp only [↓if_n (show ¬ (6 : Int32) < nI l from nI_nlt (a := 6) (by omega) (by omega)), ↓tN_Rb hR1.1, ↓tF_clsb, ↓cV_of f4, ↓tN_Rb f1.2.1, ↓tF_Rb f1.2.1, ↓tE_pfb, ↓tN_Rb fe2, ↓cI_of g2', nI_1]
      by_cases c : cntF (fA (stN (gI (dE (C.1 (kS σ))) 0 (nI l)) (C.1 (kS σ)) (C.1 (kL σ)) t r p n (C.2 1, 0) 99).1 10) 3 r = cntF (fA (C.2 1) 10) 3 r
      · simp only [if_pos c, if_pos (hz.mpr c)]
        exact ⟨C4, g1, rfl⟩
      · simp only [if_neg c, if_neg (fun z => c (hz.mp z))]
        exact ih (l + 1) C4 N (by omega) (by omega) g1 (by omega)
  have href : ∀ l b Mi N, l ≤ 6 → smM (gI M 0 0) (gI Mi 20 (-1)) → l + 1 ≤ N → ∃ M4, smM (gI M 0 0) M4 ∧ ia_qr xs (ia_cal xs (d + 19)) im_Mod_lines N 7 [.ref a, .int b, .int (nI l)] [] (pM h a Mi) = some (some (.int (lrF (fun l => cntF (fA (stN (gI (dE (C.1 (kS σ))) 0 (nI l)) (C.1 (kS σ)) (C.1 (kL σ)) t r p n (C.2 1, 0) 99).1 10) 3 r = cntF (fA (C.2 1) 10) 3 r) l b)), pM h a M4) := by
    intro l
    induction l with
    | zero =>
      intro b Mi N hl hc hN
      obtain ⟨N, rfl⟩ : ∃ k, N = k + 1 := ⟨N - 1, by omega⟩
      refine ⟨gI Mi 20 (-1), hc, ?_⟩
      rw [iq_Mod_lines_7, if_n (show ¬ (0 : Int32) < nI 0 by decide)]
      simp only [↓pM_pfb]
      rfl
    | succ l ih =>
      intro b Mi N hl hc hN
      obtain ⟨N, rfl⟩ : ∃ k, N = k + 1 := ⟨N - 1, by omega⟩
      have hR1 := hR0.sc hR.sr hc
      have hs1 : rsM (gI Mi 20 (nI (l + 1))) (C.1 (kS σ)) (C.1 (kL σ)) r p n := hR1.2.1.2.2.1
      have hn1 : NWr (C.2 1) (gI Mi 20 (nI (l + 1))) t r p q := hR1.2.2.1
      have hsc1 : scw ((gI Mi 20 (nI (l + 1))).2.2.2.1 0, (gI Mi 20 (nI (l + 1))).2.2.2.1 1) := hR1.2.2.2.1.2.2.2.2
      have n51 : fG Mi 1 5 = (dE (C.1 (kS σ))).1 1 := hR1.2.1.2.2.2.2.2.1
      have q18 : Mi.1 18 = 0 := hR1.2.2.2.1.1
      have q21 : Mi.1 21 = 0 := hR1.2.2.2.1.2.2.2.1
      have ne1 : ¬ nI (l + 1) = -1 := by
        intro e
        have := congrArg Int32.toInt e
        rw [nI_toInt (by omega)] at this
        have e2 : (-1 : Int32).toInt = -1 := rfl
        omega
      have ho : opM (gI Mi 20 (nI (l + 1))) (gI (dE (C.1 (kS σ))) 0 (nI (l + 1))) := by
        refine ⟨?_, ?_, ?_, ?_, ?_⟩
        · show (if nI (l + 1) = -1 then _ else nI (l + 1)) = nI (l + 1)
          rw [if_neg ne1]
        · show (if Mi.1 18 = 4 then 9 else fG Mi 1 5) = (dE (C.1 (kS σ))).1 1
          rw [q18, if_neg (by decide), n51]
        · show Mi.1 18 = 5 ↔ ¬ (0 : Int32) = 0
          rw [q18]
          exact ⟨fun e => absurd e (by decide), fun e => absurd rfl e⟩
        · show if Mi.1 18 = 2 then Mi.1 19 = (-1 : Int32) else (-1 : Int32) = -1
          rw [q18, if_neg (by decide)]
        · show Mi.1 21 = 0 ↔ (0 : Int32) = 0
          rw [q21]
      obtain ⟨Y, dr', wk', sc', k1, k2, k3, -, k5⟩ := r_runs3 xs (d + 9) (h := h) (a := a) hs1 hR1.2.1.2.1 hn1 hsc1 ho (m := 99) (by omega) (mI := 99) rfl
      rw [(stN_d (E := gI (dE (C.1 (kS σ))) 0 (nI (l + 1))) rfl (X := C.2 1) (dr' := 0) 99).1] at k3
      have hm1 : smM (gI M 0 0) (gI (mz (gI Mi 20 (nI (l + 1))) 1 Y dr' wk' sc') 20 (-1)) := by
        rw [mz_gI (by decide) (by decide)]
        have e : gI (gI Mi 20 (nI (l + 1))) 20 (-1) = gI Mi 20 (-1) := gI_I
        rw [e]
        exact hc.trans (smM.mz hc.1 k2.1.lnX k1)
      have hR2 := hR0.sc hR.sr hm1
      have hs2 : rsM (mz (gI Mi 20 (nI (l + 1))) 1 Y dr' wk' sc') (C.1 (kS σ)) (C.1 (kL σ)) r p n := hR2.2.1.2.2.1
      have hn2 : NWr (C.2 1) (mz (gI Mi 20 (nI (l + 1))) 1 Y dr' wk' sc') t r p q := hR2.2.2.1
      have cg : ia_cal xs (d + 19) im_Mod_callsOf [.ref a, .int 1, .int 3] (pM h a (mz (gI Mi 20 (nI (l + 1))) 1 Y dr' wk' sc')) = some (some (.int (nI (cntF (fA (stN (gI (dE (C.1 (kS σ))) 0 (nI (l + 1))) (C.1 (kS σ)) (C.1 (kL σ)) t r p n (C.2 1, 0) 99).1 10) 3 r))), pM h a (mz (gI Mi 20 (nI (l + 1))) 1 Y dr' wk' sc')) := by
        have := m_callsOf xs (d + 18) (h := h) (a := a) (b := 1) (dr := dr') (wk := wk') (sc := sc') hs1 (k2.y hs1.1 (by decide)) 3
        rw [ag_cnt k3] at this
        exact this
      have hcl := cnt_le (f := fA (stN (gI (dE (C.1 (kS σ))) 0 (nI (l + 1))) (C.1 (kS σ)) (C.1 (kL σ)) t r p n (C.2 1, 0) 99).1 10) (v := 3) r
      have hc0 := cnt_le (f := fA (C.2 1) 10) (v := 3) r
      have hz : (nI (cntF (fA (stN (gI (dE (C.1 (kS σ))) 0 (nI (l + 1))) (C.1 (kS σ)) (C.1 (kL σ)) t r p n (C.2 1, 0) 99).1 10) 3 r) = nI (cntF (fA (C.2 1) 10) 3 r)) ↔ cntF (fA (stN (gI (dE (C.1 (kS σ))) 0 (nI (l + 1))) (C.1 (kS σ)) (C.1 (kL σ)) t r p n (C.2 1, 0) 99).1 10) 3 r = cntF (fA (C.2 1) 10) 3 r := nI_eq (by omega) (by omega)
      rw [iq_Mod_lines_7, lrF]
      simp only [↓if_p (show (0 : Int32) < nI (l + 1) from nI_lt (a := 0) (by omega) (by omega)), ↓pM_pfb, ↓pM_clsb, ↓cV_of k5, ↓cI_of cg, ↓cI_of (p_callsOf xs (d + 18) hs2 hn2 3), pk_m1]
      by_cases c : cntF (fA (stN (gI (dE (C.1 (kS σ))) 0 (nI (l + 1))) (C.1 (kS σ)) (C.1 (kL σ)) t r p n (C.2 1, 0) 99).1 10) 3 r = cntF (fA (C.2 1) 10) 3 r
      · simp only [if_pos c, if_pos (hz.mpr c)]
        exact ih _ _ N (by omega) hm1 (by omega)
      · simp only [if_neg c, if_neg (fun z => c (hz.mp z))]
        exact ih _ _ N (by omega) hm1 (by omega)
  obtain ⟨C4, c1, c2⟩ := hcls 6 1 C 999999 (by omega) (by omega) hR.sr (by omega)
  obtain ⟨M4, m1, m2⟩ := href 6 (-2) (gI M 0 0) 999999 (by omega) (by
    have e : gI (gI M 0 0) 20 (-1) = gI M 0 0 := by rw [← o3]; exact gI_id
    rw [e]
    exact hR0.sm) (by omega)
  rw [← li_lr] at m2
  refine ⟨_, C4, M4, (hR0.sc c1 m1).l, (by rw [iu_Eng_lines, iq_Eng_lines_0]; exact c2), ?_⟩
  rw [iu_Mod_lines, iq_Mod_lines_0]
  simp only [↓pM_pfb]
  exact m2
end O6
