/-! tried. -/
section O4
variable (xs : List Int32) (d : Nat) {H h : ia_H} {x a : Nat} {C : aC} {M : aG} {σ : Bool} {p n r t t0 q : Nat}
theorem smM.r2 {M M' : aG} {i j : Nat} {u w : Int32} (hij : i ≠ j) (h : smM (gI (gI M i u) j w) M') : smM M (gI (gI M' i (M.1 i)) j (M.1 j)) := by
  refine ⟨h.1, h.2.1, h.2.2.1, h.2.2.2.1, fun k h1 h2 h3 h4 h5 h6 h7 => ?_, h.2.2.2.2.2⟩
  by_cases e : k = j
  · subst e
    exact gI_s
  · rw [gI_n e]
    by_cases e2 : k = i
    · subst e2
      exact gI_s
    · rw [gI_n e2, h.2.2.2.2.1 k h1 h2 h3 h4 h5 h6 h7, gI_n e, gI_n e2]
/-- all tones dead -/
def kwX (Y : aW) (t : Nat) : aW := sA Y 5 (updTo (Y.2 5) (fun _ => 3) t)
theorem kw_ag {X Y : aW} (hX : wfX X t r p) (hY : wfX Y t r p) (h : agW Y X t r p) : agW (kwX Y t) (killX X 255 t) t r p := by
  have ht := hX.1.2.2.1
  have lx : (X.2 5).length = 8 := hX.1.ln.2.2.2.2.2.1
  have ly : (Y.2 5).length = 8 := hY.1.ln.2.2.2.2.2.1
  refine aw_row h fun j => ⟨fun h1 => by omega, fun h1 h2 h3 => ?_, fun h1 h2 => by omega⟩
  rw [updTo_get t j (by omega), updTo_get t j (by omega), if_pos h3, if_pos h3]
  unfold killG
  have : ∀ j, j < 8 → ¬ (((255 : Int32) >>> (nI j &&& 31)) &&& 1) = 0 := by decide +kernel
  rw [if_neg (this j (by omega))]
theorem kw_wf {Y : aW} (hY : wfX Y t r p) : wfX (kwX Y t) t r p := wfX_sA hY (updTo_len t) (by decide) (by decide) (by decide)
theorem kill_wf {X : aW} {v : Int32} (hX : wfX X t r p) : wfX (killX X v t) t r p := wfX_sA hX (updTo_len t) (by decide) (by decide) (by decide)
theorem tr_ref {S L E : aG} {X : aW} (hs : rsM M S L r p n) (hq : wfQ L) (hn : NWr X M t r p q) (hsc : scw (M.2.2.2.1 0, M.2.2.2.1 1)) (v1 v2 : Int32) (ho : opM (gI (gI M 18 v1) 19 v2) E) (h4 : E.1 4 = 0) {m : Nat} (hm : m ≤ 99) (h18 : M.1 18 = 0) (h19 : M.1 19 = -1) :
    ∃ M2, smM M M2 ∧ ∀ N, t + 5 ≤ N → ia_qr xs (ia_cal xs (d + 19)) im_Mod_tried N 20 [.ref a, .int v1, .int v2, .int (nI m), .float 0, .float 0] [.int 1] (pM h a M) = some (some (.int (nI (cntF (fA (stN E S L t r p n (if v1 = 1 then killX X 255 t else X, 0) m).1 10) 3 r) - nI (cntF (fA X 10) 3 r))), pM h a M2) := by
  have hl := hs.1
  have ht8 := hn.1.1.2.2.1
  have hs' : rsM (gI (gI M 18 v1) 19 v2) S L r p n := hs
  have hn' : NWr X (gI (gI M 18 v1) 19 v2) t r p q := hn
  have hw := hn'.wf hl
  have hg := hn'.ag
  have hb := ag_bd hg hn'.2.2.2.1
  have hl' : lnM (gI (gI M 18 v1) 19 v2) := hl
  have e2 : lnX (dkW (gI (gI M 18 v1) 19 v2) 1 X) := dk_len hl' (by decide) hn.1.1.lnX
  have e1 : pM h a (gI (gI M 18 v1) 19 v2) = my h a (gI (gI M 18 v1) 19 v2) 1 (dkW (gI (gI M 18 v1) 19 v2) 1 X) ((gI (gI M 18 v1) 19 v2).1 22) ((gI (gI M 18 v1) 19 v2).1 15) (M.2.2.2.1 0, M.2.2.2.1 1) := (my_dk hl' (by decide)).symm
  have hcp := m_copies xs (d + 18) (h := h) (a := a) (dr := (gI (gI M 18 v1) 19 v2).1 22) (wk := (gI (gI M 18 v1) 19 v2).1 15) (sc := (M.2.2.2.1 0, M.2.2.2.1 1)) hl' (show 1 < 23 by decide) (show 0 < 23 by decide) (by decide) e2 X (bI := 1) (cI := 0) rfl rfl
  rw [← e1] at hcp
  have hcm : cmM (gI (gI M 18 v1) 19 v2) (dkW (gI (gI M 18 v1) 19 v2) 0 X) r := dk_cm hn.2.1
  have h18' : (gI (gI M 18 v1) 19 v2).1 18 = v1 := rfl
  generalize hMa : gI (gI M 18 v1) 19 v2 = Ma at *
  have d20 : fG Ma 20 0 = nI t := by rw [hn'.2.2.1.2.2.1, hn'.1.1.1]
  have r20 : ∀ W, ∀ f : Int32 → Option ia_R, (ia_ald (my h a Ma 1 W (Ma.1 22) (Ma.1 15) (M.2.2.2.1 0, M.2.2.2.1 1)) (a + 23) 0 (0 : Int32)).bind f = f (nI t) := fun W f => by
    have := my_o20 (h := h) (a := a) (M := Ma) (d := 1) (d' := 0) (X := W) (dr := Ma.1 22) (wk := Ma.1 15) (sc := (M.2.2.2.1 0, M.2.2.2.1 1)) hl' (by decide) (by decide) (by decide) f
    rw [d20] at this
    exact this
  have h20 : ∀ N, ia_qr xs (ia_cal xs (d + 19)) im_Mod_tried (N + 1) 20 [.ref a, .int v1, .int v2, .int (nI m), .float 0, .float 0] [.int 1] (pM h a M) = ia_qr xs (ia_cal xs (d + 19)) im_Mod_tried N 42 [.ref a, .int v1, .float 0, .int (nI m), .float 0, .int 0] [] (my h a Ma 1 (dkW Ma 0 X) (Ma.1 22) (Ma.1 15) (M.2.2.2.1 0, M.2.2.2.1 1)) := fun N => by
    rw [iq_Mod_tried_20]
    simp only [↓if_n (show ¬ (1 : Int32) = 0 by decide), ↓if_n (nI_pos (show m < 2 ^ 31 by omega)), ↓if_n (show ¬ (99 : Int32) < nI m from nI_nlt (a := 99) hm (by decide)), ↓pM_pfb, hMa, ↓pM_clsb, ↓cV_of hcp]
  generalize dkW Ma 0 X = Y at *
  -- the world that the quarters begin with
  have core : ∀ W0, wfX W0 t r p → cmM Ma W0 r → bdX W0 r q → agW W0 (if v1 = 1 then killX X 255 t else X) t r p → ∃ M3, smM Ma M3 ∧ ∀ N, ia_qr xs (ia_cal xs (d + 19)) im_Mod_tried (N + 1) 60 [.ref a, .float 0, .float 0, .int (nI m), .float 0, .float 0] [] (my h a Ma 1 W0 (Ma.1 22) (Ma.1 15) (M.2.2.2.1 0, M.2.2.2.1 1)) = some (some (.int (nI (cntF (fA (stN E S L t r p n (if v1 = 1 then killX X 255 t else X, 0) m).1 10) 3 r) - nI (cntF (fA X 10) 3 r))), pM h a (gI (gI M3 18 0) 19 (-1))) := by
    intro W0 w1 w2 w3 w4
    obtain ⟨dr', wk', sc', k1, k2, k3, k4⟩ := m_goesOn xs (d + 10) (h := h) (a := a) (dr := Ma.1 22) (wk := Ma.1 15) (sc := (M.2.2.2.1 0, M.2.2.2.1 1)) hs' hq ho w2 w1 hsc w3 hm (by have := hn.2.2.2.2; omega) (mI := nI m) rfl
    have hwY := stN_wf (E := E) (S := S) (L := L) (n := n) (Y := (W0, (Ma.1 22).toInt64)) w1 m
    have hX0 : wfX (if v1 = 1 then killX X 255 t else X) t r p := by
      split
      · exact kill_wf hn.1
      · exact hn.1
    have hag := both (E := E) (S := S) (L := L) (n := n) (dr := (Ma.1 22).toInt64) hX0 w1 w4 h4 m
    have hsm := smM.mz (M := Ma) (Y := (stN E S L t r p n (W0, (Ma.1 22).toInt64) m).1) (dr := dr') (wk := wk') hl' hwY.1.lnX k1
    refine ⟨_, hsm, fun N => ?_⟩
    have hs3 : rsM (gI (gI (mz Ma 1 (stN E S L t r p n (W0, (Ma.1 22).toInt64) m).1 dr' wk' sc') 18 0) 19 (-1)) S L r p n := hs'.s hsm.1 hsm.2.1
    have hn3 : NWr X (gI (gI (mz Ma 1 (stN E S L t r p n (W0, (Ma.1 22).toInt64) m).1 dr' wk' sc') 18 0) 19 (-1)) t r p q := ⟨hn'.1, cm_s hn'.2.1 hsm.2.1, hsm.2.2.2.1 0 _ _ _ _ (by decide) (by decide) hn'.1 hn'.2.2.1, hn'.2.2.2⟩
    have hk4 : ia_cal xs (d + 19) im_Mod_goesOn [.ref a, .int (nI m)] (my h a Ma 1 W0 (Ma.1 22) (Ma.1 15) (M.2.2.2.1 0, M.2.2.2.1 1)) = some (none, pM h a (mz Ma 1 (stN E S L t r p n (W0, (Ma.1 22).toInt64) m).1 dr' wk' sc')) := k4
    have cg : ia_cal xs (d + 19) im_Mod_callsOf [.ref a, .int 1, .int 3] (pM h a (gI (gI (mz Ma 1 (stN E S L t r p n (W0, (Ma.1 22).toInt64) m).1 dr' wk' sc') 18 0) 19 (-1))) = some (some (.int (nI (cntF (fA (stN E S L t r p n (if v1 = 1 then killX X 255 t else X, 0) m).1 10) 3 r))), pM h a (gI (gI (mz Ma 1 (stN E S L t r p n (W0, (Ma.1 22).toInt64) m).1 dr' wk' sc') 18 0) 19 (-1))) := by
      have e : gI (gI (mz Ma 1 (stN E S L t r p n (W0, (Ma.1 22).toInt64) m).1 dr' wk' sc') 18 0) 19 (-1) = mz (gI (gI Ma 18 0) 19 (-1)) 1 (stN E S L t r p n (W0, (Ma.1 22).toInt64) m).1 dr' wk' sc' := by
        refine Prod.ext ?_ rfl
        funext k
        show va_up (va_up (va_up (va_up Ma.1 15 wk') 22 dr') 18 0) 19 (-1) k = va_up (va_up (va_up (va_up Ma.1 18 0) 19 (-1)) 15 wk') 22 dr' k
        simp only [va_up]
        by_cases c15 : k = 15
        · subst c15; rfl
        · by_cases c22 : k = 22
          · subst c22; rfl
          · simp only [c15, c22, if_false]
      rw [e]
      have hsB : rsM (gI (gI Ma 18 0) 19 (-1)) S L r p n := hs'
      have := m_callsOf xs (d + 18) (h := h) (a := a) (M := gI (gI Ma 18 0) 19 (-1)) (b := 1) (X := (stN E S L t r p n (W0, (Ma.1 22).toInt64) m).1) (dr := dr') (wk := wk') (sc := sc') hsB (hwY.y hl' (by decide)) 3
      rw [ag_cnt hag] at this
      exact this
    rw [iq_Mod_tried_60]
    simp only [↓my_clsb, ↓cV_of hk4, ↓pM_pfb, ↓pM_clsb, ↓cI_of cg, ↓cI_of (p_callsOf xs (d + 18) hs3 hn3 3)]
  by_cases c1 : v1 = 1
  · obtain ⟨M3, g1, g2⟩ := core (kwX Y t) (kw_wf hw) (cm_sA hcm (by decide) (by decide)) (bd_sA hb (by decide) (by decide)) (by rw [if_pos c1]; exact kw_ag hn.1 hw hg)
    refine ⟨gI (gI M3 18 0) 19 (-1), ?_, fun N hN => ?_⟩
    · rw [← hMa] at g1
      have := g1.r2 (by decide)
      rw [h18, h19] at this
      exact this
    · obtain ⟨N, rfl⟩ : ∃ k, N = k + 1 := ⟨N - 1, by omega⟩
      rw [h20]
      have ez : kwX Y 0 = Y := sA_self
      rw [show my h a Ma 1 Y (Ma.1 22) (Ma.1 15) (M.2.2.2.1 0, M.2.2.2.1 1) = my h a Ma 1 (kwX Y 0) (Ma.1 22) (Ma.1 15) (M.2.2.2.1 0, M.2.2.2.1 1) by rw [ez]]
      refine lp_sc (σ := Unit) (F := fun N i _ => ia_qr xs (ia_cal xs (d + 19)) im_Mod_tried N 42 [.ref a, .int v1, .float 0, .int (nI m), .float 0, .int (nI i)] [] (my h a Ma 1 (kwX Y i) (Ma.1 22) (Ma.1 15) (M.2.2.2.1 0, M.2.2.2.1 1))) (I := fun _ => True) (N := t) (cost := 1) (c0 := 2) (R := fun o => o = _) (fun i hi _ _ N hN => ?_) (fun N _ hN _ => ?_) t 0 (by omega) () trivial N (by omega)
      · obtain ⟨N, rfl⟩ : ∃ k, N = k + 1 := ⟨N - 1, by omega⟩
        refine ⟨N, (), Nat.le_refl _, trivial, ?_⟩
        have hyi : wfY Ma 1 (kwX Y i) := ⟨hl', by decide, lnX_sA hw.1.lnX (updTo_len i)⟩
        have ww : ∀ (v : Int32) (f : ia_H → Option ia_R), (ia_ast (my h a Ma 1 (kwX Y i) (Ma.1 22) (Ma.1 15) (M.2.2.2.1 0, M.2.2.2.1 1)) (a + 29) 0 ((8 : Int32) + nI i) v).bind f = f (my h a Ma 1 (sA (kwX Y i) 5 (((kwX Y i).2 5).set i v)) (Ma.1 22) (Ma.1 15) (M.2.2.2.1 0, M.2.2.2.1 1)) := my_w26 hyi (show i < 8 by omega)
        show ia_qr xs (ia_cal xs (d + 19)) im_Mod_tried (N + 1) 42 _ [] _ = _
        rw [iq_Mod_tried_42]
        simp only [↓my_Rb, ↓r20, ↓if_p (nI_lt hi (show t < 2 ^ 31 by omega)), ↓if_p c1, ↓ww, nI_1]
        have e : sA (kwX Y i) 5 (((kwX Y i).2 5).set i 3) = kwX Y (i + 1) := by
          unfold kwX
          rw [sA_sA, sA_2, updTo]
        rw [e]
      · obtain ⟨N, rfl⟩ : ∃ k, N = k + 1 + 1 := ⟨N - 2, by omega⟩
        show ia_qr xs (ia_cal xs (d + 19)) im_Mod_tried (N + 1 + 1) 42 [.ref a, .int v1, .float 0, .int (nI m), .float 0, .int (nI t)] [] _ = _
        rw [iq_Mod_tried_42]
        simp only [↓my_Rb, ↓r20, ↓if_n (nI_nlt (Nat.le_refl t) (show t < 2 ^ 31 by omega))]
        exact g2 N
  · obtain ⟨M3, g1, g2⟩ := core Y hw hcm hb (by rw [if_neg c1]; exact hg)
    refine ⟨gI (gI M3 18 0) 19 (-1), ?_, fun N hN => ?_⟩
    · rw [← hMa] at g1
      have := g1.r2 (by decide)
      rw [h18, h19] at this
      exact this
    · obtain ⟨N, rfl⟩ : ∃ k, N = k + 1 + 1 + 1 := ⟨N - 3, by omega⟩
      rw [h20, iq_Mod_tried_42]
      simp only [↓my_Rb, ↓r20, if_neg c1]
      rw [g2 N]
      split <;> rfl
end O4
