/-! spans: both try every span. -/
theorem boF_c {f g : Nat → Int32} : ∀ k i, (∀ j, f j = g j) → boF f k i = boF g k i := fun k i h => by rw [show f = g from funext h]
section O44
variable (xs : List Int32) (d : Nat) {H h : ia_H} {x a : Nat} {C : aC} {M M' U : aG} {σ : Bool} {p n r t t0 q w : Nat}
theorem eg01 {X : aW} {v : Int32} : egI X t r v = if egI X t r v = 0 then 0 else 1 := by
  have : egI X t r v = 0 ∨ egI X t r v = 1 := by
    unfold egI
    split
    · exact any01 t 0
    · exact Or.inr rfl
  rcases this with e | e
  · rw [e]; rfl
  · rw [e]; rfl
theorem ag_so {X Y : aW} (hw24 : w ≤ 24) (hU : ∀ i, i < w → RUi U M p i) (hst : ∀ i, i < w → fG U 3 i = fG M 38 i) (hX : wfX X t r p) (h : agW Y X t r p) (qv : Int32) : agF U qv (engX X t r) w = soR M Y t r qv w 0 := by
  unfold agF soR
  refine anyI_c w 0 fun j _ hj => ?_
  have hj' : j < w := by omega
  rw [hst j hj']
  rcases hU j hj' with ⟨e0, l, hl, e1, e2⟩ | ⟨e0, e1, e2, ⟨v, hv, e3, e4⟩, m, hm, e5, e6⟩
  · rw [e0, e2]
    constructor
    · intro z; exact absurd rfl z.1.1
    · intro z
      refine absurd z.1.2 (fun e => ?_)
      exact m1_ne (by omega) e
  · have n2 : ¬ fG U 0 j = 2 := by rcases e0 with e | e <;> rw [e] <;> decide
    rw [e1, e2, e3, e4, e5, e6, ag_eg h, bt_eg hX (by have := hX.2.1; omega), ← eg01]
    constructor
    · intro z; exact ⟨⟨z.1.2, rfl⟩, z.2⟩
    · intro z; exact ⟨⟨n2, z.1.1⟩, z.2⟩
theorem sp_lp (hR : Rp x C M σ p n r t t0 q) {m c : Nat} (hUw : wfU (C.1 15) w) (hUi : ∀ i, i < w → RUi (C.1 15) M p i) (hst : ∀ i, i < w → fG (C.1 15) 3 i = fG M 38 i) (hm : m ≤ 99) (hlq : lqF (C.1 15) w = nI m - 1) (hc : c < t0) :
    ∀ k s acc C1 Mi N1 N2, s + k = 10 → scC C C1 σ → smM M Mi → Mi.2.1 38 = M.2.1 38 → k + 1 ≤ N1 → k + 1 ≤ N2 → ∃ v C4 M4, scC C C4 σ ∧ smM M M4 ∧ ia_qr xs (ia_cal xs (d + 19)) im_Eng_spans N1 17 [.ref x, .int (nI c), .int acc, .int (nI (s + 1))] [] (tot H x C1) = some (some (.int v), tot H x C4) ∧ ia_qr xs (ia_cal xs (d + 19)) im_Mod_spans N2 86 [.ref a, .int (nI c), .int (nI m - 1), .int acc, .int (nI s)] [] (pM h a Mi) = some (some (.int v), pM h a M4) := by
  intro k
  have hF := hR.2.1.2.2.2.2.2.2.2.2.1
  have ht8 := hF.1.2.2.1
  have kF7 : kF σ < 7 := by cases σ <;> decide
  have kF5 : kF σ ≠ 5 := by cases σ <;> decide
  induction k with
  | zero =>
    intro s acc C1 Mi N1 N2 hs hc1 hm1 h38 hN1 hN2
    obtain ⟨N1, rfl⟩ : ∃ k, N1 = k + 1 := ⟨N1 - 1, by omega⟩
    obtain ⟨N2, rfl⟩ : ∃ k, N2 = k + 1 := ⟨N2 - 1, by omega⟩
    refine ⟨acc, C1, Mi, hc1, hm1, ?_, ?_⟩
    · rw [iq_Eng_spans_17, if_p (show (10 : Int32) < nI (s + 1) from nI_lt (a := 10) (by omega) (by omega))]
    · rw [iq_Mod_spans_86, if_n (show ¬ nI s < (10 : Int32) from nI_nlt (b := 10) (by omega) (by omega))]
  | succ k ih =>
    intro s acc C1 Mi N1 N2 hs hc1 hm1 h38 hN1 hN2
    obtain ⟨N1, rfl⟩ : ∃ k, N1 = k + 1 := ⟨N1 - 1, by omega⟩
    obtain ⟨N2, rfl⟩ : ∃ k, N2 = k + 1 := ⟨N2 - 1, by omega⟩
    have hR1 := hR.sc hc1 hR.sm
    have hRi := hR.sc hR.sr hm1
    -- the class
    obtain ⟨C2, f1, f2, f3, f4⟩ := fo_lk xs (d + 16) (H := H) hR hc1 (j := kF σ) kF7 kF5 hF.1.lnX
    have wX : wfX (sA (C.2 (kF σ)) 4 (((C.2 (kF σ)).2 4).set c (nI (s + 1)))) t0 r p := wfX_sA hF (List.length_set ..) (by decide) (by decide) (by decide)
    have fw := f1.w (X := sA (C.2 (kF σ)) 4 (((C.2 (kF σ)).2 4).set c (nI (s + 1)))) wX.1.lnX
    have e15 : (uW C2 5 (sA (C.2 (kF σ)) 4 (((C.2 (kF σ)).2 4).set c (nI (s + 1))))).1 15 = C.1 15 := f1.1.2.2.2.2.2.1
    obtain ⟨C4, g1, g2⟩ := g_bearsOut xs (d + 13) (H := H) fw (t := t0) (r := r) (by rw [uW_s]; exact wX) (w := w) (by rw [e15]; exact hUw) hm (by rw [e15]; exact hlq)
    rw [uW_s, show ((uW C2 5 (sA (C.2 (kF σ)) 4 (((C.2 (kF σ)).2 4).set c (nI (s + 1))))).1 12).2.2.1 0 = 0 from f3, e15] at g2
    have l4 := hF.1.lnX.2.1 4 (by decide) (by decide)
    have w4 : wr ((C2.2 5).2 4) (nI c) (nI (s + 1)) = some (((C.2 (kF σ)).2 4).set c (nI (s + 1))) := by
      rw [f2, wr_nI (by omega) (by omega)]
    have eC : uW C2 5 (sA (C2.2 5) 4 (((C.2 (kF σ)).2 4).set c (nI (s + 1)))) = uW C2 5 (sA (C.2 (kF σ)) 4 (((C.2 (kF σ)).2 4).set c (nI (s + 1)))) := by rw [f2]
    -- the reference
    have hTi := hRi.2.1
    have hsi := hTi.2.2.1
    obtain ⟨e1, e2, e3⟩ := r1 (h := h) (a := a) hRi
    have hag := hTi.2.2.2.2.2.2.2.2.2.2.2
    have hcmF := hTi.2.2.2.2.2.2.2.2.2.2.1
    have lW := stW_ln (M := Mi) hF.1.lnX
    have hW : wfX (stW Mi (C.2 (kF σ))) t0 r p := ag_wf (X := C.2 (kF σ)) lW (by show fG Mi 1 1 = (C.2 (kF σ)).1 2; rw [hTi.2.2.2.2.2.2.2.1, hF.1.1]) rfl hag hF
    have hcmW : cmM Mi (stW Mi (C.2 (kF σ))) r := fun i hi => by
      have := hcmF i hi
      exact this
    have hbW := ag_bd hag hTi.2.2.2.2.2.2.2.2.2.1
    have ho : opM Mi (dE (C.1 (kS σ))) := op0 hRi.2.2.2.1 hTi
    obtain ⟨Y', dr', wk', sc', k1, k2, k3⟩ := m_fits xs d (h := h) (a := a) (dr := Mi.1 22) (wk := Mi.1 15) (sc := (Mi.2.2.2.1 0, Mi.2.2.2.1 1)) hsi hTi.2.1 ho hRi.2.2.2.2.2.2.1 hUw.2.2.2.2.1 hUw.2.2.2.2.2 hm hW hcmW hbW hc e2 e3 (nI (s + 1))
    rw [← e1] at k3
    have k3' : ia_cal xs (d + 19) im_Mod_fitsSpan [.ref a, .int (nI c), .int (nI (s + 1)), .int (nI m - 1)] (pM h a Mi) = some (some (.int (boF (fun i => agF (C.1 15) (nI i) (engX (stN (dE (C.1 (kS σ))) (C.1 (kS σ)) (C.1 (kL σ)) t0 r p n (sA (C.2 (kF σ)) 4 (((C.2 (kF σ)).2 4).set c (nI (s + 1))), 0) (i + 1)).1 t0 r) w) m 0)), pM h a (mz Mi 1 Y' dr' wk' sc')) := by
      have hUi' : ∀ i, i < w → RUi (C.1 15) Mi p i := fun i hi => by
        have := hUi i hi
        have f := fun (k : Nat) (h1 : 34 ≤ k) (h2 : k < 38) => (show fG Mi k = fG M k by unfold fG; rw [hm1.2.2.1 k h1 h2])
        unfold RUi at *
        rw [f 34 (by decide) (by decide), f 35 (by decide) (by decide), f 36 (by decide) (by decide), f 37 (by decide) (by decide)]
        exact this
      have hst' : ∀ i, i < w → fG (C.1 15) 3 i = fG Mi 38 i := fun i hi => by
        rw [hst i hi]; unfold fG; rw [h38]
      have hagS : agW (sA (stW Mi (C.2 (kF σ))) 4 (((stW Mi (C.2 (kF σ))).2 4).set c (nI (s + 1)))) (sA (C.2 (kF σ)) 4 (((C.2 (kF σ)).2 4).set c (nI (s + 1)))) t0 r p := aw_set hag (by rw [lW.2.1 4 (by decide) (by decide)]; omega) (by omega) rfl
      have wW : wfX (sA (stW Mi (C.2 (kF σ))) 4 (((stW Mi (C.2 (kF σ))).2 4).set c (nI (s + 1)))) t0 r p := wfX_sA hW (List.length_set ..) (by decide) (by decide) (by decide)
      have eq := boF_c (f := fun i => soR Mi (stN (dE (C.1 (kS σ))) (C.1 (kS σ)) (C.1 (kL σ)) t0 r p n (sA (stW Mi (C.2 (kF σ))) 4 (((stW Mi (C.2 (kF σ))).2 4).set c (nI (s + 1))), (Mi.1 22).toInt64) (i + 1)).1 t0 r (nI i) w 0) (g := fun i => agF (C.1 15) (nI i) (engX (stN (dE (C.1 (kS σ))) (C.1 (kS σ)) (C.1 (kL σ)) t0 r p n (sA (C.2 (kF σ)) 4 (((C.2 (kF σ)).2 4).set c (nI (s + 1))), 0) (i + 1)).1 t0 r) w) m 0 (fun i => (ag_so hUw.2.2.2.2.2 hUi' hst' (stN_wf (E := dE (C.1 (kS σ))) (S := C.1 (kS σ)) (L := C.1 (kL σ)) (n := n) (Y := (sA (C.2 (kF σ)) 4 (((C.2 (kF σ)).2 4).set c (nI (s + 1))), 0)) wX (i + 1)) (both (n := n) wX wW hagS rfl (i + 1)) (nI i)).symm)
      rw [eq] at k3
      exact k3
    have hm2 := hm1.trans (smM.mz (M := Mi) (Y := Y') (dr := dr') (wk := wk') hm1.1 k2 k1)
    have h382 : (mz Mi 1 Y' dr' wk' sc').2.1 38 = M.2.1 38 := (mz_k (Or.inr (by omega))).trans h38
    generalize boF (fun i => agF (C.1 15) (nI i) (engX (stN (dE (C.1 (kS σ))) (C.1 (kS σ)) (C.1 (kL σ)) t0 r p n (sA (C.2 (kF σ)) 4 (((C.2 (kF σ)).2 4).set c (nI (s + 1))), 0) (i + 1)).1 t0 r) w) m 0 = b at *
    have g1' := fw.1.trans g1
    have ms : nI (s + 1) - 1 = nI s := (pk_sub (a := s + 1) (b := 1) (by omega)).trans (by rw [Nat.add_sub_cancel])
    have or0 : ∀ v : Int32, (v ||| 0) = v := fun v => Int32.or_zero
    rw [iq_Eng_spans_17, iq_Mod_spans_86]
    simp only [↓if_n (show ¬ (10 : Int32) < nI (s + 1) from nI_nlt (a := 10) (by omega) (by decide)), ↓tN_Rb hR1.1, ↓tS_Rb hR1.1, ↓tF_clsb, ↓cV_of f4, ↓tN_Rb f1.2.1, ↓tF_Rb f1.2.1, ↓tW_Rb (show 5 < 7 by decide), ↓tW_stb (show 5 < 7 by decide), ↓bs w4, eC, ↓tN_Rb fw.2.1, ↓cI_of g2, ms, nI_1, ↓if_p (show nI s < (10 : Int32) from nI_lt (b := 10) (by omega) (by decide)), ↓pM_clsb, ↓cI_of k3', or0]
    by_cases cb : b = 0
    · rw [if_pos cb, if_pos cb]
      exact ih (s + 1) acc C4 _ N1 N2 (by omega) g1' hm2 h382 (by omega) (by omega)
    · rw [if_neg cb, if_neg cb]
      exact ih (s + 1) _ C4 _ N1 N2 (by omega) g1' hm2 h382 (by omega) (by omega)
end O44
