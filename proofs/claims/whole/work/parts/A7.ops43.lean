/-! spans: does a span fit. -/
section O43
variable (xs : List Int32) (d : Nat) {H h : ia_H} {x a : Nat} {C : aC} {M M' : aG} {σ : Bool} {p n r t t0 q : Nat}
theorem m_fits {U S L E : aG} {w m c : Nat} {F Y : aW} {dr wk : Int32} {sc : List Int64 × List Int64} (hs : rsM M S L r p n) (hq : wfQ L) (ho : opM M E) (hU : RUr U M p) (hw : bcU U = nI w) (hw2 : w ≤ 24) (hm : m ≤ 99) (hW : wfX (stW M F) t r p) (hcm : cmM M (stW M F) r) (hbd : bdX (stW M F) r 0) (hc : c < t) (hY : lnX Y) (hsc : scw sc) (span : Int32) :
    ∃ Y' dr' wk' sc', scw sc' ∧ lnX Y' ∧ ia_cal xs (d + 19) im_Mod_fitsSpan [.ref a, .int (nI c), .int span, .int (nI m - 1)] (my h a M 1 Y dr wk sc) = some (some (.int (boF (fun i => soR M (stN E S L t r p n (sA (stW M F) 4 (((stW M F).2 4).set c span), dr.toInt64) (i + 1)).1 t r (nI i) w 0) m 0)), my h a M 1 Y' dr' wk' sc') := by
  have hl := hs.1
  have ht8 := hW.1.2.2.1
  have hst := m_starts xs (d + 17) (h := h) (a := a) (dr := dr) (wk := wk) (sc := sc) hl (show 1 < 23 by decide) hY F (bI := 1) rfl
  have hw0 : wfX (sA (stW M F) 4 (((stW M F).2 4).set c span)) t r p := wfX_sA hW (List.length_set ..) (by decide) (by decide) (by decide)
  have hc0 : cmM M (sA (stW M F) 4 (((stW M F).2 4).set c span)) r := cm_sA hcm (by decide) (by decide)
  have hb0 : bdX (sA (stW M F) 4 (((stW M F).2 4).set c span)) r 0 := bd_sA hbd (by decide) (by decide)
  have ww : ∀ (v : Int32) (f : ia_H → Option ia_R), (ia_ast (my h a M 1 (stW M F) dr wk sc) (a + 28) 0 ((8 : Int32) + nI c) v).bind f = f (my h a M 1 (sA (stW M F) 4 (((stW M F).2 4).set c v)) dr wk sc) := my_w25 (d := 1) (hW.y hl (by decide)) (show c < 8 by omega)
  rw [iu_Mod_fitsSpan, iq_Mod_fitsSpan_0]
  simp only [↓my_clsb, ↓cV_of hst, ↓my_Rb, ↓ww]
  generalize sA (stW M F) 4 (((stW M F).2 4).set c span) = W at *
  have key : ∀ k i dr1 wk sc N, i + k = m → scw sc → dr1.toInt64 = (stN E S L t r p n (W, dr.toInt64) i).2 → bdX (stN E S L t r p n (W, dr.toInt64) i).1 r i → k + 1 ≤ N → ∃ Y' dr' wk' sc', scw sc' ∧ lnX Y' ∧ ia_qr xs (ia_cal xs (d + 18)) im_Mod_fitsSpan N 12 [.ref a, .float 0, .float 0, .int (nI m - 1), .int (nI i)] [] (my h a M 1 (stN E S L t r p n (W, dr.toInt64) i).1 dr1 wk sc) = some (some (.int (boF (fun i => soR M (stN E S L t r p n (W, dr.toInt64) (i + 1)).1 t r (nI i) w 0) k i)), my h a M 1 Y' dr' wk' sc') := by
    intro k
    induction k with
    | zero =>
      intro i dr1 wk sc N hi hsc hdr hb hN
      obtain ⟨N, rfl⟩ : ∃ k, N = k + 1 := ⟨N - 1, by omega⟩
      refine ⟨_, dr1, wk, sc, hsc, (stN_wf (E := E) (S := S) (L := L) (n := n) (Y := (W, dr.toInt64)) hw0 i).1.lnX, ?_⟩
      rw [iq_Mod_fitsSpan_12, if_p ((lt_m1 (by omega) (by omega)).mpr (show m ≤ i by omega)), ok1]
      rfl
    | succ k ih =>
      intro i dr1 wk sc N hi hsc hdr hb hN
      obtain ⟨N, rfl⟩ : ∃ k, N = k + 1 := ⟨N - 1, by omega⟩
      have hwi := stN_wf (E := E) (S := S) (L := L) (n := n) (Y := (W, dr.toInt64)) hw0 i
      have hci := stN_cm (E := E) (S := S) (L := L) (t := t) (p := p) (n := n) (Y := (W, dr.toInt64)) hc0 i
      have est : stN E S L t r p n (W, dr.toInt64) (i + 1) = stX E S L t r p n ((stN E S L t r p n (W, dr.toInt64) i).1, dr1.toInt64) := by
        rw [hdr]; rfl
      have hex : ∀ v, egI (cmX E S L t r n ((stN E S L t r p n (W, dr.toInt64) i).1, dr1.toInt64)).1 t r v = egI (stN E S L t r p n (W, dr.toInt64) (i + 1)).1 t r v := fun v => by rw [est]; exact eg_cm v
      obtain ⟨dr2, wk1, sc1, h1, h2, h3, h4⟩ := m_comes xs (d + 11) (h := h) (a := a) (b := 1) (dr := dr1) (wk := wk) hs hq ho hci hwi (by decide) hsc hb (by omega)
      obtain ⟨wk2, sc2, k1, k2⟩ := m_fames xs (d + 13) (h := h) (a := a) (b := 1) (dr := dr2) (wk := wk1) (X := (cmX E S L t r n ((stN E S L t r p n (W, dr.toInt64) i).1, dr1.toInt64)).1) hs hq ho (cmX_cm hci) (cmX_wf hwi) (by decide) h1
      have so := m_isSo xs (d + 15) (h := h) (a := a) (dr := dr2) (wk := wk1) (sc := sc1) hs hU hw hw2 (cmX_cm (E := E) (S := S) (L := L) (t := t) (n := n) (Y := ((stN E S L t r p n (W, dr.toInt64) i).1, dr1.toInt64)) hci) (cmX_wf (E := E) (S := S) (L := L) (n := n) (Y := ((stN E S L t r p n (W, dr.toInt64) i).1, dr1.toInt64)) hwi) (nI i) (fun j => soR M (cmX E S L t r n ((stN E S L t r p n (W, dr.toInt64) i).1, dr1.toInt64)).1 t r (nI i) (w - j) j) soR_g
      have e0 : soR M (cmX E S L t r n ((stN E S L t r p n (W, dr.toInt64) i).1, dr1.toInt64)).1 t r (nI i) w 0 = soR M (stN E S L t r p n (W, dr.toInt64) (i + 1)).1 t r (nI i) w 0 := by
        unfold soR
        simp only [hex]
      have so' : ia_cal xs (d + 18) im_Mod_isSo [.ref a, .int (nI i)] (my h a M 1 (cmX E S L t r n ((stN E S L t r p n (W, dr.toInt64) i).1, dr1.toInt64)).1 dr2 wk1 sc1) = some (some (.int (if soR M (stN E S L t r p n (W, dr.toInt64) (i + 1)).1 t r (nI i) w 0 = 0 then 1 else 0)), my h a M 1 (cmX E S L t r n ((stN E S L t r p n (W, dr.toInt64) i).1, dr1.toInt64)).1 dr2 wk1 sc1) := by
        rw [← e0]; exact so
      have h4' : ia_cal xs (d + 18) im_Mod_comes [.ref a, .int 1] (my h a M 1 (stN E S L t r p n (W, dr.toInt64) i).1 dr1 wk sc) = _ := h4
      have k2' : ia_cal xs (d + 18) im_Mod_fames [.ref a, .int 1] (my h a M 1 (cmX E S L t r n ((stN E S L t r p n (W, dr.toInt64) i).1, dr1.toInt64)).1 dr2 wk1 sc1) = some (none, my h a M 1 (stN E S L t r p n (W, dr.toInt64) (i + 1)).1 dr2 wk2 sc2) := by
        rw [est]; exact k2
      rw [iq_Mod_fitsSpan_12, boF]
      simp only [↓if_n (fun z => absurd ((lt_m1 (show m < 2 ^ 30 by omega) (show i < 2 ^ 30 by omega)).mp z) (show ¬ m ≤ i by omega)), ↓my_clsb, ↓cV_of h4', ↓cI_of so', nI_1, ↓ok0]
      by_cases cs : soR M (stN E S L t r p n (W, dr.toInt64) (i + 1)).1 t r (nI i) w 0 = 0
      · simp only [if_pos cs, ↓if_n (show ¬ (1 : Int32) = 0 by decide), ↓cV_of k2']
        exact ih (i + 1) dr2 wk2 sc2 N (by omega) k1 (by rw [est]; exact h2) (by rw [est]; exact faX_bd h3) (by omega)
      · simp only [if_neg cs]
        exact ⟨_, dr2, wk1, sc1, h1, (cmX_wf (E := E) (S := S) (L := L) (n := n) (Y := ((stN E S L t r p n (W, dr.toInt64) i).1, dr1.toInt64)) hwi).1.lnX, by rw [if_pos trivial]⟩
  exact key m 0 dr wk sc _ (by omega) hsc rfl hb0 (by omega)
end O43
