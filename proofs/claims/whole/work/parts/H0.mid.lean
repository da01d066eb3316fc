/-! text: a line's end, in class and reference. -/
/-- what comes of a line -/
def LI (x : Nat) (D : aC) (σ : Bool) (M : aG) (by_ : Nat → Nat) (T i : Nat) (r : Int32) (D1 : aC) (M1 : aG) : Prop :=
  (r = 0 ∧ ∃ k pl, 1 ≤ k ∧ k ≤ 5 ∧ FD D σ k pl D1 ∧ rsc M M1 ∧ bM (D.1 0) M1 by_ T ∧ stM M1 by_ T (.inl (k, pl))) ∨
  (r = 1 ∧ ∃ j p n t q kn, i < j ∧ LnS x D1 σ M1 by_ T j p n t q kn ∧ rsc M M1 ∧ M1.1 3 = M.1 3 + 1 ∧ frD D σ D1 ∧ (D1.1 3).1 0 = (D.1 3).1 0 ∧ (D1.1 3).1 1 = (D.1 3).1 1)
theorem rsc_3 {M : aG} {v : Int32} : rsc M (gI M 3 v) := ⟨fun k hk => gI_n (by omega), rfl, fun _ _ => rfl, fun _ _ _ => ⟨rfl, fun _ _ => rfl⟩⟩
theorem st_3 {M : aG} {by_ : Nat → Nat} {T : Nat} {v : Int32} {s : Sum (Nat × Nat) Nat} (h : stM M by_ T s) : stM (gI M 3 v) by_ T s := stM_1 h (fun k h1 h2 => gI_n (by omega))
theorem hR_t {S L : aG} {F : aW} {M M1 : aG} {p n t r kn : Nat} (h : hR S L F M p n t r kn) (e : M1.2 = M.2) (e2 : M1.1 2 = M.1 2) (e13 : M1.1 13 = M.1 13) (e14 : M1.1 14 = M.1 14) : hR S L F M1 p n t r kn := by
  have ef : ∀ k i, fG M1 k i = fG M k i := fun k i => by unfold fG; rw [e]
  unfold hR hP hN hT hC hV hL at *
  simp only [ef, e2, e13, e14]
  exact h
section HX0
variable (xs : List Int32) (d d' : Nat) {H h : ia_H} {x a : Nat} {D : aC} {σ : Bool} {M : aG} {by_ : Nat → Nat} {T i p n t r kn : Nat}
theorem st_sign (hb : bM (D.1 0) M by_ T) (hs : stM M by_ T (.inr i)) : ia_cal xs (d + 1) im_Mod_isSign [.ref a, .int 59] (pM h a M) = some (some (.int (if tkK by_ T i = 25 then 1 else 0)), pM h a M) := by
  obtain ⟨h9, ⟨h5, h6, h7, h8⟩, hi, h10⟩ := hs
  have k38 := tk_lt hb.tk i
  have sK := sr_K _ k38
  rw [p_isSign xs d h9, h7]
  have e : (nI (srK (tkK by_ T i)) = 3 ∧ M.1 8 = 59) ↔ tkK by_ T i = 25 := by
    constructor
    · intro z
      have z1 := sK.2.1.mp ((nI_eq (b := 3) (by omega) (by decide)).mp z.1)
      have z2 := h8.2.2.2 z1
      have z3 := kw_s _ k38 z1
      have z4 := z.2
      rw [z2] at z4
      exact z3.2.1.mp ((nI_eq (b := 59) (by omega) (by decide)).mp z4)
    · intro z
      have z1 : 25 ≤ tkK by_ T i := by omega
      refine ⟨by rw [sK.2.1.mpr z1]; rfl, ?_⟩
      rw [h8.2.2.2 z1, (kw_s _ k38 z1).2.1.mpr z]
      rfl
  by_cases c : tkK by_ T i = 25
  · rw [if_pos (e.mpr c), if_pos c]
  · rw [if_neg (fun z => c (e.mp z)), if_neg c]
theorem line_end {D1 : aC} {M1 : aG} {rr : Int32} (hls : LnS x D σ M by_ T i p n t r kn) (hm : MI x D σ M by_ T i rr D1 M1) (F F' : Nat) : ∃ r2 D2 M2, ia_qr xs (ia_cal xs (d + 7)) im_Reader_readLine (F + 1) 40 [.ref (x + 53), .int rr] [] (tot H x D1) = some (some (.int r2), tot H x D2) ∧ ia_qr xs (ia_cal xs (d' + 4)) im_Mod_line (F' + 2) 200 [.ref a, .float 0, .float 0, .float 0, .float 0] [] (pM h a M1) = some (none, pM h a M2) ∧ LI x D σ M by_ T i r2 D2 M2 := by
  rw [iq_Reader_readLine_40, show F' + 2 = F' + 1 + 1 from rfl, iq_Mod_line_200]
  have stray : ∀ j, bM (D.1 0) M1 by_ T → stM M1 by_ T (.inr j) → tkK by_ T j ≠ 25 → ∃ M2, ((ia_getI (pM h a M1) a 10 27).bind fun x1 => (if (x1 : Int32) = (0 : Int32) then (if ia_cls (pM h a M1) a = 10 then (ia_cI (ia_cal xs (d' + 4) im_Mod_isSign [.ref a, .int (59 : Int32)] (pM h a M1)) fun x3 h2 => (if (x3 : Int32) = (0 : Int32) then (if ia_cls h2 a = 10 then (ia_cV (ia_cal xs (d' + 4) im_Mod_wrong [.ref a, .int (1 : Int32)] h2) fun h5 => (ia_qr xs (ia_cal xs (d' + 4)) im_Mod_line (F' + 1) 214 [.ref a, .float 0, .float 0, .float 0, .float 0] [] h5)) else none) else (if ia_cls h2 a = 10 then (ia_cV (ia_cal xs (d' + 4) im_Mod_token [.ref a] h2) fun h4 => (ia_qr xs (ia_cal xs (d' + 4)) im_Mod_line (F' + 1) 214 [.ref a, .float 0, .float 0, .float 0, .float 0] [] h4)) else none))) else none) else (some (none, pM h a M1)))) = some (none, pM h a M2) ∧ rsc M1 M2 ∧ stM M2 by_ T (.inl (1, tkP by_ T j)) := fun j bm st hk => by
    have sg := st_sign xs (d' + 3) (h := h) (a := a) bm st
    rw [if_neg hk] at sg
    have wr := p_wrong xs (d' + 3) (h := h) (a := a) (k := 1) (v := 1) st.1 st.2.1.2.1 rfl
    refine ⟨gI (flM M1 1 (tkP by_ T j)) 3 ((flM M1 1 (tkP by_ T j)).1 3 + 1), ?_, rsc_fl.t rsc_3, st_3 (st_fl (by decide) (by decide))⟩
    simp only [↓pM_Ib, st.1, ↓pM_clsb, ↓cI_of sg]
    rw [if_pos trivial, if_pos trivial, cV_of wr, iq_Mod_line_214]
    simp only [↓pM_Ib, ↓pM_pfb]
  rcases hm with ⟨h1, k, pl, h2, h3, h4, h5, h6, h7⟩ | ⟨h1, j, p', n', t', q', kn', h2, h3, h4, h5, h6, h6q⟩
  · rw [h1, if_pos rfl, ok0]
    rcases h7 with h7 | ⟨j, h7, h8, h9, h10⟩
    · refine ⟨0, D1, M1, rfl, ?_, Or.inl ⟨rfl, k, pl, h2, h3, h4, h5, h6, h7⟩⟩
      simp only [↓pM_Ib]
      rw [if_neg h7.n9]
    · obtain ⟨M2, g1, g2, g3⟩ := stray j h6 h7 h8
      refine ⟨0, D1, M2, rfl, g1, Or.inl ⟨rfl, k, pl, h2, h3, h4, h5.t g2, g2.b h6, ?_⟩⟩
      rw [h9, h10]
      exact g3
  · rw [h1, if_neg (show ¬ (1 : Int32) = 0 by decide)]
    obtain ⟨hc, hb, ha, hs, hh, h7⟩ := h3
    have h3' : LnS x D1 σ M1 by_ T j p' n' t' q' kn' := ⟨hc, hb, ha, hs, hh, h7⟩
    have bm : bM (D.1 0) M1 by_ T := by rw [← h6.bb]; exact hb
    have hjT := hs.2.2.1
    have k38 := tk_lt hc.tk j
    have hq : fx x D1 σ := hc.1
    have q0 : (D1.1 6).1 0 = nI (tkK by_ T j) := by rw [ha]; rfl
    simp only [↓tQ_Rb hq, ↓tT_Ib, q0, ↓ok1]
    by_cases c25 : tkK by_ T j = 25
    · rw [if_pos (show nI (tkK by_ T j) = (25 : Int32) by rw [c25]; rfl)]
      have sg := st_sign xs (d' + 3) (h := h) (a := a) bm hs
      rw [if_pos c25] at sg
      obtain ⟨M2, t1, t2, t3⟩ := s_token xs d' (h := h) (a := a) bm hs
      have nx := c_next xs d (H := H) (τ := !σ) (B := D1.1 3) (E := D1.1 7) (L := D1.1 (kL (!σ))) hc hjT
      rw [h3'.kk] at nx
      have on := tk_on hc.tk j hjT
      have hjj := on.2.2.2.1 (by omega)
      refine ⟨1, k4 D1 (!σ) (tkA (D1.1 6) by_ T (tkJ by_ T j)) (D1.1 3) (D1.1 7) (D1.1 (kL (!σ))), gI M2 3 (M2.1 3 + 1), ?_, ?_, Or.inr ⟨rfl, tkJ by_ T j, p', n', t', q', kn', by omega, ?_, (h4.t (rsc_tsc t2)).t rsc_3, ?_, ?_, h6q⟩⟩
      · simp only [↓tT_clsb, ↓cV_of nx]
      · simp only [↓pM_Ib, hs.1, ↓pM_clsb, ↓cI_of sg]
        rw [if_pos trivial, if_neg (show ¬ (1 : Int32) = 0 by decide)]
        simp only [↓pM_clsb, ↓cV_of t1]
        rw [iq_Mod_line_214]
        simp only [↓pM_Ib, ↓pM_pfb]
      · have fr : frD D1 σ (k4 D1 (!σ) (tkA (D1.1 6) by_ T (tkJ by_ T j)) (D1.1 3) (D1.1 7) (D1.1 (kL (!σ)))) := frD_k4 rfl rfl rfl rfl h7
        have b2 : bM (D1.1 0) (gI M2 3 (M2.1 3 + 1)) by_ T := rsc_3.b (t2.b hb)
        refine ⟨fr.c hc b2.1, by rw [fr.bb]; exact b2, tkZ_Z.symm, st_3 t3, ?_, h7⟩
        rw [k4_S, k4_L, k4_2]
        exact hR_t hh t2.1 (t2.2 2 (by omega)) (t2.2 13 (by omega)) (t2.2 14 (by omega))
      · show M2.1 3 + 1 = M.1 3 + 1
        rw [t2.2 3 (by omega), h5]
      · exact h6.tr (frD_k4 rfl rfl rfl rfl h7)
    · rw [if_neg (show ¬ nI (tkK by_ T j) = (25 : Int32) from fun z => c25 ((nI_eq (b := 25) (by omega) (by decide)).mp z))]
      obtain ⟨M2, g1, g2, g3⟩ := stray j bm hs c25
      have wg := k_wrong xs (d + 6) (H := H) (x := x) (C := D1) (σ := σ) (τ := !σ) (by_ := by_) (T := T) (i := j) (B := D1.1 3) (E := D1.1 7) (L := D1.1 (kL (!σ))) (k4_fx hc.1 rfl) (k := 1) (v := 1) rfl
      rw [h3'.kk] at wg
      refine ⟨0, k4 D1 (!σ) (tkA (D1.1 6) by_ T j) (fB (D1.1 3) 1 (tkP by_ T j)) (D1.1 7) (D1.1 (kL (!σ))), M2, ?_, g1, Or.inl ⟨rfl, 1, tkP by_ T j, by decide, by decide, ?_, h4.t g2, g2.b bm, g3⟩⟩
      · simp only [↓tQ_clsb, ↓cI_of wg, ↓ok0]
      · obtain ⟨f1, f2, f3, f4⟩ := FD_of h3' (j := j) (k := 1) (pl := tkP by_ T j)
        exact ⟨h6.tr f1, f2, f3, f4⟩
end HX0
