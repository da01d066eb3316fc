/-! The reference: desks are copied. -/
def cp1 (M : aG) (c : Nat) (Y : aW) (i : Nat) : aW := sA (sA Y 0 (updTo (Y.2 0) (fun j => fG M 21 (6 * c + j)) i)) 1 (updTo (Y.2 1) (fun j => fG M 22 (6 * c + j)) i)
def cp2 (M : aG) (c : Nat) (Y : aW) (i : Nat) : aW := sA (sA (sA (sA Y 2 (updTo (Y.2 2) (fun j => fG M 23 (8 * c + j)) i)) 3 (updTo (Y.2 3) (fun j => fG M 24 (8 * c + j)) i)) 4 (updTo (Y.2 4) (fun j => fG M 25 (8 * c + j)) i)) 5 (updTo (Y.2 5) (fun j => fG M 26 (8 * c + j)) i)
def cp3 (M : aG) (c : Nat) (Y : aW) (i : Nat) : aW := sA (sA (sA (sA Y 8 (updTo (Y.2 8) (fun j => fG M 27 (10 * c + j)) i)) 9 (updTo (Y.2 9) (fun j => fG M 28 (10 * c + j)) i)) 10 (updTo (Y.2 10) (fun j => fG M 29 (10 * c + j)) i)) 11 (updTo (Y.2 11) (fun j => fG M 30 (10 * c + j)) i)
theorem ext_getD {l m : List Int32} (h : l.length = m.length) (hg : ∀ i, i < l.length → l.getD i 0 = m.getD i 0) : l = m := by
  apply List.ext_getElem?
  intro i
  by_cases hi : i < l.length
  · have := hg i hi
    rw [List.getD_eq_getElem?_getD, List.getD_eq_getElem?_getD, List.getElem?_eq_getElem hi, List.getElem?_eq_getElem (by omega)] at this
    rw [List.getElem?_eq_getElem hi, List.getElem?_eq_getElem (by omega)]
    exact congrArg some this
  · rw [List.getElem?_eq_none (by omega), List.getElem?_eq_none (by omega)]
theorem updTo_all {l m : List Int32} {g : Nat → Int32} {w : Nat} (hl : l.length = w) (hm : m.length = w) (hg : ∀ i, i < w → m.getD i 0 = g i) : updTo l g w = m := by
  refine ext_getD (by rw [updTo_len, hl, hm]) fun i hi => ?_
  rw [updTo_len, hl] at hi
  rw [updTo_get w i (by omega), if_pos hi, hg i hi]
theorem lnX1 {Y : aW} {M : aG} {c i : Nat} (h : lnX Y) : lnX (cp1 M c Y i) := lnX_sA (lnX_sA h (updTo_len i)) (by rw [updTo_len, sA_n (by decide)])
theorem lnX2 {Y : aW} {M : aG} {c i : Nat} (h : lnX Y) : lnX (cp2 M c Y i) := lnX_sA (lnX_sA (lnX_sA (lnX_sA h (updTo_len i)) (by rw [updTo_len, sA_n (by decide)])) (by rw [updTo_len, sA_n (by decide), sA_n (by decide)])) (by rw [updTo_len, sA_n (by decide), sA_n (by decide), sA_n (by decide)])
theorem lnX3 {Y : aW} {M : aG} {c i : Nat} (h : lnX Y) : lnX (cp3 M c Y i) := lnX_sA (lnX_sA (lnX_sA (lnX_sA h (updTo_len i)) (by rw [updTo_len, sA_n (by decide)])) (by rw [updTo_len, sA_n (by decide), sA_n (by decide)])) (by rw [updTo_len, sA_n (by decide), sA_n (by decide), sA_n (by decide)])
section KC3
variable (xs : List Int32) (d : Nat) {h : ia_H} {a : Nat} {M : aG} {b c : Nat} {Y : aW} {dr wk : Int32} {sc : List Int64 × List Int64}
theorem m_copies (hl : lnM M) (hb : b < 23) (hc : c < 23) (hne : c ≠ b) (hY : lnX Y) (X : aW) {bI cI : Int32} (hbI : bI = nI b) (hcI : cI = nI c) : ia_cal xs (d + 1) im_Mod_copies [.ref a, .int bI, .int cI] (my h a M b Y dr wk sc) = some (none, my h a M b (dkW M c X) dr wk sc) := by
  subst hbI
  subst hcI
  have y0 : wfY M b Y := ⟨hl, hb, hY⟩
  have y1 : ∀ v, wfY M b (sI Y 0 v) := fun v => ⟨hl, hb, hY⟩
  have y2 : ∀ v w, wfY M b (sI (sI Y 0 v) 1 w) := fun v w => ⟨hl, hb, hY⟩
  rw [iu_Mod_copies, iq_Mod_copies_0]
  simp only [↓my_Rb, ↓my_o18 hl hb hc hne, ↓my_w18 y0, ↓my_o19 hl hb hc hne, ↓my_w19 (y1 _), ↓my_o20 hl hb hc hne, ↓my_w20 (y2 _ _)]
  have hY1 : lnX (sI (sI (sI Y 0 (fG M 18 c)) 1 (fG M 19 c)) 2 (fG M 20 c)) := hY
  have hI : ∀ k, k < 3 → (sI (sI (sI Y 0 (fG M 18 c)) 1 (fG M 19 c)) 2 (fG M 20 c)).1 k = fG M (18 + k) c := fun k hk => by
    match k, hk with
    | 0, _ => rfl
    | 1, _ => rfl
    | 2, _ => rfl
  generalize sI (sI (sI Y 0 (fG M 18 c)) 1 (fG M 19 c)) 2 (fG M 20 c) = Y1 at *
  have e0 : my h a M b Y1 dr wk sc = my h a M b (cp1 M c Y1 0) dr wk sc := my_ext (fun k hk => rfl) (fun k hk _ _ => by
    match k, hk with
    | 0, _ => rfl
    | 1, _ => rfl
    | k + 2, _ => rfl)
  rw [e0]
  refine lp_sc (σ := Unit) (F := fun N i _ => ia_qr xs (ia_cal xs d) im_Mod_copies N 26 [.ref a, .int (nI b), .int (nI c), .int (nI i), .float 0, .float 0] [] (my h a M b (cp1 M c Y1 i) dr wk sc)) (I := fun _ => True) (N := 6) (cost := 1) (c0 := 30) (R := fun o => o = some (none, my h a M b (dkW M c X) dr wk sc)) (fun i hi s _ N hN => ?_) (fun N s hN _ => ?_) 6 0 (by omega) () trivial 999999 (by omega)
  · obtain ⟨N, rfl⟩ : ∃ m, N = m + 1 := ⟨N - 1, by omega⟩
    refine ⟨N, (), Nat.le_refl _, trivial, ?_⟩
    have hy : wfY M b (cp1 M c Y1 i) := ⟨hl, hb, lnX1 hY1⟩
    have hy2 : ∀ v, wfY M b (sA (cp1 M c Y1 i) 0 (((cp1 M c Y1 i).2 0).set i v)) := fun v => ⟨hl, hb, lnX_sA (lnX1 hY1) (List.length_set ..)⟩
    show ia_qr xs (ia_cal xs d) im_Mod_copies (N + 1) 26 _ [] _ = _
    rw [iq_Mod_copies_26]
    simp only [↓if_p (show nI i < (6 : Int32) from nI_lt (b := 6) hi (by decide)), ↓my_Rb, ↓my_o21 hy hc hne hi, ↓my_w21 hy hi, ↓my_o22 (hy2 _) hc hne hi, ↓my_w22 (hy2 _) hi, nI_1]
    exact congrArg (ia_qr xs (ia_cal xs d) im_Mod_copies N 26 _ []) (my_ext (fun k hk => rfl) (fun k hk _ _ => by
      match k, hk with
      | 0, _ => rfl
      | 1, _ => rfl
      | k + 2, _ => rfl))
  · obtain ⟨N, rfl⟩ : ∃ m, N = m + 1 := ⟨N - 1, by omega⟩
    show ia_qr xs (ia_cal xs d) im_Mod_copies (N + 1) 26 [.ref a, .int (nI b), .int (nI c), .int (nI 6), .float 0, .float 0] [] _ = _
    rw [iq_Mod_copies_26]
    simp only [↓if_n (show ¬ nI 6 < (6 : Int32) by decide)]
    have hY2 : lnX (cp1 M c Y1 6) := lnX1 hY1
    have hr2 : ∀ k, k < 2 → (cp1 M c Y1 6).2 k = (dkW M c X).2 k := fun k hk => by
      have hd := dk_len (X := Y) hl hc hY
      match k, hk with
      | 0, _ => exact updTo_all (hY1.1 0 (by decide)) (hd.1 0 (by decide)) (fun i hi => dk_f 0 i (by decide) (by decide) hi)
      | 1, _ => exact updTo_all (hY1.1 1 (by decide)) (hd.1 1 (by decide)) (fun i hi => dk_f 1 i (by decide) (by decide) hi)
    have hI2 : (cp1 M c Y1 6).1 = Y1.1 := rfl
    generalize cp1 M c Y1 6 = Y2 at *
    have e0 : my h a M b Y2 dr wk sc = my h a M b (cp2 M c Y2 0) dr wk sc := my_ext (fun k hk => rfl) (fun k hk _ _ => by
      match k, hk with
      | 0, _ => rfl
      | 1, _ => rfl
      | 2, _ => rfl
      | 3, _ => rfl
      | 4, _ => rfl
      | 5, _ => rfl
      | k + 6, _ => rfl)
    rw [e0]
    refine lp_sc (σ := Unit) (F := fun N i _ => ia_qr xs (ia_cal xs d) im_Mod_copies N 65 [.ref a, .int (nI b), .int (nI c), .int (nI i), .float 0, .float 0] [] (my h a M b (cp2 M c Y2 i) dr wk sc)) (I := fun _ => True) (N := 8) (cost := 1) (c0 := 15) (R := fun o => o = some (none, my h a M b (dkW M c X) dr wk sc)) (fun i hi s _ N hN => ?_) (fun N s hN _ => ?_) 8 0 (by omega) () trivial N (by omega)
    · obtain ⟨N, rfl⟩ : ∃ m, N = m + 1 := ⟨N - 1, by omega⟩
      refine ⟨N, (), Nat.le_refl _, trivial, ?_⟩
      have hz : lnX (cp2 M c Y2 i) := lnX2 hY2
      have hy : wfY M b (cp2 M c Y2 i) := ⟨hl, hb, hz⟩
      have hz2 : ∀ v, lnX (sA (cp2 M c Y2 i) 2 (((cp2 M c Y2 i).2 2).set i v)) := fun v => lnX_sA hz (List.length_set ..)
      have hz3 : ∀ v w, lnX (sA (sA (cp2 M c Y2 i) 2 (((cp2 M c Y2 i).2 2).set i v)) 3 (((sA (cp2 M c Y2 i) 2 (((cp2 M c Y2 i).2 2).set i v)).2 3).set i w)) := fun v w => lnX_sA (hz2 v) (List.length_set ..)
      have hz4 : ∀ v w u, lnX (sA (sA (sA (cp2 M c Y2 i) 2 (((cp2 M c Y2 i).2 2).set i v)) 3 (((sA (cp2 M c Y2 i) 2 (((cp2 M c Y2 i).2 2).set i v)).2 3).set i w)) 4 (((sA (sA (cp2 M c Y2 i) 2 (((cp2 M c Y2 i).2 2).set i v)) 3 (((sA (cp2 M c Y2 i) 2 (((cp2 M c Y2 i).2 2).set i v)).2 3).set i w)).2 4).set i u)) := fun v w u => lnX_sA (hz3 v w) (List.length_set ..)
      have hy2 : ∀ v, wfY M b _ := fun v => ⟨hl, hb, hz2 v⟩
      have hy3 : ∀ v w, wfY M b _ := fun v w => ⟨hl, hb, hz3 v w⟩
      have hy4 : ∀ v w u, wfY M b _ := fun v w u => ⟨hl, hb, hz4 v w u⟩
      show ia_qr xs (ia_cal xs d) im_Mod_copies (N + 1) 65 _ [] _ = _
      rw [iq_Mod_copies_65]
      simp only [↓if_p (show nI i < (8 : Int32) from nI_lt (b := 8) hi (by decide)), ↓my_Rb, ↓my_o23 hy hc hne hi, ↓my_w23 hy hi, ↓my_o24 (hy2 _) hc hne hi, ↓my_w24 (hy2 _) hi, ↓my_o25 (hy3 _ _) hc hne hi, ↓my_w25 (hy3 _ _) hi, ↓my_o26 (hy4 _ _ _) hc hne hi, ↓my_w26 (hy4 _ _ _) hi, nI_1]
      exact congrArg (ia_qr xs (ia_cal xs d) im_Mod_copies N 65 _ []) (my_ext (fun k hk => rfl) (fun k hk _ _ => by
        match k, hk with
        | 0, _ => rfl
        | 1, _ => rfl
        | 2, _ => rfl
        | 3, _ => rfl
        | 4, _ => rfl
        | 5, _ => rfl
        | k + 6, _ => rfl))
    · obtain ⟨N, rfl⟩ : ∃ m, N = m + 1 := ⟨N - 1, by omega⟩
      show ia_qr xs (ia_cal xs d) im_Mod_copies (N + 1) 65 [.ref a, .int (nI b), .int (nI c), .int (nI 8), .float 0, .float 0] [] _ = _
      rw [iq_Mod_copies_65]
      simp only [↓if_n (show ¬ nI 8 < (8 : Int32) by decide)]
      have hY3 : lnX (cp2 M c Y2 8) := lnX2 hY2
      have hr3 : ∀ k, k < 6 → (cp2 M c Y2 8).2 k = (dkW M c X).2 k := fun k hk => by
        have hd := dk_len (X := Y) hl hc hY
        match k, hk with
        | 0, _ => exact hr2 0 (by decide)
        | 1, _ => exact hr2 1 (by decide)
        | 2, _ => exact updTo_all (hY2.2.1 2 (by decide) (by decide)) (hd.2.1 2 (by decide) (by decide)) (fun i hi => dk_f 2 i (by decide) (by decide) hi)
        | 3, _ => exact updTo_all (hY2.2.1 3 (by decide) (by decide)) (hd.2.1 3 (by decide) (by decide)) (fun i hi => dk_f 3 i (by decide) (by decide) hi)
        | 4, _ => exact updTo_all (hY2.2.1 4 (by decide) (by decide)) (hd.2.1 4 (by decide) (by decide)) (fun i hi => dk_f 4 i (by decide) (by decide) hi)
        | 5, _ => exact updTo_all (hY2.2.1 5 (by decide) (by decide)) (hd.2.1 5 (by decide) (by decide)) (fun i hi => dk_f 5 i (by decide) (by decide) hi)
      have hI3 : (cp2 M c Y2 8).1 = Y1.1 := hI2
      generalize cp2 M c Y2 8 = Y3 at *
      have e0 : my h a M b Y3 dr wk sc = my h a M b (cp3 M c Y3 0) dr wk sc := my_ext (fun k hk => rfl) (fun k hk _ _ => by
        match k, hk with
        | 0, _ => rfl
        | 1, _ => rfl
        | 2, _ => rfl
        | 3, _ => rfl
        | 4, _ => rfl
        | 5, _ => rfl
        | 6, _ => rfl
        | 7, _ => rfl
        | 8, _ => rfl
        | 9, _ => rfl
        | 10, _ => rfl
        | 11, _ => rfl)
      rw [e0]
      refine lp_sc (σ := Unit) (F := fun N i _ => ia_qr xs (ia_cal xs d) im_Mod_copies N 116 [.ref a, .int (nI b), .int (nI c), .int (nI i), .float 0, .float 0] [] (my h a M b (cp3 M c Y3 i) dr wk sc)) (I := fun _ => True) (N := 10) (cost := 1) (c0 := 1) (R := fun o => o = some (none, my h a M b (dkW M c X) dr wk sc)) (fun i hi s _ N hN => ?_) (fun N s hN _ => ?_) 10 0 (by omega) () trivial N (by omega)
      · obtain ⟨N, rfl⟩ : ∃ m, N = m + 1 := ⟨N - 1, by omega⟩
        refine ⟨N, (), Nat.le_refl _, trivial, ?_⟩
        have hz : lnX (cp3 M c Y3 i) := lnX3 hY3
        have hy : wfY M b (cp3 M c Y3 i) := ⟨hl, hb, hz⟩
        have hz2 : ∀ v, lnX (sA (cp3 M c Y3 i) 8 (((cp3 M c Y3 i).2 8).set i v)) := fun v => lnX_sA hz (List.length_set ..)
        have hz3 : ∀ v w, lnX (sA (sA (cp3 M c Y3 i) 8 (((cp3 M c Y3 i).2 8).set i v)) 9 (((sA (cp3 M c Y3 i) 8 (((cp3 M c Y3 i).2 8).set i v)).2 9).set i w)) := fun v w => lnX_sA (hz2 v) (List.length_set ..)
        have hz4 : ∀ v w u, lnX (sA (sA (sA (cp3 M c Y3 i) 8 (((cp3 M c Y3 i).2 8).set i v)) 9 (((sA (cp3 M c Y3 i) 8 (((cp3 M c Y3 i).2 8).set i v)).2 9).set i w)) 10 (((sA (sA (cp3 M c Y3 i) 8 (((cp3 M c Y3 i).2 8).set i v)) 9 (((sA (cp3 M c Y3 i) 8 (((cp3 M c Y3 i).2 8).set i v)).2 9).set i w)).2 10).set i u)) := fun v w u => lnX_sA (hz3 v w) (List.length_set ..)
        have hy2 : ∀ v, wfY M b _ := fun v => ⟨hl, hb, hz2 v⟩
        have hy3 : ∀ v w, wfY M b _ := fun v w => ⟨hl, hb, hz3 v w⟩
        have hy4 : ∀ v w u, wfY M b _ := fun v w u => ⟨hl, hb, hz4 v w u⟩
        show ia_qr xs (ia_cal xs d) im_Mod_copies (N + 1) 116 _ [] _ = _
        rw [iq_Mod_copies_116]
        simp only [↓if_p (show nI i < (10 : Int32) from nI_lt (b := 10) hi (by decide)), ↓my_Rb, ↓my_o27 hy hc hne hi, ↓my_w27 hy hi, ↓my_o28 (hy2 _) hc hne hi, ↓my_w28 (hy2 _) hi, ↓my_o29 (hy3 _ _) hc hne hi, ↓my_w29 (hy3 _ _) hi, ↓my_o30 (hy4 _ _ _) hc hne hi, ↓my_w30 (hy4 _ _ _) hi, nI_1]
        exact congrArg (ia_qr xs (ia_cal xs d) im_Mod_copies N 116 _ []) (my_ext (fun k hk => rfl) (fun k hk _ _ => by
          match k, hk with
          | 0, _ => rfl
          | 1, _ => rfl
          | 2, _ => rfl
          | 3, _ => rfl
          | 4, _ => rfl
          | 5, _ => rfl
          | 6, _ => rfl
          | 7, _ => rfl
          | 8, _ => rfl
          | 9, _ => rfl
          | 10, _ => rfl
          | 11, _ => rfl))
      · obtain ⟨N, rfl⟩ : ∃ m, N = m + 1 := ⟨N - 1, by omega⟩
        show ia_qr xs (ia_cal xs d) im_Mod_copies (N + 1) 116 [.ref a, .int (nI b), .int (nI c), .int (nI 10), .float 0, .float 0] [] _ = _
        rw [iq_Mod_copies_116]
        simp only [↓if_n (show ¬ nI 10 < (10 : Int32) by decide)]
        refine congrArg some (congrArg (Prod.mk none) (my_ext (fun k hk => ?_) (fun k hk h6 h7 => ?_)))
        · show Y3.1 k = if k < 3 then fG M (18 + k) c else X.1 k
          rw [if_pos hk, hI3, hI k hk]
        · have hd := dk_len (X := Y) hl hc hY
          match k, hk with
          | 0, _ => exact hr3 0 (by decide)
          | 1, _ => exact hr3 1 (by decide)
          | 2, _ => exact hr3 2 (by decide)
          | 3, _ => exact hr3 3 (by decide)
          | 4, _ => exact hr3 4 (by decide)
          | 5, _ => exact hr3 5 (by decide)
          | 8, _ => exact updTo_all (hY3.2.2 8 (by decide) (by decide)) (hd.2.2 8 (by decide) (by decide)) (fun i hi => dk_f 8 i (by decide) (by decide) hi)
          | 9, _ => exact updTo_all (hY3.2.2 9 (by decide) (by decide)) (hd.2.2 9 (by decide) (by decide)) (fun i hi => dk_f 9 i (by decide) (by decide) hi)
          | 10, _ => exact updTo_all (hY3.2.2 10 (by decide) (by decide)) (hd.2.2 10 (by decide) (by decide)) (fun i hi => dk_f 10 i (by decide) (by decide) hi)
          | 11, _ => exact updTo_all (hY3.2.2 11 (by decide) (by decide)) (hd.2.2 11 (by decide) (by decide)) (fun i hi => dk_f 11 i (by decide) (by decide) hi)
          | 6, _ => exact absurd rfl h6
          | 7, _ => exact absurd rfl h7
end KC3
