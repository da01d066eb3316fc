/-! text: lines of the class: lines, tries, seed, people, tones, calls. -/
theorem kF_7 {τ : Bool} : kF τ < 7 := by cases τ <;> decide
section FX7
variable (xs : List Int32) (d : Nat) {H : ia_H} {x : Nat} {C : aC} {σ : Bool} {M : aG} {by_ : Nat → Nat} {T : Nat} {B E L S : aG} {i n p t r : Nat}
theorem c_lines (hc : cB x C σ M by_ T) (hB : B.2 = (C.1 3).2) (hi : i ≤ T) (h1 : (C.1 (kS (!σ))).1 2 = -1) : ∃ r D, ia_cal xs (d + 9) im_Reader_readLines [.ref (x + 53)] (tot H x (k4 C (!σ) (tkA (C.1 6) by_ T i) B E L)) = some (some (.int r), tot H x D) ∧ lnR C σ by_ T B E L (nuS by_ T 1 6 (tkJ by_ T i)) (uG C (kS (!σ)) (gI (C.1 (kS (!σ))) 2 (nI (tkV by_ T (tkJ by_ T i))))) r D := by
  have hon := tk_on hc.tk i hi
  have hq : ∀ A B, B.2 = (C.1 3).2 → fx x (k4 C (!σ) A B E L) σ := fun A B hB => k4_fx hc.1 hB
  obtain ⟨v1, D1, a1, a2⟩ := k_number xs d (H := H) (E := E) (L := L) hc hB hon.2.2.1 (lo := 1) (hi := 6) (by decide) (by decide) (l := 1) (g := 6) rfl rfl
  have nx := c_next xs (d + 1) (H := H) (τ := !σ) (B := B) (E := E) (L := L) hc hi
  rw [iu_Reader_readLines, iq_Reader_readLines_0]
  simp only [↓tQ_Rb (hq _ B hB), ↓tS_Ib, k4_S, h1, ↓if_p (show (-1 : Int32) = -1 from rfl), ↓tT_clsb, ↓cV_of nx, ↓tQ_clsb, ↓cI_of a1]
  rcases a2 with ⟨k, q, e1, e2, e3⟩ | ⟨j, e1, e2, e3, e4, e5, e6, e7⟩
  · have gid : uG C (kS (!σ)) (gI (C.1 (kS (!σ))) 2 (-1)) = C := by rw [← h1, gI_id, uG_id]
    rw [e2, e3, e1]
    simp only [↓tS_pfb, k4_S, k4_uS, gid, ↓tQ_Rb (hq _ (fB B k q) hB), ↓tS_Ib, h1, ↓if_p (show (-1 : Int32) = -1 from rfl), ↓ok0]
    exact ⟨0, _, rfl, rfl, _, rfl⟩
  · rw [e2, e7, e1]
    have g1 := k4_fxS (τ := !σ) (A := tkA (C.1 6) by_ T j) (E := E) (L := L) hc.1 hB (S := gI (C.1 (kS (!σ))) 2 (nI (tkV by_ T (tkJ by_ T i)))) rfl
    have q1 : (gI (C.1 (kS (!σ))) 2 (nI (tkV by_ T (tkJ by_ T i)))).1 2 = nI (tkV by_ T (tkJ by_ T i)) := gI_s
    simp only [↓tS_pfb, k4_S, k4_uS, ↓tQ_Rb g1, ↓tS_Ib, uG_s, q1, ↓if_n (show ¬ nI (tkV by_ T (tkJ by_ T i)) = (-1 : Int32) from nI_m1 (by omega)), ↓ok1]
    exact ⟨1, _, rfl, rfl, e6, rfl⟩
theorem c_tries (hc : cB x C σ M by_ T) (hB : B.2 = (C.1 3).2) (hi : i ≤ T) (h1 : (C.1 (kS (!σ))).1 3 = -1) : ∃ r D, ia_cal xs (d + 9) im_Reader_readTries [.ref (x + 53)] (tot H x (k4 C (!σ) (tkA (C.1 6) by_ T i) B E L)) = some (some (.int r), tot H x D) ∧ lnR C σ by_ T B E L (nuS by_ T 1 9 (tkJ by_ T i)) (uG C (kS (!σ)) (gI (C.1 (kS (!σ))) 3 (nI (tkV by_ T (tkJ by_ T i))))) r D := by
  have hon := tk_on hc.tk i hi
  have hq : ∀ A B, B.2 = (C.1 3).2 → fx x (k4 C (!σ) A B E L) σ := fun A B hB => k4_fx hc.1 hB
  obtain ⟨v1, D1, a1, a2⟩ := k_number xs d (H := H) (E := E) (L := L) hc hB hon.2.2.1 (lo := 1) (hi := 9) (by decide) (by decide) (l := 1) (g := 9) rfl rfl
  have nx := c_next xs (d + 1) (H := H) (τ := !σ) (B := B) (E := E) (L := L) hc hi
  rw [iu_Reader_readTries, iq_Reader_readTries_0]
  simp only [↓tQ_Rb (hq _ B hB), ↓tS_Ib, k4_S, h1, ↓if_p (show (-1 : Int32) = -1 from rfl), ↓tT_clsb, ↓cV_of nx, ↓tQ_clsb, ↓cI_of a1]
  rcases a2 with ⟨k, q, e1, e2, e3⟩ | ⟨j, e1, e2, e3, e4, e5, e6, e7⟩
  · have gid : uG C (kS (!σ)) (gI (C.1 (kS (!σ))) 3 (-1)) = C := by rw [← h1, gI_id, uG_id]
    rw [e2, e3, e1]
    simp only [↓tS_pfb, k4_S, k4_uS, gid, ↓tQ_Rb (hq _ (fB B k q) hB), ↓tS_Ib, h1, ↓if_p (show (-1 : Int32) = -1 from rfl), ↓ok0]
    exact ⟨0, _, rfl, rfl, _, rfl⟩
  · rw [e2, e7, e1]
    have g1 := k4_fxS (τ := !σ) (A := tkA (C.1 6) by_ T j) (E := E) (L := L) hc.1 hB (S := gI (C.1 (kS (!σ))) 3 (nI (tkV by_ T (tkJ by_ T i)))) rfl
    have q1 : (gI (C.1 (kS (!σ))) 3 (nI (tkV by_ T (tkJ by_ T i)))).1 3 = nI (tkV by_ T (tkJ by_ T i)) := gI_s
    simp only [↓tS_pfb, k4_S, k4_uS, ↓tQ_Rb g1, ↓tS_Ib, uG_s, q1, ↓if_n (show ¬ nI (tkV by_ T (tkJ by_ T i)) = (-1 : Int32) from nI_m1 (by omega)), ↓ok1]
    exact ⟨1, _, rfl, rfl, e6, rfl⟩
theorem c_seed (hc : cB x C σ M by_ T) (hB : B.2 = (C.1 3).2) (hi : i ≤ T) (h1 : (C.1 (kS (!σ))).1 4 = -1) : ∃ r D, ia_cal xs (d + 9) im_Reader_readSeed [.ref (x + 53)] (tot H x (k4 C (!σ) (tkA (C.1 6) by_ T i) B E L)) = some (some (.int r), tot H x D) ∧ lnR C σ by_ T B E L (nuS by_ T 0 99999 (tkJ by_ T i)) (uG C (kS (!σ)) (gI (C.1 (kS (!σ))) 4 (nI (tkV by_ T (tkJ by_ T i))))) r D := by
  have hon := tk_on hc.tk i hi
  have hq : ∀ A B, B.2 = (C.1 3).2 → fx x (k4 C (!σ) A B E L) σ := fun A B hB => k4_fx hc.1 hB
  obtain ⟨v1, D1, a1, a2⟩ := k_number xs d (H := H) (E := E) (L := L) hc hB hon.2.2.1 (lo := 0) (hi := 99999) (by decide) (by decide) (l := 0) (g := 99999) rfl rfl
  have nx := c_next xs (d + 1) (H := H) (τ := !σ) (B := B) (E := E) (L := L) hc hi
  rw [iu_Reader_readSeed, iq_Reader_readSeed_0]
  simp only [↓tQ_Rb (hq _ B hB), ↓tS_Ib, k4_S, h1, ↓if_p (show (-1 : Int32) = -1 from rfl), ↓tT_clsb, ↓cV_of nx, ↓tQ_clsb, ↓cI_of a1]
  rcases a2 with ⟨k, q, e1, e2, e3⟩ | ⟨j, e1, e2, e3, e4, e5, e6, e7⟩
  · have gid : uG C (kS (!σ)) (gI (C.1 (kS (!σ))) 4 (-1)) = C := by rw [← h1, gI_id, uG_id]
    rw [e2, e3, e1]
    simp only [↓tS_pfb, k4_S, k4_uS, gid, ↓tQ_Rb (hq _ (fB B k q) hB), ↓tS_Ib, h1, ↓if_p (show (-1 : Int32) = -1 from rfl), ↓ok0]
    exact ⟨0, _, rfl, rfl, _, rfl⟩
  · rw [e2, e7, e1]
    have g1 := k4_fxS (τ := !σ) (A := tkA (C.1 6) by_ T j) (E := E) (L := L) hc.1 hB (S := gI (C.1 (kS (!σ))) 4 (nI (tkV by_ T (tkJ by_ T i)))) rfl
    have q1 : (gI (C.1 (kS (!σ))) 4 (nI (tkV by_ T (tkJ by_ T i)))).1 4 = nI (tkV by_ T (tkJ by_ T i)) := gI_s
    simp only [↓tS_pfb, k4_S, k4_uS, ↓tQ_Rb g1, ↓tS_Ib, uG_s, q1, ↓if_n (show ¬ nI (tkV by_ T (tkJ by_ T i)) = (-1 : Int32) from nI_m1 (by omega)), ↓ok1]
    exact ⟨1, _, rfl, rfl, e6, rfl⟩
theorem cB_W {k : Nat} {X : aW} (h : cB x C σ M by_ T) : cB x (uW C k X) σ M by_ T := h
theorem c_man (hc : cB x C σ M by_ T) (hB : B.2 = (C.1 3).2) (hi : i ≤ T) (hS : wfS (C.1 (kS (!σ))) p n) (hp : p < 6) (hF : ((C.2 (kF (!σ))).2 0).length = 6) : ∃ r D, ia_cal xs (d + 9) im_Reader_readMan [.ref (x + 53)] (tot H x (k4 C (!σ) (tkA (C.1 6) by_ T i) B E L)) = some (some (.int r), tot H x D) ∧ ∃ v1 v2, (∀ j, frS (fG (C.1 (kS (!σ))) 0) p by_ T (tkJ by_ T i) = .inr j → ∀ j', nuS by_ T 0 99 j = .inr j' → v1 = tkV by_ T j ∧ v2 = tkV by_ T j') ∧ lnR C σ by_ T B E L (nb (nuS by_ T 0 999) (nb (nuS by_ T 0 99) (frS (fG (C.1 (kS (!σ))) 0) p by_ T (tkJ by_ T i)))) (uG (uW C (kF (!σ)) (sA (C.2 (kF (!σ))) 0 (((C.2 (kF (!σ))).2 0).set p (nI v2)))) (kS (!σ)) (gI (gA (gA (C.1 (kS (!σ))) 0 (((C.1 (kS (!σ))).2.1 0).set p (nI (tkV by_ T (tkJ by_ T i))))) 1 (((C.1 (kS (!σ))).2.1 1).set p (nI v1))) 0 (nI (p + 1)))) r D := by
  have hon := tk_on hc.tk i hi
  have hon2 := tk_on hc.tk _ hon.2.2.1
  have k38 := tk_lt hc.tk (tkJ by_ T i)
  have hq : ∀ A B, B.2 = (C.1 3).2 → fx x (k4 C (!σ) A B E L) σ := fun A B hB => k4_fx hc.1 hB
  have hS' := hS
  obtain ⟨s0, s1, s2, s3, s4, s5, s6, s7⟩ := hS
  have nx := c_next xs (d + 1) (H := H) (τ := !σ) (B := B) (E := E) (L := L) hc hi
  have nx2 := c_next xs (d + 1) (H := H) (τ := !σ) (B := B) (E := E) (L := L) hc hon.2.2.1
  have q0 : (tkA (C.1 6) by_ T (tkJ by_ T i)).1 0 = nI (tkK by_ T (tkJ by_ T i)) := rfl
  have q2 : (tkA (C.1 6) by_ T (tkJ by_ T i)).1 2 = nI (tkV by_ T (tkJ by_ T i)) := rfl
  have wg : ∀ k v, v = nI k → ia_cal xs (d + 8) im_Reader_wrong [.ref (x + 53), .int v] (tot H x (k4 C (!σ) (tkA (C.1 6) by_ T (tkJ by_ T i)) B E L)) = some (some (.int 0), tot H x (k4 C (!σ) (tkA (C.1 6) by_ T (tkJ by_ T i)) (fB B k (tkP by_ T (tkJ by_ T i))) E L)) := fun k v hv => k_wrong xs (d + 7) (k4_fx hc.1 hB) hv
  have pn : ia_cal xs (d + 8) im_Script_personNamed [.ref (sd x (!σ)), .int (nI (tkV by_ T (tkJ by_ T i)))] (tot H x (k4 C (!σ) (tkA (C.1 6) by_ T (tkJ by_ T i)) B E L)) = some (some (.int (fnN (fG (C.1 (kS (!σ))) 0) p (tkV by_ T (tkJ by_ T i)))), tot H x (k4 C (!σ) (tkA (C.1 6) by_ T (tkJ by_ T i)) B E L)) := by
    have := t_personNamed xs (d + 7) (H := H) (x := x) (C := k4 C (!σ) (tkA (C.1 6) by_ T (tkJ by_ T i)) B E L) (σ := !σ) (p := p) (n := n) (by rw [k4_S]; exact hS') (nI (tkV by_ T (tkJ by_ T i)))
    rw [k4_S] at this
    exact this
  rw [iu_Reader_readMan, show (1000000 : Nat) = 999998 + 1 + 1 from rfl, iq_Reader_readMan_0]
  simp only [↓tQ_Rb (hq _ B hB), ↓tS_Ib, k4_S, s0, ↓if_p (show nI p < (6 : Int32) from nI_lt (b := 6) hp (by decide)), ↓tT_clsb, ↓cV_of nx, ↓tT_Ib, k4_6, q0, q2, ↓tS_clsb, ↓cI_of pn]
  unfold frS
  by_cases c2 : tkK by_ T (tkJ by_ T i) = 2
  · rw [if_pos (show nI (tkK by_ T (tkJ by_ T i)) = (2 : Int32) by rw [c2]; rfl), if_pos c2]
    by_cases cf : fnN (fG (C.1 (kS (!σ))) 0) p (tkV by_ T (tkJ by_ T i)) = -1
    · rw [if_pos cf, if_pos cf]
      obtain ⟨v1, D1, a1, a2⟩ := k_number xs d (H := H) (E := E) (L := L) hc hB hon2.2.2.1 (lo := 0) (hi := 99) (by decide) (by decide) (l := 0) (g := 99) rfl rfl
      simp only [↓tQ_Rb (hq _ B hB), ↓tT_clsb, ↓cV_of nx2, ↓tQ_clsb, ↓cI_of a1]
      rcases a2 with ⟨k, q, e1, e2, e3⟩ | ⟨j, e1, e2, e3, e4, e5, e6, e7⟩
      · rw [e2, if_pos rfl, iq_Reader_readMan_52, if_pos rfl, ok0, e3]
        refine ⟨0, _, rfl, 0, 0, (fun j hj j' hj' => by cases hj; rw [e1] at hj'; cases hj'), ?_⟩
        show lnR C σ by_ T B E L (nb (nuS by_ T 0 999) (nuS by_ T 0 99 (tkJ by_ T (tkJ by_ T i)))) _ _ _
        rw [e1]
        exact ⟨rfl, _, rfl⟩
      · rw [e2, if_neg (nI_m1 (by omega)), e7]
        obtain ⟨v2, D2, b1, b2⟩ := k_number xs d (H := H) (E := E) (L := L) hc hB e6 (lo := 0) (hi := 999) (by decide) (by decide) (l := 0) (g := 999) rfl rfl
        simp only [↓tQ_clsb, ↓cI_of b1]
        rw [iq_Reader_readMan_52]
        have vv : ∀ j2, (.inr (tkJ by_ T (tkJ by_ T i)) : Sum (Nat × Nat) Nat) = .inr j2 → ∀ j', nuS by_ T 0 99 j2 = .inr j' → tkV by_ T (tkJ by_ T (tkJ by_ T i)) = tkV by_ T j2 ∧ tkV by_ T j = tkV by_ T j' := fun j2 hj j' hj' => by cases hj; rw [e1] at hj'; cases hj'; exact ⟨rfl, rfl⟩
        rcases b2 with ⟨k, q, f1, f2, f3⟩ | ⟨j', f1, f2, f3, f4, f5, f6, f7⟩
        · rw [f2, if_pos rfl, ok0, f3]
          refine ⟨0, _, rfl, tkV by_ T (tkJ by_ T (tkJ by_ T i)), tkV by_ T j, vv, ?_⟩
          show lnR C σ by_ T B E L (nb (nuS by_ T 0 999) (nuS by_ T 0 99 (tkJ by_ T (tkJ by_ T i)))) _ _ _
          rw [e1]
          show lnR C σ by_ T B E L (nuS by_ T 0 999 j) _ _ _
          rw [f1]
          exact ⟨rfl, _, rfl⟩
        · rw [f2, if_neg (nI_m1 (by omega)), f7]
          have w0 : wr ((C.1 (kS (!σ))).2.1 0) (nI p) (nI (tkV by_ T (tkJ by_ T i))) = some (((C.1 (kS (!σ))).2.1 0).set p (nI (tkV by_ T (tkJ by_ T i)))) := wr_nI (by omega) (by omega)
          have w1 : wr ((gA (C.1 (kS (!σ))) 0 (((C.1 (kS (!σ))).2.1 0).set p (nI (tkV by_ T (tkJ by_ T i))))).2.1 1) (nI p) (nI (tkV by_ T (tkJ by_ T (tkJ by_ T i)))) = some (((C.1 (kS (!σ))).2.1 1).set p (nI (tkV by_ T (tkJ by_ T (tkJ by_ T i))))) := wr_nI (by omega) (by show p < ((C.1 (kS (!σ))).2.1 1).length; omega)
          have w3 : wr ((C.2 (kF (!σ))).2 0) (nI p) (nI (tkV by_ T j)) = some (((C.2 (kF (!σ))).2 0).set p (nI (tkV by_ T j))) := wr_nI (by omega) (by omega)
          have g1 := k4_fxS (τ := !σ) (A := tkA (C.1 6) by_ T j') (E := E) (L := L) hc.1 hB (S := gA (C.1 (kS (!σ))) 0 (((C.1 (kS (!σ))).2.1 0).set p (nI (tkV by_ T (tkJ by_ T i))))) rfl
          have g2 := k4_fxS (τ := !σ) (A := tkA (C.1 6) by_ T j') (E := E) (L := L) hc.1 hB (S := gA (gA (C.1 (kS (!σ))) 0 (((C.1 (kS (!σ))).2.1 0).set p (nI (tkV by_ T (tkJ by_ T i))))) 1 (((C.1 (kS (!σ))).2.1 1).set p (nI (tkV by_ T (tkJ by_ T (tkJ by_ T i)))))) rfl
          have g3 : fx x (k4 (uW (uG C (kS (!σ)) (gA (gA (C.1 (kS (!σ))) 0 (((C.1 (kS (!σ))).2.1 0).set p (nI (tkV by_ T (tkJ by_ T i))))) 1 (((C.1 (kS (!σ))).2.1 1).set p (nI (tkV by_ T (tkJ by_ T (tkJ by_ T i))))))) (kF (!σ)) (sA (C.2 (kF (!σ))) 0 (((C.2 (kF (!σ))).2 0).set p (nI (tkV by_ T j))))) (!σ) (tkA (C.1 6) by_ T j') B E L) σ := g2
          have y1 : (gA (C.1 (kS (!σ))) 0 (((C.1 (kS (!σ))).2.1 0).set p (nI (tkV by_ T (tkJ by_ T i))))).1 0 = nI p := s0
          have y2 : (gA (gA (C.1 (kS (!σ))) 0 (((C.1 (kS (!σ))).2.1 0).set p (nI (tkV by_ T (tkJ by_ T i))))) 1 (((C.1 (kS (!σ))).2.1 1).set p (nI (tkV by_ T (tkJ by_ T (tkJ by_ T i)))))).1 0 = nI p := s0
          simp only [↓tQ_Rb (hq _ B hB), ↓tS_Rb (hq _ B hB), ↓tS_Ib, k4_S, s0, ↓tS_stb, ↓bs w0, k4_uS, ↓tQ_Rb g1, ↓tS_Rb g1, uG_s, y1, ↓bs w1, uG_G, ↓tQ_Rb g2, ↓tS_Rb g2, y2, ↓tW_Rb kF_7, ↓tW_stb kF_7, k4_2, uG_2, ↓bs w3, k4_uW, ↓tQ_Rb g3, uW_1, ↓tS_pfb, nI_1, ↓ok1]
          refine ⟨1, _, rfl, tkV by_ T (tkJ by_ T (tkJ by_ T i)), tkV by_ T j, vv, ?_⟩
          show lnR C σ by_ T B E L (nb (nuS by_ T 0 999) (nuS by_ T 0 99 (tkJ by_ T (tkJ by_ T i)))) _ _ _
          rw [e1]
          show lnR C σ by_ T B E L (nuS by_ T 0 999 j) _ _ _
          rw [f1]
          refine ⟨rfl, f6, ?_⟩
          have e : ∀ S1 S2 : aG, ∀ X : aW, uG (uW (uG C (kS (!σ)) S1) (kF (!σ)) X) (kS (!σ)) S2 = uG (uW C (kF (!σ)) X) (kS (!σ)) S2 := fun S1 S2 X => Prod.ext (by show va_up (va_up C.1 (kS (!σ)) S1) (kS (!σ)) S2 = va_up C.1 (kS (!σ)) S2; exact up_u) rfl
          rw [e]
    · rw [if_neg cf, if_neg cf]
      simp only [↓tQ_clsb, ↓cI_of (wg 3 3 rfl), ↓ok0]
      refine ⟨0, _, rfl, 0, 0, (fun j hj => by cases hj), ?_⟩
      exact ⟨rfl, _, rfl⟩
  · rw [if_neg (show ¬ nI (tkK by_ T (tkJ by_ T i)) = (2 : Int32) from fun z => c2 ((nI_eq (b := 2) (by omega) (by decide)).mp z)), if_neg c2]
    simp only [↓tQ_clsb, ↓cI_of (wg 1 1 rfl), ↓ok0]
    refine ⟨0, _, rfl, 0, 0, (fun j hj => by cases hj), ?_⟩
    exact ⟨rfl, _, rfl⟩
end FX7
