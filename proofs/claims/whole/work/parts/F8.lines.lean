/-! text: lines of the class: tones, calls. -/
def adR (X : aW) (r : Nat) (v1 v2 v3 v4 : Int32) : aW := sI (sA (sA (sA (sA (sA (sA X 6 ((X.2 6).set r v1)) 7 ((X.2 7).set r v2)) 8 ((X.2 8).set r v3)) 9 ((X.2 9).set r v4)) 10 ((X.2 10).set r 0)) 11 ((X.2 11).set r 0)) 3 (nI (r + 1))
section FX8
variable (xs : List Int32) (d : Nat) {H : ia_H} {x : Nat} {C : aC} {σ : Bool} {M : aG} {by_ : Nat → Nat} {T : Nat} {B E L S : aG} {i n p t r : Nat}
theorem w_addRing {k : Nat} (hk : k < 7) (hX : wfW (C.2 k) t r) (hr : r < 10) (v1 v2 v3 v4 : Int32) : ia_cal xs (d + 1) im_World_addRing [.ref (wA x k), .int v1, .int v2, .int v3, .int v4] (tot H x C) = some (none, tot H x (uW C k (adR (C.2 k) r v1 v2 v3 v4))) := by
  obtain ⟨-, h3, -, -, -, -, hl⟩ := hX
  have l6 := hl 6 (by decide) (by decide)
  have l7 := hl 7 (by decide) (by decide)
  have l8 := hl 8 (by decide) (by decide)
  have l9 := hl 9 (by decide) (by decide)
  have l10 := hl 10 (by decide) (by decide)
  have l11 := hl 11 (by decide) (by decide)
  generalize hX0 : C.2 k = X at *
  have w6 : wr (X.2 6) (nI r) v1 = some ((X.2 6).set r v1) := wr_nI (by omega) (by omega)
  have w7 : wr ((sA X 6 ((X.2 6).set r v1)).2 7) (nI r) v2 = some ((X.2 7).set r v2) := wr_nI (by omega) (by show r < (X.2 7).length; omega)
  generalize hX1 : sA X 6 ((X.2 6).set r v1) = X1 at *
  have w8 : wr ((sA X1 7 ((X.2 7).set r v2)).2 8) (nI r) v3 = some ((X.2 8).set r v3) := by
    rw [← hX1]; exact wr_nI (by omega) (by show r < (X.2 8).length; omega)
  generalize hX2 : sA X1 7 ((X.2 7).set r v2) = X2 at *
  have w9 : wr ((sA X2 8 ((X.2 8).set r v3)).2 9) (nI r) v4 = some ((X.2 9).set r v4) := by
    rw [← hX2, ← hX1]; exact wr_nI (by omega) (by show r < (X.2 9).length; omega)
  generalize hX3 : sA X2 8 ((X.2 8).set r v3) = X3 at *
  have w10 : wr ((sA X3 9 ((X.2 9).set r v4)).2 10) (nI r) 0 = some ((X.2 10).set r 0) := by
    rw [← hX3, ← hX2, ← hX1]; exact wr_nI (by omega) (by show r < (X.2 10).length; omega)
  generalize hX4 : sA X3 9 ((X.2 9).set r v4) = X4 at *
  have w11 : wr ((sA X4 10 ((X.2 10).set r 0)).2 11) (nI r) 0 = some ((X.2 11).set r 0) := by
    rw [← hX4, ← hX3, ← hX2, ← hX1]; exact wr_nI (by omega) (by show r < (X.2 11).length; omega)
  generalize hX5 : sA X4 10 ((X.2 10).set r 0) = X5 at *
  have i1 : X1.1 3 = nI r := by rw [← hX1]; exact h3
  have i2 : X2.1 3 = nI r := by rw [← hX2]; exact i1
  have i3 : X3.1 3 = nI r := by rw [← hX3]; exact i2
  have i4 : X4.1 3 = nI r := by rw [← hX4]; exact i3
  have i5 : X5.1 3 = nI r := by rw [← hX5]; exact i4
  have i6 : (sA X5 11 ((X.2 11).set r 0)).1 3 = nI r := i5
  rw [iu_World_addRing, iq_World_addRing_0]
  simp only [↓tW_Ib hk, hX0, h3, ↓if_p (show nI r < (10 : Int32) from nI_lt (b := 10) hr (by decide)), ↓tW_Rb hk, ↓tW_stb hk, ↓bs w6, hX1, uW_s, i1, ↓bs w7, hX2, uW_W, i2, ↓bs w8, hX3, i3, ↓bs w9, hX4, i4, ↓bs w10, hX5, i5, ↓bs w11, i6, ↓tW_pfb hk, nI_1]
  unfold adR
  rw [hX1, hX2, hX3, hX4, hX5]
theorem c_tone (hc : cB x C σ M by_ T) (hB : B.2 = (C.1 3).2) (hi : i ≤ T) (hS : wfS (C.1 (kS (!σ))) p n) (hF : wfW (C.2 (kF (!σ))) t r) (ht : t < 8) : ∃ rr D, ia_cal xs (d + 9) im_Reader_readTone [.ref (x + 53)] (tot H x (k4 C (!σ) (tkA (C.1 6) by_ T i) B E L)) = some (some (.int rr), tot H x D) ∧ ∃ v1 v2, (maS (fG (C.1 (kS (!σ))) 0) p by_ T (tkJ by_ T i) = .inr (tkJ by_ T i) → ∀ j', nuS by_ T 0 99 (tkJ by_ T (tkJ by_ T i)) = .inr j' → v1 = tkV by_ T (tkJ by_ T (tkJ by_ T i)) ∧ v2 = tkV by_ T j') ∧ lnR C σ by_ T B E L (nb (nuS by_ T 1 16) (nb (nuS by_ T 0 99) (nb (fun i => .inr (tkJ by_ T i)) (maS (fG (C.1 (kS (!σ))) 0) p by_ T (tkJ by_ T i))))) (uW C (kF (!σ)) (adT (C.2 (kF (!σ))) t (fnN (fG (C.1 (kS (!σ))) 0) p (tkV by_ T (tkJ by_ T i))) (nI v1) (nI v2))) rr D := by
  have hon := tk_on hc.tk i hi
  have hon2 := tk_on hc.tk _ hon.2.2.1
  have hq : ∀ A B, B.2 = (C.1 3).2 → fx x (k4 C (!σ) A B E L) σ := fun A B hB => k4_fx hc.1 hB
  have f2 := hF.1
  have nx := c_next xs (d + 1) (H := H) (τ := !σ) (B := B) (E := E) (L := L) hc hi
  obtain ⟨v0, D0, a1, a2⟩ := k_person xs d (H := H) (E := E) (L := L) hc hB hon.2.2.1 hS
  rw [iu_Reader_readTone, show (1000000 : Nat) = 999997 + 1 + 1 + 1 from rfl, iq_Reader_readTone_0]
  simp only [↓tQ_Rb (hq _ B hB), ↓tS_Rb (hq _ B hB), ↓tW_Ib kF_7, k4_2, f2, ↓if_p (show nI t < (8 : Int32) from nI_lt (b := 8) ht (by decide)), ↓tT_clsb, ↓cV_of nx, ↓tQ_clsb, ↓cI_of a1]
  rcases a2 with ⟨k, q, e1, e2, e3⟩ | ⟨m, e1, e2, e3, e4, e5⟩
  · rw [e2, if_pos rfl, iq_Reader_readTone_25, if_pos rfl, iq_Reader_readTone_35, if_pos rfl, ok0, e3, e1]
    exact ⟨0, _, rfl, 0, 0, (fun hj => by cases hj), rfl, _, rfl⟩
  · have hp6 := hS.2.2.1
    rw [e2, if_neg (nI_m1 (by omega)), e5]
    obtain ⟨v1, D1, b1, b2⟩ := k_number xs d (H := H) (E := E) (L := L) hc hB hon2.2.2.1 (lo := 0) (hi := 99) (by decide) (by decide) (l := 0) (g := 99) rfl rfl
    simp only [↓tQ_clsb, ↓cI_of b1]
    rw [iq_Reader_readTone_25, e1]
    rcases b2 with ⟨k, q, f1, f2, f3⟩ | ⟨j, f1, f2, f3, f4, f5, f6, f7⟩
    · rw [f2, if_pos rfl, iq_Reader_readTone_35, if_pos rfl, ok0, f3]
      refine ⟨0, _, rfl, 0, 0, (fun _ j' hj' => by rw [f1] at hj'; cases hj'), ?_⟩
      show lnR C σ by_ T B E L (nb (nuS by_ T 1 16) (nuS by_ T 0 99 (tkJ by_ T (tkJ by_ T i)))) _ _ _
      rw [f1]
      exact ⟨rfl, _, rfl⟩
    · rw [f2, if_neg (nI_m1 (by omega)), f7]
      obtain ⟨v2, D2, g1, g2⟩ := k_number xs d (H := H) (E := E) (L := L) hc hB f6 (lo := 1) (hi := 16) (by decide) (by decide) (l := 1) (g := 16) rfl rfl
      simp only [↓tQ_clsb, ↓cI_of g1]
      rw [iq_Reader_readTone_35]
      rcases g2 with ⟨k, q, h1, h2, h3⟩ | ⟨j', h1, h2, h3, h4, h5, h6, h7⟩
      · rw [h2, if_pos rfl, ok0, h3]
        refine ⟨0, _, rfl, tkV by_ T (tkJ by_ T (tkJ by_ T i)), tkV by_ T j, (fun _ j' hj' => by rw [f1] at hj'; cases hj'; exact ⟨rfl, rfl⟩), ?_⟩
        show lnR C σ by_ T B E L (nb (nuS by_ T 1 16) (nuS by_ T 0 99 (tkJ by_ T (tkJ by_ T i)))) _ _ _
        rw [f1]
        show lnR C σ by_ T B E L (nuS by_ T 1 16 j) _ _ _
        rw [h1]
        exact ⟨rfl, _, rfl⟩
      · rw [h2, if_neg (nI_m1 (by omega)), h7]
        have at_ := w_addTone xs (d + 7) (H := H) (x := x) (C := k4 C (!σ) (tkA (C.1 6) by_ T j') B E L) (k := kF (!σ)) kF_7 (t := t) (r := r) hF ht (nI m) (nI (tkV by_ T (tkJ by_ T (tkJ by_ T i)))) (nI (tkV by_ T j))
        simp only [↓tQ_Rb (hq _ B hB), ↓tS_Rb (hq _ B hB), ↓tW_clsb kF_7, ↓cV_of at_, ↓ok1, k4_uW, k4_2]
        refine ⟨1, _, rfl, tkV by_ T (tkJ by_ T (tkJ by_ T i)), tkV by_ T j, (fun _ j' hj' => by rw [f1] at hj'; cases hj'; exact ⟨rfl, rfl⟩), ?_⟩
        show lnR C σ by_ T B E L (nb (nuS by_ T 1 16) (nuS by_ T 0 99 (tkJ by_ T (tkJ by_ T i)))) _ _ _
        rw [f1]
        show lnR C σ by_ T B E L (nuS by_ T 1 16 j) _ _ _
        rw [h1, e4]
        exact ⟨rfl, h6, rfl⟩
/-- whether two names may stand behind a ring -/
def rgS (nm : Nat → Int32) (p : Nat) (by_ : Nat → Nat) (T i : Nat) : Sum (Nat × Nat) Nat := nb (seS by_ T (fnN nm p (tkV by_ T (tkJ by_ T i))) (fnN nm p (tkV by_ T (tkJ by_ T (tkJ by_ T i))))) (nb (maS nm p by_ T) (nb (fun i => .inr (tkJ by_ T i)) (maS nm p by_ T (tkJ by_ T i))))
theorem k_ring38 (hc : cB x C σ M by_ T) (hB : B.2 = (C.1 3).2) (hi : i ≤ T) (hS : wfS (C.1 (kS (!σ))) p n) (hF : wfW (C.2 (kF (!σ))) t r) (hr : r < 10) {v : Int32} {F : Nat} : ∃ rr D, ia_qr xs (ia_cal xs (d + 8)) im_Reader_readRing (F + 3) 38 [.ref (x + 53), .int v, .float 0, .float 0, .float 0] [] (tot H x (k4 C (!σ) (tkA (C.1 6) by_ T i) B E L)) = some (some (.int rr), tot H x D) ∧ ∃ v2 v3, (∀ j4, nuS by_ T 0 99 (tkJ by_ T i) = .inr j4 → v2 = tkV by_ T (tkJ by_ T i) ∧ v3 = tkV by_ T j4) ∧ lnR C σ by_ T B E L (nb (nuS by_ T 1 9) (nb (nuS by_ T 0 99) (nb (fun i => .inr (tkJ by_ T i)) (maS (fG (C.1 (kS (!σ))) 0) p by_ T i)))) (uW C (kF (!σ)) (adR (C.2 (kF (!σ))) r v (fnN (fG (C.1 (kS (!σ))) 0) p (tkV by_ T i)) (nI v2) (nI v3))) rr D := by
  have hon := tk_on hc.tk i hi
  have hq : ∀ A B, B.2 = (C.1 3).2 → fx x (k4 C (!σ) A B E L) σ := fun A B hB => k4_fx hc.1 hB
  have hp6 := hS.2.2.1
  obtain ⟨v0, D0, a1, a2⟩ := k_person xs d (H := H) (E := E) (L := L) hc hB hi hS
  obtain ⟨v1, D1, b1, b2⟩ := k_number xs d (H := H) (E := E) (L := L) hc hB hon.2.2.1 (lo := 0) (hi := 99) (by decide) (by decide) (l := 0) (g := 99) rfl rfl
  rw [show F + 3 = F + 1 + 1 + 1 from rfl, iq_Reader_readRing_38]
  simp only [↓tQ_clsb, ↓cI_of a1]
  rcases a2 with ⟨k, q, e1, e2, e3⟩ | ⟨m, e1, e2, e3, e4, e5⟩
  · rw [e2, if_pos rfl, iq_Reader_readRing_50, if_pos rfl, iq_Reader_readRing_60, if_pos rfl, ok0, e3, e1]
    rcases b2 with ⟨k', q', f1, f2, f3⟩ | ⟨j, f1, f2, f3, f4, f5, f6, f7⟩
    · exact ⟨0, _, rfl, 0, 0, (fun j hj => by rw [f1] at hj; cases hj), rfl, _, rfl⟩
    · exact ⟨0, _, rfl, tkV by_ T (tkJ by_ T i), tkV by_ T j, (fun j hj => by rw [f1] at hj; cases hj; exact ⟨rfl, rfl⟩), rfl, _, rfl⟩
  · rw [e2, if_neg (nI_m1 (by omega)), e5, e1]
    simp only [↓tQ_clsb, ↓cI_of b1]
    rw [iq_Reader_readRing_50]
    rcases b2 with ⟨k, q, f1, f2, f3⟩ | ⟨j, f1, f2, f3, f4, f5, f6, f7⟩
    · rw [f2, if_pos rfl, iq_Reader_readRing_60, if_pos rfl, ok0, f3]
      refine ⟨0, _, rfl, 0, 0, (fun j' hj' => by rw [f1] at hj'; cases hj'), ?_⟩
      show lnR C σ by_ T B E L (nb (nuS by_ T 1 9) (nuS by_ T 0 99 (tkJ by_ T i))) _ _ _
      rw [f1]
      exact ⟨rfl, _, rfl⟩
    · rw [f2, if_neg (nI_m1 (by omega)), f7]
      obtain ⟨v2, D2, g1, g2⟩ := k_number xs d (H := H) (E := E) (L := L) hc hB f6 (lo := 1) (hi := 9) (by decide) (by decide) (l := 1) (g := 9) rfl rfl
      simp only [↓tQ_clsb, ↓cI_of g1]
      rw [iq_Reader_readRing_60]
      rcases g2 with ⟨k, q, h1, h2, h3⟩ | ⟨j', h1, h2, h3, h4, h5, h6, h7⟩
      · rw [h2, if_pos rfl, ok0, h3]
        refine ⟨0, _, rfl, tkV by_ T (tkJ by_ T i), tkV by_ T j, (fun j' hj' => by rw [f1] at hj'; cases hj'; exact ⟨rfl, rfl⟩), ?_⟩
        show lnR C σ by_ T B E L (nb (nuS by_ T 1 9) (nuS by_ T 0 99 (tkJ by_ T i))) _ _ _
        rw [f1]
        show lnR C σ by_ T B E L (nuS by_ T 1 9 j) _ _ _
        rw [h1]
        exact ⟨rfl, _, rfl⟩
      · rw [h2, if_neg (nI_m1 (by omega)), h7]
        have at_ := w_addRing xs (d + 7) (H := H) (x := x) (C := k4 C (!σ) (tkA (C.1 6) by_ T j') B E L) (k := kF (!σ)) kF_7 (t := t) (r := r) hF hr v (nI m) (nI (tkV by_ T (tkJ by_ T i))) (nI (tkV by_ T j))
        simp only [↓tQ_Rb (hq _ B hB), ↓tS_Rb (hq _ B hB), ↓tW_clsb kF_7, ↓cV_of at_, ↓ok1, k4_uW, k4_2]
        refine ⟨1, _, rfl, tkV by_ T (tkJ by_ T i), tkV by_ T j, (fun j' hj' => by rw [f1] at hj'; cases hj'; exact ⟨rfl, rfl⟩), ?_⟩
        show lnR C σ by_ T B E L (nb (nuS by_ T 1 9) (nuS by_ T 0 99 (tkJ by_ T i))) _ _ _
        rw [f1]
        show lnR C σ by_ T B E L (nuS by_ T 1 9 j) _ _ _
        rw [h1, e4]
        exact ⟨rfl, h6, rfl⟩
theorem c_ring (hc : cB x C σ M by_ T) (hB : B.2 = (C.1 3).2) (hi : i ≤ T) (hS : wfS (C.1 (kS (!σ))) p n) (hF : wfW (C.2 (kF (!σ))) t r) (hr : r < 10) : ∃ rr D, ia_cal xs (d + 9) im_Reader_readRing [.ref (x + 53)] (tot H x (k4 C (!σ) (tkA (C.1 6) by_ T i) B E L)) = some (some (.int rr), tot H x D) ∧ ∃ v2 v3, (∀ j3, rgS (fG (C.1 (kS (!σ))) 0) p by_ T i = .inr j3 → ∀ j4, nuS by_ T 0 99 (tkJ by_ T j3) = .inr j4 → v2 = tkV by_ T (tkJ by_ T j3) ∧ v3 = tkV by_ T j4) ∧ lnR C σ by_ T B E L (nb (nuS by_ T 1 9) (nb (nuS by_ T 0 99) (nb (fun i => .inr (tkJ by_ T i)) (rgS (fG (C.1 (kS (!σ))) 0) p by_ T i)))) (uW C (kF (!σ)) (adR (C.2 (kF (!σ))) r (fnN (fG (C.1 (kS (!σ))) 0) p (tkV by_ T (tkJ by_ T i))) (fnN (fG (C.1 (kS (!σ))) 0) p (tkV by_ T (tkJ by_ T (tkJ by_ T i)))) (nI v2) (nI v3))) rr D := by
  have hon := tk_on hc.tk i hi
  have hon2 := tk_on hc.tk _ hon.2.2.1
  have k38 := tk_lt hc.tk (tkJ by_ T (tkJ by_ T i))
  have hq : ∀ A B, B.2 = (C.1 3).2 → fx x (k4 C (!σ) A B E L) σ := fun A B hB => k4_fx hc.1 hB
  have f3 := hF.2.1
  have hp6 := hS.2.2.1
  have nx := c_next xs (d + 1) (H := H) (τ := !σ) (B := B) (E := E) (L := L) hc hi
  obtain ⟨v0, D0, a1, a2⟩ := k_person xs d (H := H) (E := E) (L := L) hc hB hon.2.2.1 hS
  rw [iu_Reader_readRing, show (1000000 : Nat) = 999996 + 3 + 1 from rfl, iq_Reader_readRing_0]
  simp only [↓tQ_Rb (hq _ B hB), ↓tS_Rb (hq _ B hB), ↓tW_Ib kF_7, k4_2, f3, ↓if_p (show nI r < (10 : Int32) from nI_lt (b := 10) hr (by decide)), ↓tT_clsb, ↓cV_of nx, ↓tQ_clsb, ↓cI_of a1, ↓ok0]
  unfold rgS
  rcases a2 with ⟨k, q, e1, e2, e3⟩ | ⟨m, e1, e2, e3, e4, e5⟩
  · rw [e2, if_pos rfl, e3, e1]
    exact ⟨0, _, rfl, 0, 0, (fun j hj => by cases hj), rfl, _, rfl⟩
  · rw [e2, if_neg (nI_m1 (by omega)), e5, e1, e4]
    show ∃ rr D, _ ∧ ∃ v2 v3, (∀ j3, nb (seS by_ T (nI m) (fnN (fG (C.1 (kS (!σ))) 0) p (tkV by_ T (tkJ by_ T (tkJ by_ T i))))) (maS (fG (C.1 (kS (!σ))) 0) p by_ T (tkJ by_ T (tkJ by_ T i))) = .inr j3 → ∀ j4, nuS by_ T 0 99 (tkJ by_ T j3) = .inr j4 → v2 = tkV by_ T (tkJ by_ T j3) ∧ v3 = tkV by_ T j4) ∧ lnR C σ by_ T B E L (nb (nuS by_ T 1 9) (nb (nuS by_ T 0 99) (nb (fun i => .inr (tkJ by_ T i)) (nb (seS by_ T (nI m) (fnN (fG (C.1 (kS (!σ))) 0) p (tkV by_ T (tkJ by_ T (tkJ by_ T i))))) (maS (fG (C.1 (kS (!σ))) 0) p by_ T (tkJ by_ T (tkJ by_ T i))))))) (uW C (kF (!σ)) (adR (C.2 (kF (!σ))) r (nI m) (fnN (fG (C.1 (kS (!σ))) 0) p (tkV by_ T (tkJ by_ T (tkJ by_ T i)))) (nI v2) (nI v3))) rr D
    have hiA := hon2.2.2.1
    generalize tkJ by_ T (tkJ by_ T i) = a at *
    have q0 : (tkA (C.1 6) by_ T a).1 0 = nI (tkK by_ T a) := rfl
    have q2 : (tkA (C.1 6) by_ T a).1 2 = nI (tkV by_ T a) := rfl
    have pn : ia_cal xs (d + 8) im_Script_personNamed [.ref (sd x (!σ)), .int (nI (tkV by_ T a))] (tot H x (k4 C (!σ) (tkA (C.1 6) by_ T a) B E L)) = some (some (.int (fnN (fG (C.1 (kS (!σ))) 0) p (tkV by_ T a))), tot H x (k4 C (!σ) (tkA (C.1 6) by_ T a) B E L)) := by
      have := t_personNamed xs (d + 7) (H := H) (x := x) (C := k4 C (!σ) (tkA (C.1 6) by_ T a) B E L) (σ := !σ) (p := p) (n := n) (by rw [k4_S]; exact hS) (nI (tkV by_ T a))
      rw [k4_S] at this
      exact this
    obtain ⟨rr, D, g1, v2, v3, g2, g3⟩ := k_ring38 xs d (H := H) (E := E) (L := L) hc hB hiA hS hF hr (v := nI m) (F := 999996)
    have wg : ia_cal xs (d + 8) im_Reader_wrong [.ref (x + 53), .int 5] (tot H x (k4 C (!σ) (tkA (C.1 6) by_ T a) B E L)) = _ := k_wrong xs (d + 7) (i := a) (k := 5) (v := 5) (k4_fx hc.1 hB) rfl
    simp only [↓tQ_Rb (hq _ B hB), ↓tT_Ib, k4_6, q0, q2, ↓tS_clsb, ↓cI_of pn]
    have other : ¬ (tkK by_ T a = 2 ∧ fnN (fG (C.1 (kS (!σ))) 0) p (tkV by_ T a) = nI m) → nb (seS by_ T (nI m) (fnN (fG (C.1 (kS (!σ))) 0) p (tkV by_ T a))) (maS (fG (C.1 (kS (!σ))) 0) p by_ T a) = maS (fG (C.1 (kS (!σ))) 0) p by_ T a := fun hno => by
      unfold maS
      by_cases c2 : tkK by_ T a = 2
      · rw [if_pos c2]
        by_cases cf : fnN (fG (C.1 (kS (!σ))) 0) p (tkV by_ T a) = -1
        · rw [if_pos cf]; rfl
        · rw [if_neg cf]
          show seS by_ T (nI m) (fnN (fG (C.1 (kS (!σ))) 0) p (tkV by_ T a)) a = .inr a
          unfold seS
          rw [if_neg (fun z => hno ⟨c2, z⟩)]
      · rw [if_neg c2]; rfl
    have ma : ∀ j3, maS (fG (C.1 (kS (!σ))) 0) p by_ T a = .inr j3 → j3 = a := fun j3 h => by
      unfold maS at h
      by_cases c2 : tkK by_ T a = 2
      · rw [if_pos c2] at h
        by_cases cf : fnN (fG (C.1 (kS (!σ))) 0) p (tkV by_ T a) = -1
        · rw [if_pos cf] at h; cases h
        · rw [if_neg cf] at h; cases h; rfl
      · rw [if_neg c2] at h; cases h
    by_cases c2 : tkK by_ T a = 2
    · rw [if_pos (show nI (tkK by_ T a) = (2 : Int32) by rw [c2]; rfl)]
      by_cases cm : fnN (fG (C.1 (kS (!σ))) 0) p (tkV by_ T a) = nI m
      · rw [if_pos cm]
        simp only [↓tQ_clsb, ↓cI_of wg, ↓ok0]
        have hz : nb (seS by_ T (nI m) (fnN (fG (C.1 (kS (!σ))) 0) p (tkV by_ T a))) (maS (fG (C.1 (kS (!σ))) 0) p by_ T a) = .inl (5, tkP by_ T a) := by
          unfold maS
          rw [if_pos c2, if_neg (by rw [cm]; exact nI_m1 (by omega))]
          show seS by_ T (nI m) (fnN (fG (C.1 (kS (!σ))) 0) p (tkV by_ T a)) a = _
          unfold seS
          rw [if_pos cm]
        rw [hz]
        exact ⟨0, _, rfl, 0, 0, (fun j hj => by cases hj), rfl, _, rfl⟩
      · rw [if_neg cm, other (fun z => cm z.2)]
        refine ⟨rr, D, g1, v2, v3, fun j3 h3 j4 h4 => ?_, g3⟩
        rw [ma j3 h3] at h4 ⊢
        exact g2 j4 h4
    · rw [if_neg (show ¬ nI (tkK by_ T a) = (2 : Int32) from fun z => c2 ((nI_eq (b := 2) (by omega) (by decide)).mp z)), other (fun z => c2 z.1)]
      refine ⟨rr, D, g1, v2, v3, fun j3 h3 j4 h4 => ?_, g3⟩
      rw [ma j3 h3] at h4 ⊢
      exact g2 j4 h4
end FX8
