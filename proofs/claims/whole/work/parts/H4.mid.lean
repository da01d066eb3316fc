/-! text: the class begins to read: all wiped, the first token. -/
def zF (_ : Nat) : Int32 := 0
def wpX (X : aW) (i : Nat) : aW := sA (sA X 0 (updTo (X.2 0) zF i)) 1 (updTo (X.2 1) zF i)
def wiX (X : aW) : aW := sI (sI (sI (sI X 0 0) 1 0) 2 0) 3 0
def wpL (L : aG) (i : Nat) : aG := gA (gA L 2 (updTo (L.2.1 2) zF i)) 3 (updTo (L.2.1 3) zF i)
def wiL (L : aG) : aG := gI (gI L 0 0) 1 0
def wiS (S : aG) : aG := gI (gI (gI (gI (gI S 0 0) 1 0) 2 (-1)) 3 (-1)) 4 (-1)
section HX4
variable (xs : List Int32) (d : Nat) {H : ia_H} {x : Nat} {C : aC} {σ τ : Bool} {M : aG} {by_ : Nat → Nat} {T : Nat}
theorem up_0 {l : List Int32} {g : Nat → Int32} : updTo l g 0 = l := rfl
theorem w_wipe {k : Nat} (hk : k < 7) (h0 : ((C.2 k).2 0).length = 6) (h1 : ((C.2 k).2 1).length = 6) : ia_cal xs (d + 1) im_World_wipe [.ref (wA x k)] (tot H x C) = some (none, tot H x (uW C k (wpX (wiX (C.2 k)) 6))) := by
  have lp : ∀ m i X F, i + m = 6 → (X.2 0).length = 6 → (X.2 1).length = 6 → m + 1 ≤ F → ia_qr xs (ia_cal xs d) im_World_wipe F 14 [.ref (wA x k), .int (nI i)] [] (tot H x (uW C k (wpX X i))) = some (none, tot H x (uW C k (wpX X 6))) := by
    intro m
    induction m with
    | zero =>
      intro i X F hi l0 l1 hF
      obtain ⟨F, rfl⟩ : ∃ k, F = k + 1 := ⟨F - 1, by omega⟩
      rw [iq_World_wipe_14, show i = 6 by omega, if_neg (show ¬ nI 6 < (6 : Int32) by decide)]
    | succ m ih =>
      intro i X F hi l0 l1 hF
      obtain ⟨F, rfl⟩ : ∃ k, F = k + 1 := ⟨F - 1, by omega⟩
      have w0 : wr ((wpX X i).2 0) (nI i) 0 = some (updTo (X.2 0) zF (i + 1)) := updTo_wr (by omega) (by omega) rfl
      have w1 : wr ((sA (wpX X i) 0 (updTo (X.2 0) zF (i + 1))).2 1) (nI i) 0 = some (updTo (X.2 1) zF (i + 1)) := updTo_wr (l := X.2 1) (by omega) (by omega) rfl
      have e : sA (sA (wpX X i) 0 (updTo (X.2 0) zF (i + 1))) 1 (updTo (X.2 1) zF (i + 1)) = wpX X (i + 1) := by
        refine Prod.ext rfl (funext fun j => ?_)
        show (if j = 1 then updTo (X.2 1) zF (i + 1) else if j = 0 then updTo (X.2 0) zF (i + 1) else if j = 1 then _ else if j = 0 then _ else X.2 j) = if j = 1 then updTo (X.2 1) zF (i + 1) else if j = 0 then updTo (X.2 0) zF (i + 1) else X.2 j
        by_cases c1 : j = 1
        · rw [if_pos c1, if_pos c1]
        · by_cases c0 : j = 0
          · rw [if_neg c1, if_pos c0, if_neg c1, if_pos c0]
          · rw [if_neg c1, if_neg c0, if_neg c1, if_neg c0, if_neg c1, if_neg c0]
      rw [iq_World_wipe_14, if_pos (show nI i < (6 : Int32) from nI_lt (b := 6) (by omega) (by decide))]
      simp only [↓tW_Rb hk, ↓tW_stb hk, uW_s, ↓bs w0, uW_W, ↓bs w1, e, nI_1]
      exact ih (i + 1) X F (by omega) l0 l1 (by omega)
  rw [iu_World_wipe, show (1000000 : Nat) = 999999 + 1 from rfl, iq_World_wipe_0]
  simp only [↓tW_pfb hk, uW_s, uW_W]
  have e : sI (sI (sI (sI (C.2 k) 0 0) 1 0) 2 0) 3 0 = wpX (wiX (C.2 k)) 0 := by
    refine Prod.ext rfl (funext fun j => ?_)
    show (C.2 k).2 j = if j = 1 then (C.2 k).2 1 else if j = 0 then (C.2 k).2 0 else (C.2 k).2 j
    by_cases c1 : j = 1
    · rw [if_pos c1, c1]
    · by_cases c0 : j = 0
      · rw [if_neg c1, if_pos c0, c0]
      · rw [if_neg c1, if_neg c0]
  rw [e]
  exact lp 6 0 (wiX (C.2 k)) 999999 (by omega) h0 h1 (by omega)
theorem l_wipe (hw : wfL (C.1 (kL τ))) : ia_cal xs (d + 1) im_Laws_wipe [.ref (sd x τ + 18)] (tot H x C) = some (none, tot H x (uG C (kL τ) (wpL (wiL (C.1 (kL τ))) 3))) := by
  obtain ⟨-, -, h2, h3, -⟩ := hw
  have lp : ∀ m i X F, i + m = 3 → (X.2.1 2).length = 3 → (X.2.1 3).length = 3 → m + 1 ≤ F → ia_qr xs (ia_cal xs d) im_Laws_wipe F 8 [.ref (sd x τ + 18), .int (nI i)] [] (tot H x (uG C (kL τ) (wpL X i))) = some (none, tot H x (uG C (kL τ) (wpL X 3))) := by
    intro m
    induction m with
    | zero =>
      intro i X F hi l0 l1 hF
      obtain ⟨F, rfl⟩ : ∃ k, F = k + 1 := ⟨F - 1, by omega⟩
      rw [iq_Laws_wipe_8, show i = 3 by omega, if_neg (show ¬ nI 3 < (3 : Int32) by decide)]
    | succ m ih =>
      intro i X F hi l0 l1 hF
      obtain ⟨F, rfl⟩ : ∃ k, F = k + 1 := ⟨F - 1, by omega⟩
      have w0 : wr ((wpL X i).2.1 2) (nI i) 0 = some (updTo (X.2.1 2) zF (i + 1)) := updTo_wr (by omega) (by omega) rfl
      have w1 : wr ((gA (wpL X i) 2 (updTo (X.2.1 2) zF (i + 1))).2.1 3) (nI i) 0 = some (updTo (X.2.1 3) zF (i + 1)) := updTo_wr (l := X.2.1 3) (by omega) (by omega) rfl
      have e : gA (gA (wpL X i) 2 (updTo (X.2.1 2) zF (i + 1))) 3 (updTo (X.2.1 3) zF (i + 1)) = wpL X (i + 1) := by
        refine Prod.ext rfl (Prod.ext (funext fun j => ?_) rfl)
        show (if j = 3 then updTo (X.2.1 3) zF (i + 1) else if j = 2 then updTo (X.2.1 2) zF (i + 1) else if j = 3 then _ else if j = 2 then _ else X.2.1 j) = if j = 3 then updTo (X.2.1 3) zF (i + 1) else if j = 2 then updTo (X.2.1 2) zF (i + 1) else X.2.1 j
        by_cases c1 : j = 3
        · rw [if_pos c1, if_pos c1]
        · by_cases c0 : j = 2
          · rw [if_neg c1, if_pos c0, if_neg c1, if_pos c0]
          · rw [if_neg c1, if_neg c0, if_neg c1, if_neg c0, if_neg c1, if_neg c0]
      rw [iq_Laws_wipe_8, if_pos (show nI i < (3 : Int32) from nI_lt (b := 3) (by omega) (by decide))]
      simp only [↓tL_Rb, ↓tL_stb, uG_s, ↓bs w0, uG_G, ↓bs w1, e, nI_1]
      exact ih (i + 1) X F (by omega) l0 l1 (by omega)
  rw [iu_Laws_wipe, show (1000000 : Nat) = 999999 + 1 from rfl, iq_Laws_wipe_0]
  simp only [↓tL_pfb, uG_s, uG_G]
  have e : gI (gI (C.1 (kL τ)) 0 0) 1 0 = wpL (wiL (C.1 (kL τ))) 0 := by
    refine Prod.ext rfl (Prod.ext (funext fun j => ?_) rfl)
    show (C.1 (kL τ)).2.1 j = if j = 3 then (C.1 (kL τ)).2.1 3 else if j = 2 then (C.1 (kL τ)).2.1 2 else (C.1 (kL τ)).2.1 j
    by_cases c1 : j = 3
    · rw [if_pos c1, c1]
    · by_cases c0 : j = 2
      · rw [if_neg c1, if_pos c0, c0]
      · rw [if_neg c1, if_neg c0]
  rw [e]
  exact lp 3 0 (wiL (C.1 (kL τ))) 999999 (by omega) h2 h3 (by omega)
theorem s_wipe (hq : fx x C σ) (h0 : ((C.2 (kF τ)).2 0).length = 6) (h1 : ((C.2 (kF τ)).2 1).length = 6) (hw : wfL (C.1 (kL τ))) : ia_cal xs (d + 2) im_Script_wipe [.ref (sd x τ)] (tot H x C) = some (none, tot H x (uG (uW (uG C (kS τ) (wiS (C.1 (kS τ)))) (kF τ) (wpX (wiX (C.2 (kF τ))) 6)) (kL τ) (wpL (wiL (C.1 (kL τ))) 3))) := by
  have nS := kS_n (ρ := τ) (τ := τ)
  have fxS : ∀ S : aG, S.2 = (C.1 (kS τ)).2 → fx x (uG C (kS τ) S) σ := fun S hS => by
    obtain ⟨x1, x2, x3, x4⟩ := hq
    refine ⟨by rw [uG_n (Ne.symm nS.2.2.2.1)]; exact x1, by rw [uG_n (Ne.symm nS.2.1)]; exact x2, by rw [uG_n (Ne.symm nS.2.2.2.2.1)]; exact x3, fun ρ => ?_⟩
    by_cases c : ρ = τ
    · rw [c, uG_s, hS]; rw [← c]; exact x4 ρ
    · have : kS ρ ≠ kS τ := by
        revert c
        cases ρ <;> cases τ <;> decide
      rw [uG_n this]; exact x4 ρ
  have g1 := fxS (wiS (C.1 (kS τ))) rfl
  have ww := w_wipe xs d (H := H) (x := x) (C := uG C (kS τ) (wiS (C.1 (kS τ)))) (k := kF τ) kF_7 h0 h1
  have lw := l_wipe xs d (H := H) (x := x) (C := uW (uG C (kS τ) (wiS (C.1 (kS τ)))) (kF τ) (wpX (wiX (C.2 (kF τ))) 6)) (τ := τ) (by show wfL ((uG C (kS τ) (wiS (C.1 (kS τ)))).1 (kL τ)); rw [uG_n (Ne.symm nS.2.2.2.2.2)]; exact hw)
  rw [show (uW (uG C (kS τ) (wiS (C.1 (kS τ)))) (kF τ) (wpX (wiX (C.2 (kF τ))) 6)).1 (kL τ) = C.1 (kL τ) by rw [uW_1, uG_n (Ne.symm nS.2.2.2.2.2)]] at lw
  have g2 : fx x (uW (uG C (kS τ) (wiS (C.1 (kS τ)))) (kF τ) (wpX (wiX (C.2 (kF τ))) 6)) σ := g1
  rw [iu_Script_wipe, iq_Script_wipe_0]
  simp only [↓tS_pfb, uG_s, uG_G]
  rw [show gI (gI (gI (gI (gI (C.1 (kS τ)) 0 0) 1 0) 2 (-1)) 3 (-1)) 4 (-1) = wiS (C.1 (kS τ)) from rfl]
  simp only [↓tS_Rb g1, ↓tW_clsb kF_7, ↓cV_of ww, uG_2, ↓tS_Rb g2, ↓tL_clsb, ↓cV_of lw]
end HX4
