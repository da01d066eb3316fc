/-! text: the class begins to read. -/
def bgZ (Z : aG) (x T : Nat) : aG := gI (gI (gR Z 0 (x + 1)) 3 (nI T)) 4 0
def bgQ (Q : aG) : aG := gI (gI (gI Q 0 0) 1 (-1)) 2 0
/-- all wiped, the first token taken -/
def bgC (C : aC) (σ : Bool) (x : Nat) (by_ : Nat → Nat) (T : Nat) : aC := uG (uG (uG (uW (uG C (kS (!σ)) (wiS (C.1 (kS (!σ))))) (kF (!σ)) (wpX (wiX (C.2 (kF (!σ)))) 6)) (kL (!σ)) (wpL (wiL (C.1 (kL (!σ)))) 3)) 3 (bgQ (C.1 3))) 6 (tkA (bgZ (C.1 6) x T) by_ T 0)
section HX6
variable (xs : List Int32) (d : Nat) {H : ia_H} {x : Nat} {C : aC} {σ : Bool} {M : aG} {by_ : Nat → Nat} {T : Nat}
theorem tN_len : ∀ f : Int32 → Option ia_R, (ia_len (tot H x C) (x + 1)).bind f = f (nI ((C.1 0).2.1 0).length) := fun f => by
  have e : pN (tot H x C) x (C.1 0) = tot H x C := by rw [tq_N, uG_id]
  have at_ : (tot H x C).2.2 (x + 1) = .inl (1, (C.1 0).2.1 0) := by
    rw [← e]
    exact put_in 1 (by decide)
  unfold ia_len
  rw [at_]
  rfl
theorem t_start (hb : txB (C.1 0) M by_ T) (hw : (C.1 6).2.1 1 = wordL) : ia_cal xs (d + 8) im_Tokens_start [.ref (x + 79), .ref (x + 1), .int (nI T)] (tot H x C) = some (none, tot H x (uG C 6 (tkA (bgZ (C.1 6) x T) by_ T 0))) := by
  have hT := hb.1
  have l7 : ((uG C 6 (gR (C.1 6) 0 (x + 1))).1 0).2.1 0 = (C.1 0).2.1 0 := by rw [uG_n (by decide)]
  have mn : ∀ g, ia_cal xs (d + 7) im_Math_minI [.int (nI T), .int (nI 700)] g = some (some (.int (nI T)), g) := fun g => by
    rw [k_minI xs (d + 6) (g := g)]
    by_cases c : 700 < T
    · omega
    · rw [if_neg (nI_nlt (by omega) (by omega))]
  have nx := t_next xs d (H := H) (x := x) (C := C) (M := M) (by_ := by_) (T := T) hb (Z := bgZ (C.1 6) x T) rfl rfl hw 0 (Nat.zero_le _) rfl
  rw [iu_Tokens_start, iq_Tokens_start_0]
  simp only [↓tT_pfb, ↓tN_len, l7, hb.2.1, ↓cI_of (mn _), uG_s, uG_G, ↓tT_clsb]
  rw [show gI (gI (gR (C.1 6) 0 (x + 1)) 3 (nI T)) 4 0 = bgZ (C.1 6) x T from rfl]
  simp only [↓cV_of nx]
  rfl
theorem c_begin (hq : fx x C σ) (h0 : ((C.2 (kF (!σ))).2 0).length = 6) (h1 : ((C.2 (kF (!σ))).2 1).length = 6) (hw : wfL (C.1 (kL (!σ)))) (hb : txB (C.1 0) M by_ T) (hwd : (C.1 6).2.1 1 = wordL) : ia_cal xs (d + 9) im_Reader_read [.ref (x + 53), .ref (x + 1), .int (nI T)] (tot H x C) = ia_qr xs (ia_cal xs (d + 8)) im_Reader_read 999999 19 [.ref (x + 53), .float 0, .float 0, .int (nI 0)] [] (tot H x (bgC C σ x by_ T)) := by
  have nS := kS_n (ρ := !σ) (τ := !σ)
  have nL := kL_n (τ := !σ)
  have sw := s_wipe xs (d + 6) (H := H) (x := x) (τ := !σ) hq h0 h1 hw
  unfold bgC
  generalize hC1 : uG (uW (uG C (kS (!σ)) (wiS (C.1 (kS (!σ))))) (kF (!σ)) (wpX (wiX (C.2 (kF (!σ)))) 6)) (kL (!σ)) (wpL (wiL (C.1 (kL (!σ)))) 3) = C1 at *
  have e3 : C1.1 3 = C.1 3 := by rw [← hC1, uG_n (Ne.symm nL.2.1), uW_1, uG_n (Ne.symm nS.2.1)]
  have e6 : C1.1 6 = C.1 6 := by rw [← hC1, uG_n (Ne.symm nL.1), uW_1, uG_n (Ne.symm nS.1)]
  have e0 : C1.1 0 = C.1 0 := by rw [← hC1, uG_n (Ne.symm nL.2.2.2), uW_1, uG_n (Ne.symm nS.2.2.2.1)]
  have f1 : ∀ Q : aG, Q.2 = (C.1 3).2 → fx x (uG C1 3 Q) σ := fun Q hQ => by
    obtain ⟨x1, x2, x3, x4⟩ := hq
    have e11 : C1.1 11 = C.1 11 := by rw [← hC1, uG_n (by cases σ <;> decide), uW_1, uG_n (Ne.symm nS.2.2.2.2.1)]
    refine ⟨by rw [uG_n (by decide), e0]; exact x1, by rw [uG_s, hQ]; exact x2, by rw [uG_n (by decide), e11]; exact x3, fun ρ => ?_⟩
    have nρ := kS_n (ρ := ρ) (τ := !σ)
    rw [uG_n nρ.2.1, ← hC1, uG_n nρ.2.2.2.2.2, uW_1]
    by_cases c : ρ = !σ
    · rw [c, uG_s]; exact x4 (!σ)
    · have : kS ρ ≠ kS (!σ) := by
        revert c
        cases ρ <;> cases σ <;> decide
      rw [uG_n this]; exact x4 ρ
  have ts := t_start xs d (H := H) (x := x) (C := uG C1 3 (bgQ (C.1 3))) (M := M) (by_ := by_) (T := T) (by rw [uG_n (by decide), e0]; exact hb) (by rw [uG_n (by decide), e6]; exact hwd)
  rw [uG_n (show 6 ≠ 3 by decide), e6] at ts
  have g1 := f1 (bgQ (C.1 3)) rfl
  rw [iu_Reader_read, show (1000000 : Nat) = 999999 + 1 from rfl, iq_Reader_read_0]
  simp only [↓tQ_Rb hq, ↓tS_clsb, ↓cV_of sw, ↓tQ_pfb, e3, uG_s, uG_G]
  rw [show gI (gI (gI (C.1 3) 0 0) 1 (-1)) 2 0 = bgQ (C.1 3) from rfl]
  simp only [↓tQ_Rb g1, ↓tT_clsb, ↓cV_of ts]
  rfl
end HX6
