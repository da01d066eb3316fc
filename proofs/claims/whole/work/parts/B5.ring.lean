/-! ring: code and value, in class and reference. -/
/-- what ring throws: nothing, no such call, no such what -/
def rgC (r : Nat) (v1 v2 : Int32) : Int32 := if inI v1 r = 0 then 1 else if v2 < 0 then 2 else if 5 < v2 then 2 else 0
def rgV (X : aW) (c : Nat) (v2 : Int32) : Int32 := if v2 = 0 then fA X 6 c else if v2 = 1 then fA X 7 c else if v2 = 2 then fA X 8 c else if v2 = 3 then fA X 9 c else if v2 = 4 then fA X 10 c else fA X 11 c
section O49
variable (xs : List Int32) (d : Nat) {H h : ia_H} {x a : Nat} {C : aC} {M : aG} {σ : Bool} {p n r t t0 q : Nat}
theorem rg_ref (hR : Rp x C M σ p n r t t0 q) (v1 v2 : Int32) : Rl x C (gI M 0 (rgC r v1 v2)) ∧ (∀ c, c < r → v1 = nI c → rgC r v1 v2 = 0 → ia_cal xs (d + 2) im_Mod_ring [.ref a, .int v1, .int v2] (pM h a M) = some (some (.int (rgV (C.2 1) c v2)), pM h a (gI M 0 0))) ∧ (¬ rgC r v1 v2 = 0 → ia_cal xs (d + 2) im_Mod_ring [.ref a, .int v1, .int v2] (pM h a M) = some (some (.int 0), pM h a (gI M 0 (rgC r v1 v2)))) := by
  have hT := hR.2.1
  have hs := hT.2.2.1
  have hn := hR.2.2.1
  have hX := hn.1
  have hl := hs.1
  have hr10 := hX.1.2.2.2.1
  refine ⟨(hR.t _).l, fun c hc e0 e1 => ?_, fun e1 => ?_⟩
  · subst e0
    have c1 : ¬ inI (nI c) r = 0 := fun z => by
      unfold rgC at e1
      rw [if_pos z] at e1
      exact absurd e1 (by decide)
    have a2 : ¬ v2 < 0 := fun z => by
      unfold rgC at e1
      rw [if_neg c1, if_pos z] at e1
      exact absurd e1 (by decide)
    have a3 : ¬ 5 < v2 := fun z => by
      unfold rgC at e1
      rw [if_neg c1, if_neg a2, if_pos z] at e1
      exact absurd e1 (by decide)
    have u6 : rd ((gI M 0 0).2.1 10) (nI c) = some (fA (C.2 1) 6 c) := by
      have := rdk (k := 10) (i := c) hl (by decide) (show c < 20 by omega) (by decide)
      rw [(hn.2.1 c hc).1] at this
      exact this
    have u7 : rd ((gI M 0 0).2.1 11) (nI c) = some (fA (C.2 1) 7 c) := by
      have := rdk (k := 11) (i := c) hl (by decide) (show c < 20 by omega) (by decide)
      rw [(hn.2.1 c hc).2] at this
      exact this
    have u8 : rd ((gI M 0 0).2.1 27) (nI c) = some (fA (C.2 1) 8 c) := d0_r hn hl (k := 8) (by decide) (by decide) hc
    have u9 : rd ((gI M 0 0).2.1 28) (nI c) = some (fA (C.2 1) 9 c) := d0_r hn hl (k := 9) (by decide) (by decide) hc
    have u10 : rd ((gI M 0 0).2.1 29) (nI c) = some (fA (C.2 1) 10 c) := d0_r hn hl (k := 10) (by decide) (by decide) hc
    have u11 : rd ((gI M 0 0).2.1 30) (nI c) = some (fA (C.2 1) 11 c) := d0_r hn hl (k := 11) (by decide) (by decide) hc
    have i0 : (gI M 0 0).1 0 = 0 := gI_s
    rw [iu_Mod_ring, iq_Mod_ring_0]
    simp only [↓pM_clsb, ↓cI_of (p_isCall xs d hs _), ↓if_n c1, ↓if_n a2, ↓if_n a3]
    rw [iq_Mod_ring_15]
    simp only [↓pM_pfb, ↓pM_Ib, i0, ↓pM_Rb, ↓pM_ldb, ↓bs u6, ↓bs u7, ↓bs u8, ↓bs u9, ↓bs u10, ↓bs u11]
    rw [if_pos trivial]
    unfold rgV
    by_cases b0 : v2 = 0
    · rw [if_pos b0, if_pos b0]
    by_cases b1 : v2 = 1
    · rw [if_neg b0, if_pos b1, if_neg b0, if_pos b1]
    by_cases b2 : v2 = 2
    · rw [if_neg b0, if_neg b1, if_pos b2, if_neg b0, if_neg b1, if_pos b2]
    by_cases b3 : v2 = 3
    · rw [if_neg b0, if_neg b1, if_neg b2, if_pos b3, if_neg b0, if_neg b1, if_neg b2, if_pos b3]
    by_cases b4 : v2 = 4
    · rw [if_neg b0, if_neg b1, if_neg b2, if_neg b3, if_pos b4, if_neg b0, if_neg b1, if_neg b2, if_neg b3, if_pos b4]
    · rw [if_neg b0, if_neg b1, if_neg b2, if_neg b3, if_neg b4, if_neg b0, if_neg b1, if_neg b2, if_neg b3, if_neg b4]
  · have i1 : (gI M 0 1).1 0 = 1 := gI_s
    have i2 : (gI M 0 2).1 0 = 2 := gI_s
    rw [iu_Mod_ring, iq_Mod_ring_0]
    simp only [↓pM_clsb, ↓cI_of (p_isCall xs d hs _)]
    by_cases c0 : inI v1 r = 0
    · rw [if_pos c0, iq_Mod_ring_15]
      simp only [↓pM_pfb, ↓pM_Ib, i1]
      rw [if_neg (show ¬ (1 : Int32) = 0 by decide)]
      unfold rgC
      rw [if_pos c0]
    · by_cases a2 : v2 < 0
      · rw [if_neg c0, if_pos a2, iq_Mod_ring_12, iq_Mod_ring_15]
        simp only [↓pM_pfb, ↓pM_Ib, i2]
        rw [if_neg (show ¬ (2 : Int32) = 0 by decide)]
        unfold rgC
        rw [if_neg c0, if_pos a2]
      · by_cases a3 : 5 < v2
        · rw [if_neg c0, if_neg a2, if_pos a3, iq_Mod_ring_12, iq_Mod_ring_15]
          simp only [↓pM_pfb, ↓pM_Ib, i2]
          rw [if_neg (show ¬ (2 : Int32) = 0 by decide)]
          unfold rgC
          rw [if_neg c0, if_neg a2, if_pos a3]
        · exfalso
          apply e1
          unfold rgC
          rw [if_neg c0, if_neg a2, if_neg a3]
theorem p_thrown : ia_cal xs (d + 1) im_Mod_thrown [.ref a] (pM h a M) = some (some (.int (M.1 0)), pM h a M) := by
  rw [iu_Mod_thrown, iq_Mod_thrown_0]
  simp only [↓pM_Ib]
end O49
