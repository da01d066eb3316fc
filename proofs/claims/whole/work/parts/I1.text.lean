/-! text: what holds once a text was taken over, all of it. -/
section IX1
variable {x : Nat} {C D : aC} {σ : Bool} {M M2 : aG} {p n r t t0 q p' n' r' t' kn : Nat}
theorem Rp_new (hR0 : Rp x C M σ p n r t t0 q) (hl : lowM M M2) (h1 : M2.1 1 = 0) (h9 : M2.1 9 = 0) (h10 : M2.1 10 = -1) (hfx : fx x D σ) (hn : ∀ k, k ≠ 0 → k ≠ 3 → k ≠ 6 → k ≠ 7 → k ≠ kS (!σ) → k ≠ kL (!σ) → D.1 k = C.1 k) (hN : D.1 0 = gI (C.1 0) 0 0) (hW : ∀ k, k ≠ kF (!σ) → D.2 k = C.2 k) (h7 : ((D.1 7).2.1 0).length = 72) (h6 : (D.1 6).2.1 1 = wordL) (hQ0 : (D.1 3).1 0 = 0) (hQ1 : (D.1 3).1 1 = -1) (hh : hR (D.1 (kS (!σ))) (D.1 (kL (!σ))) (D.2 (kF (!σ))) M2 p' n' t' r' kn) : Rp x (nwC D σ x) (nwM M2 (D.2 (kF (!σ)))) (!σ) p' n' r' t' t' 0 := by
  have hln := hl.1
  have hjk := hh.jk
  have hF : lnX (D.2 (kF (!σ))) := hjk.2.2.1
  have htx := nw_tx hln hF hh
  have hdk := nw_dk hln hF hh
  have hx := hR_wfX hh
  have hcm := nw_cm hln hh
  obtain ⟨r1, r2, r3, r4, r5, r6, r7, r8, r9, r10, r11⟩ := hR0
  have nS : ∀ ρ, kS ρ ≠ 0 ∧ kS ρ ≠ 3 ∧ kS ρ ≠ 15 ∧ kS ρ ≠ 16 := fun ρ => by cases ρ <;> decide
  have nL : ∀ ρ, kL ρ ≠ 0 ∧ kL ρ ≠ 3 ∧ kL ρ ≠ 15 ∧ kL ρ ≠ 16 := fun ρ => by cases ρ <;> decide
  have nF : kF (!σ) ≠ 1 ∧ kF σ ≠ 1 ∧ kF σ ≠ kF (!σ) ∧ 2 ≠ kF (!σ) ∧ 5 ≠ kF (!σ) := by cases σ <;> decide
  have nS' : kS σ ≠ 0 ∧ kS σ ≠ 3 ∧ kS σ ≠ 6 ∧ kS σ ≠ 7 ∧ kS σ ≠ kS (!σ) ∧ kS σ ≠ kL (!σ) := by cases σ <;> decide
  have nL' : kL σ ≠ 0 ∧ kL σ ≠ 3 ∧ kL σ ≠ 6 ∧ kL σ ≠ 7 ∧ kL σ ≠ kS (!σ) ∧ kL σ ≠ kL (!σ) := by cases σ <;> decide
  have n15 : (15 : Nat) ≠ kS (!σ) ∧ 15 ≠ kL (!σ) ∧ 16 ≠ kS (!σ) ∧ 16 ≠ kL (!σ) := by cases σ <;> decide
  have eS := hn (kS σ) nS'.1 nS'.2.1 nS'.2.2.1 nS'.2.2.2.1 nS'.2.2.2.2.1 nS'.2.2.2.2.2
  have eL := hn (kL σ) nL'.1 nL'.2.1 nL'.2.2.1 nL'.2.2.2.1 nL'.2.2.2.2.1 nL'.2.2.2.2.2
  have e15 := hn 15 (by decide) (by decide) (by decide) (by decide) n15.1 n15.2.1
  have e16 := hn 16 (by decide) (by decide) (by decide) (by decide) n15.2.2.1 n15.2.2.2
  -- the class's parts
  have c0 : (nwC D σ x).1 0 = gI (gR (D.1 0) 0 (sd x (!σ))) 1 0 := uG_s
  have c16 : (nwC D σ x).1 16 = gI (D.1 16) 0 0 := by unfold nwC; rw [uG_n (by decide), uG_s]
  have c15 : (nwC D σ x).1 15 = gI (gI (D.1 15) 0 0) 1 (-1) := by unfold nwC; rw [uG_n (by decide), uG_n (by decide), uG_s]
  have c3 : (nwC D σ x).1 3 = gR (D.1 3) 0 (sd x σ) := by unfold nwC; rw [uG_n (by decide), uG_n (by decide), uG_n (by decide), uW_1, uG_n (by decide), uG_s]
  have cn : ∀ k, k ≠ 0 → k ≠ 16 → k ≠ 15 → k ≠ 3 → (nwC D σ x).1 k = D.1 k := fun k a b c e => by unfold nwC; rw [uG_n a, uG_n b, uG_n c, uW_1, uG_n a, uG_n e]
  have w1 : (nwC D σ x).2 1 = D.2 (kF (!σ)) := by
    show (uW (uG (uG D 3 (gR (D.1 3) 0 (sd x σ))) 0 (gR (D.1 0) 0 (sd x (!σ)))) 1 (D.2 (kF (!σ)))).2 1 = _
    exact uW_s
  have wn : ∀ k, k ≠ 1 → (nwC D σ x).2 k = D.2 k := fun k hk => by
    show (uW (uG (uG D 3 (gR (D.1 3) 0 (sd x σ))) 0 (gR (D.1 0) 0 (sd x (!σ)))) 1 (D.2 (kF (!σ)))).2 k = _
    exact uW_n hk
  have cS : ∀ ρ, (nwC D σ x).1 (kS ρ) = D.1 (kS ρ) := fun ρ => cn _ (nS ρ).1 (nS ρ).2.2.2 (nS ρ).2.2.1 (nS ρ).2.1
  have cL : ∀ ρ, (nwC D σ x).1 (kL ρ) = D.1 (kL ρ) := fun ρ => cn _ (nL ρ).1 (nL ρ).2.2.2 (nL ρ).2.2.1 (nL ρ).2.1
  -- the reference's numbers
  have mi : ∀ k, k ≠ 15 → k ≠ 22 → k ≠ 17 → k ≠ 16 → k ≠ 27 → k ≠ 26 → k ≠ 12 → k ≠ 11 → (nwM M2 (D.2 (kF (!σ)))).1 k = M2.1 k := fun k a b c e f g i j => by
    rw [nw_i a b]
    show (gI (gI (gI (gI (hvK (gI (gI M2 11 (M2.1 9)) 12 (M2.1 10)) 17) 26 0) 27 (-1)) 16 0) 17 0).1 k = _
    rw [gI_n c, gI_n e, gI_n f, gI_n g]
    show (gI (gI M2 11 (M2.1 9)) 12 (M2.1 10)).1 k = _
    rw [gI_n i, gI_n j]
  have i14 : ∀ k, 14 < k → M2.1 k = M.1 k := hl.2.1
  refine ⟨?_, ?_, ?_, ?_, ?_, ?_, ?_, ?_, ?_, ?_, ?_⟩
  · obtain ⟨x1, x2, x3, x4⟩ := hfx
    refine ⟨?_, ?_, by rw [cn 11 (by decide) (by decide) (by decide) (by decide)]; exact x3, fun ρ => by rw [cS]; exact x4 ρ⟩
    · rw [c0]
      exact ⟨rfl, x1.2⟩
    · rw [c3, Bool.not_not]
      exact ⟨rfl, x2.2⟩
  · rw [cS, cL, wn _ nF.1]
    exact htx
  · rw [w1]
    exact ⟨hx.1, hcm, hdk, hx.2, by decide⟩
  · obtain ⟨o1, o2, o3, o4, o5, o6⟩ := r4
    have e2 : (enM M2).2.2 = M.2.2 := hl.2.2.1
    refine ⟨by rw [mi 18 (by decide) (by decide) (by decide) (by decide) (by decide) (by decide) (by decide) (by decide), i14 18 (by decide)]; exact o1, by rw [mi 19 (by decide) (by decide) (by decide) (by decide) (by decide) (by decide) (by decide) (by decide), i14 19 (by decide)]; exact o2, by rw [mi 20 (by decide) (by decide) (by decide) (by decide) (by decide) (by decide) (by decide) (by decide), i14 20 (by decide)]; exact o3, by rw [mi 21 (by decide) (by decide) (by decide) (by decide) (by decide) (by decide) (by decide) (by decide), i14 21 (by decide)]; exact o4, ?_, ?_⟩
    · show ((enM M2).2.2.2.1 0).length = 7
      rw [e2]; exact o5
    · show ((enM M2).2.2.2.1 1).length = 64
      rw [e2]; exact o6
  · rw [c0, wn 2 (by decide), hW 2 nF.2.2.2.1]
    have z : (nwM M2 (D.2 (kF (!σ)))).1 16 = 0 := by rw [nw_i (by decide) (by decide)]; rfl
    exact ⟨z.symm, r5.2.1, Or.inl z⟩
  · rw [c16, e16, w1]
    have z : (nwM M2 (D.2 (kF (!σ)))).1 17 = 0 := by rw [nw_i (by decide) (by decide)]; rfl
    exact ⟨r6.1, 0, by decide, rfl, z, trivial⟩
  · rw [c15, e15]
    have z26 : (nwM M2 (D.2 (kF (!σ)))).1 26 = 0 := by rw [nw_i (by decide) (by decide)]; rfl
    have z27 : (nwM M2 (D.2 (kF (!σ)))).1 27 = -1 := by rw [nw_i (by decide) (by decide)]; rfl
    exact ⟨r7.1, 0, by decide, rfl, z26, z27.symm, Or.inl z27, fun i hi => absurd hi (by omega)⟩
  · rw [c0, hN]
    exact ⟨r8.1, 0, by decide, rfl, by rw [mi 1 (by decide) (by decide) (by decide) (by decide) (by decide) (by decide) (by decide) (by decide)]; exact h1, fun i hi => absurd hi (by omega)⟩
  · rw [c3]
    have z11 : (nwM M2 (D.2 (kF (!σ)))).1 11 = M2.1 9 := by rw [nw_i (by decide) (by decide)]; rfl
    have z12 : (nwM M2 (D.2 (kF (!σ)))).1 12 = M2.1 10 := by rw [nw_i (by decide) (by decide)]; rfl
    exact ⟨by rw [z11, h9]; exact hQ0, by rw [z12, h10]; exact hQ1⟩
  · obtain ⟨p1, p2, p3, p4, p5, p6, p7, p8⟩ := r10
    obtain ⟨s1, s2, s3, s4, s5⟩ := r2.1
    refine ⟨fun k hk => ?_, ?_, ?_, ?_, ?_, fun k hk i => ?_, fun τ i => ?_, fun i => ?_⟩
    · rw [Bool.not_not, cS, eS]
      match k, hk with
      | 0, _ => exact s5.1
      | 1, _ => exact s5.2.1
      | 2, _ => exact s5.2.2.1
      | 3, _ => exact s5.2.2.2
    · rw [Bool.not_not, cL, eL]; exact r2.2.1.1
    · rw [Bool.not_not, wn _ nF.2.1, hW _ nF.2.2.1]
      obtain ⟨-, -, -, -, l1, l2, l3⟩ := r2.2.2.2.2.2.2.2.2.1.1
      exact ⟨l1, l2, l3⟩
    · rw [cn 7 (by decide) (by decide) (by decide) (by decide)]; exact h7
    · rw [cn 6 (by decide) (by decide) (by decide) (by decide)]; exact h6
    · by_cases c1 : k = 1
      · rw [c1, w1]; exact hjk.2.2.2.1 i
      · rw [wn k c1]
        by_cases c : k = kF (!σ)
        · rw [c]; exact hjk.2.2.2.1 i
        · rw [hW k c]; exact p6 k hk i
    · rw [cS]
      by_cases c : τ = !σ
      · rw [c]; exact hjk.2.2.2.2 i
      · have : τ = σ := by
          revert c
          cases τ <;> cases σ <;> decide
        rw [this, eS]; exact p7 σ i
    · rw [c16, e16]; exact p8 i
  · rw [wn 5 (by decide), hW 5 nF.2.2.2.2]; exact r11
end IX1
