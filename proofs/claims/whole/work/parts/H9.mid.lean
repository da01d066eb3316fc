/-! text: what is kept if the text has a fault. -/
/-- the reference is the same but for what its reader works on -/
def lowM (M M' : aG) : Prop := lnM M' ∧ (∀ k, 14 < k → M'.1 k = M.1 k) ∧ M'.2.2 = M.2.2 ∧ (∀ k, 17 < k → M'.2.1 k = M.2.1 k) ∧ ∀ k, 0 < k → k < 18 → ∀ i, i < mlen k / 2 → fG M' k i = fG M k i
section HX9
variable {x : Nat} {C D : aC} {σ : Bool} {M M' : aG} {p n r t t0 q : Nat} {S L : aG} {F X : aW}
theorem lowM.k (h : lowM M M') {k i : Nat} (h0 : 0 < k) (h1 : k < 18) (hi : i < mlen k / 2) : fG M' k i = fG M k i := h.2.2.2.2 k h0 h1 i hi
theorem lowM.sg (h : lowM M M') {k i : Nat} (hi : i < lenW k) : stg M' k i = stg M k i := by
  have e0 : fG M' 1 0 = fG M 1 0 := h.k (by decide) (by decide) (by decide)
  have e1 : fG M' 1 1 = fG M 1 1 := h.k (by decide) (by decide) (by decide)
  have e3 : fG M' 1 3 = fG M 1 3 := h.k (by decide) (by decide) (by decide)
  have l1 : k < 2 → i < 6 := fun c => by unfold lenW at hi; rw [if_pos c] at hi; exact hi
  have l2 : 2 ≤ k → k < 6 → i < 8 := fun c c' => by unfold lenW at hi; rw [if_neg (by omega), if_pos c'] at hi; exact hi
  have l3 : 6 ≤ k → i < 10 := fun c => by unfold lenW at hi; rw [if_neg (by omega), if_neg (by omega)] at hi; exact hi
  unfold stg
  rw [e0, e1, e3]
  by_cases k0 : k = 0
  · rw [if_pos k0, if_pos k0, h.k (k := 4) (i := i) (by decide) (by decide) (l1 (by omega))]
  · rw [if_neg k0, if_neg k0]
    by_cases k2 : k = 2
    · rw [if_pos k2, if_pos k2, h.k (k := 5) (i := i) (by decide) (by decide) (l2 (by omega) (by omega))]
    · rw [if_neg k2, if_neg k2]
      by_cases k3 : k = 3
      · rw [if_pos k3, if_pos k3, h.k (k := 6) (i := i) (by decide) (by decide) (l2 (by omega) (by omega))]
      · rw [if_neg k3, if_neg k3]
        by_cases k4 : k = 4
        · rw [if_pos k4, if_pos k4, h.k (k := 7) (i := i) (by decide) (by decide) (l2 (by omega) (by omega))]
        · rw [if_neg k4, if_neg k4]
          by_cases k8 : k = 8
          · rw [if_pos k8, if_pos k8, h.k (k := 12) (i := i) (by decide) (by decide) (l3 (by omega))]
          · rw [if_neg k8, if_neg k8]
            by_cases k9 : k = 9
            · rw [if_pos k9, if_pos k9, h.k (k := 13) (i := i) (by decide) (by decide) (l3 (by omega))]
            · rw [if_neg k9, if_neg k9]
theorem lowM.w (h : lowM M M') (F : aW) {k i : Nat} (hk : k < 12) (hi : i < lenW k) : fA (stW M' F) k i = fA (stW M F) k i := by
  by_cases c : k = 6 ∨ k = 7
  · unfold fA
    show (if k = 6 ∨ k = 7 then F.2 k else (List.range (lenW k)).map (stg M' k)).getD i 0 = (if k = 6 ∨ k = 7 then F.2 k else (List.range (lenW k)).map (stg M k)).getD i 0
    rw [if_pos c, if_pos c]
  · rw [stW_f (fun z => c (Or.inl z)) (fun z => c (Or.inr z)) hi, stW_f (fun z => c (Or.inl z)) (fun z => c (Or.inr z)) hi, h.sg hi]
theorem lowM.cm (h : lowM M M') (hr : r ≤ 10) (hc : cmM M X r) : cmM M' X r := fun i hi => by
  rw [h.k (k := 10) (i := i) (by decide) (by decide) (by show i < 10; omega), h.k (k := 11) (i := i) (by decide) (by decide) (by show i < 10; omega)]
  exact hc i hi
theorem lowM.dk (h : lowM M M') {d : Nat} (hd : dkA M d X t r p) : dkA M' d X t r p := by
  have e : ∀ k i, 17 < k → fG M' k i = fG M k i := fun k i hk => by unfold fG; rw [h.2.2.2.1 k hk]
  have ik : ∀ k, k < 12 → k ≠ 6 → k ≠ 7 → 17 < ikW k := by decide
  obtain ⟨d1, d2, d3, d4, d5, d6⟩ := hd
  refine ⟨by rw [e 18 _ (by decide)]; exact d1, by rw [e 19 _ (by decide)]; exact d2, by rw [e 20 _ (by decide)]; exact d3, fun k hk i hi => by rw [e _ _ (ik k (by omega) (by omega) (by omega))]; exact d4 k hk i hi, fun k h1 h2 i hi => by rw [e _ _ (ik k (by omega) (by omega) (by omega))]; exact d5 k h1 h2 i hi, fun k h1 h2 i hi => by rw [e _ _ (ik k (by omega) (by omega) (by omega))]; exact d6 k h1 h2 i hi⟩
theorem lowM.tx (h : lowM M M') (ht : TXr S L F M p n r t0) : TXr S L F M' p n r t0 := by
  obtain ⟨t1, t2, t3, t4, t5, t6, t7, t8, t9, t10, t11, t12⟩ := ht
  obtain ⟨s1, s2, s3, s4, s5, s6, s7, s8, s9, s10, s11⟩ := t3
  have hw8 := t9.1.2.2.1
  refine ⟨t1, t2, ⟨h.1, by rw [h.k (by decide) (by decide) (by decide)]; exact s2, by rw [h.k (by decide) (by decide) (by decide)]; exact s3, by rw [h.k (by decide) (by decide) (by decide)]; exact s4, s5, s6, s7, fun i hi => by rw [h.k (k := 3) (i := i) (by decide) (by decide) (by show i < 6; omega)]; exact s8 i hi, fun i hi => ?_, fun k hk => ?_, fun k hk i i1 i2 => ?_⟩, fun i hi => ?_, by rw [h.k (by decide) (by decide) (by decide)]; exact t5, by rw [h.k (by decide) (by decide) (by decide)]; exact t6, by rw [h.k (by decide) (by decide) (by decide)]; exact t7, by rw [h.k (by decide) (by decide) (by decide)]; exact t8, t9, t10, h.cm s7 t11, ?_⟩
  · rw [h.k (k := 8) (i := i) (by decide) (by decide) (by show i < 6; omega), h.k (k := 9) (i := i) (by decide) (by decide) (by show i < 6; omega)]; exact s9 i hi
  · rw [h.k (k := 14) (i := k) (by decide) (by decide) (by show k < 3; omega), h.k (k := 15) (i := k) (by decide) (by decide) (by show k < 3; omega)]; exact s10 k hk
  · obtain ⟨a, b, g1, g2, g3, g4, g5⟩ := t2.2 k hk
    have hb : i < 64 := by
      rw [g2, nI_clamp (by omega)] at i2
      omega
    rw [h.k (k := 16) (i := i) (by decide) (by decide) (by show i < 64; omega), h.k (k := 17) (i := i) (by decide) (by decide) (by show i < 64; omega)]; exact s11 k hk i i1 i2
  · rw [h.k (k := 2) (i := i) (by decide) (by decide) (by show i < 6; omega)]; exact t4 i hi
  · obtain ⟨a1, a2, a3, a4, a5⟩ := t12
    refine ⟨a1, a2, fun k hk i hi => ?_, fun k k1 k2 i hi => ?_, fun k k1 k2 i hi => ?_⟩
    · rw [h.w F (by omega) (by unfold lenW; rw [if_pos hk]; omega)]; exact a3 k hk i hi
    · rw [h.w F (by omega) (by unfold lenW; rw [if_neg (by omega), if_pos k2]; omega)]; exact a4 k k1 k2 i hi
    · rw [h.w F (by omega) (by unfold lenW; rw [if_neg (by omega), if_neg (by omega)]; omega)]; exact a5 k k1 k2 i hi
/-- a faulty text leaves all but the reader as it was -/
theorem Rp_fail (hR : Rp x C M σ p n r t t0 q) (hl : lowM M M') (h1 : M'.1 1 = 0) (hfx : fx x D σ) (hn : ∀ k, k ≠ 0 → k ≠ 3 → k ≠ 6 → k ≠ 7 → k ≠ kS (!σ) → k ≠ kL (!σ) → D.1 k = C.1 k) (hN : D.1 0 = gI (C.1 0) 0 0) (hW : ∀ k, k ≠ kF (!σ) → D.2 k = C.2 k) (h7 : ((D.1 7).2.1 0).length = 72) (h6 : (D.1 6).2.1 1 = wordL) (hj : jkD σ D) (h11 : (D.1 3).1 0 = M'.1 11) (h12 : (D.1 3).1 1 = M'.1 12) : Rp x D M' σ p n r t t0 q := by
  obtain ⟨r1, r2, r3, r4, r5, r6, r7, r8, r9, r10, r11⟩ := hR
  have nS : kS σ ≠ 0 ∧ kS σ ≠ 3 ∧ kS σ ≠ 6 ∧ kS σ ≠ 7 ∧ kS σ ≠ kS (!σ) ∧ kS σ ≠ kL (!σ) := by cases σ <;> decide
  have nL : kL σ ≠ 0 ∧ kL σ ≠ 3 ∧ kL σ ≠ 6 ∧ kL σ ≠ 7 ∧ kL σ ≠ kS (!σ) ∧ kL σ ≠ kL (!σ) := by cases σ <;> decide
  have nF : kF σ ≠ kF (!σ) ∧ 1 ≠ kF (!σ) ∧ 2 ≠ kF (!σ) ∧ 5 ≠ kF (!σ) := by cases σ <;> decide
  have n15 : (15 : Nat) ≠ kS (!σ) ∧ 15 ≠ kL (!σ) ∧ 16 ≠ kS (!σ) ∧ 16 ≠ kL (!σ) := by cases σ <;> decide
  have eS := hn (kS σ) nS.1 nS.2.1 nS.2.2.1 nS.2.2.2.1 nS.2.2.2.2.1 nS.2.2.2.2.2
  have eL := hn (kL σ) nL.1 nL.2.1 nL.2.2.1 nL.2.2.2.1 nL.2.2.2.2.1 nL.2.2.2.2.2
  have e15 := hn 15 (by decide) (by decide) (by decide) (by decide) n15.1 n15.2.1
  have e16 := hn 16 (by decide) (by decide) (by decide) (by decide) n15.2.2.1 n15.2.2.2
  have i14 : ∀ k, 14 < k → M'.1 k = M.1 k := hl.2.1
  have ro : ∀ k i, 17 < k → fG M' k i = fG M k i := fun k i hk => by unfold fG; rw [hl.2.2.2.1 k hk]
  refine ⟨hfx, ?_, ?_, ?_, ?_, ?_, ?_, ?_, ⟨h11, h12⟩, ?_, ?_⟩
  · rw [eS, eL, hW _ nF.1]; exact hl.tx r2
  · rw [hW 1 nF.2.1]
    exact ⟨r3.1, hl.cm r3.1.1.2.2.2.1 r3.2.1, hl.dk r3.2.2.1, r3.2.2.2⟩
  · obtain ⟨o1, o2, o3, o4, o5⟩ := r4
    exact ⟨by rw [i14 18 (by decide)]; exact o1, by rw [i14 19 (by decide)]; exact o2, by rw [i14 20 (by decide)]; exact o3, by rw [i14 21 (by decide)]; exact o4, by rw [hl.2.2.1]; exact o5⟩
  · obtain ⟨a1, a2, a3⟩ := r5
    rw [hN, hW 2 nF.2.2.1]
    refine ⟨by rw [i14 16 (by decide)]; exact a1, a2, ?_⟩
    rw [i14 16 (by decide)]
    rcases a3 with a3 | ⟨a3, ti, qi, a4, a5, a6, a7⟩
    · exact Or.inl a3
    · exact Or.inr ⟨a3, ti, qi, a4, hl.cm r3.1.1.2.2.2.1 a5, hl.dk a6, a7⟩
  · rw [e16, hW 1 nF.2.1]
    exact r6.m (i14 17 (by decide)) (fun d X t _ _ _ h => hl.dk h)
  · rw [e15]
    obtain ⟨u1, w, u2, u3, u4, u5, u6, u7⟩ := r7
    refine ⟨u1, w, u2, u3, by rw [i14 26 (by decide)]; exact u4, by rw [i14 27 (by decide)]; exact u5, by rw [i14 27 (by decide)]; exact u6, fun i hi => ?_⟩
    have := u7 i hi
    unfold RUi at this ⊢
    rw [ro 34 i (by decide), ro 35 i (by decide), ro 36 i (by decide), ro 37 i (by decide)]
    exact this
  · rw [hN]
    exact ⟨r8.1, 0, by decide, rfl, h1, fun i hi => absurd hi (by omega)⟩
  · obtain ⟨p1, p2, p3, p4, p5, p6, p7, p8⟩ := r10
    obtain ⟨j1, j2, j3, j4, j5⟩ := hj
    refine ⟨j1, j2, j3, h7, h6, fun k hk i => ?_, fun τ i => ?_, fun i => by rw [e16]; exact p8 i⟩
    · by_cases c : k = kF (!σ)
      · rw [c]; exact j4 i
      · rw [hW k c]; exact p6 k hk i
    · by_cases c : τ = !σ
      · rw [c]; exact j5 i
      · have : τ = σ := by
          revert c
          cases τ <;> cases σ <;> decide
        rw [this, eS]; exact p7 σ i
  · rw [hW 5 nF.2.2.2]; exact r11
end HX9
