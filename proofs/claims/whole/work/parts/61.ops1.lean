/-! Simple answers. -/
/-- a call of the class and of the reference: the same answer, and they still belong together -/
def opI (xs : List Int32) (d : Nat) (H h : ia_H) (x a : Nat) (C : aC) (M : aG) (jc jm : Nat) (as : List Value) : Prop := ∃ v C' M', Rl x C' M' ∧ ia_cal xs (d + 20) jc (.ref x :: as) (tot H x C) = some (some (.int v), tot H x C') ∧ ia_cal xs (d + 20) jm (.ref a :: as) (pM h a M) = some (some (.int v), pM h a M')
theorem opI_of {xs : List Int32} {d : Nat} {H h : ia_H} {x a : Nat} {C : aC} {M : aG} {jc jm : Nat} {as : List Value} (v : Int32) (hR : Rl x C (gI M 0 0)) (h1 : ia_cal xs (d + 20) jc (.ref x :: as) (tot H x C) = some (some (.int v), tot H x C)) (h2 : ia_cal xs (d + 20) jm (.ref a :: as) (pM h a M) = some (some (.int v), pM h a (gI M 0 0))) : opI xs d H h x a C M jc jm as := ⟨v, C, gI M 0 0, hR, h1, h2⟩
theorem or0 (x : Int32) : x ||| 0 = x := by
  apply bB_ext
  intro m _
  rw [bB_or, bB_0]
  simp
def buF (X : aW) : Nat → Int32 × Int32
  | 0 => (-2, 0)
  | i + 1 => if (buF X i).2 < fA X 1 i then (nI i, fA X 1 i) else buF X i
def hdF (X : aW) (v : Int32) : Nat → Int32
  | 0 => 0
  | i + 1 => if fA X 7 i = v ∧ 0 < fA X 11 i ∧ thruI (fA X 10 i) = 0 then hdF X v i ||| ((1 : Int32) <<< (nI i &&& 31)) else hdF X v i
section O1
variable (xs : List Int32) (d : Nat) {H h : ia_H} {x a : Nat} {C : aC} {M : aG} {σ : Bool} {p n r t t0 q : Nat}
theorem op_fault (hR : Rp x C M σ p n r t t0 q) (v : Int32) : opI xs d H h x a C M im_Eng_fault im_Mod_fault [.int v] := by
  have hf := hR.2.2.2.2.2.2.2.2.1
  refine opI_of (if v = 0 then M.1 11 else if v = 1 then M.1 12 else -1) (hR.t 0).l ?_ ?_
  · rw [iu_Eng_fault, iq_Eng_fault_0]
    simp only [↓tN_Rb hR.1, ↓tQ_Ib, hf.1, hf.2]
    split
    · rfl
    · split <;> rfl
  · rw [iu_Mod_fault, iq_Mod_fault_0]
    simp only [↓pM_pfb, ↓pM_Ib]
    split
    · rfl
    · split <;> rfl
theorem p_found (hl : lnM M) {m : Nat} (hm : m ≤ 6) (v : Int32) : ia_cal xs (d + 1) im_Mod_found [.ref (a + 3), .int 0, .int (nI m), .int v] (pM h a M) = some (some (.int (fstI (fun i => fG M 2 i = v) m 0)), pM h a M) := by
  rw [iu_Mod_found, iq_Mod_found_0, ← srch_fst]
  refine lp_find (F := fun N i => ia_qr xs (ia_cal xs d) im_Mod_found N 2 [.ref (a + 3), .int 0, .int (nI m), .int v, .int (nI i)] [] (pM h a M)) (N := m) (cost := 1) (fun i hi N hN => ?_) (fun N => ?_) m 0 (by omega) _ (by omega)
  · obtain ⟨N, rfl⟩ : ∃ m, N = m + 1 := ⟨N - 1, by omega⟩
    refine ⟨N, Nat.le_refl _, ?_⟩
    have r2 : rd (M.2.1 2) (0 + nI i) = some (fG M 2 i) := by rw [Int32.zero_add]; exact rdk hl (by decide) (by show i < 12; omega) (by decide)
    rw [iq_Mod_found_2]
    simp only [↓if_p (nI_lt hi (show m < 2 ^ 31 by omega)), ↓pM_ldb, ↓bs r2, nI_1]
  · rw [iq_Mod_found_2]
    simp only [↓if_n (nI_nlt (Nat.le_refl m) (show m < 2 ^ 31 by omega))]
theorem op_named (hR : Rp x C M σ p n r t t0 q) (v : Int32) : opI xs d H h x a C M im_Eng_named im_Mod_named [.int v] := by
  have hT := hR.2.1
  have hs := hT.2.2.1
  have hp := hs.2.2.2.2.1
  refine opI_of (fstI (fun i => fG (C.1 (kS σ)) 0 i = v) p 0) (hR.t 0).l ?_ ?_
  · rw [iu_Eng_named, iq_Eng_named_0]
    simp only [↓tN_Rb hR.1, ↓tS_clsb, ↓cI_of (t_personNamed xs (d + 18) hT.1 v)]
  · have hl' : lnM (gI M 0 0) := hs.1
    have nn := (num_M hl').1
    rw [show fG (gI M 0 0) 1 0 = nI p from hs.2.1] at nn
    have e : fstI (fun i => fG (gI M 0 0) 2 i = v) p 0 = fstI (fun i => fG (C.1 (kS σ)) 0 i = v) p 0 := fstI_c p 0 fun j _ hj => by
      rw [show fG (gI M 0 0) 2 j = fG (C.1 (kS σ)) 0 j from hT.2.2.2.1 j (by omega)]
    rw [iu_Mod_named, iq_Mod_named_0, ← e]
    simp only [↓pM_pfb, ↓pM_Rb, ↓pM_ldb, ↓bs nn, ↓cI_of (p_found xs (d + 18) hl' hp v)]
theorem op_price (hR : Rp x C M σ p n r t t0 q) (v : Int32) : opI xs d H h x a C M im_Eng_price im_Mod_price [.int v] := by
  have hT := hR.2.1
  have hs : rsM (gI M 0 0) (C.1 (kS σ)) (C.1 (kL σ)) r p n := hT.2.2.1
  refine opI_of (if v < 0 then -1 else if 9999 < v then -1 else (prF (fG (C.1 (kS σ)) 2) (fG (C.1 (kS σ)) 3) v n).2) (hR.t 0).l ?_ ?_
  · rw [iu_Eng_price, iq_Eng_price_0]
    simp only [↓tN_Rb hR.1, ↓tS_clsb, ↓cI_of (t_priceAt xs (d + 18) hT.1 v)]
    split
    · rfl
    · split <;> rfl
  · rw [iu_Mod_price, iq_Mod_price_0]
    simp only [↓pM_pfb, ↓pM_clsb, ↓cI_of (p_priceAt xs (d + 18) hs v)]
    split
    · rfl
    · split <;> rfl
theorem op_man (hR : Rp x C M σ p n r t t0 q) (v w : Int32) : opI xs d H h x a C M im_Eng_man im_Mod_man [.int v, .int w] := by
  have hT := hR.2.1
  have hs : rsM (gI M 0 0) (C.1 (kS σ)) (C.1 (kL σ)) r p n := hT.2.2.1
  have hn : NWr (C.2 1) (gI M 0 0) t r p q := hR.2.2.1
  have hX := hn.1
  have hp6 := hX.2.1
  have hl := hs.1
  rcases inI_c v (show p < 2 ^ 31 by omega) with c0 | ⟨c0, m, hm, rfl⟩
  · refine opI_of (-1) (hR.t 0).l ?_ ?_
    · rw [iu_Eng_man, iq_Eng_man_0]
      simp only [↓tN_clsb, ↓cI_of (e_isPerson xs (d + 18) hR.1 hT.1 v), ↓if_p c0]
    · rw [iu_Mod_man, iq_Mod_man_0]
      simp only [↓pM_pfb, ↓pM_clsb, ↓cI_of (p_isMan xs (d + 18) hs v), ↓if_p c0]
  · have c1 : ¬ inI (nI m) p = 0 := by rw [c0]; decide
    have v1 : rd ((C.1 (kS σ)).2.1 1) (nI m) = some (fG (C.1 (kS σ)) 1 m) := rdG (by rw [hT.1.2.2.2.2.2.1]; omega) (by rw [hT.1.2.2.2.2.2.1]; decide)
    have v2 : rd ((gI M 0 0).2.1 3) (nI m) = some (fG (C.1 (kS σ)) 1 m) := by rw [rdk hl (by decide) (by show m < 12; omega) (by decide), hs.2.2.2.2.2.2.2.1 m hm]
    have w0 : rd ((C.2 1).2 0) (nI m) = some (fA (C.2 1) 0 m) := rdA (by rw [hX.1.ln.1]; omega) (by rw [hX.1.ln.1]; decide)
    have w1 : rd ((C.2 1).2 1) (nI m) = some (fA (C.2 1) 1 m) := rdA (by rw [hX.1.ln.2.1]; omega) (by rw [hX.1.ln.2.1]; decide)
    have u0 : rd ((gI M 0 0).2.1 21) (nI m) = some (fA (C.2 1) 0 m) := d0_p hn hl (k := 0) (by decide) hm
    have u1 : rd ((gI M 0 0).2.1 22) (nI m) = some (fA (C.2 1) 1 m) := d0_p hn hl (k := 1) (by decide) hm
    have eg : ((engX (C.2 1) t r >>> (nI m &&& 31)) &&& 1) = if egI (C.2 1) t r (nI m) = 0 then 0 else 1 := by
      rw [bt_iff1 (by omega)]
      by_cases c : egI (C.2 1) t r (nI m) = 0
      · rw [if_pos c, (eg_iff hX (by omega)).mpr c]; rfl
      · rw [if_neg c, if_pos]
        cases hb : bB (engX (C.2 1) t r) m with
        | true => rfl
        | false => exact absurd ((eg_iff hX (by omega)).mp hb) c
    refine opI_of (if w = 0 then fG (C.1 (kS σ)) 1 m else if w = 1 then fA (C.2 1) 0 m else if w = 2 then fA (C.2 1) 1 m else if w = 3 then (if egI (C.2 1) t r (nI m) = 0 then 0 else 1) else if w = 4 then coI (C.2 1) r (nI m) else -1) (hR.t 0).l ?_ ?_
    · rw [iu_Eng_man, iq_Eng_man_0]
      simp only [↓tN_clsb, ↓cI_of (e_isPerson xs (d + 18) hR.1 hT.1 _), ↓if_n c1, ↓tN_Rb hR.1, ↓tS_Rb hR.1, ↓tS_ldb, ↓bs v1, ↓tW_Rb (show 1 < 7 by decide), ↓tW_ldb (show 1 < 7 by decide), ↓bs w0, ↓bs w1, ↓tW_clsb (show 1 < 7 by decide), ↓cI_of (w_engaged xs (d + 17) (show 1 < 7 by decide) hX.1), ↓cI_of (w_ringOf xs (d + 18) (show 1 < 7 by decide) hX.1 _), eg]
      by_cases c : w = 0
      · simp only [if_pos c]
      · by_cases c2 : w = 1
        · simp only [if_neg c, if_pos c2]
        · by_cases c3 : w = 2
          · simp only [if_neg c, if_neg c2, if_pos c3]
          · by_cases c4 : w = 3
            · simp only [if_neg c, if_neg c2, if_neg c3, if_pos c4]
            · by_cases c5 : w = 4
              · simp only [if_neg c, if_neg c2, if_neg c3, if_neg c4, if_pos c5]
              · simp only [if_neg c, if_neg c2, if_neg c3, if_neg c4, if_neg c5]
    · rw [iu_Mod_man, iq_Mod_man_0]
      simp only [↓pM_pfb, ↓pM_clsb, ↓cI_of (p_isMan xs (d + 18) hs _), ↓if_n c1, ↓pM_Rb, ↓pM_ldb, ↓bs v2, ↓bs u0, ↓bs u1, ↓cI_of (p_isEngaged xs (d + 17) hs hn _), ↓cI_of (p_callOf xs (d + 18) hs hn _)]
      by_cases c : w = 0
      · simp only [if_pos c]
      · by_cases c2 : w = 1
        · simp only [if_neg c, if_pos c2]
        · by_cases c3 : w = 2
          · simp only [if_neg c, if_neg c2, if_pos c3]
          · by_cases c4 : w = 3
            · simp only [if_neg c, if_neg c2, if_neg c3, if_pos c4]
              split <;> rfl
            · by_cases c5 : w = 4
              · simp only [if_neg c, if_neg c2, if_neg c3, if_neg c4, if_pos c5]
              · simp only [if_neg c, if_neg c2, if_neg c3, if_neg c4, if_neg c5]
theorem op_tone (hR : Rp x C M σ p n r t t0 q) (v w : Int32) : opI xs d H h x a C M im_Eng_tone im_Mod_tone [.int v, .int w] := by
  have hT := hR.2.1
  have hs : rsM (gI M 0 0) (C.1 (kS σ)) (C.1 (kL σ)) r p n := hT.2.2.1
  have hn : NWr (C.2 1) (gI M 0 0) t r p q := hR.2.2.1
  have hX := hn.1
  have ht8 := hX.1.2.2.1
  have hl := hs.1
  rcases inI_c v (show t < 2 ^ 31 by omega) with c0 | ⟨c0, m, hm, rfl⟩
  · refine opI_of (-1) (hR.t 0).l ?_ ?_
    · rw [iu_Eng_tone, iq_Eng_tone_0]
      simp only [↓tN_clsb, ↓cI_of (e_isTone xs (d + 18) hR.1 hX.1 v), ↓if_p c0]
    · rw [iu_Mod_tone, iq_Mod_tone_0]
      simp only [↓pM_pfb, ↓pM_clsb, ↓cI_of (p_isTone xs (d + 18) hl hn v), ↓if_p c0]
  · have c1 : ¬ inI (nI m) t = 0 := by rw [c0]; decide
    obtain ⟨w2, w3, w4, w5⟩ := hX.1.rt hm
    have u2 : rd ((gI M 0 0).2.1 23) (nI m) = some (fA (C.2 1) 2 m) := d0_t hn hl (k := 2) (by decide) (by decide) hm
    have u3 : rd ((gI M 0 0).2.1 24) (nI m) = some (fA (C.2 1) 3 m) := d0_t hn hl (k := 3) (by decide) (by decide) hm
    have u4 : rd ((gI M 0 0).2.1 25) (nI m) = some (fA (C.2 1) 4 m) := d0_t hn hl (k := 4) (by decide) (by decide) hm
    have u5 : rd ((gI M 0 0).2.1 26) (nI m) = some (fA (C.2 1) 5 m) := d0_t hn hl (k := 5) (by decide) (by decide) hm
    refine opI_of (if w = 0 then fA (C.2 1) 2 m else if w = 1 then fA (C.2 1) 3 m else if w = 2 then fA (C.2 1) 4 m else if w = 3 then fA (C.2 1) 5 m else -1) (hR.t 0).l ?_ ?_
    · rw [iu_Eng_tone, iq_Eng_tone_0]
      simp only [↓tN_clsb, ↓cI_of (e_isTone xs (d + 18) hR.1 hX.1 _), ↓if_n c1, ↓tN_Rb hR.1, ↓tW_Rb (show 1 < 7 by decide), ↓tW_ldb (show 1 < 7 by decide), ↓bs w2, ↓bs w3, ↓bs w4, ↓bs w5]
      by_cases c : w = 0
      · simp only [if_pos c]
      · by_cases c2 : w = 1
        · simp only [if_neg c, if_pos c2]
        · by_cases c3 : w = 2
          · simp only [if_neg c, if_neg c2, if_pos c3]
          · by_cases c4 : w = 3
            · simp only [if_neg c, if_neg c2, if_neg c3, if_pos c4]
            · simp only [if_neg c, if_neg c2, if_neg c3, if_neg c4]
    · rw [iu_Mod_tone, iq_Mod_tone_0]
      simp only [↓pM_pfb, ↓pM_clsb, ↓cI_of (p_isTone xs (d + 18) hl hn _), ↓if_n c1, ↓pM_Rb, ↓pM_ldb, ↓bs u2, ↓bs u3, ↓bs u4, ↓bs u5]
      by_cases c : w = 0
      · simp only [if_pos c]
      · by_cases c2 : w = 1
        · simp only [if_neg c, if_pos c2]
        · by_cases c3 : w = 2
          · simp only [if_neg c, if_neg c2, if_pos c3]
          · by_cases c4 : w = 3
            · simp only [if_neg c, if_neg c2, if_neg c3, if_pos c4]
            · simp only [if_neg c, if_neg c2, if_neg c3, if_neg c4]
theorem op_busiest (hR : Rp x C M σ p n r t t0 q) : opI xs d H h x a C M im_Eng_busiest im_Mod_busiest [] := by
  have hT := hR.2.1
  have hs : rsM (gI M 0 0) (C.1 (kS σ)) (C.1 (kL σ)) r p n := hT.2.2.1
  have hn : NWr (C.2 1) (gI M 0 0) t r p q := hR.2.2.1
  have hX := hn.1
  have hp6 := hX.2.1
  have hl := hs.1
  have nn := (num_M hl).1
  rw [hs.2.1] at nn
  refine opI_of (buF (C.2 1) p).1 (hR.t 0).l ?_ ?_
  · rw [iu_Eng_busiest, iq_Eng_busiest_0]
    refine lp_up (F := fun N i => ia_qr xs (ia_cal xs (d + 19)) im_Eng_busiest N 6 [.ref x, .int (buF (C.2 1) i).1, .int (buF (C.2 1) i).2, .int (nI i)] [] (tot H x C)) (N := p) (cost := 1) (fun i hi N hN => ?_) (fun N => ?_) p 0 (by omega) _ (by omega)
    · obtain ⟨N, rfl⟩ : ∃ m, N = m + 1 := ⟨N - 1, by omega⟩
      refine ⟨N, Nat.le_refl _, ?_⟩
      have w1 : rd ((C.2 1).2 1) (nI i) = some (fA (C.2 1) 1 i) := rdA (by rw [hX.1.ln.2.1]; omega) (by rw [hX.1.ln.2.1]; decide)
      rw [iq_Eng_busiest_6]
      simp only [↓tN_Rb hR.1, ↓tS_Ib, hT.1.1, ↓if_p (nI_lt hi (show p < 2 ^ 31 by omega)), ↓tW_Rb (show 1 < 7 by decide), ↓tW_ldb (show 1 < 7 by decide), ↓bs w1, nI_1, buF]
      split <;> rfl
    · rw [iq_Eng_busiest_6]
      simp only [↓tN_Rb hR.1, ↓tS_Ib, hT.1.1, ↓if_n (nI_nlt (Nat.le_refl p) (show p < 2 ^ 31 by omega))]
  · rw [iu_Mod_busiest, iq_Mod_busiest_0]
    simp only [↓pM_pfb]
    have inv : ∀ i, i ≤ p → (((buF (C.2 1) i).1 = -2 ∧ (buF (C.2 1) i).2 = 0) ∨ ∃ j, j < i ∧ (buF (C.2 1) i).1 = nI j ∧ (buF (C.2 1) i).2 = fA (C.2 1) 1 j) := by
      intro i
      induction i with
      | zero => intro _; exact Or.inl ⟨rfl, rfl⟩
      | succ i ih =>
        intro hi
        rw [buF]
        split
        · exact Or.inr ⟨i, by omega, rfl, rfl⟩
        · rcases ih (by omega) with e | ⟨j, hj, e⟩
          · exact Or.inl e
          · exact Or.inr ⟨j, by omega, e⟩
    refine lp_up (F := fun N i => ia_qr xs (ia_cal xs (d + 19)) im_Mod_busiest N 7 [.ref a, .int (buF (C.2 1) i).1, .int (nI i)] [] (pM h a (gI M 0 0))) (N := p) (cost := 2) (fun i hi N hN => ?_) (fun N => ?_) p 0 (by omega) _ (by omega)
    · obtain ⟨N, rfl⟩ : ∃ m, N = m + 1 + 1 := ⟨N - 2, by omega⟩
      refine ⟨N, by omega, ?_⟩
      have u1 : rd ((gI M 0 0).2.1 22) (nI i) = some (fA (C.2 1) 1 i) := d0_p hn hl (k := 1) (by decide) hi
      have key : ∀ s0, s0 = (buF (C.2 1) i).2 → ia_qr xs (ia_cal xs (d + 19)) im_Mod_busiest (N + 1) 26 [.ref a, .int (buF (C.2 1) i).1, .int (nI i)] [.int s0, .int (fA (C.2 1) 1 i)] (pM h a (gI M 0 0)) = ia_qr xs (ia_cal xs (d + 19)) im_Mod_busiest N 7 [.ref a, .int (buF (C.2 1) (i + 1)).1, .int (nI (i + 1))] [] (pM h a (gI M 0 0)) := by
        intro s0 hs0
        rw [iq_Mod_busiest_26, buF, hs0]
        split <;> rw [nI_1]
      rw [iq_Mod_busiest_7]
      simp only [↓pM_Rb, ↓pM_ldb, ↓bs nn, ↓if_p (nI_lt hi (show p < 2 ^ 31 by omega)), ↓bs u1]
      rcases inv i (by omega) with ⟨e1, e2⟩ | ⟨j, hj, e1, e2⟩
      · rw [if_pos e1]
        exact key 0 e2.symm
      · have uj : rd ((gI M 0 0).2.1 22) (nI j) = some (fA (C.2 1) 1 j) := d0_p hn hl (k := 1) (by decide) (by omega)
        have hne : ¬ (buF (C.2 1) i).1 = -2 := by
          rw [e1]
          intro e
          have := congrArg Int32.toInt e
          rw [nI_toInt (by omega)] at this
          have e2 : (-2 : Int32).toInt = -2 := rfl
          omega
        rw [if_neg hne, e1]
        simp only [↓bs uj]
        rw [← e1]
        exact key _ e2.symm
    · rw [iq_Mod_busiest_7]
      simp only [↓pM_Rb, ↓pM_ldb, ↓bs nn, ↓if_n (nI_nlt (Nat.le_refl p) (show p < 2 ^ 31 by omega))]
theorem op_hard (hR : Rp x C M σ p n r t t0 q) (v : Int32) : opI xs d H h x a C M im_Eng_hard im_Mod_hard [.int v] := by
  have hT := hR.2.1
  have hs : rsM (gI M 0 0) (C.1 (kS σ)) (C.1 (kL σ)) r p n := hT.2.2.1
  have hn : NWr (C.2 1) (gI M 0 0) t r p q := hR.2.2.1
  have hX := hn.1
  have hr10 := hX.1.2.2.2.1
  have hl := hs.1
  have nn := (num_M hl).2.2.2.1
  rw [hs.2.2.2.1] at nn
  rcases inI_c v (show p < 2 ^ 31 by have := hX.2.1; omega) with c0 | ⟨c0, -⟩
  · refine opI_of (-1) (hR.t 0).l ?_ ?_
    · rw [iu_Eng_hard, iq_Eng_hard_0]
      simp only [↓tN_clsb, ↓cI_of (e_isPerson xs (d + 18) hR.1 hT.1 v), ↓if_p c0]
    · rw [iu_Mod_hard, iq_Mod_hard_0]
      simp only [↓pM_pfb, ↓pM_clsb, ↓cI_of (p_isMan xs (d + 18) hs v), ↓if_p c0]
  · have c1 : ¬ inI v p = 0 := by rw [c0]; decide
    refine opI_of (hdF (C.2 1) v r) (hR.t 0).l ?_ ?_
    · rw [iu_Eng_hard, iq_Eng_hard_0]
      simp only [↓tN_clsb, ↓cI_of (e_isPerson xs (d + 18) hR.1 hT.1 v), ↓if_n c1]
      refine lp_up (F := fun N i => ia_qr xs (ia_cal xs (d + 19)) im_Eng_hard N 10 [.ref x, .int v, .int (hdF (C.2 1) v i), .int (nI i)] [] (tot H x C)) (N := r) (cost := 1) (fun i hi N hN => ?_) (fun N => ?_) r 0 (by omega) _ (by omega)
      · obtain ⟨N, rfl⟩ : ∃ m, N = m + 1 := ⟨N - 1, by omega⟩
        refine ⟨N, Nat.le_refl _, ?_⟩
        obtain ⟨-, w7, -, -, -, w11⟩ := hX.1.rr hi
        rw [iq_Eng_hard_10]
        simp only [↓tN_Rb hR.1, ↓tW_Ib (show 1 < 7 by decide), hX.1.2.1, ↓if_p (nI_lt hi (show r < 2 ^ 31 by omega)), ↓tW_Rb (show 1 < 7 by decide), ↓tW_ldb (show 1 < 7 by decide), ↓bs w7, ↓bs w11, ↓tW_clsb (show 1 < 7 by decide), ↓cI_of (w_isThrough xs (d + 18) (show 1 < 7 by decide) hX.1 hi), nI_1, hdF]
        by_cases c2 : fA (C.2 1) 7 i = v
        · by_cases c3 : 0 < fA (C.2 1) 11 i
          · by_cases c4 : thruI (fA (C.2 1) 10 i) = 0
            · simp only [if_pos c2, if_pos c3, if_pos c4, if_pos (And.intro c2 (And.intro c3 c4))]
            · simp only [if_pos c2, if_pos c3, if_neg c4, if_neg (fun z : _ ∧ _ ∧ _ => c4 z.2.2)]
          · simp only [if_pos c2, if_neg c3, if_neg (fun z : _ ∧ _ ∧ _ => c3 z.2.1)]
        · simp only [if_neg c2, if_neg (fun z : _ ∧ _ ∧ _ => c2 z.1)]
      · rw [iq_Eng_hard_10]
        simp only [↓tN_Rb hR.1, ↓tW_Ib (show 1 < 7 by decide), hX.1.2.1, ↓if_n (nI_nlt (Nat.le_refl r) (show r < 2 ^ 31 by omega))]
    · rw [iu_Mod_hard, iq_Mod_hard_0]
      simp only [↓pM_pfb, ↓pM_clsb, ↓cI_of (p_isMan xs (d + 18) hs v), ↓if_n c1]
      refine lp_up (F := fun N i => ia_qr xs (ia_cal xs (d + 19)) im_Mod_hard N 13 [.ref a, .int v, .int (hdF (C.2 1) v i), .int (nI i)] [] (pM h a (gI M 0 0))) (N := r) (cost := 2) (fun i hi N hN => ?_) (fun N => ?_) r 0 (by omega) _ (by omega)
      · obtain ⟨N, rfl⟩ : ∃ m, N = m + 1 + 1 := ⟨N - 2, by omega⟩
        have u7 : rd ((gI M 0 0).2.1 11) (nI i) = some (fA (C.2 1) 7 i) := by rw [rdk hl (by decide) (by show i < 20; omega) (by decide), (hn.2.1 i hi).2]
        have u10 : rd ((gI M 0 0).2.1 29) (nI i) = some (fA (C.2 1) 10 i) := d0_r hn hl (k := 10) (by decide) (by decide) hi
        have u11 : rd ((gI M 0 0).2.1 30) (nI i) = some (fA (C.2 1) 11 i) := d0_r hn hl (k := 11) (by decide) (by decide) hi
        rw [iq_Mod_hard_13]
        simp only [↓pM_Rb, ↓pM_ldb, ↓bs nn, ↓if_p (nI_lt hi (show r < 2 ^ 31 by omega)), ↓bs u7, ↓bs u10, ↓bs u11, ↓cI_of (m_isThrough xs (d + 18) _ _), nI_1, hdF, iq_Mod_hard_41, or0]
        by_cases c2 : fA (C.2 1) 7 i = v
        · by_cases c3 : 0 < fA (C.2 1) 11 i
          · by_cases c4 : thruI (fA (C.2 1) 10 i) = 0
            · exact ⟨N + 1, by omega, by simp only [if_pos c2, if_pos c3, if_pos c4, if_pos (And.intro c2 (And.intro c3 c4))]⟩
            · exact ⟨N, by omega, by simp only [if_pos c2, if_pos c3, if_neg c4, if_neg (fun z : _ ∧ _ ∧ _ => c4 z.2.2)]⟩
          · exact ⟨N, by omega, by simp only [if_pos c2, if_neg c3, if_neg (fun z : _ ∧ _ ∧ _ => c3 z.2.1)]⟩
        · exact ⟨N, by omega, by simp only [if_neg c2, if_neg (fun z : _ ∧ _ ∧ _ => c2 z.1)]⟩
      · rw [iq_Mod_hard_13]
        simp only [↓pM_Rb, ↓pM_ldb, ↓bs nn, ↓if_n (nI_nlt (Nat.le_refl r) (show r < 2 ^ 31 by omega))]
end O1
