/-! round, the answer. -/
section O48
variable (xs : List Int32) (d : Nat) {H h : ia_H} {x a : Nat} {C : aC} {M S L : aG} {X : aW} {σ : Bool} {p n r t t0 q s : Nat}
theorem rd_out (hs : rsM M S L r p n) (hn : NWr X M t r p q) {B : Nat → Nat → Prop} (hB0 : ∀ u, u < p → (B 0 u ↔ u = s)) (hBs : ∀ k v, v < p → (B (k + 1) v ↔ B k v ∨ ∃ u, u < p ∧ B k u ∧ adP (fA X 10) (fA X 6) (fA X 7) r u v)) (hBm : ∀ k j u, k ≤ j → B k u → B j u) {o : Nat} (ho : o < p) :
    ∀ k hd vis dd qf e D Q N, hd + k = p → hd ≤ e → bfI B (adP (fA X 10) (fA X 6) (fA X 7) r) p s vis dd qf e hd → qrR D Q vis dd qf e → 9 * k + 2 ≤ N → ∃ v D' Q', D'.length = 6 ∧ Q'.length = 6 ∧ ((∃ m, m < 6 ∧ v = nI m ∧ B m o ∧ ∀ j, j < m → ¬ B j o) ∨ (v = -2 ∧ ∀ j, ¬ B j o)) ∧ ia_qr xs (ia_cal xs (d + 19)) im_Mod_round N 39 [.ref a, .float 0, .int (nI o), .int (nI e), .int (nI hd), .float 0] [] (pM h a (gA (gA M 32 D) 33 Q)) = some (some (.int v), pM h a (gA (gA M 32 D') 33 Q')) := by
  intro k
  have hp6 := hn.1.2.1
  have fin : ∀ hd vis dd qf e D Q N, ¬ hd < e → hd ≤ e → bfI B (adP (fA X 10) (fA X 6) (fA X 7) r) p s vis dd qf e hd → qrR D Q vis dd qf e → ∃ v D' Q', D'.length = 6 ∧ Q'.length = 6 ∧ ((∃ m, m < 6 ∧ v = nI m ∧ B m o ∧ ∀ j, j < m → ¬ B j o) ∨ (v = -2 ∧ ∀ j, ¬ B j o)) ∧ ia_qr xs (ia_cal xs (d + 19)) im_Mod_round (N + 1) 39 [.ref a, .float 0, .int (nI o), .int (nI e), .int (nI hd), .float 0] [] (pM h a (gA (gA M 32 D) 33 Q)) = some (some (.int v), pM h a (gA (gA M 32 D') 33 Q')) := by
    intro hd vis dd qf e D Q N hnl hle hI hQ
    obtain ⟨q1, q2, q3, q4⟩ := hQ
    have he : e ≤ p := by rw [hI.2.2.2.1]; exact nV_le p
    have rD : rd ((gA (gA M 32 D) 33 Q).2.1 32) (nI o) = some (if vis o = true then nI (dd o) else -2) := by
      rw [gA_n (by decide), gA_s, rdN (by omega) (by omega), q3 o (by omega)]
    refine ⟨if vis o = true then nI (dd o) else -2, D, Q, q1, q2, ?_, ?_⟩
    · by_cases cv : vis o = true
      · rw [if_pos cv]
        obtain ⟨l, hl, el⟩ := hI.2.1 o ho cv
        have h10 := hI.2.2.2.2.2.2.2.2.2 l hl
        rw [el] at h10
        exact Or.inl ⟨dd o, by omega, rfl, hI.2.2.2.2.1 o ho cv⟩
      · rw [if_neg cv]
        exact Or.inr ⟨rfl, fun j hb => cv (bf_end hI hnl hB0 hBs j o ho hb)⟩
    · rw [iq_Mod_round_39]
      simp only [↓if_n (nI_nlt (show e ≤ hd by omega) (show hd < 2 ^ 31 by omega)), ↓pM_Rb, ↓pM_ldb, ↓bs rD]
  induction k with
  | zero =>
    intro hd vis dd qf e D Q N hk hle hI hQ hN
    obtain ⟨N, rfl⟩ : ∃ k, N = k + 1 := ⟨N - 1, by omega⟩
    have he : e ≤ p := by rw [hI.2.2.2.1]; exact nV_le p
    exact fin hd vis dd qf e D Q N (by omega) hle hI hQ
  | succ k ih =>
    intro hd vis dd qf e D Q N hk hle hI hQ hN
    obtain ⟨N, rfl⟩ : ∃ k, N = k + 1 := ⟨N - 1, by omega⟩
    by_cases c : hd < e
    · have he : e ≤ p := by rw [hI.2.2.2.1]; exact nV_le p
      obtain ⟨vis', dd', qf', e', D', Q', N', g1, g2, g3, g4, g5⟩ := rd_in xs d (h := h) (a := a) (s := s) hs hn hBs hBm (nI o) p 0 vis dd qf e D Q N (by omega) c hI hQ (fun v hv => by omega) (by omega)
      obtain ⟨v, D2, Q2, k1, k2, k3, k4⟩ := ih (hd + 1) vis' dd' qf' e' D' Q' N' (by omega) (by omega) g3 g4 (by omega)
      refine ⟨v, D2, Q2, k1, k2, k3, ?_⟩
      rw [iq_Mod_round_39, if_p (nI_lt c (by omega))]
      exact g5.trans k4
    · exact fin hd vis dd qf e D Q N c hle hI hQ
theorem op_round (hR : Rp x C M σ p n r t t0 q) (v1 v2 : Int32) : opI xs d H h x a C M im_Eng_round im_Mod_round [.int v1, .int v2] := by
  have hR0 := hR.t 0
  have hT := hR0.2.1
  have hs := hT.2.2.1
  have hn := hR0.2.2.1
  have hX := hn.1
  have hp6 := hX.2.1
  have hl := hs.1
  rw [opI, iu_Eng_round, iq_Eng_round_0, iu_Mod_round, iq_Mod_round_0]
  simp only [↓pM_pfb, ↓tN_clsb, ↓cI_of (e_isPerson xs (d + 18) hR.1 hT.1 _), ↓pM_clsb, ↓cI_of (p_isMan xs (d + 18) hs _)]
  rcases inI_c v1 (show p < 2 ^ 31 by omega) with c0 | ⟨c0, u, hu, rfl⟩
  · exact ⟨-1, C, gI M 0 0, hR0.l, by rw [if_pos c0], by rw [if_pos c0]⟩
  have c1 : ¬ inI (nI u) p = 0 := by rw [c0]; decide
  rw [if_neg c1, if_neg c1]
  rcases inI_c v2 (show p < 2 ^ 31 by omega) with c2 | ⟨c2, o, ho, rfl⟩
  · exact ⟨-1, C, gI M 0 0, hR0.l, by rw [if_pos c2], by rw [if_pos c2]⟩
  have c3 : ¬ inI (nI o) p = 0 := by rw [c2]; decide
  rw [if_neg c3, if_neg c3]
  have hBs : ∀ k v, v < p → (blB (fA (C.2 1) 10) (fA (C.2 1) 6) (fA (C.2 1) 7) r u (k + 1) v ↔ blB (fA (C.2 1) 10) (fA (C.2 1) 6) (fA (C.2 1) 7) r u k v ∨ ∃ w, w < p ∧ blB (fA (C.2 1) 10) (fA (C.2 1) 6) (fA (C.2 1) 7) r u k w ∧ adP (fA (C.2 1) 10) (fA (C.2 1) 6) (fA (C.2 1) 7) r w v) := fun k v hv => bl_s hp6 hX.2.2.2.1 hX.2.2.2.2 (by omega)
  -- the class
  have cls : ∀ k i N, i + k = 6 → k + 1 ≤ N → (∀ j, j < i → ¬ blB (fA (C.2 1) 10) (fA (C.2 1) 6) (fA (C.2 1) 7) r u j o) → ∃ v, ((∃ m, m < 6 ∧ v = nI m ∧ blB (fA (C.2 1) 10) (fA (C.2 1) 6) (fA (C.2 1) 7) r u m o ∧ ∀ j, j < m → ¬ blB (fA (C.2 1) 10) (fA (C.2 1) 6) (fA (C.2 1) 7) r u j o) ∨ (v = -2 ∧ ∀ j, j < 6 → ¬ blB (fA (C.2 1) 10) (fA (C.2 1) 6) (fA (C.2 1) 7) r u j o)) ∧ ia_qr xs (ia_cal xs (d + 19)) im_Eng_round N 16 [.ref x, .float 0, .int (nI o), .int (blF (fA (C.2 1) 10) (fA (C.2 1) 6) (fA (C.2 1) 7) r ((1 : Int32) <<< (nI u &&& 31)) i), .int (nI i)] [] (tot H x C) = some (some (.int v), tot H x C) := by
    intro k
    induction k with
    | zero =>
      intro i N hi hN hno
      obtain ⟨N, rfl⟩ : ∃ k, N = k + 1 := ⟨N - 1, by omega⟩
      refine ⟨-2, Or.inr ⟨rfl, fun j hj => hno j (by omega)⟩, ?_⟩
      rw [iq_Eng_round_16, if_n (show ¬ nI i < (6 : Int32) from nI_nlt (b := 6) (by omega) (by omega))]
    | succ k ih =>
      intro i N hi hN hno
      obtain ⟨N, rfl⟩ : ∃ k, N = k + 1 := ⟨N - 1, by omega⟩
      have hcw := w_calledWith xs (d + 17) (H := H) (x := x) (C := C) (k := 1) (t := t) (r := r) (by decide) hX.1 (blF (fA (C.2 1) 10) (fA (C.2 1) 6) (fA (C.2 1) 7) r ((1 : Int32) <<< (nI u &&& 31)) i)
      rw [iq_Eng_round_16, if_p (show nI i < (6 : Int32) from nI_lt (b := 6) (by omega) (by decide))]
      by_cases cb : blB (fA (C.2 1) 10) (fA (C.2 1) 6) (fA (C.2 1) 7) r u i o
      · have cb' : ¬ ((blF (fA (C.2 1) 10) (fA (C.2 1) 6) (fA (C.2 1) 7) r ((1 : Int32) <<< (nI u &&& 31)) i >>> (nI o &&& 31)) &&& 1) = 0 := fun z => by
          have := (bt_iff (show o < 32 by omega)).mp z
          unfold blB at cb
          rw [this] at cb
          exact Bool.false_ne_true cb
        rw [if_neg cb']
        exact ⟨nI i, Or.inl ⟨i, by omega, rfl, cb, hno⟩, rfl⟩
      · have cb' : ((blF (fA (C.2 1) 10) (fA (C.2 1) 6) (fA (C.2 1) 7) r ((1 : Int32) <<< (nI u &&& 31)) i >>> (nI o &&& 31)) &&& 1) = 0 := (bt_iff (show o < 32 by omega)).mpr (by
          unfold blB at cb
          cases e : bB (blF (fA (C.2 1) 10) (fA (C.2 1) 6) (fA (C.2 1) 7) r ((1 : Int32) <<< (nI u &&& 31)) i) o with
          | false => rfl
          | true => exact absurd e cb)
        rw [if_pos cb']
        simp only [↓tN_Rb hR.1, ↓tW_clsb (show 1 < 7 by decide), ↓cI_of hcw, nI_1]
        exact ih (i + 1) N (by omega) (by omega) (fun j hj => by
          by_cases c : j = i
          · subst c; exact cb
          · exact hno j (by omega))
  obtain ⟨v, w1, w2⟩ := cls 6 0 999999 (by omega) (by omega) (fun j hj => by omega)
  -- the reference
  have l32 : ((gI M 0 0).2.1 32).length = 6 := hl 32 (by decide)
  have l33 : ((gI M 0 0).2.1 33).length = 6 := hl 33 (by decide)
  have lay : ∀ k i N, i + k = 6 → ia_qr xs (ia_cal xs (d + 19)) im_Mod_round (N + k + 1) 15 [.ref a, .int (nI u), .int (nI o), .int (nI i), .float 0, .float 0] [] (pM h a (gA (gI M 0 0) 32 (updTo ((gI M 0 0).2.1 32) (fun _ => -2) i))) = ia_qr xs (ia_cal xs (d + 19)) im_Mod_round N 39 [.ref a, .float 0, .int (nI o), .int (nI 1), .int (nI 0), .float 0] [] (pM h a (gA (gA (gI M 0 0) 32 ((updTo ((gI M 0 0).2.1 32) (fun _ => -2) 6).set u 0)) 33 (((gI M 0 0).2.1 33).set 0 (nI u)))) := by
    intro k
    induction k with
    | zero =>
      intro i N hi
      have : i = 6 := by omega
      subst this
      have ww : wr ((gA (gI M 0 0) 32 (updTo ((gI M 0 0).2.1 32) (fun _ => -2) 6)).2.1 32) (nI u) 0 = some ((updTo ((gI M 0 0).2.1 32) (fun _ => -2) 6).set u 0) := by
        rw [gA_s]; exact wr_nI (by omega) (by rw [updTo_len]; omega)
      have ww2 : ∀ l, wr ((gA (gI M 0 0) 32 l).2.1 33) (0 : Int32) (nI u) = some (((gI M 0 0).2.1 33).set 0 (nI u)) := fun l => by
        rw [gA_n (by decide)]; exact wr_nI (k := 0) (by omega) (by omega)
      rw [iq_Mod_round_15, if_n (show ¬ nI 6 < (6 : Int32) by decide)]
      simp only [↓pM_Rb, ↓pM_stb, ↓bs ww, gA_A, ↓bs (ww2 _)]
      rfl
    | succ k ih =>
      intro i N hi
      have ww : wr ((gA (gI M 0 0) 32 (updTo ((gI M 0 0).2.1 32) (fun _ => -2) i)).2.1 32) (nI i) (-2) = some (updTo ((gI M 0 0).2.1 32) (fun _ => -2) (i + 1)) := by
        rw [gA_s]; exact updTo_wr (by omega) (by omega) rfl
      rw [show N + (k + 1) + 1 = N + k + 1 + 1 from rfl, iq_Mod_round_15, if_p (show nI i < (6 : Int32) from nI_lt (b := 6) (by omega) (by decide))]
      simp only [↓pM_Rb, ↓pM_stb, ↓bs ww, gA_A, nI_1]
      exact ih (i + 1) N (by omega)
  have l0 := lay 6 0 999992 (by omega)
  rw [show gA (gI M 0 0) 32 (updTo ((gI M 0 0).2.1 32) (fun _ => -2) 0) = gI M 0 0 from gA_id] at l0
  have hB0 : ∀ w, w < p → (blB (fA (C.2 1) 10) (fA (C.2 1) 6) (fA (C.2 1) 7) r u 0 w ↔ w = u) := fun w hw => bl_0 (by omega) (by omega)
  have hq0 : qrR ((updTo ((gI M 0 0).2.1 32) (fun _ => -2) 6).set u 0) (((gI M 0 0).2.1 33).set 0 (nI u)) (upB (fun _ => false) u) (fun _ => 0) (fun _ => u) 1 := by
    refine ⟨by rw [List.length_set, updTo_len]; exact l32, by rw [List.length_set]; exact l33, fun w hw => ?_, fun l hl' => ?_⟩
    · rw [ia_set_getD (by rw [updTo_len]; omega), updTo_get 6 w (by omega), if_pos hw]
      unfold upB
      by_cases c : w = u
      · rw [if_pos c, if_pos c, if_pos rfl]; rfl
      · rw [if_neg c, if_neg c, if_neg Bool.false_ne_true]
    · rw [ia_set_getD (by omega), if_pos (by omega)]
  obtain ⟨v', D', Q', z1, z2, z3, z4⟩ := rd_out xs d (h := h) (a := a) (s := u) hs hn hB0 hBs (fun k j w hkj hb => bl_mono hkj hb) ho p 0 _ _ _ 1 _ _ 999992 (by omega) (by omega) (bf_0 hu hB0) hq0 (by omega)
  have ev : v' = v := by
    rcases w1 with ⟨m, hm, e1, b1, b2⟩ | ⟨e1, b1⟩
    · rcases z3 with ⟨m', hm', e2, b3, b4⟩ | ⟨e2, b3⟩
      · have : m' = m := by
          by_cases c : m' < m
          · exact absurd b3 (b2 m' c)
          · by_cases c' : m < m'
            · exact absurd b1 (b4 m c')
            · omega
        rw [e1, e2, this]
      · exact absurd b1 (b3 m)
    · rcases z3 with ⟨m', hm', e2, b3, b4⟩ | ⟨e2, b3⟩
      · exact absurd b3 (b1 m' hm')
      · rw [e1, e2]
  subst ev
  exact ⟨v', C, _, (hR0.sc hR.sr ((hR0.sm.a2 (Or.inl rfl) z1).a2 (Or.inr rfl) z2)).l, w2, l0.trans z4⟩
end O48
