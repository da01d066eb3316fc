/-! round: the reference's queue. -/
theorem smM.a2 {M M' : aG} {l : List Int32} {j : Nat} (h : smM M M') (hj : j = 32 ∨ j = 33) (hl : l.length = 6) : smM M (gA M' j l) := by
  obtain ⟨h1, h2, h3, h4, h5, h6, h7⟩ := h
  have e : ∀ k, k ≠ j → (gA M' j l).2.1 k = M'.2.1 k := fun k hk => gA_n hk
  have f : ∀ k, k ≠ j → fG (gA M' j l) k = fG M' k := fun k hk => by unfold fG; rw [e k hk]
  have ik : ∀ k, k < 12 → ikW k ≠ 32 ∧ ikW k ≠ 33 := by decide
  have ij : ∀ k, k < 12 → ikW k ≠ j := fun k hk => by rcases hj with rfl | rfl; exact (ik k hk).1; exact (ik k hk).2
  refine ⟨fun k hk => ?_, fun k hk => (e k (by omega)).trans (h2 k hk), fun k hk hk2 => (e k (by omega)).trans (h3 k hk hk2), fun d X t r p a1 a2 a3 a4 => ?_, h5, h6, h7⟩
  · by_cases c : k = j
    · subst c
      rw [gA_s, hl]
      rcases hj with rfl | rfl <;> rfl
    · rw [e k c]; exact h1 k hk
  · obtain ⟨b1, b2, b3, b4, b5, b6⟩ := h4 d X t r p a1 a2 a3 a4
    refine ⟨?_, ?_, ?_, fun k hk i hi => ?_, fun k hk hk2 i hi => ?_, fun k hk hk2 i hi => ?_⟩
    · rw [f 18 (by omega)]; exact b1
    · rw [f 19 (by omega)]; exact b2
    · rw [f 20 (by omega)]; exact b3
    · rw [f _ (ij k (by omega))]; exact b4 k hk i hi
    · rw [f _ (ij k (by omega))]; exact b5 k hk hk2 i hi
    · rw [f _ (ij k (by omega))]; exact b6 k hk hk2 i hi
/-- the two rows tell the queue -/
def qrR (D Q : List Int32) (vis : Nat → Bool) (dd qf : Nat → Nat) (e : Nat) : Prop := D.length = 6 ∧ Q.length = 6 ∧ (∀ u, u < 6 → D.getD u 0 = if vis u = true then nI (dd u) else -2) ∧ ∀ l, l < e → Q.getD l 0 = nI (qf l)
section O47
variable (xs : List Int32) (d : Nat) {h : ia_H} {a : Nat} {M S L : aG} {X : aW} {p n r t q s : Nat}
theorem rd_in (hs : rsM M S L r p n) (hn : NWr X M t r p q) {B : Nat → Nat → Prop} (hBs : ∀ k v, v < p → (B (k + 1) v ↔ B k v ∨ ∃ u, u < p ∧ B k u ∧ adP (fA X 10) (fA X 6) (fA X 7) r u v)) (hBm : ∀ k j u, k ≤ j → B k u → B j u) {hd : Nat} (ot : Int32) :
    ∀ k i vis dd qf e D Q N, i + k = p → hd < e → bfI B (adP (fA X 10) (fA X 6) (fA X 7) r) p s vis dd qf e hd → qrR D Q vis dd qf e → (∀ v, v < i → adP (fA X 10) (fA X 6) (fA X 7) r (qf hd) v → vis v = true) → k + 1 ≤ N → ∃ vis' dd' qf' e' D' Q' N', N ≤ N' + k + 1 ∧ e ≤ e' ∧ bfI B (adP (fA X 10) (fA X 6) (fA X 7) r) p s vis' dd' qf' e' (hd + 1) ∧ qrR D' Q' vis' dd' qf' e' ∧ ia_qr xs (ia_cal xs (d + 19)) im_Mod_round N 44 [.ref a, .float 0, .int ot, .int (nI e), .int (nI hd), .int (nI i)] [] (pM h a (gA (gA M 32 D) 33 Q)) = ia_qr xs (ia_cal xs (d + 19)) im_Mod_round N' 39 [.ref a, .float 0, .int ot, .int (nI e'), .int (nI (hd + 1)), .float 0] [] (pM h a (gA (gA M 32 D') 33 Q')) := by
  intro k
  have hl := hs.1
  have hp6 := hn.1.2.1
  have n0 : ∀ D Q, rd ((gA (gA M 32 D) 33 Q).2.1 1) (0 : Int32) = some (nI p) := fun D Q => by
    show rd (M.2.1 1) (0 : Int32) = _
    rw [(num_M hl).1, hs.2.1]
  induction k with
  | zero =>
    intro i vis dd qf e D Q N hi he hI hQ hpr hN
    obtain ⟨N, rfl⟩ : ∃ k, N = k + 1 := ⟨N - 1, by omega⟩
    have : i = p := by omega
    subst this
    refine ⟨vis, dd, qf, e, D, Q, N, by omega, Nat.le_refl _, bf_next hI he hBs hpr, hQ, ?_⟩
    rw [iq_Mod_round_44]
    simp only [↓pM_Rb, ↓pM_ldb, ↓bs (n0 D Q), ↓if_n (nI_nlt (Nat.le_refl i) (show i < 2 ^ 31 by omega)), nI_1]
  | succ k ih =>
    intro i vis dd qf e D Q N hi he hI hQ hpr hN
    obtain ⟨N, rfl⟩ : ∃ k, N = k + 1 := ⟨N - 1, by omega⟩
    obtain ⟨q1, q2, q3, q4⟩ := hQ
    have hip : i < p := by omega
    have hqp := (hI.1 hd he).1
    have rD : ∀ u, u < 6 → rd ((gA (gA M 32 D) 33 Q).2.1 32) (nI u) = some (if vis u = true then nI (dd u) else -2) := fun u hu => by
      rw [gA_n (by decide), gA_s, rdN (by omega) (by omega), q3 u hu]
    have rQ : rd ((gA (gA M 32 D) 33 Q).2.1 33) (nI hd) = some (nI (qf hd)) := by
      have : e ≤ p := by rw [hI.2.2.2.1]; exact nV_le p
      rw [gA_s, rdN (by omega) (by omega), q4 hd he]
    have hs' : rsM (gA (gA M 32 D) 33 Q) S L r p n := hs.s (fun k hk => by
      by_cases c3 : k = 33
      · subst c3; rw [gA_s, q2]; rfl
      · rw [gA_n c3]
        by_cases c2 : k = 32
        · subst c2; rw [gA_s, q1]; rfl
        · rw [gA_n c2]; exact hl k hk) (fun k hk => by rw [gA_n (by omega), gA_n (by omega)])
    have hn' : NWr X (gA (gA M 32 D) 33 Q) t r p q := ⟨hn.1, cm_s hn.2.1 (fun k hk => by rw [gA_n (by omega), gA_n (by omega)]), by
      have f : ∀ k, k ≠ 32 → k ≠ 33 → fG (gA (gA M 32 D) 33 Q) k = fG M k := fun k c2 c3 => by unfold fG; rw [gA_n c3, gA_n c2]
      have ik : ∀ k, k < 12 → ikW k ≠ 32 ∧ ikW k ≠ 33 := by decide
      obtain ⟨b1, b2, b3, b4, b5, b6⟩ := hn.2.2.1
      refine ⟨?_, ?_, ?_, fun k hk i hi => ?_, fun k hk hk2 i hi => ?_, fun k hk hk2 i hi => ?_⟩
      · rw [f 18 (by decide) (by decide)]; exact b1
      · rw [f 19 (by decide) (by decide)]; exact b2
      · rw [f 20 (by decide) (by decide)]; exact b3
      · rw [f _ (ik k (by omega)).1 (ik k (by omega)).2]; exact b4 k hk i hi
      · rw [f _ (ik k (by omega)).1 (ik k (by omega)).2]; exact b5 k hk hk2 i hi
      · rw [f _ (ik k (by omega)).1 (ik k (by omega)).2]; exact b6 k hk hk2 i hi, hn.2.2.2⟩
    obtain ⟨b, hb, hsp⟩ := p_spoken xs (d + 17) (h := h) (a := a) hs' hn' (qf hd) i
    rw [iq_Mod_round_44]
    simp only [↓pM_Rb, ↓pM_ldb, ↓bs (n0 D Q), ↓if_p (nI_lt hip (show p < 2 ^ 31 by omega)), ↓bs (rD i (by omega)), ↓bs rQ, ↓pM_clsb, ↓cI_of hsp, ↓bs (rD (qf hd) (by omega)), nI_1]
    by_cases cv : vis i = true
    · rw [if_pos cv, if_neg (fun z => by
        have := congrArg Int32.toInt z
        have hdd := hI.2.2.2.2.2.2.2.2.2
        obtain ⟨l, hl', el⟩ := hI.2.1 i hip cv
        have h10 := hdd l hl'
        rw [el] at h10
        have : e ≤ p := by rw [hI.2.2.2.1]; exact nV_le p
        rw [nI_toInt (by omega)] at *
        have e2 : (-2 : Int32).toInt = -2 := rfl
        omega)]
      obtain ⟨vis', dd', qf', e', D', Q', N', g1, g2, g3, g4, g5⟩ := ih (i + 1) vis dd qf e D Q N (by omega) he hI ⟨q1, q2, q3, q4⟩ (fun v hv ha => by
        by_cases c : v = i
        · subst c; exact cv
        · exact hpr v (by omega) ha) (by omega)
      exact ⟨vis', dd', qf', e', D', Q', N', by omega, g2, g3, g4, g5⟩
    · have cvf : vis i = false := by simpa using cv
      rw [if_neg cv, if_pos (show (-2 : Int32) = -2 from rfl)]
      by_cases cb : b = 0
      · rw [if_pos cb]
        obtain ⟨vis', dd', qf', e', D', Q', N', g1, g2, g3, g4, g5⟩ := ih (i + 1) vis dd qf e D Q N (by omega) he hI ⟨q1, q2, q3, q4⟩ (fun v hv ha => by
          by_cases c : v = i
          · subst c; exact absurd ha (hb.mp cb)
          · exact hpr v (by omega) ha) (by omega)
        exact ⟨vis', dd', qf', e', D', Q', N', by omega, g2, g3, g4, g5⟩
      · have hA : adP (fA X 10) (fA X 6) (fA X 7) r (qf hd) i := Classical.byContradiction fun z => cb (hb.mpr z)
        have he6 : e < p := by rw [hI.2.2.2.1]; exact nV_lt cvf p hip
        have hI' := bf_new hI he hBs hBm hip cvf hA
        have vq := (hI.1 hd he).2
        have swp : ∀ l, gA (gA (gA M 32 D) 33 Q) 32 l = gA (gA M 32 l) 33 Q := fun l => by
          refine Prod.ext rfl (Prod.ext ?_ rfl)
          funext j
          show (if j = 32 then l else if j = 33 then Q else if j = 32 then D else M.2.1 j) = if j = 33 then Q else if j = 32 then l else M.2.1 j
          by_cases c2 : j = 32
          · subst c2; rfl
          · rw [if_neg c2, if_neg c2, if_neg c2]
        have ww1 : wr ((gA (gA M 32 D) 33 Q).2.1 32) (nI i) (nI (dd (qf hd) + 1)) = some (D.set i (nI (dd (qf hd) + 1))) := by
          rw [gA_n (by decide), gA_s]; exact wr_nI (by omega) (by omega)
        have ww2 : wr ((gA (gA M 32 (D.set i (nI (dd (qf hd) + 1)))) 33 Q).2.1 33) (nI e) (nI i) = some (Q.set e (nI i)) := by
          rw [gA_s]; exact wr_nI (by omega) (by omega)
        have hQ' : qrR (D.set i (nI (dd (qf hd) + 1))) (Q.set e (nI i)) (upB vis i) (upN dd i (dd (qf hd) + 1)) (upN qf e i) (e + 1) := by
          refine ⟨by rw [List.length_set]; exact q1, by rw [List.length_set]; exact q2, fun u hu => ?_, fun l hl' => ?_⟩
          · rw [ia_set_getD (by omega)]
            unfold upB upN
            by_cases c : u = i
            · rw [if_pos c, if_pos c, if_pos c, if_pos rfl]
            · rw [if_neg c, if_neg c, if_neg c]; exact q3 u hu
          · rw [ia_set_getD (by omega)]
            unfold upN
            by_cases c : l = e
            · rw [if_pos c, if_pos c]
            · rw [if_neg c, if_neg c]; exact q4 l (by omega)
        obtain ⟨vis', dd', qf', e', D', Q', N', g1, g2, g3, g4, g5⟩ := ih (i + 1) _ _ _ (e + 1) _ _ N (by omega) (by omega) hI' hQ' (fun v hv ha => by
          unfold upB
          by_cases c : v = i
          · rw [if_pos c]
          · rw [if_neg c]
            refine hpr v (by omega) ?_
            unfold upN at ha
            rw [if_neg (by omega)] at ha
            exact ha) (by omega)
        refine ⟨vis', dd', qf', e', D', Q', N', by omega, by omega, g3, g4, ?_⟩
        rw [if_neg cb, if_pos vq, ← g5, nI_1]
        simp only [↓pM_stb, ↓bs ww1, swp, ↓pM_Rb, ↓bs ww2, gA_A, nI_1]
end O47
