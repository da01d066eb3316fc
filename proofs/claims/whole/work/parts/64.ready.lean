/-! Foresight, ready to run. -/
def fo (x : Nat) (C C3 : aC) (σ : Bool) (E : aG) (p n : Nat) : Prop := scC C C3 σ ∧ fx x C3 σ ∧ (C3.1 12).2.2.2.2 0 = sd x σ ∧ wfS (C3.1 (kS σ)) p n ∧ wfQ (C3.1 (kL σ)) ∧ (∀ k, k < 5 → (C3.1 12).1 k = E.1 k) ∧ C3.1 (kS σ) = C.1 (kS σ) ∧ (C3.1 (kL σ)).2.1 = (C.1 (kL σ)).2.1
section FO
variable (xs : List Int32) (d : Nat) {H : ia_H} {x : Nat} {C C3 : aC} {M E : aG} {σ : Bool} {p n r t t0 q : Nat}
theorem fo_lk (hR : Rp x C M σ p n r t t0 q) {C1 : aC} (hc : scC C C1 σ) {j : Nat} (hj : j < 7) (hj5 : j ≠ 5) (hJ : lnX (C.2 j)) :
    ∃ C2, fo x C C2 σ (dE (C.1 (kS σ))) p n ∧ C2.2 5 = C.2 j ∧ (C2.1 12).2.2.1 0 = 0 ∧ ia_cal xs (d + 3) im_Foresight_look [.ref (x + 109), .ref (sd x σ), .ref (wA x j)] (tot H x C1) = some (none, tot H x C2) := by
  obtain ⟨C2, h1, h2, h3, h4, h5, h6, ⟨E0, h7⟩, h8, h9, h10⟩ := lk xs d (H := H) hR hc hj hj5 hJ
  refine ⟨C2, ⟨h1, h2, h3, h4, h5, fun k hk => ?_, h8, h9⟩, h6, ?_, h10⟩
  · rw [h7]; exact dE_k k hk
  · rw [h7]; rfl
theorem fo.e {k : Nat} {v : Int32} (h : fo x C C3 σ E p n) : fo x C (uG C3 12 (gI (C3.1 12) k v)) σ (gI E k v) p n := by
  obtain ⟨h1, h2, h3, h4, h5, h6, h7, h8⟩ := h
  have hc := h1.trans (scC.openE (C := C3) true h5 h1.2.2.2.2.2.2.2.2.2.2.2 (gI (C3.1 12) k v))
  have nS : kS σ ≠ 12 := by cases σ <;> decide
  have nL : kL σ ≠ 12 := by cases σ <;> decide
  refine ⟨hc, ?_, ?_, ?_, ?_, fun j hj => ?_, ?_, ?_⟩
  · exact fx_s h2 (uG_n (by decide)) (uG_n (by decide)) (uG_n (by decide)) (fun τ => uG_n (by cases τ <;> decide))
  · rw [uG_s]; exact h3
  · rw [uG_n nS]; exact h4
  · rw [uG_n nL]; exact h5
  · rw [uG_s]
    show va_up (C3.1 12).1 k v j = va_up E.1 k v j
    by_cases e : j = k
    · subst e
      rw [up_s, up_s]
    · rw [up_n e, up_n e]
      exact h6 j hj
  · rw [uG_n nS]; exact h7
  · rw [uG_n nL]; exact h8
theorem fo.j {v : Int64} (h : fo x C C3 σ E p n) : fo x C (uG C3 12 (gJ (C3.1 12) 0 v)) σ E p n := by
  obtain ⟨h1, h2, h3, h4, h5, h6, h7, h8⟩ := h
  have hc := h1.trans (scC.openE (C := C3) true h5 h1.2.2.2.2.2.2.2.2.2.2.2 (gJ (C3.1 12) 0 v))
  have nS : kS σ ≠ 12 := by cases σ <;> decide
  have nL : kL σ ≠ 12 := by cases σ <;> decide
  refine ⟨hc, ?_, ?_, ?_, ?_, fun j hj => ?_, ?_, ?_⟩
  · exact fx_s h2 (uG_n (by decide)) (uG_n (by decide)) (uG_n (by decide)) (fun τ => uG_n (by cases τ <;> decide))
  · rw [uG_s]; exact h3
  · rw [uG_n nS]; exact h4
  · rw [uG_n nL]; exact h5
  · rw [uG_s]; exact h6 j hj
  · rw [uG_n nS]; exact h7
  · rw [uG_n nL]; exact h8
theorem fo.w {X : aW} (h : fo x C C3 σ E p n) (hX : lnX X) : fo x C (uW C3 5 X) σ E p n := by
  obtain ⟨⟨a0, a3, a6, a7, a11, a15, a16, aS, aL, aLs, aW, a5⟩, h2, h3, h4, h5, h6, h7, h8⟩ := h
  exact ⟨⟨a0, a3, a6, a7, a11, a15, a16, aS, aL, aLs, fun k hk => by rw [uW_n hk]; exact aW k hk, by rw [uW_s]; exact hX⟩, h2, h3, h4, h5, h6, h7, h8⟩
theorem fo.sc (h : fo x C C3 σ E p n) : scw ((C3.1 (kL σ)).2.2.2.1 0, (C3.1 (kL σ)).2.2.2.1 1) := ⟨h.2.2.2.2.1.1.2.2.2.2.1, h.2.2.2.2.1.1.2.2.2.2.2⟩
theorem fo.st (h : fo x C C3 σ E p n) {Y : aW × Int64} : fN C3 σ t r p n Y = stN E (C.1 (kS σ)) (C.1 (kL σ)) t r p n Y := by
  funext i
  show stN (C3.1 12) (C3.1 (kS σ)) (C3.1 (kL σ)) t r p n Y i = _
  rw [h.2.2.2.2.2.2.1]
  exact stN_c h.2.2.2.2.2.1 h.2.2.2.2.2.2.2 i
theorem fo_id : nx C3 true 5 σ (C3.2 5) ((C3.1 12).2.2.1 0) ((C3.1 (kL σ)).2.2.2.1 0, (C3.1 (kL σ)).2.2.2.1 1) = C3 := nx_id (ε := true)
theorem g_givenUpIn (h : fo x C C3 σ E p n) (hX : wfX (C3.2 5) t r p) {m : Nat} (hm : m ≤ 99) {mI : Int32} (hmI : mI = nI m) :
    ∃ C4, scC C C4 σ ∧ ia_cal xs (d + 6) im_Foresight_givenUpIn [.ref (x + 109), .int mI] (tot H x C3) = some (some (.int (nI (cntF (fA (stN E (C.1 (kS σ)) (C.1 (kL σ)) t r p n (C3.2 5, (C3.1 12).2.2.1 0) m).1 10) 3 r) - nI (cntF (fA (C3.2 5) 10) 3 r))), tot H x C4) := by
  obtain ⟨X', dr', sc', h1, h2, h3⟩ := t_givenUpIn xs d (H := H) (dr := (C3.1 12).2.2.1 0) h.2.1 h.2.2.1 h.2.2.2.1 h.2.2.2.2.1 hX h.sc hm hmI
  rw [fo_id, h.st] at h3
  exact ⟨_, h.1.trans (scC.nx h2.1.lnX h1), h3⟩
theorem g_run (h : fo x C C3 σ E p n) (hX : wfX (C3.2 5) t r p) {m : Nat} (hm : m ≤ 99) {mI : Int32} (hmI : mI = nI m) :
    ∃ C4, fo x C C4 σ E p n ∧ C4.2 5 = (stN E (C.1 (kS σ)) (C.1 (kL σ)) t r p n (C3.2 5, (C3.1 12).2.2.1 0) m).1 ∧ (C4.1 12).2.2.1 0 = (stN E (C.1 (kS σ)) (C.1 (kL σ)) t r p n (C3.2 5, (C3.1 12).2.2.1 0) m).2 ∧ ia_cal xs (d + 6) im_Foresight_run [.ref (x + 109), .int mI] (tot H x C3) = some (none, tot H x C4) := by
  obtain ⟨sc', h1, h3⟩ := t_run xs d (H := H) (dr := (C3.1 12).2.2.1 0) h.2.1 h.2.2.1 h.2.2.2.1 h.2.2.2.2.1 hX h.sc hm hmI
  have e := h.st (t := t) (r := r) (Y := (C3.2 5, (C3.1 12).2.2.1 0))
  have e2 := congrFun e m
  have hw := fN_wf (C := C3) (σ := σ) (n := n) (dr := (C3.1 12).2.2.1 0) hX m
  rw [e2] at hw
  rw [fo_id] at h3
  have h3' : ia_cal xs (d + 6) im_Foresight_run [.ref (x + 109), .int mI] (tot H x C3) = some (none, tot H x (nx C3 true 5 σ (fN C3 σ t r p n (C3.2 5, (C3.1 12).2.2.1 0) m).1 (fN C3 σ t r p n (C3.2 5, (C3.1 12).2.2.1 0) m).2 sc')) := h3
  rw [e2] at h3'
  refine ⟨_, ⟨h.1.trans (scC.nx hw.1.lnX h1), nx_fx h.2.1, ?_, ?_, ?_, fun k hk => ?_, ?_, ?_⟩, nx_W, ?_, h3'⟩
  · rw [show (12 : Nat) = kE true from rfl, nx_E]; exact h.2.2.1
  · rw [nx_S]; exact h.2.2.2.1
  · rw [nx_L]; exact wfQ_gL h.2.2.2.2.1 h1
  · rw [show (12 : Nat) = kE true from rfl, nx_E]; exact h.2.2.2.2.2.1 k hk
  · rw [nx_S]; exact h.2.2.2.2.2.2.1
  · rw [nx_L]; exact h.2.2.2.2.2.2.2
  · rw [show (12 : Nat) = kE true from rfl, nx_E, gJ_s]
theorem g_qThrough (h : fo x C C3 σ E p n) (hX : wfX (C3.2 5) t r p) {c : Nat} (hc : c < r) :
    ∃ C4, scC C C4 σ ∧ ia_cal xs (d + 6) im_Foresight_quartersTillThrough [.ref (x + 109), .int (nI c)] (tot H x C3) = some (some (.int (qT (fun i => fA (stN E (C.1 (kS σ)) (C.1 (kL σ)) t r p n (C3.2 5, (C3.1 12).2.2.1 0) i).1 10 c) 99 1)), tot H x C4) := by
  obtain ⟨X', dr', sc', h1, h2, h3⟩ := t_qThrough xs d (H := H) (dr := (C3.1 12).2.2.1 0) h.2.1 h.2.2.1 h.2.2.2.1 h.2.2.2.2.1 hX h.sc hc
  rw [fo_id, h.st] at h3
  exact ⟨_, h.1.trans (scC.nx h2.1.lnX h1), h3⟩
theorem g_qOver (h : fo x C C3 σ E p n) (hX : wfX (C3.2 5) t r p) {c : Nat} (hc : c < r) {m : Nat} (hm : m ≤ 99) {mI : Int32} (hmI : mI = nI m) :
    ∃ C4, scC C C4 σ ∧ ia_cal xs (d + 6) im_Foresight_quartersTillOver [.ref (x + 109), .int (nI c), .int mI] (tot H x C3) = some (some (.int (qO (fun i => fA (stN E (C.1 (kS σ)) (C.1 (kL σ)) t r p n (C3.2 5, (C3.1 12).2.2.1 0) i).1 10 c) m 1)), tot H x C4) := by
  obtain ⟨X', dr', sc', h1, h2, h3⟩ := t_qOver xs d (H := H) (dr := (C3.1 12).2.2.1 0) h.2.1 h.2.2.1 h.2.2.2.1 h.2.2.2.2.1 hX h.sc hc hm hmI
  rw [fo_id, h.st] at h3
  exact ⟨_, h.1.trans (scC.nx h2.1.lnX h1), h3⟩
theorem g_engagedIn (h : fo x C C3 σ E p n) (hX : wfX (C3.2 5) t r p) {m : Nat} (hm : m ≤ 99) {mI : Int32} (hmI : mI = nI m) (man : Int32) :
    ∃ C4, scC C C4 σ ∧ ia_cal xs (d + 6) im_Foresight_engagedIn [.ref (x + 109), .int mI, .int man] (tot H x C3) = some (some (.int (enF (fun i => (engX (stN E (C.1 (kS σ)) (C.1 (kL σ)) t r p n (C3.2 5, (C3.1 12).2.2.1 0) i).1 t r >>> (man &&& 31)) &&& 1) m)), tot H x C4) := by
  obtain ⟨X', dr', sc', h1, h2, h3⟩ := t_engagedIn xs d (H := H) (dr := (C3.1 12).2.2.1 0) h.2.1 h.2.2.1 h.2.2.2.1 h.2.2.2.2.1 hX h.sc hm hmI man
  rw [fo_id, h.st] at h3
  exact ⟨_, h.1.trans (scC.nx h2.1.lnX h1), h3⟩
theorem g_bearsOut (h : fo x C C3 σ E p n) (hX : wfX (C3.2 5) t r p) {w : Nat} (hU : wfU (C3.1 15) w) {m : Nat} (hm : m ≤ 99) (hl : lqF (C3.1 15) w = nI m - 1) :
    ∃ C4, scC C3 C4 σ ∧ ia_cal xs (d + 6) im_Foresight_bearsOut [.ref (x + 109), .ref (x + 149)] (tot H x C3) = some (some (.int (boF (fun i => agF (C3.1 15) (nI i) (engX (stN E (C.1 (kS σ)) (C.1 (kL σ)) t r p n (C3.2 5, (C3.1 12).2.2.1 0) (i + 1)).1 t r) w) m 0)), tot H x C4) := by
  obtain ⟨X', dr', sc', h1, h2, h3⟩ := t_bearsOut xs d (H := H) (dr := (C3.1 12).2.2.1 0) h.2.1 h.2.2.1 h.2.2.2.1 h.2.2.2.2.1 hX h.sc hU hm hl
  rw [fo_id, h.st] at h3
  exact ⟨_, scC.nx h2.1.lnX h1, h3⟩
end FO
