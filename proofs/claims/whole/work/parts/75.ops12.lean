/-! stop, the reference. -/
section O12
variable (xs : List Int32) (d : Nat) {H h : ia_H} {x a : Nat} {C : aC} {M : aG} {σ : Bool} {p n r t t0 q : Nat}
theorem kill_ag {X Y : aW} {v : Int32} (hX : wfX X t r p) (hY : wfX Y t r p) (h : agW Y X t r p) : agW (killX Y v t) (killX X v t) t r p := by
  have ht := hX.1.2.2.1
  have lx : (X.2 5).length = 8 := hX.1.ln.2.2.2.2.2.1
  have ly : (Y.2 5).length = 8 := hY.1.ln.2.2.2.2.2.1
  refine aw_row h fun j => ⟨fun h1 => by omega, fun h1 h2 h3 => ?_, fun h1 h2 => by omega⟩
  rw [updTo_get t j (by omega), updTo_get t j (by omega), if_pos h3, if_pos h3]
  unfold killG
  rw [h.2.2.2.1 5 (by decide) (by decide) j h3]
theorem kill_cm {X : aW} {v : Int32} (hc : cmM M X r) : cmM M (killX X v t) r := cm_sA hc (by decide) (by decide)
theorem stop_s (hR : Rp x C M σ p n r t t0 q) {c s : Nat} (hc : c < r) (hc0 : fA (C.2 1) 10 c = 0) (v2 v3 : Int32) :
    ∃ M', smM M M' ∧ ∀ N, ia_qr xs (ia_cal xs (d + 19)) im_Mod_stop (N + t + 2) 72 [.ref a, .int (nI c), .int v2, .int v3, .int (nI s), .float 0] [] (pM h a M) = ia_qr xs (ia_cal xs (d + 19)) im_Mod_stop N 55 [.ref a, .int (nI c), .int v2, .int (if qT (stS C σ t r p n c s) 99 1 = -2 then v3 else nI s), .int (nI (s + 1)), .float 0] [] (pM h a M') := by
  have hT := hR.2.1
  have hs := hT.2.2.1
  have hn := hR.2.2.1
  have hX := hn.1
  have hr10 := hX.1.2.2.2.1
  have ht8 := hX.1.2.2.1
  have hl := hs.1
  obtain ⟨b1, b2, b3, b4⟩ := hR.bd1
  obtain ⟨e1, e2, e3⟩ := r1 (h := h) (a := a) hR
  have ho : opM M (dE (C.1 (kS σ))) := op0 hR.2.2.2.1 hT
  have hcp := m_copies xs (d + 18) (h := h) (a := a) (dr := M.1 22) (wk := M.1 15) (sc := (M.2.2.2.1 0, M.2.2.2.1 1)) hl (show 1 < 23 by decide) (show 0 < 23 by decide) (by decide) e2 (C.2 1) (bI := 1) (cI := 0) rfl rfl
  rw [← e1] at hcp
  have d20 : fG M 20 0 = nI t := by rw [hn.2.2.1.2.2.1, hn.1.1.1]
  have r20 : ∀ W, ∀ f : Int32 → Option ia_R, (ia_ald (my h a M 1 W (M.1 22) (M.1 15) (M.2.2.2.1 0, M.2.2.2.1 1)) (a + 23) 0 (0 : Int32)).bind f = f (nI t) := fun W f => by
    have := my_o20 (h := h) (a := a) (M := M) (d := 1) (d' := 0) (X := W) (dr := M.1 22) (wk := M.1 15) (sc := (M.2.2.2.1 0, M.2.2.2.1 1)) hl (by decide) (by decide) (by decide) f
    rw [d20] at this
    exact this
  have hwk := kill_wf (v := nI s) b2
  obtain ⟨Y', dr', wk', sc', k1, k2, k3⟩ := m_throughIn xs (d + 10) (h := h) (a := a) (dr := M.1 22) (wk := M.1 15) (sc := (M.2.2.2.1 0, M.2.2.2.1 1)) hs hT.2.1 ho (kill_cm (t := t) (v := nI s) b3) hwk e3 (bd_sA b1 (by decide) (by decide)) (by have := hn.2.2.2.2; omega) hc (cI := nI c) rfl
  have ef : ∀ i, fA (stN (dE (C.1 (kS σ))) (C.1 (kS σ)) (C.1 (kL σ)) t r p n (killX (dkW M 0 (C.2 1)) (nI s) t, (M.1 22).toInt64) i).1 10 c = stS C σ t r p n c s i := fun i => (both (n := n) (kill_wf hX) hwk (kill_ag hX b2 b4) rfl i).2.2.2.2 10 (by decide) (by decide) c hc
  rw [rT_c 99 1 ef] at k3
  have e10 : stS C σ t r p n c s 0 = 0 := by
    show fA (killX (C.2 1) (nI s) t) 10 c = 0
    unfold killX
    rw [fA_n (by decide)]
    exact hc0
  have eq : qT (stS C σ t r p n c s) 99 1 = rT (stS C σ t r p n c s) 99 1 := qT_rT (stN_hs (E := dE (C.1 (kS σ))) (S := C.1 (kS σ)) (L := C.1 (kL σ)) (n := n) (Y := (killX (C.2 1) (nI s) t, 0)) (kill_wf hX) hc) 99 0 (show thruI (stS C σ t r p n c s 0) = 0 by rw [e10]; rfl)
  have hp := rT_pos (f := stS C σ t r p n c s) 99 1 (by omega) (by omega)
  refine ⟨_, smM.mz (M := M) (Y := Y') (dr := dr') (wk := wk') hl k2 k1, fun N => ?_⟩
  rw [show N + t + 2 = N + t + 1 + 1 from rfl, iq_Mod_stop_72]
  simp only [↓pM_clsb, ↓cV_of hcp]
  have k3' : ia_cal xs (d + 19) im_Mod_throughIn [.ref a, .int (nI c)] (my h a M 1 (killX (dkW M 0 (C.2 1)) (nI s) t) (M.1 22) (M.1 15) (M.2.2.2.1 0, M.2.2.2.1 1)) = some (some (.int (rT (stS C σ t r p n c s) 99 1)), pM h a (mz M 1 Y' dr' wk' sc')) := k3
  generalize dkW M 0 (C.2 1) = Y at *
  have loop : ∀ k i, i + k = t → ia_qr xs (ia_cal xs (d + 19)) im_Mod_stop (N + k + 1) 78 [.ref a, .int (nI c), .int v2, .int v3, .int (nI s), .int (nI i)] [] (my h a M 1 (killX Y (nI s) i) (M.1 22) (M.1 15) (M.2.2.2.1 0, M.2.2.2.1 1)) = ia_qr xs (ia_cal xs (d + 19)) im_Mod_stop N 55 [.ref a, .int (nI c), .int v2, .int (if qT (stS C σ t r p n c s) 99 1 = -2 then v3 else nI s), .int (nI (s + 1)), .float 0] [] (pM h a (mz M 1 Y' dr' wk' sc')) := by
    intro k
    induction k with
    | zero =>
      intro i hi
      have : i = t := by omega
      subst this
      rw [iq_Mod_stop_78]
      simp only [↓my_Rb, ↓r20, ↓if_n (nI_nlt (Nat.le_refl i) (show i < 2 ^ 31 by omega)), ↓my_clsb, ↓cI_of k3', nI_1]
      rw [eq]
      by_cases c2 : rT (stS C σ i r p n c s) 99 1 = -2
      · rw [if_neg (fun z => hp.mp z c2), if_pos c2]
      · rw [if_pos (hp.mpr c2), if_neg c2]
    | succ k ih =>
      intro i hi
      have ly : (Y.2 5).length = 8 := b2.1.ln.2.2.2.2.2.1
      rw [show N + (k + 1) + 1 = N + k + 1 + 1 from rfl, iq_Mod_stop_78]
      simp only [↓my_Rb, ↓r20, ↓if_p (nI_lt (show i < t by omega) (show t < 2 ^ 31 by omega)), nI_1]
      by_cases cb : bB (nI s) i = true
      · have hb : ((nI s >>> (nI i &&& 31)) &&& 1) = 1 := by rw [bt_iff1 (by omega), if_pos cb]
        have hyi : wfY M 1 (killX Y (nI s) i) := ⟨hl, by decide, lnX_sA b2.1.lnX (updTo_len i)⟩
        have ww : ∀ (v : Int32) (f : ia_H → Option ia_R), (ia_ast (my h a M 1 (killX Y (nI s) i) (M.1 22) (M.1 15) (M.2.2.2.1 0, M.2.2.2.1 1)) (a + 29) 0 ((8 : Int32) + nI i) v).bind f = f (my h a M 1 (sA (killX Y (nI s) i) 5 (((killX Y (nI s) i).2 5).set i v)) (M.1 22) (M.1 15) (M.2.2.2.1 0, M.2.2.2.1 1)) := my_w26 hyi (show i < 8 by omega)
        have e : sA (killX Y (nI s) i) 5 (((killX Y (nI s) i).2 5).set i 3) = killX Y (nI s) (i + 1) := by
          have hg : killG Y (nI s) i = 3 := by
            unfold killG
            rw [hb, if_neg (by decide)]
          unfold killX
          rw [sA_sA, sA_2, updTo, hg]
        rw [if_pos hb]
        simp only [↓ww, e]
        exact ih (i + 1) (by omega)
      · have hb : ((nI s >>> (nI i &&& 31)) &&& 1) = 0 := by rw [bt_iff1 (by omega), if_neg cb]
        have e : killX Y (nI s) i = killX Y (nI s) (i + 1) := by
          unfold killX
          rw [updTo_same (by omega) (by unfold killG; rw [if_pos hb]; rfl)]
        rw [hb, if_neg (by decide), e]
        exact ih (i + 1) (by omega)
  have ez : killX Y (nI s) 0 = Y := sA_self
  have := loop t 0 (by omega)
  rw [ez] at this
  exact this
end O12
