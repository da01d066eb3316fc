/-! shift: tones to begin, and how far each is put off. -/
def tbU (f : Nat → Int32) : Nat → Nat → List Nat
  | 0, _ => []
  | n + 1, i => if f i = 0 then i :: tbU f n (i + 1) else tbU f n (i + 1)
theorem tb_lt {f : Nat → Int32} : ∀ n i j, j ∈ tbU f n i → j < i + n
  | 0, i, j, h => by rw [tbU] at h; exact absurd h (by simp)
  | n + 1, i, j, h => by
    rw [tbU] at h
    by_cases c : f i = 0
    · rw [if_pos c] at h
      rcases List.mem_cons.mp h with e | e
      · omega
      · have := tb_lt n (i + 1) j e; omega
    · rw [if_neg c] at h
      have := tb_lt n (i + 1) j h; omega
theorem nth_tb {f : Nat → Int32} : ∀ n i k, k < 2 ^ 31 → nthB f n i (nI k) = match (tbU f n i)[k]? with | some j => nI j | none => -1
  | 0, i, k, _ => rfl
  | n + 1, i, k, hk => by
    rw [nthB, tbU]
    by_cases c : f i = 0
    · rw [if_pos c, if_pos c]
      cases k with
      | zero => rfl
      | succ k => rw [if_neg (nI_ne0 (by omega) hk), pk_m1, nth_tb n (i + 1) k (by omega)]; rfl
    · rw [if_neg c, if_neg c, nth_tb n (i + 1) k hk]
def ltF (pl : Int32) (m k : Nat) : Int32 := (pl >>> ((2 * ((nI m - 1) - nI k)) &&& 31)) &&& 3
def shX (X : aW) (g : Nat → Nat) (pl : Int32) (m : Nat) : Nat → aW
  | 0 => X
  | k + 1 => sA (shX X g pl m k) 3 (((shX X g pl m k).2 3).set (g k) (fA (shX X g pl m k) 3 (g k) + ltF pl m k))
section SHX
variable {X Y : aW} {g : Nat → Nat} {pl : Int32} {m t r p q : Nat} {M : aG}
theorem sh_wf (hX : wfX X t r p) : ∀ k, wfX (shX X g pl m k) t r p
  | 0 => hX
  | k + 1 => wfX_sA (sh_wf hX k) (List.length_set ..) (by decide) (by decide) (by decide)
theorem sh_ag (hX : wfX X t r p) (hY : wfX Y t r p) (h : agW Y X t r p) : ∀ k, (∀ j, j < k → g j < t) → agW (shX Y g pl m k) (shX X g pl m k) t r p
  | 0, _ => h
  | k + 1, hg => by
    have ht := hX.1.2.2.1
    have ih := sh_ag hX hY h k (fun j hj => hg j (by omega))
    have lx := (sh_wf (g := g) (pl := pl) (m := m) hX k).1.lnX.2.1 3 (by decide) (by decide)
    have ly := (sh_wf (g := g) (pl := pl) (m := m) hY k).1.lnX.2.1 3 (by decide) (by decide)
    have hk := hg k (by omega)
    exact aw_set ih (by omega) (by omega) (by rw [ih.2.2.2.1 3 (by decide) (by decide) (g k) hk])
theorem sh_cm (hc : cmM M X r) : ∀ k, cmM M (shX X g pl m k) r
  | 0 => hc
  | k + 1 => cm_sA (sh_cm hc k) (by decide) (by decide)
theorem sh_bd (hb : bdX X r q) : ∀ k, bdX (shX X g pl m k) r q
  | 0 => hb
  | k + 1 => bd_sA (sh_bd hb k) (by decide) (by decide)
theorem sh_10 : ∀ k, fA (shX X g pl m k) 10 = fA X 10
  | 0 => rfl
  | k + 1 => by rw [shX, fA_n (by decide), sh_10 k]
end SHX
theorem smM.a31 {M M' : aG} {l : List Int32} (h : smM M M') (hl : l.length = 3) : smM M (gA M' 31 l) := by
  obtain ⟨h1, h2, h3, h4, h5, h6, h7⟩ := h
  have e : ∀ k, k ≠ 31 → (gA M' 31 l).2.1 k = M'.2.1 k := fun k hk => gA_n hk
  have f : ∀ k, k ≠ 31 → fG (gA M' 31 l) k = fG M' k := fun k hk => by unfold fG; rw [e k hk]
  refine ⟨fun k hk => ?_, fun k hk => (e k (by omega)).trans (h2 k hk), fun k hk hk2 => (e k (by omega)).trans (h3 k hk hk2), fun d X t r p a1 a2 a3 a4 => ?_, h5, h6, h7⟩
  · by_cases c : k = 31
    · subst c; rw [gA_s, hl]; rfl
    · rw [e k c]; exact h1 k hk
  · have ik : ∀ k, k < 12 → ikW k ≠ 31 := by decide
    obtain ⟨b1, b2, b3, b4, b5, b6⟩ := h4 d X t r p a1 a2 a3 a4
    refine ⟨?_, ?_, ?_, fun k hk i hi => ?_, fun k hk hk2 i hi => ?_, fun k hk hk2 i hi => ?_⟩
    · rw [f 18 (by decide)]; exact b1
    · rw [f 19 (by decide)]; exact b2
    · rw [f 20 (by decide)]; exact b3
    · rw [f _ (ik k (by omega))]; exact b4 k hk i hi
    · rw [f _ (ik k (by omega))]; exact b5 k hk hk2 i hi
    · rw [f _ (ik k (by omega))]; exact b6 k hk hk2 i hi
theorem sh_4 : ∀ m, m ≤ 3 → ((1 : Int32) <<< ((2 * nI m) &&& 31)) = nI (4 ^ m) := by decide +kernel
/-- how many more give up -/
def shN (C : aC) (σ : Bool) (t r p n : Nat) (g : Nat → Nat) (m pl : Nat) : Nat := cntF (fA (stN (dE (C.1 (kS σ))) (C.1 (kS σ)) (C.1 (kL σ)) t r p n (shX (C.2 1) g (nI pl) m m, 0) 99).1 10) 3 r - cntF (fA (C.2 1) 10) 3 r
section O14
variable (xs : List Int32) (d : Nat) {H h : ia_H} {x a : Nat} {C : aC} {M : aG} {σ : Bool} {p n r t t0 q : Nat}
theorem shN_le (hX : wfX (C.2 1) t r p) {g : Nat → Nat} {m pl : Nat} : shN C σ t r p n g m pl ≤ 10 := by
  have h1 := cnt_le (f := fA (stN (dE (C.1 (kS σ))) (C.1 (kS σ)) (C.1 (kL σ)) t r p n (shX (C.2 1) g (nI pl) m m, 0) 99).1 10) (v := 3) r
  have := hX.1.2.2.2.1
  unfold shN
  omega
theorem shN_I (hX : wfX (C.2 1) t r p) {g : Nat → Nat} {m pl : Nat} : nI (cntF (fA (stN (dE (C.1 (kS σ))) (C.1 (kS σ)) (C.1 (kL σ)) t r p n (shX (C.2 1) g (nI pl) m m, 0) 99).1 10) 3 r) - nI (cntF (fA (C.2 1) 10) 3 r) = nI (shN C σ t r p n g m pl) := by
  have h1 := gu_mono (E := dE (C.1 (kS σ))) (S := C.1 (kS σ)) (L := C.1 (kL σ)) (n := n) (Y := (shX (C.2 1) g (nI pl) m m, 0)) (sh_wf hX m) 99
  simp only [sh_10] at h1
  rw [pk_sub h1]
  rfl
/-- one plan, the class -/
theorem sh_c (hR : Rp x C M σ p n r t t0 q) {g : Nat → Nat} {m pl : Nat} (hm3 : m ≤ 3) (hg : ∀ j, j < m → g j < t ∧ nthB (fA (C.2 1) 5) t 0 (nI j) = nI (g j)) (v3 v5 v6 : Int32) {C1 : aC} (hc : scC C C1 σ) (hpl : pl < 4 ^ m) :
    ∃ C4, scC C C4 σ ∧ ∀ N, ia_qr xs (ia_cal xs (d + 18)) im_Foresight_bestShift (N + m + 2) 21 [.ref (x + 109), .ref (sd x σ), .ref (wA x 1), .int v3, .int (nI m), .int v5, .int v6, .int (nI pl), .float 0, .float 0] [] (tot H x C1) = if nI (shN C σ t r p n g m pl) < v6 then ia_qr xs (ia_cal xs (d + 18)) im_Foresight_bestShift N 21 [.ref (x + 109), .ref (sd x σ), .ref (wA x 1), .int v3, .int (nI m), .int (nI pl), .int (nI (shN C σ t r p n g m pl)), .int (nI (pl + 1)), .float 0, .float 0] [] (tot H x C4) else ia_qr xs (ia_cal xs (d + 18)) im_Foresight_bestShift N 21 [.ref (x + 109), .ref (sd x σ), .ref (wA x 1), .int v3, .int (nI m), .int v5, .int v6, .int (nI (pl + 1)), .float 0, .float 0] [] (tot H x C4) := by
  have hX := hR.2.2.1.1
  have ht8 := hX.1.2.2.1
  have h64 : 4 ^ m ≤ 64 := Nat.le_trans (Nat.pow_le_pow_right (by decide) hm3) (by decide)
  obtain ⟨C2, f1, f2, f3, f4⟩ := fo_lk xs (d + 15) (H := H) hR hc (j := 1) (by decide) (by decide) hX.1.lnX
  have fw := fun k => f1.w (X := shX (C.2 1) g (nI pl) m k) (sh_wf hX k).1.lnX
  obtain ⟨C4, g1, g2⟩ := g_givenUpIn xs (d + 12) (H := H) (fw m) (by rw [uW_s]; exact sh_wf hX m) (m := 99) (by omega) (mI := 99) rfl
  rw [uW_s, show ((uW C2 5 (shX (C.2 1) g (nI pl) m m)).1 12).2.2.1 0 = 0 from f3, sh_10 m, shN_I hX] at g2
  have g2' : ia_cal xs (d + 18) im_Foresight_givenUpIn [.ref (x + 109), .int 99] (tot H x (uW C2 5 (shX (C.2 1) g (nI pl) m m))) = _ := g2
  refine ⟨C4, g1, fun N => ?_⟩
  have e1 : C2.2 1 = C.2 1 := f1.1.2.2.2.2.2.2.2.2.2.2.1 1 (by decide)
  have loop : ∀ k i, i + k = m → ia_qr xs (ia_cal xs (d + 18)) im_Foresight_bestShift (N + k + 1) 34 [.ref (x + 109), .ref (sd x σ), .ref (wA x 1), .int v3, .int (nI m), .int v5, .int v6, .int (nI pl), .int (nI i), .float 0] [] (tot H x (uW C2 5 (shX (C.2 1) g (nI pl) m i))) = if nI (shN C σ t r p n g m pl) < v6 then ia_qr xs (ia_cal xs (d + 18)) im_Foresight_bestShift N 21 [.ref (x + 109), .ref (sd x σ), .ref (wA x 1), .int v3, .int (nI m), .int (nI pl), .int (nI (shN C σ t r p n g m pl)), .int (nI (pl + 1)), .float 0, .float 0] [] (tot H x C4) else ia_qr xs (ia_cal xs (d + 18)) im_Foresight_bestShift N 21 [.ref (x + 109), .ref (sd x σ), .ref (wA x 1), .int v3, .int (nI m), .int v5, .int v6, .int (nI (pl + 1)), .float 0, .float 0] [] (tot H x C4) := by
    intro k
    induction k with
    | zero =>
      intro i hi
      have : i = m := by omega
      subst this
      rw [iq_Foresight_bestShift_34]
      simp only [↓if_n (nI_nlt (Nat.le_refl i) (show i < 2 ^ 31 by omega)), ↓tF_clsb, ↓cI_of g2', nI_1]
    | succ k ih =>
      intro i hi
      obtain ⟨hg1, hg2⟩ := hg i (by omega)
      have hw := sh_wf (g := g) (pl := nI pl) (m := m) hX i
      have hlx := hw.1.lnX.2.1 3 (by decide) (by decide)
      have hnt := w_toneToBegin xs (d + 17) (H := H) (x := x) (C := uW C2 5 (shX (C.2 1) g (nI pl) m i)) (k := 1) (t := t) (r := r) (by decide) (by rw [uW_n (by decide), e1]; exact hX.1) (nI i)
      rw [uW_n (by decide), e1, hg2] at hnt
      have hlt : ia_cal xs (d + 18) im_Foresight_laterOf [.int (nI pl), .int (nI m), .int (nI i)] (tot H x (uW C2 5 (shX (C.2 1) g (nI pl) m i))) = some (some (.int (ltF (nI pl) m i)), tot H x (uW C2 5 (shX (C.2 1) g (nI pl) m i))) := by
        rw [iu_Foresight_laterOf, iq_Foresight_laterOf_0]; rfl
      have r3 : rd (((uW C2 5 (shX (C.2 1) g (nI pl) m i)).2 5).2 3) (nI (g i)) = some (fA (shX (C.2 1) g (nI pl) m i) 3 (g i)) := by
        rw [uW_s]; exact (hw.1.rt hg1).2.1
      have w3 : ∀ v, wr (((uW C2 5 (shX (C.2 1) g (nI pl) m i)).2 5).2 3) (nI (g i)) v = some (((shX (C.2 1) g (nI pl) m i).2 3).set (g i) v) := fun v => by
        rw [uW_s, wr_nI (by omega) (by omega)]
      have nm : ¬ nI (g i) = -1 := by
        intro e
        have := congrArg Int32.toInt e
        rw [nI_toInt (by omega)] at this
        have e2 : (-1 : Int32).toInt = -1 := rfl
        omega
      have eC : uW (uW C2 5 (shX (C.2 1) g (nI pl) m i)) 5 (sA ((uW C2 5 (shX (C.2 1) g (nI pl) m i)).2 5) 3 (((shX (C.2 1) g (nI pl) m i).2 3).set (g i) (fA (shX (C.2 1) g (nI pl) m i) 3 (g i) + ltF (nI pl) m i))) = uW C2 5 (shX (C.2 1) g (nI pl) m (i + 1)) := by
        rw [uW_s, uW_W]; rfl
      rw [show N + (k + 1) + 1 = N + k + 1 + 1 from rfl, iq_Foresight_bestShift_34]
      simp only [↓if_p (nI_lt (show i < m by omega) (show m < 2 ^ 31 by omega)), ↓tW_clsb (show 1 < 7 by decide), ↓cI_of hnt, ↓if_n nm, ↓tF_Rb (fw i).2.1, ↓tW_Rb (show 5 < 7 by decide), ↓tW_ldb (show 5 < 7 by decide), ↓bs r3, ↓cI_of hlt, ↓tW_stb (show 5 < 7 by decide), ↓bs (w3 _), eC, nI_1]
      exact ih (i + 1) (by omega)
  have l0 := loop m 0 (by omega)
  rw [show uW C2 5 (shX (C.2 1) g (nI pl) m 0) = C2 by rw [shX, ← f2, uW_id]] at l0
  rw [show N + m + 2 = N + m + 1 + 1 from rfl, iq_Foresight_bestShift_21, sh_4 m hm3]
  simp only [↓if_p (nI_lt hpl (show 4 ^ m < 2 ^ 31 by omega)), ↓tF_clsb, ↓cV_of f4]
  exact l0
end O14
