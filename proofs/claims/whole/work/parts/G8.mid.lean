/-! text: what a law leaves behind, in class and reference. -/
theorem pc_lt {f : Nat × Nat → Int32} : ∀ out w (l : List Int32) i, i < w → (ptC f w out l).getD i 0 = l.getD i 0
  | [], _, _, _, _ => rfl
  | e :: out, w, l, i, hi => by
    show (ptC f (w + 1) out (l.set w (f e))).getD i 0 = _
    rw [pc_lt out (w + 1) _ i (by omega)]
    by_cases c : w < l.length
    · rw [ia_set_getD c, if_neg (by omega)]
    · rw [List.set_eq_of_length_le (by omega)]
theorem pc_at {f : Nat × Nat → Int32} : ∀ out w (l : List Int32) k, k < out.length → w + out.length ≤ l.length → (ptC f w out l).getD (w + k) 0 = f (out.getD k (0, 0))
  | [], _, _, _, hk, _ => absurd hk (by show ¬ _ < 0; omega)
  | e :: out, w, l, k, hk, hl => by
    have hl' : w + (out.length + 1) ≤ l.length := hl
    have hk' : k < out.length + 1 := hk
    show (ptC f (w + 1) out (l.set w (f e))).getD (w + k) 0 = _
    cases k with
    | zero =>
      rw [pc_lt out (w + 1) _ (w + 0) (by omega), ia_set_getD (by omega), if_pos (by omega)]
      rfl
    | succ k =>
      rw [show w + (k + 1) = w + 1 + k by omega, pc_at out (w + 1) _ k (by omega) (by rw [List.length_set]; omega)]
      rfl
theorem pt_lt {f : Nat × Nat → Int32} : ∀ out w (l : List Int32) i, i < 64 + w → (ptL f w out l).getD i 0 = l.getD i 0
  | [], _, _, _, _ => rfl
  | e :: out, w, l, i, hi => by
    show (ptL f (w + 1) out (l.set (64 + w) (f e))).getD i 0 = _
    rw [pt_lt out (w + 1) _ i (by omega)]
    by_cases c : 64 + w < l.length
    · rw [ia_set_getD c, if_neg (by omega)]
    · rw [List.set_eq_of_length_le (by omega)]
theorem pt_at {f : Nat × Nat → Int32} : ∀ out w (l : List Int32) k, k < out.length → 64 + w + out.length ≤ l.length → (ptL f w out l).getD (64 + (w + k)) 0 = f (out.getD k (0, 0))
  | [], _, _, _, hk, _ => absurd hk (by show ¬ _ < 0; omega)
  | e :: out, w, l, k, hk, hl => by
    have hl' : 64 + w + (out.length + 1) ≤ l.length := hl
    have hk' : k < out.length + 1 := hk
    show (ptL f (w + 1) out (l.set (64 + w) (f e))).getD (64 + (w + k)) 0 = _
    cases k with
    | zero =>
      rw [pt_lt out (w + 1) _ _ (by omega), ia_set_getD (by omega), if_pos (by omega)]
      rfl
    | succ k =>
      rw [show 64 + (w + (k + 1)) = 64 + (w + 1 + k) by omega, pt_at out (w + 1) _ k (by omega) (by rw [List.length_set]; omega)]
      rfl
theorem tkR_of {e : Nat × Nat} (h : okE e) : tkR (nI e.1) (nI e.2) (ksF e) (kvF e) := by
  obtain ⟨k, v⟩ := e
  have h' : k = 3 ∨ (15 ≤ k ∧ k ≤ 24) ∨ (28 ≤ k ∧ k ≤ 37) := h
  unfold ksF kvF
  by_cases c3 : k = 3
  · rw [if_pos c3, if_pos c3]
    exact Or.inl ⟨by show nI k = 3; rw [c3]; rfl, rfl, rfl⟩
  · by_cases c15 : 15 ≤ k ∧ k ≤ 21
    · rw [if_neg c3, if_pos c15, if_neg c3, if_pos c15]
      exact Or.inr (Or.inl ⟨k - 15, by omega, by show nI k = _; rw [show 15 + (k - 15) = k by omega], rfl, rfl⟩)
    · rw [if_neg c3, if_neg c15, if_neg c3, if_neg c15]
      refine Or.inr (Or.inr ⟨rfl, ?_⟩)
      have hk : k = 22 ∨ k = 23 ∨ k = 24 ∨ k = 28 ∨ k = 29 ∨ k = 30 ∨ k = 31 ∨ k = 32 ∨ k = 33 ∨ k = 34 ∨ k = 35 ∨ k = 36 ∨ k = 37 := by omega
      rcases hk with rfl | rfl | rfl | rfl | rfl | rfl | rfl | rfl | rfl | rfl | rfl | rfl | rfl
      · right; right; right; right; right; right; right; right; right; right; right; right; exact ⟨rfl, rfl⟩
      · right; right; right; right; right; right; right; right; right; right; right; left; exact ⟨rfl, rfl⟩
      · right; right; right; right; right; right; right; right; right; right; left; exact ⟨rfl, rfl⟩
      · left; exact ⟨rfl, rfl⟩
      · right; left; exact ⟨rfl, rfl⟩
      · right; right; left; exact ⟨rfl, rfl⟩
      · right; right; right; left; exact ⟨rfl, rfl⟩
      · right; right; right; right; left; exact ⟨rfl, rfl⟩
      · right; right; right; right; right; left; exact ⟨rfl, rfl⟩
      · right; right; right; right; right; right; left; exact ⟨rfl, rfl⟩
      · right; right; right; right; right; right; right; left; exact ⟨rfl, rfl⟩
      · right; right; right; right; right; right; right; right; left; exact ⟨rfl, rfl⟩
      · right; right; right; right; right; right; right; right; right; left; exact ⟨rfl, rfl⟩
theorem wfR_of {kf : Nat → Int32} : ∀ (l : List (Nat × Nat)) w t, (∀ k, k < l.length → kf (w + k) = nI (l.getD k (0, 0)).1) → (∀ x, x ∈ l → okE x) → pfR l t = some 1 → wfR kf l.length w t
  | [], w, t, _, _, h => by
    have h' : some t = some 1 := h
    cases h'
    exact rfl
  | e :: l, w, t, hk, ho, h => by
    have k0 : kf w = nI e.1 := hk 0 (by show 0 < l.length + 1; omega)
    have hk' : ∀ k, k < l.length → kf (w + 1 + k) = nI (l.getD k (0, 0)).1 := fun k hkl => by
      have := hk (k + 1) (by show k + 1 < l.length + 1; omega)
      rw [show w + 1 + k = w + (k + 1) by omega]
      exact this
    have ho' : ∀ x, x ∈ l → okE x := fun x hx => ho x (List.mem_cons_of_mem _ hx)
    have oe : e.1 = 3 ∨ (15 ≤ e.1 ∧ e.1 ≤ 24) ∨ (28 ≤ e.1 ∧ e.1 ≤ 37) := ho e (List.mem_cons_self ..)
    have h' : (if e.1 = 3 ∨ (15 ≤ e.1 ∧ e.1 ≤ 21) then pfR l (t + 1) else if e.1 = 24 then (if 1 ≤ t then pfR l t else none) else (if 2 ≤ t then pfR l (t - 1) else none)) = some 1 := h
    show wfR kf (l.length + 1) w t
    rw [wfR, k0]
    have c1 : (nI e.1 = 3 ∨ (¬ nI e.1 < 15 ∧ ¬ 21 < nI e.1)) ↔ (e.1 = 3 ∨ (15 ≤ e.1 ∧ e.1 ≤ 21)) := by
      have a1 : nI e.1 = 3 ↔ e.1 = 3 := nI_eq (b := 3) (by omega) (by decide)
      have a2 : nI e.1 < 15 ↔ e.1 < 15 := nI_ltI (b := 15) (by omega) (by decide)
      have a3 : (21 : Int32) < nI e.1 ↔ 21 < e.1 := nI_ltI (a := 21) (by decide) (by omega)
      rw [a1, a2, a3]
      omega
    have c2 : nI e.1 = 24 ↔ e.1 = 24 := nI_eq (b := 24) (by omega) (by decide)
    by_cases d1 : e.1 = 3 ∨ (15 ≤ e.1 ∧ e.1 ≤ 21)
    · rw [if_pos (c1.mpr d1)]
      rw [if_pos d1] at h'
      exact wfR_of l (w + 1) (t + 1) hk' ho' h'
    · rw [if_neg (fun z => d1 (c1.mp z))]
      rw [if_neg d1] at h'
      by_cases d2 : e.1 = 24
      · rw [if_pos (c2.mpr d2)]
        rw [if_pos d2] at h'
        by_cases d3 : 1 ≤ t
        · rw [if_pos d3] at h'
          exact ⟨d3, wfR_of l (w + 1) t hk' ho' h'⟩
        · rw [if_neg d3] at h'; cases h'
      · rw [if_neg (fun z => d2 (c2.mp z))]
        rw [if_neg d2] at h'
        by_cases d3 : 2 ≤ t
        · rw [if_pos d3] at h'
          exact ⟨d3, wfR_of l (w + 1) (t - 1) hk' ho' h'⟩
        · rw [if_neg d3] at h'; cases h'
theorem wfR_c {kf kf' : Nat → Int32} : ∀ q i t, (∀ j, i ≤ j → j < i + q → kf j = kf' j) → wfR kf q i t → wfR kf' q i t
  | 0, _, _, _, h => h
  | q + 1, i, t, he, h => by
    rw [wfR] at h ⊢
    rw [← he i (by omega) (by omega)]
    have he' : ∀ j, i + 1 ≤ j → j < i + 1 + q → kf j = kf' j := fun j h1 h2 => he j (by omega) (by omega)
    by_cases d1 : kf i = 3 ∨ (¬ kf i < 15 ∧ ¬ 21 < kf i)
    · rw [if_pos d1] at h ⊢
      exact wfR_c q (i + 1) (t + 1) he' h
    · rw [if_neg d1] at h ⊢
      by_cases d2 : kf i = 24
      · rw [if_pos d2] at h ⊢
        exact ⟨h.1, wfR_c q (i + 1) t he' h.2⟩
      · rw [if_neg d2] at h ⊢
        exact ⟨h.1, wfR_c q (i + 1) (t - 1) he' h.2⟩
theorem rsc.b {N M M' : aG} {by_ : Nat → Nat} {T : Nat} (h : rsc M M') (hb : bM N M by_ T) : bM N M' by_ T := by
  obtain ⟨⟨b1, b2, b3, b4⟩, b5, b6⟩ := hb
  have e0 : M'.2.1 0 = M.2.1 0 := h.2.2.1 0 (by omega)
  refine ⟨⟨b1, b2, by rw [e0]; exact b3, fun i hi => by unfold fG; rw [e0]; exact b4 i hi⟩, (h.1 4 (by omega)).trans b5, fun k hk => ?_⟩
  by_cases c : k = 0 ∨ 17 < k
  · rw [h.2.2.1 k c]; exact b6 k hk
  · rw [(h.2.2.2 k (by omega) (by omega)).1]; exact b6 k hk
theorem rsc_fl {M : aG} {k p : Nat} : rsc M (flM M k p) := rsc_tsc tsc_fl
/-- the laws as they stand once another was read -/
theorem hL_law {L M M5 M' : aG} {kn q n' i : Nat} {l : List (Nat × Nat)} {W : Int32} {by_ : Nat → Nat} {T : Nat} (hw : wfL L) (h : hL L M kn) (hq : q < 3) (hn : n' = kn + l.length) (hn64 : n' ≤ 64) (hp : pfX [] l) (hl5 : lnM M5) (e2 : M5.1 2 = (M.1 2 ||| ((1 : Int32) <<< (nI 7 &&& 31))) ||| ((1 : Int32) <<< (nI (16 + q) &&& 31))) (er : ∀ k i, (k ≠ 14 ∨ i ≠ 3 + q) → fG M5 k i = fG M k i) (e14 : fG M5 14 (3 + q) = nI kn) (hM : M' = upR (rSt M5 by_ T kn i W 0 n' l) 15 (3 + q) (nI n')) : hL (clS (lwS L kn n' l) q kn) M' n' := by
  obtain ⟨h1, h2, h3, h4, h5, h6, h7⟩ := h
  obtain ⟨e, hp1, hp2, hp3⟩ := hp
  have el : l = e := hp1
  subst el
  obtain ⟨w0, w1, w2, w3, -⟩ := hw
  have ln15 : (M5.2.1 15).length = 6 := hl5 15 (by decide)
  have ln16 : (M5.2.1 16).length = 128 := hl5 16 (by decide)
  have ln17 : (M5.2.1 17).length = 128 := hl5 17 (by decide)
  have ln1 : (M5.2.1 1).length = 16 := hl5 1 (by decide)
  have llen : 1 ≤ l.length := by
    cases l with
    | nil => have := hp2 0; cases this
    | cons a b => show 1 ≤ b.length + 1; omega
  have f14 : ∀ k, fG M' 14 k = fG M5 14 k := fun k => by rw [hM, upR_n (by omega)]; rfl
  have f15 : ∀ k, k ≠ 3 + q → fG M' 15 k = fG M5 15 k := fun k hk => by rw [hM, upR_n (by omega)]; rfl
  have f15q : fG M' 15 (3 + q) = nI n' := by rw [hM, upR_v (by show 3 + q < (M5.2.1 15).length; omega)]
  have f16 : ∀ k, fG M' 16 k = (ptL ksF kn l (M5.2.1 16)).getD k 0 := fun k => by rw [hM, upR_n (by omega)]; rfl
  have f17 : ∀ k, fG M' 17 k = (ptL kvF kn l (M5.2.1 17)).getD k 0 := fun k => by rw [hM, upR_n (by omega)]; rfl
  have f1 : fG M' 1 15 = nI n' := by
    rw [hM, upR_n (by omega)]
    show ((M5.2.1 1).set 15 (nI (kn + l.length))).getD 15 0 = _
    rw [ia_set_getD (by omega), if_pos rfl, hn]
  have g0 : ∀ k, fG (clS (lwS L kn n' l) q kn) 0 k = (ptC (fun e => nI e.1) kn l (L.2.1 0)).getD k 0 := fun k => rfl
  have g1 : ∀ k, fG (clS (lwS L kn n' l) q kn) 1 k = (ptC (fun e => nI e.2) kn l (L.2.1 1)).getD k 0 := fun k => rfl
  have g2 : ∀ k, fG (clS (lwS L kn n' l) q kn) 2 k = ((L.2.1 2).set q (nI kn)).getD k 0 := fun k => rfl
  have g3 : ∀ k, fG (clS (lwS L kn n' l) q kn) 3 k = ((L.2.1 3).set q (nI (kn + l.length))).getD k 0 := fun k => rfl
  have m2 : M'.1 2 = M5.1 2 := by rw [hM]; rfl
  refine ⟨rfl, by show nI (kn + l.length) = nI n'; rw [hn], by rw [hM]; rfl, f1, hn64, by rw [hM]; rfl, fun k hk => ?_⟩
  have tb : tB (M'.1 2) (16 + k) ↔ tB (M.1 2) (16 + k) ∨ k = q := by
    rw [m2, e2, tB_or _ (16 + k) (16 + q) (by omega) (by omega), tB_or _ (16 + k) 7 (by omega) (by decide)]
    constructor
    · intro z
      rcases z with (z | z) | z
      · exact Or.inl z
      · omega
      · exact Or.inr (by omega)
    · intro z
      rcases z with z | z
      · exact Or.inl (Or.inl z)
      · exact Or.inr (by omega)
  by_cases c : k = q
  · subst c
    refine ⟨by rw [f14, e14, g2, ia_set_getD (by omega), if_pos rfl], by rw [f15q, g3, ia_set_getD (by omega), if_pos rfl, hn], kn, kn + l.length, by rw [g2, ia_set_getD (by omega), if_pos rfl], by rw [g3, ia_set_getD (by omega), if_pos rfl], by omega, by omega, ⟨fun _ => by omega, fun _ => tb.mpr (Or.inr rfl)⟩, fun _ => ⟨?_, fun j j1 j2 => ?_⟩⟩
    · rw [show kn + l.length - kn = l.length by omega]
      exact wfR_of l kn 0 (fun k hk => by rw [g0, pc_at l kn _ k hk (by omega)]) hp3 (hp2 0)
    · obtain ⟨k, rfl⟩ : ∃ k, j = kn + k := ⟨j - kn, by omega⟩
      have hkl : k < l.length := by omega
      rw [g0, g1, f16, f17, pc_at l kn _ k hkl (by omega), pc_at l kn _ k hkl (by omega), pt_at l kn _ k hkl (by omega), pt_at l kn _ k hkl (by omega)]
      refine tkR_of (hp3 _ ?_)
      rw [List.getD_eq_getElem?_getD, List.getElem?_eq_getElem hkl]
      exact List.getElem_mem hkl
  · obtain ⟨x1, x2, a, b, x3, x4, x5, x6, x7, x8⟩ := h7 k hk
    have y2 : fG (clS (lwS L kn n' l) q kn) 2 k = fG L 2 k := by rw [g2, ia_set_getD (by omega), if_neg c]; rfl
    have y3 : fG (clS (lwS L kn n' l) q kn) 3 k = fG L 3 k := by rw [g3, ia_set_getD (by omega), if_neg c]; rfl
    refine ⟨by rw [f14, er 14 _ (by omega), y2]; exact x1, by rw [f15 _ (by omega), er 15 _ (by omega), y3]; exact x2, a, b, by rw [y2]; exact x3, by rw [y3]; exact x4, by omega, by omega, ⟨fun z => (tb.mp z).elim x7.mp (fun z => absurd z c), fun z => tb.mpr (Or.inl (x7.mpr z))⟩, fun hab => ⟨?_, fun j j1 j2 => ?_⟩⟩
    · refine wfR_c (b - a) a 0 (fun j j1 j2 => ?_) (x8 hab).1
      rw [g0, pc_lt l kn _ j (by omega)]
      rfl
    · rw [g0, g1, f16, f17, pc_lt l kn _ j (by omega), pc_lt l kn _ j (by omega), pt_lt l kn _ _ (by omega), pt_lt l kn _ _ (by omega)]
      have z := (x8 hab).2 j j1 j2
      rw [← er 16 (64 + j) (by omega), ← er 17 (64 + j) (by omega)] at z
      exact z
