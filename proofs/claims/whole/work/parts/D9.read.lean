/-! text: the reference reads values joined by signs. -/
/-- what is written is a sum: each sign finds what it joins, one value comes of it -/
def pfR : List (Nat × Nat) → Nat → Option Nat
  | [], t => some t
  | e :: l, t => if e.1 = 3 ∨ (15 ≤ e.1 ∧ e.1 ≤ 21) then pfR l (t + 1) else if e.1 = 24 then (if 1 ≤ t then pfR l t else none) else (if 2 ≤ t then pfR l (t - 1) else none)
theorem pf_a {b : List (Nat × Nat)} : ∀ a t, pfR (a ++ b) t = (pfR a t).bind (pfR b)
  | [], t => rfl
  | e :: a, t => by
    show (if e.1 = 3 ∨ (15 ≤ e.1 ∧ e.1 ≤ 21) then pfR (a ++ b) (t + 1) else if e.1 = 24 then (if 1 ≤ t then pfR (a ++ b) t else none) else (if 2 ≤ t then pfR (a ++ b) (t - 1) else none)) = (if e.1 = 3 ∨ (15 ≤ e.1 ∧ e.1 ≤ 21) then pfR a (t + 1) else if e.1 = 24 then (if 1 ≤ t then pfR a t else none) else (if 2 ≤ t then pfR a (t - 1) else none)).bind (pfR b)
    rw [pf_a a (t + 1), pf_a a t, pf_a a (t - 1)]
    repeat' split
    all_goals rfl
def okE (e : Nat × Nat) : Prop := e.1 = 3 ∨ (15 ≤ e.1 ∧ e.1 ≤ 24) ∨ (28 ≤ e.1 ∧ e.1 ≤ 37)
def pfE (e : List (Nat × Nat)) : Prop := (∀ t, pfR e t = some (t + 1)) ∧ ∀ x, x ∈ e → okE x
def pfX (out l : List (Nat × Nat)) : Prop := ∃ e, l = out ++ e ∧ pfE e
theorem pf_val {out : List (Nat × Nat)} {k v : Nat} (h : k = 3 ∨ (15 ≤ k ∧ k ≤ 21)) : pfX out (out ++ [(k, v)]) := ⟨_, rfl, fun t => by
  show (if k = 3 ∨ (15 ≤ k ∧ k ≤ 21) then some (t + 1) else _) = _
  rw [if_pos h], fun x hx => by
  rw [List.mem_singleton] at hx
  rw [hx]
  show k = 3 ∨ (15 ≤ k ∧ k ≤ 24) ∨ (28 ≤ k ∧ k ≤ 37)
  omega⟩
theorem pf_not {out l : List (Nat × Nat)} (h : pfX out l) : pfX out (l ++ [(24, 0)]) := by
  obtain ⟨e, h1, h2, h3⟩ := h
  refine ⟨e ++ [(24, 0)], by rw [h1, List.append_assoc], fun t => ?_, fun x hx => ?_⟩
  · rw [pf_a, h2 t]
    show (if 1 ≤ t + 1 then some (t + 1) else none) = _
    rw [if_pos (by omega)]
  · rw [List.mem_append, List.mem_singleton] at hx
    rcases hx with hx | hx
    · exact h3 x hx
    · rw [hx]; exact Or.inr (Or.inl ⟨by decide, by decide⟩)
theorem pf_bin {out l1 l2 : List (Nat × Nat)} {o : Nat} (h1 : pfX out l1) (h2 : pfX l1 l2) (ho : 22 ≤ o ∧ o ≤ 37) (ho2 : o < 24 ∨ 28 ≤ o) : pfX out (l2 ++ [(o, 0)]) := by
  obtain ⟨e1, h1, p1, q1⟩ := h1
  obtain ⟨e2, h2, p2, q2⟩ := h2
  refine ⟨e1 ++ (e2 ++ [(o, 0)]), by rw [h2, h1, List.append_assoc, List.append_assoc], fun t => ?_, fun x hx => ?_⟩
  · rw [pf_a, p1 t]
    show pfR (e2 ++ [(o, 0)]) (t + 1) = _
    rw [pf_a, p2 (t + 1)]
    show (if o = 3 ∨ (15 ≤ o ∧ o ≤ 21) then _ else if o = 24 then _ else (if 2 ≤ t + 1 + 1 then some (t + 1 + 1 - 1) else none)) = _
    rw [if_neg (by omega), if_neg (by omega), if_pos (by omega)]
    rfl
  · rw [List.mem_append, List.mem_append, List.mem_singleton] at hx
    rcases hx with hx | hx | hx
    · exact q1 x hx
    · exact q2 x hx
    · rw [hx]
      show o = 3 ∨ (15 ≤ o ∧ o ≤ 24) ∨ (28 ≤ o ∧ o ≤ 37)
      omega
def lvR (M : aG) (by_ : Nat → Nat) (T w0 lev op i kn : Nat) (out : List (Nat × Nat)) (M' : aG) : Prop :=
  (∃ k p, (k = 1 ∨ k = 2) ∧ sB (tkK by_ T) (tkV by_ T) (tkP by_ T) (tkJ by_ T) T lev i op kn out k p ∧ ∃ j W o n l, M' = flM (rSt M by_ T w0 j W o n l) k p) ∨
  (∃ i' n l W, M' = rSt M by_ T w0 i' W op n l ∧ i ≤ i' ∧ i' ≤ T ∧ vOK (tkK by_ T i') (tkV by_ T i') W ∧ l.length + kn = n + out.length ∧ kn ≤ n ∧ n ≤ 64 ∧ sF (tkK by_ T) (tkV by_ T) (tkP by_ T) (tkJ by_ T) T lev i op kn out i' n l ∧ nxL lev (rkK (tkK by_ T i')) ∧ pfX out l)
def lvT (xs : List Int32) (h : ia_H) (a : Nat) (M : aG) (by_ : Nat → Nat) (T w0 im lev op c : Nat) : Prop := ∀ i W kn out D, i ≤ T → vOK (tkK by_ T i) (tkV by_ T i) W → w0 + out.length ≤ kn → kn ≤ 64 → c + (64 - kn) ≤ D → ∃ M', ia_cal xs D im [.ref a] (pM h a (rSt M by_ T w0 i W op kn out)) = some (none, pM h a M') ∧ lvR M by_ T w0 lev op i kn out M'
theorem fl_9 {M : aG} {k p : Nat} (hk : k = 1 ∨ k = 2) : (flM M k p).1 9 ≠ 0 := by
  have : (flM M k p).1 9 = nI k := rfl
  rw [this]
  rcases hk with rfl | rfl <;> decide
theorem rk_6 (k : Nat) : (rkK k = 6 ↔ k = 30 ∨ k = 31) ∧ (rkK k = 5 ↔ k = 28 ∨ k = 29) ∧ (rkK k = 2 ↔ k = 23) ∧ (rkK k = 1 ↔ k = 22) ∧ (rkK k = 4 ↔ 32 ≤ k ∧ k ≤ 37) := by
  unfold rkK
  repeat' split
  all_goals omega
section DX9
variable (xs : List Int32) (d : Nat) {h : ia_H} {a : Nat} {M N : aG} {by_ : Nat → Nat} {T : Nat} {w0 i : Nat} {W : Int32} {op kn : Nat} {out : List (Nat × Nat)}
theorem rB.j (hb : rB N M by_ T) : ∀ i, i ≤ T → tkK by_ T i ≠ 0 → i < tkJ by_ T i ∧ tkJ by_ T i ≤ T := fun i hi hk => by
  have := tk_on (fun i hi => (hb.1.2.2.2 i hi).1) i hi
  exact ⟨this.2.2.2.1 hk, this.2.2.1⟩
theorem rB.k (hb : rB N M by_ T) (i : Nat) : tkK by_ T i < 38 := tk_lt (fun i hi => (hb.1.2.2.2 i hi).1) i
theorem r_isSign (hb : rB N M by_ T) (hv : vOK (tkK by_ T i) (tkV by_ T i) W) {c k : Nat} (hc : c < 300) (hk : 25 ≤ k) (hck : ∀ K, K < 38 → 25 ≤ K → (svK K = c ↔ K = k)) {v : Int32} (ev : v = nI c) : ia_cal xs (d + 1) im_Mod_isSign [.ref a, .int v] (pM h a (rSt M by_ T w0 i W op kn out)) = some (some (.int (if tkK by_ T i = k then 1 else 0)), pM h a (rSt M by_ T w0 i W op kn out)) := by
  have q7 : (rSt M by_ T w0 i W op kn out).1 7 = nI (srK (tkK by_ T i)) := rfl
  have q8 : (rSt M by_ T w0 i W op kn out).1 8 = W := rfl
  have k38 := hb.k i
  have s3 := (sr_K _ k38).2.1
  have s6 := (sr_K _ k38).2.2.2.2.2
  rw [p_isSign xs d (r_9 hb), q7, q8, ev]
  have e : (nI (srK (tkK by_ T i)) = 3 ∧ W = nI c) ↔ tkK by_ T i = k := by
    constructor
    · intro z
      have z1 := s3.mp ((nI_eq (b := 3) (by omega) (by decide)).mp z.1)
      have z2 := hv.2.2.2 z1
      rw [z2] at z
      have z3 := kw_s _ k38 z1
      exact (hck _ k38 z1).mp ((nI_eq (by omega) (by omega)).mp z.2)
    · intro z
      have z1 : 25 ≤ tkK by_ T i := by omega
      refine ⟨by rw [s3.mpr z1]; rfl, ?_⟩
      rw [hv.2.2.2 z1, (hck _ k38 z1).mpr z]
  by_cases cc : tkK by_ T i = k
  · rw [if_pos (e.mpr cc), if_pos cc]
  · rw [if_neg (fun z => cc (e.mp z)), if_neg cc]
theorem r_isWord (hb : rB N M by_ T) (hv : vOK (tkK by_ T i) (tkV by_ T i) W) {c k : Nat} (hc : c < 21) (hk : 4 ≤ k) (hk2 : k < 25) (hck : ∀ K, K < 25 → 4 ≤ K → (rwK K = c ↔ K = k)) {v : Int32} (ev : v = nI c) : ia_cal xs (d + 1) im_Mod_isWord [.ref a, .int v] (pM h a (rSt M by_ T w0 i W op kn out)) = some (some (.int (if tkK by_ T i = k then 1 else 0)), pM h a (rSt M by_ T w0 i W op kn out)) := by
  have q7 : (rSt M by_ T w0 i W op kn out).1 7 = nI (srK (tkK by_ T i)) := rfl
  have q8 : (rSt M by_ T w0 i W op kn out).1 8 = W := rfl
  have k38 := hb.k i
  have s3 := (sr_K _ k38).1
  have s6 := (sr_K _ k38).2.2.2.2.2
  rw [p_isWord xs d (r_9 hb), q7, q8, ev]
  have e : (nI (srK (tkK by_ T i)) = 0 ∧ W = nI c) ↔ tkK by_ T i = k := by
    constructor
    · intro z
      have z1 := s3.mp ((nI_eq (b := 0) (by omega) (by decide)).mp z.1)
      have z2 := hv.2.2.1 z1.1 z1.2
      rw [z2] at z
      have z3 := kw_w _ z1.2 z1.1
      exact (hck _ z1.2 z1.1).mp ((nI_eq (by omega) (by omega)).mp z.2)
    · intro z
      have z1 : 4 ≤ tkK by_ T i ∧ tkK by_ T i < 25 := by omega
      refine ⟨by rw [s3.mpr z1]; rfl, ?_⟩
      rw [hv.2.2.1 z1.1 z1.2, (hck _ z1.2 z1.1).mpr z]
  by_cases cc : tkK by_ T i = k
  · rw [if_pos (e.mpr cc), if_pos cc]
  · rw [if_neg (fun z => cc (e.mp z)), if_neg cc]
theorem ks_s (k : Nat) (hk : 22 ≤ k) : ksF (k, 0) = 2 := by
  unfold ksF
  rw [if_neg (by show ¬ k = 3; omega), if_neg (by show ¬ (15 ≤ k ∧ k ≤ 21); omega)]
theorem kv_s (k : Nat) (hk : 25 ≤ k) : kvF (k, 0) = nI (svK k) := by
  unfold kvF
  rw [if_neg (by show ¬ k = 3; omega), if_neg (by show ¬ (15 ≤ k ∧ k ≤ 21); omega), if_neg (by show ¬ k = 22; omega), if_neg (by show ¬ k = 23; omega), if_neg (by show ¬ k = 24; omega)]
theorem f_productL {F : Nat} (h9 : M.1 9 ≠ 0) : ia_qr xs (ia_cal xs (d + 1)) im_Mod_product (F + 1) 2 [.ref a, .float 0] [] (pM h a M) = some (none, pM h a M) := by
  rw [iq_Mod_product_2]
  simp only [↓pM_clsb, ↓cI_of (f_isSign xs d h9 _)]
  rw [if_pos trivial, if_pos trivial]
theorem r_productL (hb : rB N M by_ T) {c : Nat} (hc : 6 ≤ c) (hsub : lvT xs h a M by_ T w0 im_Mod_primary 6 op c) (hw : w0 + out.length ≤ kn) {D : Nat} (hD : c + (64 - kn) ≤ D) : ∀ m i1 W1 kn1 out1 F, T - i1 ≤ m → i ≤ i1 → i1 ≤ T → vOK (tkK by_ T i1) (tkV by_ T i1) W1 → out1.length + kn = kn1 + out.length → kn ≤ kn1 → kn1 ≤ 64 → sF (tkK by_ T) (tkV by_ T) (tkP by_ T) (tkJ by_ T) T 5 i op kn out i1 kn1 out1 → nxL 6 (rkK (tkK by_ T i1)) → pfX out out1 → 2 * m + 4 ≤ F → ∃ M', ia_qr xs (ia_cal xs D) im_Mod_product F 2 [.ref a, .float 0] [] (pM h a (rSt M by_ T w0 i1 W1 op kn1 out1)) = some (none, pM h a M') ∧ lvR M by_ T w0 5 op i kn out M' := by
  have hJ := hb.j
  obtain ⟨D, rfl⟩ : ∃ k, D = k + 6 := ⟨D - 6, by omega⟩
  intro m
  induction m with
  | zero =>
    intro i1 W1 kn1 out1 F hm hii hi hv hl hk hk2 hs hn hp hF
    obtain ⟨F, rfl⟩ : ∃ k, F = k + 1 := ⟨F - 1, by omega⟩
    have k0 : tkK by_ T i1 = 0 := by
      by_cases c : tkK by_ T i1 = 0
      · exact c
      · have := hJ i1 hi c
        omega
    have t1 := r_isSign xs (D + 5) (h := h) (a := a) (w0 := w0) (op := op) (kn := kn1) (out := out1) hb hv (c := 42) (k := 30) (by decide) (by decide) (fun K a b => (kw_s K a b).2.2.2.2.2.2.1) (v := 42) rfl
    have t2 := r_isSign xs (D + 5) (h := h) (a := a) (w0 := w0) (op := op) (kn := kn1) (out := out1) hb hv (c := 47) (k := 31) (by decide) (by decide) (fun K a b => (kw_s K a b).2.2.2.2.2.2.2) (v := 47) rfl
    rw [if_neg (by omega)] at t1 t2
    refine ⟨_, ?_, Or.inr ⟨i1, kn1, out1, W1, rfl, hii, hi, hv, hl, hk, hk2, hs, ?_, hp⟩⟩
    · rw [iq_Mod_product_2]
      simp only [↓pM_clsb, ↓cI_of t1, ↓cI_of t2]
      rw [if_pos trivial, if_pos trivial]
    · rw [k0]
      exact ⟨fun _ => by decide, fun _ => by decide, fun _ => by decide, fun _ => by decide⟩
  | succ m ih =>
    intro i1 W1 kn1 out1 F hm hii hi hv hl hk hk2 hs hn hp hF
    obtain ⟨F, rfl⟩ : ∃ k, F = k + 1 + 1 := ⟨F - 2, by omega⟩
    have t1 := r_isSign xs (D + 5) (h := h) (a := a) (w0 := w0) (op := op) (kn := kn1) (out := out1) hb hv (c := 42) (k := 30) (by decide) (by decide) (fun K a b => (kw_s K a b).2.2.2.2.2.2.1) (v := 42) rfl
    have t2 := r_isSign xs (D + 5) (h := h) (a := a) (w0 := w0) (op := op) (kn := kn1) (out := out1) hb hv (c := 47) (k := 31) (by decide) (by decide) (fun K a b => (kw_s K a b).2.2.2.2.2.2.2) (v := 47) rfl
    have hrk := rk_6 (tkK by_ T i1)
    have go : (tkK by_ T i1 = 30 ∨ tkK by_ T i1 = 31) → ∃ M', ia_qr xs (ia_cal xs (D + 6)) im_Mod_product (F + 1) 10 [.ref a, .float 0] [] (pM h a (rSt M by_ T w0 i1 W1 op kn1 out1)) = some (none, pM h a M') ∧ lvR M by_ T w0 5 op i kn out M' := by
      intro hK
      have hr : rkK (tkK by_ T i1) = 6 := hrk.1.mpr hK
      have ⟨j1, j2⟩ := hJ i1 hi (by omega)
      have q8 : (rSt M by_ T w0 i1 W1 op kn1 out1).1 8 = W1 := rfl
      have lvo : lvO 5 6 6 := by unfold lvO; omega
      by_cases c64 : kn1 = 64
      · subst c64
        have n9 := fl_9 (M := rSt M by_ T w0 i1 W1 op 64 out1) (k := 2) (p := tkP by_ T i1) (Or.inr rfl)
        refine ⟨flM (rSt M by_ T w0 i1 W1 op 64 out1) 2 (tkP by_ T i1), ?_, Or.inl ⟨2, _, Or.inr rfl, sF_knot hJ hs hi hr (by decide) (by decide) (by decide) (Nat.le_refl 64), _, _, _, _, _, rfl⟩⟩
        rw [iq_Mod_product_10]
        simp only [↓pM_Ib, q8, ↓pM_clsb, ↓cV_of (r_knotF xs (D + 4) (h := h) (a := a) hb), ↓cV_of (f_goOn xs (D + 5) n9), ↓cV_of (f_primary xs (D + 5) n9), ↓cV_of (f_puts xs (D + 5) n9 2 W1)]
        obtain ⟨F, rfl⟩ : ∃ k, F = k + 1 := ⟨F - 1, by omega⟩
        exact f_productL xs (D + 5) n9
      · obtain ⟨W2, v2, g2⟩ := r_goOn xs (D + 1) (h := h) (a := a) (w0 := w0) (W := W1) (op := op) (kn := kn1 + 1) (out := out1) hb hi
        obtain ⟨M2, g3, g4⟩ := hsub (tkJ by_ T i1) W2 (kn1 + 1) out1 (D + 6) j2 v2 (by omega) (by omega) (by omega)
        rw [iq_Mod_product_10]
        simp only [↓pM_Ib, q8, ↓pM_clsb, ↓cV_of (r_knot xs (D + 5) (h := h) (a := a) (w0 := w0) (i := i1) (W := W1) (op := op) (kn := kn1) (out := out1) hb (by omega)), ↓cV_of g2, ↓cV_of g3]
        rcases g4 with ⟨k, p, hkp, hsb, j, W3, o3, n3, l3, e3⟩ | ⟨i2, kn2, out2, W3, e3, hi21, hi2, hv3, hl3, hk3, hk4, hs3, hn3, hp3⟩
        · have n9 : M2.1 9 ≠ 0 := by rw [e3]; exact fl_9 hkp
          refine ⟨M2, ?_, Or.inl ⟨k, p, hkp, sF_bad hJ hs hi hr lvo (by omega) hsb, j, W3, o3, n3, l3, e3⟩⟩
          simp only [↓cV_of (f_puts xs (D + 5) n9 2 W1)]
          obtain ⟨F, rfl⟩ : ∃ k, F = k + 1 := ⟨F - 1, by omega⟩
          exact f_productL xs (D + 5) n9
        · rw [e3]
          have pt := r_puts xs (D + 4) (h := h) (a := a) (w0 := w0) (i := i2) (W := W3) (op := op) (kn := kn2) (out := out2) hb (by omega) (tkK by_ T i1, 0) (v1 := 2) (v2 := W1) (ks_s _ (by omega)).symm (by rw [kv_s _ (by omega)]; exact hv.2.2.2 (by omega))
          simp only [↓cV_of pt]
          exact ih i2 W3 kn2 (out2 ++ [(tkK by_ T i1, 0)]) F (by omega) (by omega) hi2 hv3 (by rw [List.length_append, List.length_singleton]; omega) (by omega) hk4 (sF_ok hJ hs hi hr lvo (by omega) hs3 hi2 hn3) hn3 (pf_bin hp hp3 (by omega) (by omega)) (by omega)
    rw [iq_Mod_product_2]
    simp only [↓pM_clsb, ↓cI_of t1, ↓cI_of t2]
    by_cases c1 : tkK by_ T i1 = 30
    · rw [if_pos c1, if_neg (show ¬ (1 : Int32) = 0 by decide)]
      exact go (Or.inl c1)
    · rw [if_neg c1, if_pos rfl]
      by_cases c2 : tkK by_ T i1 = 31
      · rw [if_pos c2, if_neg (show ¬ (1 : Int32) = 0 by decide)]
        exact go (Or.inr c2)
      · rw [if_neg c2, if_pos rfl]
        refine ⟨_, rfl, Or.inr ⟨i1, kn1, out1, W1, rfl, hii, hi, hv, hl, hk, hk2, hs, ?_, hp⟩⟩
        have := rk_le (tkK by_ T i1)
        unfold nxL at hn ⊢
        omega
theorem r_product (hb : rB N M by_ T) {c : Nat} (hc : 6 ≤ c) (hsub : lvT xs h a M by_ T w0 im_Mod_primary 6 op c) : lvT xs h a M by_ T w0 im_Mod_product 5 op (c + 1) := by
  intro i W kn out D hi hv hw hk hD
  have hT7 := hb.1.1
  obtain ⟨D, rfl⟩ : ∃ k, D = k + 1 := ⟨D - 1, by omega⟩
  obtain ⟨M2, g3, g4⟩ := hsub i W kn out D hi hv hw hk (by omega)
  rw [iu_Mod_product, show (1000000 : Nat) = 999999 + 1 from rfl, iq_Mod_product_0]
  simp only [↓pM_clsb, ↓cV_of g3]
  rcases g4 with ⟨k, p, hkp, hsb, j, W3, o3, n3, l3, e3⟩ | ⟨i2, kn2, out2, W3, e3, hi21, hi2, hv3, hl3, hk3, hk4, hs3, hn3, hp3⟩
  · have n9 : M2.1 9 ≠ 0 := by rw [e3]; exact fl_9 hkp
    obtain ⟨D, rfl⟩ : ∃ k, D = k + 1 := ⟨D - 1, by omega⟩
    refine ⟨M2, ?_, Or.inl ⟨k, p, hkp, sB_up (by omega) hsb, j, W3, o3, n3, l3, e3⟩⟩
    rw [show (999999 : Nat) = 999998 + 1 from rfl]
    exact f_productL xs D n9
  · rw [e3]
    exact r_productL xs (h := h) (a := a) hb hc hsub hw (by omega) (T - i2) i2 W3 kn2 out2 999999 (Nat.le_refl _) hi21 hi2 hv3 hl3 hk3 hk4 (sF_up (by omega) hs3) hn3 hp3 (by omega)
theorem f_sumL {F : Nat} (h9 : M.1 9 ≠ 0) : ia_qr xs (ia_cal xs (d + 1)) im_Mod_sum (F + 1) 2 [.ref a, .float 0] [] (pM h a M) = some (none, pM h a M) := by
  rw [iq_Mod_sum_2]
  simp only [↓pM_clsb, ↓cI_of (f_isSign xs d h9 _)]
  rw [if_pos trivial, if_pos trivial]
theorem r_sumL (hb : rB N M by_ T) {c : Nat} (hc : 6 ≤ c) (hsub : lvT xs h a M by_ T w0 im_Mod_product 5 op c) (hw : w0 + out.length ≤ kn) {D : Nat} (hD : c + (64 - kn) ≤ D) : ∀ m i1 W1 kn1 out1 F, T - i1 ≤ m → i ≤ i1 → i1 ≤ T → vOK (tkK by_ T i1) (tkV by_ T i1) W1 → out1.length + kn = kn1 + out.length → kn ≤ kn1 → kn1 ≤ 64 → sF (tkK by_ T) (tkV by_ T) (tkP by_ T) (tkJ by_ T) T 4 i op kn out i1 kn1 out1 → nxL 5 (rkK (tkK by_ T i1)) → pfX out out1 → 2 * m + 4 ≤ F → ∃ M', ia_qr xs (ia_cal xs D) im_Mod_sum F 2 [.ref a, .float 0] [] (pM h a (rSt M by_ T w0 i1 W1 op kn1 out1)) = some (none, pM h a M') ∧ lvR M by_ T w0 4 op i kn out M' := by
  have hJ := hb.j
  obtain ⟨D, rfl⟩ : ∃ k, D = k + 6 := ⟨D - 6, by omega⟩
  intro m
  induction m with
  | zero =>
    intro i1 W1 kn1 out1 F hm hii hi hv hl hk hk2 hs hn hp hF
    obtain ⟨F, rfl⟩ : ∃ k, F = k + 1 := ⟨F - 1, by omega⟩
    have k0 : tkK by_ T i1 = 0 := by
      by_cases c : tkK by_ T i1 = 0
      · exact c
      · have := hJ i1 hi c
        omega
    have t1 := r_isSign xs (D + 5) (h := h) (a := a) (w0 := w0) (op := op) (kn := kn1) (out := out1) hb hv (c := 43) (k := 28) (by decide) (by decide) (fun K a b => (kw_s K a b).2.2.2.2.1) (v := 43) rfl
    have t2 := r_isSign xs (D + 5) (h := h) (a := a) (w0 := w0) (op := op) (kn := kn1) (out := out1) hb hv (c := 45) (k := 29) (by decide) (by decide) (fun K a b => (kw_s K a b).2.2.2.2.2.1) (v := 45) rfl
    rw [if_neg (by omega)] at t1 t2
    refine ⟨_, ?_, Or.inr ⟨i1, kn1, out1, W1, rfl, hii, hi, hv, hl, hk, hk2, hs, ?_, hp⟩⟩
    · rw [iq_Mod_sum_2]
      simp only [↓pM_clsb, ↓cI_of t1, ↓cI_of t2]
      rw [if_pos trivial, if_pos trivial]
    · rw [k0]
      exact ⟨fun _ => by decide, fun _ => by decide, fun _ => by decide, fun _ => by decide⟩
  | succ m ih =>
    intro i1 W1 kn1 out1 F hm hii hi hv hl hk hk2 hs hn hp hF
    obtain ⟨F, rfl⟩ : ∃ k, F = k + 1 + 1 := ⟨F - 2, by omega⟩
    have t1 := r_isSign xs (D + 5) (h := h) (a := a) (w0 := w0) (op := op) (kn := kn1) (out := out1) hb hv (c := 43) (k := 28) (by decide) (by decide) (fun K a b => (kw_s K a b).2.2.2.2.1) (v := 43) rfl
    have t2 := r_isSign xs (D + 5) (h := h) (a := a) (w0 := w0) (op := op) (kn := kn1) (out := out1) hb hv (c := 45) (k := 29) (by decide) (by decide) (fun K a b => (kw_s K a b).2.2.2.2.2.1) (v := 45) rfl
    have hrk := rk_6 (tkK by_ T i1)
    have go : (tkK by_ T i1 = 28 ∨ tkK by_ T i1 = 29) → ∃ M', ia_qr xs (ia_cal xs (D + 6)) im_Mod_sum (F + 1) 10 [.ref a, .float 0] [] (pM h a (rSt M by_ T w0 i1 W1 op kn1 out1)) = some (none, pM h a M') ∧ lvR M by_ T w0 4 op i kn out M' := by
      intro hK
      have hr : rkK (tkK by_ T i1) = 5 := hrk.2.1.mpr hK
      have ⟨j1, j2⟩ := hJ i1 hi (by omega)
      have q8 : (rSt M by_ T w0 i1 W1 op kn1 out1).1 8 = W1 := rfl
      have lvo : lvO 4 5 5 := by unfold lvO; omega
      by_cases c64 : kn1 = 64
      · subst c64
        have n9 := fl_9 (M := rSt M by_ T w0 i1 W1 op 64 out1) (k := 2) (p := tkP by_ T i1) (Or.inr rfl)
        refine ⟨flM (rSt M by_ T w0 i1 W1 op 64 out1) 2 (tkP by_ T i1), ?_, Or.inl ⟨2, _, Or.inr rfl, sF_knot hJ hs hi hr (by decide) (by decide) (by decide) (Nat.le_refl 64), _, _, _, _, _, rfl⟩⟩
        rw [iq_Mod_sum_10]
        simp only [↓pM_Ib, q8, ↓pM_clsb, ↓cV_of (r_knotF xs (D + 4) (h := h) (a := a) hb), ↓cV_of (f_goOn xs (D + 5) n9), ↓cV_of (f_product xs (D + 4) n9), ↓cV_of (f_puts xs (D + 5) n9 2 W1)]
        obtain ⟨F, rfl⟩ : ∃ k, F = k + 1 := ⟨F - 1, by omega⟩
        exact f_sumL xs (D + 5) n9
      · obtain ⟨W2, v2, g2⟩ := r_goOn xs (D + 1) (h := h) (a := a) (w0 := w0) (W := W1) (op := op) (kn := kn1 + 1) (out := out1) hb hi
        obtain ⟨M2, g3, g4⟩ := hsub (tkJ by_ T i1) W2 (kn1 + 1) out1 (D + 6) j2 v2 (by omega) (by omega) (by omega)
        rw [iq_Mod_sum_10]
        simp only [↓pM_Ib, q8, ↓pM_clsb, ↓cV_of (r_knot xs (D + 5) (h := h) (a := a) (w0 := w0) (i := i1) (W := W1) (op := op) (kn := kn1) (out := out1) hb (by omega)), ↓cV_of g2, ↓cV_of g3]
        rcases g4 with ⟨k, p, hkp, hsb, j, W3, o3, n3, l3, e3⟩ | ⟨i2, kn2, out2, W3, e3, hi21, hi2, hv3, hl3, hk3, hk4, hs3, hn3, hp3⟩
        · have n9 : M2.1 9 ≠ 0 := by rw [e3]; exact fl_9 hkp
          refine ⟨M2, ?_, Or.inl ⟨k, p, hkp, sF_bad hJ hs hi hr lvo (by omega) hsb, j, W3, o3, n3, l3, e3⟩⟩
          simp only [↓cV_of (f_puts xs (D + 5) n9 2 W1)]
          obtain ⟨F, rfl⟩ : ∃ k, F = k + 1 := ⟨F - 1, by omega⟩
          exact f_sumL xs (D + 5) n9
        · rw [e3]
          have pt := r_puts xs (D + 4) (h := h) (a := a) (w0 := w0) (i := i2) (W := W3) (op := op) (kn := kn2) (out := out2) hb (by omega) (tkK by_ T i1, 0) (v1 := 2) (v2 := W1) (ks_s _ (by omega)).symm (by rw [kv_s _ (by omega)]; exact hv.2.2.2 (by omega))
          simp only [↓cV_of pt]
          exact ih i2 W3 kn2 (out2 ++ [(tkK by_ T i1, 0)]) F (by omega) (by omega) hi2 hv3 (by rw [List.length_append, List.length_singleton]; omega) (by omega) hk4 (sF_ok hJ hs hi hr lvo (by omega) hs3 hi2 hn3) hn3 (pf_bin hp hp3 (by omega) (by omega)) (by omega)
    rw [iq_Mod_sum_2]
    simp only [↓pM_clsb, ↓cI_of t1, ↓cI_of t2]
    by_cases c1 : tkK by_ T i1 = 28
    · rw [if_pos c1, if_neg (show ¬ (1 : Int32) = 0 by decide)]
      exact go (Or.inl c1)
    · rw [if_neg c1, if_pos rfl]
      by_cases c2 : tkK by_ T i1 = 29
      · rw [if_pos c2, if_neg (show ¬ (1 : Int32) = 0 by decide)]
        exact go (Or.inr c2)
      · rw [if_neg c2, if_pos rfl]
        refine ⟨_, rfl, Or.inr ⟨i1, kn1, out1, W1, rfl, hii, hi, hv, hl, hk, hk2, hs, ?_, hp⟩⟩
        have := rk_le (tkK by_ T i1)
        unfold nxL at hn ⊢
        omega
theorem r_sum (hb : rB N M by_ T) {c : Nat} (hc : 6 ≤ c) (hsub : lvT xs h a M by_ T w0 im_Mod_product 5 op c) : lvT xs h a M by_ T w0 im_Mod_sum 4 op (c + 1) := by
  intro i W kn out D hi hv hw hk hD
  have hT7 := hb.1.1
  obtain ⟨D, rfl⟩ : ∃ k, D = k + 1 := ⟨D - 1, by omega⟩
  obtain ⟨M2, g3, g4⟩ := hsub i W kn out D hi hv hw hk (by omega)
  rw [iu_Mod_sum, show (1000000 : Nat) = 999999 + 1 from rfl, iq_Mod_sum_0]
  simp only [↓pM_clsb, ↓cV_of g3]
  rcases g4 with ⟨k, p, hkp, hsb, j, W3, o3, n3, l3, e3⟩ | ⟨i2, kn2, out2, W3, e3, hi21, hi2, hv3, hl3, hk3, hk4, hs3, hn3, hp3⟩
  · have n9 : M2.1 9 ≠ 0 := by rw [e3]; exact fl_9 hkp
    obtain ⟨D, rfl⟩ : ∃ k, D = k + 1 := ⟨D - 1, by omega⟩
    refine ⟨M2, ?_, Or.inl ⟨k, p, hkp, sB_up (by omega) hsb, j, W3, o3, n3, l3, e3⟩⟩
    rw [show (999999 : Nat) = 999998 + 1 from rfl]
    exact f_sumL xs D n9
  · rw [e3]
    exact r_sumL xs (h := h) (a := a) hb hc hsub hw (by omega) (T - i2) i2 W3 kn2 out2 999999 (Nat.le_refl _) hi21 hi2 hv3 hl3 hk3 hk4 (sF_up (by omega) hs3) hn3 hp3 (by omega)
end DX9
