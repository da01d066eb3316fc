/-! text: lines of the class: numbers, people, prices. -/
section FX6
variable (xs : List Int32) (d : Nat) {H : ia_H} {x : Nat} {C : aC} {σ : Bool} {M : aG} {by_ : Nat → Nat} {T : Nat} {B E L S : aG} {i n p : Nat}
theorem kS_n {ρ τ : Bool} : kS ρ ≠ 6 ∧ kS ρ ≠ 3 ∧ kS ρ ≠ 7 ∧ kS ρ ≠ 0 ∧ kS ρ ≠ 11 ∧ kS ρ ≠ kL τ := by cases ρ <;> cases τ <;> decide
theorem k4_uS {ρ τ : Bool} {A : aG} : uG (k4 C τ A B E L) (kS ρ) S = k4 (uG C (kS ρ) S) τ A B E L := by
  obtain ⟨n6, n3, n7, n0, n11, nL⟩ := kS_n (ρ := ρ) (τ := τ)
  refine Prod.ext (funext fun k => ?_) rfl
  show (if k = kS ρ then S else if k = 6 then A else if k = 3 then B else if k = 7 then E else if k = kL τ then L else C.1 k) = if k = 6 then A else if k = 3 then B else if k = 7 then E else if k = kL τ then L else if k = kS ρ then S else C.1 k
  by_cases c : k = kS ρ
  · rw [if_pos c, if_neg (by omega), if_neg (by omega), if_neg (by omega), if_neg (by omega), if_pos c]
  · rw [if_neg c, if_neg c]
theorem k4_uW {τ : Bool} {A : aG} {k : Nat} {X : aW} : uW (k4 C τ A B E L) k X = k4 (uW C k X) τ A B E L := rfl
theorem k4_fxS (h : fx x C σ) (hB : B.2 = (C.1 3).2) {A : aG} {τ : Bool} (hS : S.2.2.2.2 = (C.1 (kS (!σ))).2.2.2.2) : fx x (k4 (uG C (kS (!σ)) S) τ A B E L) σ := by
  obtain ⟨x1, x2, x3, x4⟩ := h
  obtain ⟨n6, n3, n7, n0, n11, nL⟩ := kS_n (ρ := !σ) (τ := τ)
  refine ⟨by rw [k4_0, uG_n (Ne.symm n0)]; exact x1, by rw [k4_3, hB]; exact x2, by rw [k4_11, uG_n (Ne.symm n11)]; exact x3, fun ρ => ?_⟩
  have x4' := x4 ρ
  rw [k4_S]
  by_cases c : kS ρ = kS (!σ)
  · have hρ : ρ = !σ := by
      revert c
      cases ρ <;> cases σ <;> decide
    subst hρ
    rw [uG_s, hS]
    exact x4'
  · rw [uG_n c]
    exact x4'
/-- number: what it answers -/
theorem k_number (hc : cB x C σ M by_ T) (hB : B.2 = (C.1 3).2) (hiT : i ≤ T) {lo hi : Nat} (hlo : lo ≤ hi) (hhi : hi ≤ 99999) {l g : Int32} (el : l = nI lo) (eg : g = nI hi) : ∃ v D, ia_cal xs (d + 8) im_Reader_number [.ref (x + 53), .int l, .int g] (tot H x (k4 C (!σ) (tkA (C.1 6) by_ T i) B E L)) = some (some (.int v), tot H x D) ∧ ((∃ k q, nuS by_ T lo hi i = .inl (k, q) ∧ v = -1 ∧ D = k4 C (!σ) (tkA (C.1 6) by_ T i) (fB B k q) E L) ∨ (∃ j, nuS by_ T lo hi i = .inr j ∧ v = nI (tkV by_ T i) ∧ lo ≤ tkV by_ T i ∧ tkV by_ T i ≤ hi ∧ i ≤ j ∧ j ≤ T ∧ D = k4 C (!σ) (tkA (C.1 6) by_ T j) B E L)) := by
  have hq : fx x (k4 C (!σ) (tkA (C.1 6) by_ T i) B E L) σ := k4_fx hc.1 hB
  have q0 : (tkA (C.1 6) by_ T i).1 0 = nI (tkK by_ T i) := rfl
  have q2 : (tkA (C.1 6) by_ T i).1 2 = nI (tkV by_ T i) := rfl
  have k38 := tk_lt hc.tk i
  have hon := tk_on hc.tk i hiT
  have wg : ∀ k v, v = nI k → ia_cal xs (d + 7) im_Reader_wrong [.ref (x + 53), .int v] (tot H x (k4 C (!σ) (tkA (C.1 6) by_ T i) B E L)) = some (some (.int 0), tot H x (k4 C (!σ) (tkA (C.1 6) by_ T i) (fB B k (tkP by_ T i)) E L)) := fun k v hv => k_wrong xs (d + 6) (k4_fx hc.1 hB) hv
  rw [el, eg, iu_Reader_number, show (1000000 : Nat) = 999998 + 1 + 1 from rfl, iq_Reader_number_0]
  simp only [↓tQ_Rb hq, ↓tT_Ib, k4_6, q0, q2]
  unfold nuS
  by_cases c3 : tkK by_ T i = 3
  · have w4 := tk_3 hc.tk c3
    rw [if_pos (show nI (tkK by_ T i) = (3 : Int32) by rw [c3]; rfl), if_pos c3]
    have much : ia_qr xs (ia_cal xs (d + 7)) im_Reader_number (999998 + 1) 21 [.ref (x + 53), .float 0, .float 0, .float 0] [] (tot H x (k4 C (!σ) (tkA (C.1 6) by_ T i) B E L)) = some (some (.int (-1)), tot H x (k4 C (!σ) (tkA (C.1 6) by_ T i) (fB B 2 (tkP by_ T i)) E L)) := by
      rw [iq_Reader_number_21]
      simp only [↓tQ_clsb, ↓cI_of (wg 2 2 rfl)]
    by_cases c : tkV by_ T i < lo ∨ hi < tkV by_ T i
    · rw [if_pos c]
      refine ⟨-1, _, ?_, Or.inl ⟨2, tkP by_ T i, rfl, rfl, rfl⟩⟩
      by_cases c1 : tkV by_ T i < lo
      · rw [if_pos (nI_lt c1 (by omega))]
        exact much
      · rw [if_neg (nI_nlt (by omega) (by omega)), if_pos (nI_lt (show hi < tkV by_ T i by omega) (by omega))]
        exact much
    · rw [if_neg c]
      refine ⟨nI (tkV by_ T i), _, ?_, Or.inr ⟨tkJ by_ T i, rfl, rfl, by omega, by omega, hon.2.2.2.2, hon.2.2.1, rfl⟩⟩
      rw [if_neg (nI_nlt (show lo ≤ tkV by_ T i by omega) (by omega)), if_neg (nI_nlt (show tkV by_ T i ≤ hi by omega) (by omega))]
      simp only [↓tT_clsb, ↓cV_of (c_next xs d (H := H) (τ := !σ) (B := B) (E := E) (L := L) hc hiT)]
  · rw [if_neg (show ¬ nI (tkK by_ T i) = (3 : Int32) from fun z => c3 ((nI_eq (b := 3) (by omega) (by decide)).mp z)), if_neg c3]
    refine ⟨-1, _, ?_, Or.inl ⟨1, tkP by_ T i, rfl, rfl, rfl⟩⟩
    simp only [↓tQ_clsb, ↓cI_of (wg 1 1 rfl)]
/-- person: what it answers -/
theorem k_person (hc : cB x C σ M by_ T) (hB : B.2 = (C.1 3).2) (hi : i ≤ T) (hS : wfS (C.1 (kS (!σ))) p n) : ∃ v D, ia_cal xs (d + 8) im_Reader_person [.ref (x + 53)] (tot H x (k4 C (!σ) (tkA (C.1 6) by_ T i) B E L)) = some (some (.int v), tot H x D) ∧ ((∃ k q, maS (fG (C.1 (kS (!σ))) 0) p by_ T i = .inl (k, q) ∧ v = -1 ∧ D = k4 C (!σ) (tkA (C.1 6) by_ T i) (fB B k q) E L) ∨ (∃ m, maS (fG (C.1 (kS (!σ))) 0) p by_ T i = .inr i ∧ v = nI m ∧ m < p ∧ fnN (fG (C.1 (kS (!σ))) 0) p (tkV by_ T i) = nI m ∧ D = k4 C (!σ) (tkA (C.1 6) by_ T (tkJ by_ T i)) B E L)) := by
  have hq : fx x (k4 C (!σ) (tkA (C.1 6) by_ T i) B E L) σ := k4_fx hc.1 hB
  have q0 : (tkA (C.1 6) by_ T i).1 0 = nI (tkK by_ T i) := rfl
  have q2 : (tkA (C.1 6) by_ T i).1 2 = nI (tkV by_ T i) := rfl
  have k38 := tk_lt hc.tk i
  have wg : ∀ k v, v = nI k → ia_cal xs (d + 7) im_Reader_wrong [.ref (x + 53), .int v] (tot H x (k4 C (!σ) (tkA (C.1 6) by_ T i) B E L)) = some (some (.int 0), tot H x (k4 C (!σ) (tkA (C.1 6) by_ T i) (fB B k (tkP by_ T i)) E L)) := fun k v hv => k_wrong xs (d + 6) (k4_fx hc.1 hB) hv
  have pn : ia_cal xs (d + 7) im_Script_personNamed [.ref (sd x (!σ)), .int (nI (tkV by_ T i))] (tot H x (k4 C (!σ) (tkA (C.1 6) by_ T i) B E L)) = some (some (.int (fnN (fG (C.1 (kS (!σ))) 0) p (tkV by_ T i))), tot H x (k4 C (!σ) (tkA (C.1 6) by_ T i) B E L)) := by
    have := t_personNamed xs (d + 6) (H := H) (x := x) (C := k4 C (!σ) (tkA (C.1 6) by_ T i) B E L) (σ := !σ) (p := p) (n := n) (by rw [k4_S]; exact hS) (nI (tkV by_ T i))
    rw [k4_S] at this
    exact this
  rw [iu_Reader_person, iq_Reader_person_0]
  simp only [↓tQ_Rb hq, ↓tT_Ib, k4_6, q0, q2, ↓tS_clsb, ↓cI_of pn]
  unfold maS
  by_cases c2 : tkK by_ T i = 2
  · rw [if_pos (show nI (tkK by_ T i) = (2 : Int32) by rw [c2]; rfl), if_pos c2]
    rcases fst_c (P := fun j => fG (C.1 (kS (!σ))) 0 j = nI (tkV by_ T i)) p 0 (by have := hS.2.2.1; omega) with h1 | ⟨m, h1, h2, h3, h4⟩
    · have h1' : fnN (fG (C.1 (kS (!σ))) 0) p (tkV by_ T i) = -1 := h1
      rw [h1', if_pos rfl, if_pos rfl]
      refine ⟨-1, _, ?_, Or.inl ⟨4, tkP by_ T i, rfl, rfl, rfl⟩⟩
      simp only [↓tQ_clsb, ↓cI_of (wg 4 4 rfl)]
    · have h4' : fnN (fG (C.1 (kS (!σ))) 0) p (tkV by_ T i) = nI m := h4
      have hp := hS.2.2.1
      rw [h4', if_neg (nI_m1 (by omega)), if_neg (nI_m1 (by omega))]
      refine ⟨nI m, _, ?_, Or.inr ⟨m, rfl, rfl, by omega, rfl, rfl⟩⟩
      simp only [↓tQ_Rb hq, ↓tT_clsb, ↓cV_of (c_next xs d (H := H) (τ := !σ) (B := B) (E := E) (L := L) hc hi)]
  · rw [if_neg (show ¬ nI (tkK by_ T i) = (2 : Int32) from fun z => c2 ((nI_eq (b := 2) (by omega) (by decide)).mp z)), if_neg c2]
    refine ⟨-1, _, ?_, Or.inl ⟨1, tkP by_ T i, rfl, rfl, rfl⟩⟩
    simp only [↓tQ_clsb, ↓cI_of (wg 1 1 rfl)]
/-- a line read: a fault, or this came of it -/
def lnR (C : aC) (σ : Bool) (by_ : Nat → Nat) (T : Nat) (B E L : aG) (s : Sum (Nat × Nat) Nat) (C' : aC) (r : Int32) (D : aC) : Prop := match s with
  | .inl f => r = 0 ∧ ∃ j, D = k4 C (!σ) (tkA (C.1 6) by_ T j) (fB B f.1 f.2) E L
  | .inr j => r = 1 ∧ j ≤ T ∧ D = k4 C' (!σ) (tkA (C.1 6) by_ T j) B E L
theorem c_price (hc : cB x C σ M by_ T) (hB : B.2 = (C.1 3).2) (hi : i ≤ T) (hS : wfS (C.1 (kS (!σ))) p n) (hn : n < 6) : ∃ r D, ia_cal xs (d + 9) im_Reader_readPrice [.ref (x + 53)] (tot H x (k4 C (!σ) (tkA (C.1 6) by_ T i) B E L)) = some (some (.int r), tot H x D) ∧ ∃ v1 v2, (∀ j, nuS by_ T 0 99 (tkJ by_ T i) = .inr j → v1 = tkV by_ T (tkJ by_ T i) ∧ v2 = tkV by_ T j) ∧ lnR C σ by_ T B E L (nb (nuS by_ T 0 99) (nuS by_ T 0 99 (tkJ by_ T i))) (uG C (kS (!σ)) (gI (gA (gA (C.1 (kS (!σ))) 2 (((C.1 (kS (!σ))).2.1 2).set n (nI v1))) 3 (((C.1 (kS (!σ))).2.1 3).set n (nI v2))) 1 (nI (n + 1)))) r D := by
  have hon := tk_on hc.tk i hi
  have hq : ∀ A, fx x (k4 C (!σ) A B E L) σ := fun A => k4_fx hc.1 hB
  obtain ⟨s0, s1, s2, s3, s4, s5, s6, s7⟩ := hS
  obtain ⟨v1, D1, a1, a2⟩ := k_number xs d (H := H) (E := E) (L := L) hc hB hon.2.2.1 (lo := 0) (hi := 99) (by decide) (by decide) (l := 0) (g := 99) rfl rfl
  have nx := c_next xs (d + 1) (H := H) (τ := !σ) (B := B) (E := E) (L := L) hc hi
  rw [iu_Reader_readPrice, show (1000000 : Nat) = 999998 + 1 + 1 from rfl, iq_Reader_readPrice_0]
  simp only [↓tQ_Rb (hq _), ↓tS_Ib, k4_S, s1, ↓if_p (show nI n < (6 : Int32) from nI_lt (b := 6) hn (by decide)), ↓tT_clsb, ↓cV_of nx, ↓tQ_clsb, ↓cI_of a1]
  rcases a2 with ⟨k, q, e1, e2, e3⟩ | ⟨j, e1, e2, e3, e4, e5, e6, e7⟩
  · rw [e2, if_pos rfl, iq_Reader_readPrice_26, if_pos rfl, ok0, e3]
    refine ⟨0, _, rfl, 0, 0, (fun j hj => by rw [e1] at hj; cases hj), ?_⟩
    rw [e1]
    exact ⟨rfl, _, rfl⟩
  · rw [e2, if_neg (nI_m1 (by omega)), e7]
    obtain ⟨v2, D2, b1, b2⟩ := k_number xs d (H := H) (E := E) (L := L) hc hB e6 (lo := 0) (hi := 99) (by decide) (by decide) (l := 0) (g := 99) rfl rfl
    simp only [↓tQ_clsb, ↓cI_of b1]
    rw [iq_Reader_readPrice_26]
    have vv : ∀ j', nuS by_ T 0 99 (tkJ by_ T i) = .inr j' → tkV by_ T (tkJ by_ T i) = tkV by_ T (tkJ by_ T i) ∧ tkV by_ T j = tkV by_ T j' := fun j' hj => by rw [e1] at hj; cases hj; exact ⟨rfl, rfl⟩
    rcases b2 with ⟨k, q, f1, f2, f3⟩ | ⟨j', f1, f2, f3, f4, f5, f6, f7⟩
    · rw [f2, if_pos rfl, ok0, f3]
      refine ⟨0, _, rfl, tkV by_ T (tkJ by_ T i), tkV by_ T j, vv, ?_⟩
      rw [e1]
      show lnR C σ by_ T B E L (nuS by_ T 0 99 j) _ _ _
      rw [f1]
      exact ⟨rfl, _, rfl⟩
    · rw [f2, if_neg (nI_m1 (by omega)), f7]
      have w2 : wr ((C.1 (kS (!σ))).2.1 2) (nI n) (nI (tkV by_ T (tkJ by_ T i))) = some (((C.1 (kS (!σ))).2.1 2).set n (nI (tkV by_ T (tkJ by_ T i)))) := wr_nI (by omega) (by omega)
      have w3 : wr ((gA (C.1 (kS (!σ))) 2 (((C.1 (kS (!σ))).2.1 2).set n (nI (tkV by_ T (tkJ by_ T i))))).2.1 3) (nI n) (nI (tkV by_ T j)) = some (((C.1 (kS (!σ))).2.1 3).set n (nI (tkV by_ T j))) := wr_nI (by omega) (by show n < ((C.1 (kS (!σ))).2.1 3).length; omega)
      have g1 := k4_fxS (τ := !σ) (A := tkA (C.1 6) by_ T j') (E := E) (L := L) hc.1 hB (S := gA (C.1 (kS (!σ))) 2 (((C.1 (kS (!σ))).2.1 2).set n (nI (tkV by_ T (tkJ by_ T i))))) rfl
      have g2 := k4_fxS (τ := !σ) (A := tkA (C.1 6) by_ T j') (E := E) (L := L) hc.1 hB (S := gA (gA (C.1 (kS (!σ))) 2 (((C.1 (kS (!σ))).2.1 2).set n (nI (tkV by_ T (tkJ by_ T i))))) 3 (((C.1 (kS (!σ))).2.1 3).set n (nI (tkV by_ T j)))) rfl
      have y1 : (gA (C.1 (kS (!σ))) 2 (((C.1 (kS (!σ))).2.1 2).set n (nI (tkV by_ T (tkJ by_ T i))))).1 1 = nI n := s1
      have y2 : (gA (gA (C.1 (kS (!σ))) 2 (((C.1 (kS (!σ))).2.1 2).set n (nI (tkV by_ T (tkJ by_ T i))))) 3 (((C.1 (kS (!σ))).2.1 3).set n (nI (tkV by_ T j)))).1 1 = nI n := s1
      simp only [↓tQ_Rb (hq _), ↓tS_Rb (hq _), ↓tS_Ib, k4_S, s1, ↓tS_stb, ↓bs w2, k4_uS, ↓tQ_Rb g1, ↓tS_Rb g1, uG_s, y1, ↓bs w3, uG_G, ↓tQ_Rb g2, ↓tS_Rb g2, y2, ↓tS_pfb, nI_1, ↓ok1]
      refine ⟨1, _, rfl, tkV by_ T (tkJ by_ T i), tkV by_ T j, vv, ?_⟩
      rw [e1]
      show lnR C σ by_ T B E L (nuS by_ T 0 99 j) _ _ _
      rw [f1]
      exact ⟨rfl, f6, rfl⟩
end FX6
