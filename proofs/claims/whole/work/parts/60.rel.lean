/-! What ties the class to the reference. -/
def TXr (S L : aG) (F : aW) (M : aG) (p n r t0 : Nat) : Prop := wfS S p n ∧ wfQ L ∧ rsM M S L r p n ∧ (∀ i, i < p → fG M 2 i = fG S 0 i) ∧ fG M 1 4 = (if S.1 2 = -1 then 3 else S.1 2) ∧ fG M 1 5 = (if S.1 3 = -1 then 3 else S.1 3) ∧ fG M 1 7 = L.1 0 ∧ fG M 1 1 = nI t0 ∧ wfX F t0 r p ∧ bdX F r 0 ∧ cmM M F r ∧ agW (stW M F) F t0 r p
def NWr (X : aW) (M : aG) (t r p q : Nat) : Prop := wfX X t r p ∧ cmM M X r ∧ dkA M 0 X t r p ∧ bdX X r q ∧ q ≤ 9900
def OPr (M : aG) : Prop := M.1 18 = 0 ∧ M.1 19 = -1 ∧ M.1 20 = -1 ∧ M.1 21 = 0 ∧ (M.2.2.2.1 0).length = 7 ∧ (M.2.2.2.1 1).length = 64
def IMr (N : aG) (I : aW) (M : aG) (r p : Nat) : Prop := N.1 1 = M.1 16 ∧ lnX I ∧ (M.1 16 = 0 ∨ (M.1 16 = 1 ∧ ∃ ti qi, wfX I ti r p ∧ cmM M I r ∧ dkA M 2 I ti r p ∧ bdX I r qi ∧ qi ≤ 9900))
/-- the k-th deed undone -/
def uDo (D : aG) (k r p : Nat) (X : aW) (t : Nat) (X' : aW) (t' : Nat) : Prop := (fG D 0 k = 0 ∧ t = t' + 1 ∧ X' = sI X 2 (nI t')) ∨ (fG D 0 k = 1 ∧ t' = t ∧ ∃ c, c < r ∧ fG D 1 k = nI c ∧ X' = sA X 8 ((X.2 8).set c (fG D 2 k))) ∨ (fG D 0 k = 2 ∧ t' = t ∧ ∃ c, c < r ∧ fG D 1 k = nI c ∧ X' = sA X 10 ((X.2 10).set c 1)) ∨ (fG D 0 k = 3 ∧ t' = t ∧ ∃ m, m < p ∧ fG D 1 k = nI m ∧ X' = sA X 0 ((X.2 0).set m (fG D 2 k)))
def DDc (D M : aG) (r p q : Nat) : Nat → aW → Nat → Prop
  | 0, _, _ => True
  | k + 1, X, t => ∃ X' t', uDo D k r p X t X' t' ∧ wfX X' t' r p ∧ dkA M (3 + k) X' t' r p ∧ bdX X' r q ∧ DDc D M r p q k X' t'
def DDr (D : aG) (X : aW) (M : aG) (t r p q : Nat) : Prop := (∀ k, k < 3 → (D.2.1 k).length = 20) ∧ ∃ k, k ≤ 20 ∧ D.1 0 = nI k ∧ M.1 17 = nI k ∧ DDc D M r p q k X t
def RUi (U M : aG) (p i : Nat) : Prop := (fG U 0 i = 2 ∧ ∃ j, j < i ∧ fG U 2 i = nI j ∧ fG M 37 i = nI j) ∨ ((fG U 0 i = 0 ∨ fG U 0 i = 1) ∧ fG M 37 i = -1 ∧ fG M 36 i = fG U 0 i ∧ (∃ v, v ≤ 60 ∧ fG U 1 i = nI v ∧ fG M 34 i = nI v) ∧ ∃ m, m < p ∧ fG U 2 i = nI m ∧ fG M 35 i = nI m)
def RUr (U M : aG) (p : Nat) : Prop := (∀ k, k < 4 → (U.2.1 k).length = 24) ∧ ∃ w, w ≤ 24 ∧ U.1 0 = nI w ∧ M.1 26 = nI w ∧ U.1 1 = M.1 27 ∧ (M.1 27 = -1 ∨ ∃ v, v ≤ w ∧ M.1 27 = nI v) ∧ ∀ i, i < w → RUi U M p i
def TPr (N M : aG) : Prop := (N.2.1 0).length = 700 ∧ ∃ T, T ≤ 700 ∧ N.1 0 = nI T ∧ M.1 1 = nI T ∧ ∀ i, i < T → ∃ b, b < 256 ∧ (fG N 0 i) &&& 255 = nI b ∧ fG M 0 i = nI b
def FLr (Q M : aG) : Prop := Q.1 0 = M.1 11 ∧ Q.1 1 = M.1 12
def wordL : List Int32 := [437714944, 687281152, 556043424, 613882880, 412554848, 690263648, 642945024, 404455424, 40936896, 202806272, 139511808, 693712896, 739555328, 559500448, 89777152, 384294336, 117035008, 680956928, 522190848, 48365568, 486146048]
/-- nobody is vain or rich below nothing -/
def nnB (v : Int32) : Prop := ∃ u, u ≤ 12000 ∧ v = nI u
theorem nnB.nn {v : Int32} (h : nnB v) : ¬ v < 0 := by
  obtain ⟨u, h1, h2⟩ := h
  rw [h2]
  exact nI_pos (by omega)
/-- purse and span of each within what is allowed -/
def pcX (X : aW) (i : Nat) : Prop := nnB (fA X 0 i) ∧ ∃ u, u ≤ 16 ∧ fA X 4 i = nI u
theorem pcX_sA {X : aW} {k i : Nat} {l : List Int32} (h : pcX X i) (h0 : 0 ≠ k) (h4 : 4 ≠ k) : pcX (sA X k l) i := by
  unfold pcX
  rw [fA_n h0, fA_n h4]
  exact h
def vpS (S : aG) (i : Nat) : Prop := ¬ fG S 1 i < 0 ∧ ∃ u, u ≤ 99 ∧ fG S 3 i = nI u
def NNr (C : aC) : Prop := (∀ k, k ≠ 5 → ∀ i, pcX (C.2 k) i) ∧ (∀ τ i, vpS (C.1 (kS τ)) i) ∧ ∀ i, nnB (fG (C.1 16) 2 i)
def PSr (C : aC) (σ : Bool) : Prop := (∀ k, k < 4 → ((C.1 (kS (!σ))).2.1 k).length = 6) ∧ wfL (C.1 (kL (!σ))) ∧ lnX (C.2 (kF (!σ))) ∧ ((C.1 7).2.1 0).length = 72 ∧ (C.1 6).2.1 1 = wordL ∧ NNr C
def Rp (x : Nat) (C : aC) (M : aG) (σ : Bool) (p n r t t0 q : Nat) : Prop := fx x C σ ∧ TXr (C.1 (kS σ)) (C.1 (kL σ)) (C.2 (kF σ)) M p n r t0 ∧ NWr (C.2 1) M t r p q ∧ OPr M ∧ IMr (C.1 0) (C.2 2) M r p ∧ DDr (C.1 16) (C.2 1) M t r p q ∧ RUr (C.1 15) M p ∧ TPr (C.1 0) M ∧ FLr (C.1 3) M ∧ PSr C σ ∧ lnX (C.2 5)
def Rl (x : Nat) (C : aC) (M : aG) : Prop := ∃ σ p n r t t0 q, Rp x C M σ p n r t t0 q
theorem DDc_m {D M M' : aG} {r p q : Nat} : ∀ k X t, k ≤ 20 → (∀ d X t, 3 ≤ d → d < 3 + k → wfX X t r p → dkA M d X t r p → dkA M' d X t r p) → DDc D M r p q k X t → DDc D M' r p q k X t
  | 0, _, _, _, _, _ => trivial
  | k + 1, X, t, hk, hm, ⟨X', t', h1, h2, h3, h4, h5⟩ => ⟨X', t', h1, h2, hm _ _ _ (by omega) (by omega) h2 h3, h4, DDc_m k X' t' (by omega) (fun d X t a b => hm d X t a (by omega)) h5⟩
theorem DDr.m {D M M' : aG} {X : aW} {t r p q : Nat} (h : DDr D X M t r p q) (h17 : M'.1 17 = M.1 17) (hm : ∀ d X t, 3 ≤ d → d < 23 → wfX X t r p → dkA M d X t r p → dkA M' d X t r p) : DDr D X M' t r p q := by
  obtain ⟨h1, k, hk, h2, h3, h4⟩ := h
  exact ⟨h1, k, hk, h2, h17.trans h3, DDc_m k X t hk (fun d X t a b => hm d X t a (by omega)) h4⟩
theorem Rp.t {x : Nat} {C : aC} {M : aG} {σ : Bool} {p n r t t0 q : Nat} (h : Rp x C M σ p n r t t0 q) (v : Int32) : Rp x C (gI M 0 v) σ p n r t t0 q := by
  obtain ⟨h1, h2, h3, h4, h5, h6, h7⟩ := h
  exact ⟨h1, h2, h3, h4, h5, h6.m rfl (fun d X t _ _ _ h => h), h7⟩
theorem Rp.l {x : Nat} {C : aC} {M : aG} {σ : Bool} {p n r t t0 q : Nat} (h : Rp x C M σ p n r t t0 q) : Rl x C M := ⟨σ, p, n, r, t, t0, q, h⟩
def inI (v : Int32) (p : Nat) : Int32 := if v < 0 then 0 else if v < nI p then 1 else 0
theorem inI_c (v : Int32) {p : Nat} (hp : p < 2 ^ 31) : inI v p = 0 ∨ (inI v p = 1 ∧ ∃ m, m < p ∧ v = nI m) := by
  unfold inI
  by_cases c1 : v < 0
  · rw [if_pos c1]; exact Or.inl rfl
  · by_cases c2 : v < nI p
    · rw [if_neg c1, if_pos c2]
      obtain ⟨j, hj, ej⟩ := nI_of c1
      refine Or.inr ⟨rfl, j, ?_, ej⟩
      rw [ej, nI_ltI hj hp] at c2
      exact c2
    · rw [if_neg c1, if_neg c2]; exact Or.inl rfl
section AGI
variable {X Y : aW} {t r p : Nat}
theorem fstI_c {P Q : Nat → Prop} [DecidablePred P] [DecidablePred Q] : ∀ k i, (∀ j, i ≤ j → j < i + k → (P j ↔ Q j)) → fstI P k i = fstI Q k i
  | 0, _, _ => rfl
  | k + 1, i, h => by
    rw [fstI, fstI, fstI_c k (i + 1) (fun j h1 h2 => h j (by omega) (by omega))]
    by_cases c : P i
    · rw [if_pos c, if_pos ((h i (by omega) (by omega)).mp c)]
    · rw [if_neg c, if_neg (fun z => c ((h i (by omega) (by omega)).mpr z))]
theorem anyI_c {P Q : Nat → Prop} [DecidablePred P] [DecidablePred Q] : ∀ k i, (∀ j, i ≤ j → j < i + k → (P j ↔ Q j)) → anyI P k i = anyI Q k i
  | 0, _, _ => rfl
  | k + 1, i, h => by
    rw [anyI, anyI, anyI_c k (i + 1) (fun j h1 h2 => h j (by omega) (by omega))]
    by_cases c : P i
    · rw [if_pos c, if_pos ((h i (by omega) (by omega)).mp c)]
    · rw [if_neg c, if_neg (fun z => c ((h i (by omega) (by omega)).mpr z))]
theorem ag_co (h : agW X Y t r p) (v : Int32) : coI X r v = coI Y r v := fstI_c r 0 fun j _ hj => by
  rw [h.2.2.2.2 10 (by decide) (by decide) j (by omega), h.2.2.2.2 6 (by decide) (by decide) j (by omega), h.2.2.2.2 7 (by decide) (by decide) j (by omega)]
theorem ag_ht (h : agW X Y t r p) (v : Int32) : htI X t v = htI Y t v := anyI_c t 0 fun j _ hj => by
  rw [h.2.2.2.1 5 (by decide) (by decide) j (by omega), h.2.2.2.1 2 (by decide) (by decide) j (by omega)]
theorem ag_eg (h : agW X Y t r p) (v : Int32) : egI X t r v = egI Y t r v := by
  unfold egI
  rw [ag_co h, ag_ht h]
theorem ag_em (h : agW X Y t r p) : ∀ i, emF X t r i = emF Y t r i
  | 0 => rfl
  | i + 1 => by rw [emF, emF, ag_eg h, ag_em h i]
end AGI
section PX
variable (xs : List Int32) (d : Nat) {h : ia_H} {a : Nat} {M : aG} {X : aW} {S L : aG} {t r p n q : Nat}
theorem NWr.ag (hn : NWr X M t r p q) : agW (dkW M 0 X) X t r p := dk_ag hn.1.2.1 hn.1.1.2.2.1 hn.1.1.2.2.2.1 hn.2.2.1
theorem NWr.wf (hn : NWr X M t r p q) (hl : lnM M) : wfX (dkW M 0 X) t r p := dk_wf hl (by decide) hn.1 hn.2.2.1
theorem NWr.y (hn : NWr X M t r p q) (hl : lnM M) : wfY M 0 (dkW M 0 X) := (hn.wf hl).y hl (by decide)
theorem p_callOf (hs : rsM M S L r p n) (hn : NWr X M t r p q) (v : Int32) : ia_cal xs (d + 1) im_Mod_callOf [.ref a, .int 0, .int v] (pM h a M) = some (some (.int (coI X r v)), pM h a M) := by
  have this := m_callOf xs d (h := h) (a := a) (b := 0) (dr := M.1 22) (wk := M.1 15) (sc := (M.2.2.2.1 0, M.2.2.2.1 1)) hs (dk_cm hn.2.1) (hn.y hs.1) v
  rw [my_dk hs.1 (by decide), ag_co hn.ag] at this
  exact this
theorem p_hasTone (hs : rsM M S L r p n) (hn : NWr X M t r p q) (v : Int32) : ia_cal xs (d + 1) im_Mod_hasTone [.ref a, .int 0, .int v] (pM h a M) = some (some (.int (htI X t v)), pM h a M) := by
  have this := m_hasTone xs d (h := h) (a := a) (b := 0) (dr := M.1 22) (wk := M.1 15) (sc := (M.2.2.2.1 0, M.2.2.2.1 1)) (hn.wf hs.1).1 (hn.y hs.1) v
  rw [my_dk hs.1 (by decide), ag_ht hn.ag] at this
  exact this
theorem p_isEngaged (hs : rsM M S L r p n) (hn : NWr X M t r p q) (v : Int32) : ia_cal xs (d + 2) im_Mod_isEngaged [.ref a, .int 0, .int v] (pM h a M) = some (some (.int (egI X t r v)), pM h a M) := by
  have this := m_isEngaged xs d (h := h) (a := a) (b := 0) (dr := M.1 22) (wk := M.1 15) (sc := (M.2.2.2.1 0, M.2.2.2.1 1)) hs (dk_cm hn.2.1) (hn.wf hs.1).1 (hn.y hs.1) v
  rw [my_dk hs.1 (by decide), ag_eg hn.ag] at this
  exact this
theorem p_engagedMany (hs : rsM M S L r p n) (hn : NWr X M t r p q) : ia_cal xs (d + 3) im_Mod_engagedMany [.ref a, .int 0] (pM h a M) = some (some (.int (emF X t r p)), pM h a M) := by
  have this := m_engagedMany xs d (h := h) (a := a) (b := 0) (dr := M.1 22) (wk := M.1 15) (sc := (M.2.2.2.1 0, M.2.2.2.1 1)) hs (dk_cm hn.2.1) (hn.wf hs.1).1 (hn.y hs.1)
  rw [my_dk hs.1 (by decide), ag_em hn.ag] at this
  exact this
theorem p_callsOf (hs : rsM M S L r p n) (hn : NWr X M t r p q) (v : Int32) : ia_cal xs (d + 1) im_Mod_callsOf [.ref a, .int 0, .int v] (pM h a M) = some (some (.int (nI (cntF (fA X 10) v r))), pM h a M) := by
  have this := m_callsOf xs d (h := h) (a := a) (b := 0) (dr := M.1 22) (wk := M.1 15) (sc := (M.2.2.2.1 0, M.2.2.2.1 1)) hs (hn.y hs.1) v
  rw [my_dk hs.1 (by decide), ag_cnt hn.ag] at this
  exact this
theorem p_priceAt (hs : rsM M S L r p n) (v : Int32) : ia_cal xs (d + 1) im_Mod_priceAt [.ref a, .int v] (pM h a M) = some (some (.int (prF (fG S 2) (fG S 3) v n).2), pM h a M) := by
  have this := m_priceAt xs d (h := h) (a := a) (b := 0) (X := dkW M 0 (fun _ => 0, fun _ => [])) (dr := M.1 22) (wk := M.1 15) (sc := (M.2.2.2.1 0, M.2.2.2.1 1)) hs v
  rw [my_dk hs.1 (by decide)] at this
  exact this
theorem p_isMan (hs : rsM M S L r p n) (v : Int32) : ia_cal xs (d + 1) im_Mod_isMan [.ref a, .int v] (pM h a M) = some (some (.int (inI v p)), pM h a M) := by
  have nn := (num_M hs.1).1
  rw [hs.2.1] at nn
  rw [iu_Mod_isMan, iq_Mod_isMan_0]
  simp only [↓pM_Rb, ↓pM_ldb, ↓bs nn, ↓ok0, ↓ok1, inI]
  split
  · rfl
  · split <;> rfl
theorem p_isCall (hs : rsM M S L r p n) (v : Int32) : ia_cal xs (d + 1) im_Mod_isCall [.ref a, .int v] (pM h a M) = some (some (.int (inI v r)), pM h a M) := by
  have nn := (num_M hs.1).2.2.2.1
  rw [hs.2.2.2.1] at nn
  rw [iu_Mod_isCall, iq_Mod_isCall_0]
  simp only [↓pM_Rb, ↓pM_ldb, ↓bs nn, ↓ok0, ↓ok1, inI]
  split
  · rfl
  · split <;> rfl
theorem rdk {k i : Nat} (hl : lnM M) (hk : k < 39) (hi : i < mlen k) (h31 : mlen k < 2 ^ 31) : rd (M.2.1 k) (nI i) = some (fG M k i) := rdM hl hk hi h31
theorem d0_18 (hn : NWr X M t r p q) (hl : lnM M) : rd (M.2.1 18) (0 : Int32) = some (X.1 0) := by
  have := rdk (k := 18) (i := 0) hl (by decide) (by decide) (by decide)
  rw [hn.2.2.1.1] at this
  exact this
theorem d0_19 (hn : NWr X M t r p q) (hl : lnM M) : rd (M.2.1 19) (0 : Int32) = some (X.1 1) := by
  have := rdk (k := 19) (i := 0) hl (by decide) (by decide) (by decide)
  rw [hn.2.2.1.2.1] at this
  exact this
theorem d0_20 (hn : NWr X M t r p q) (hl : lnM M) : rd (M.2.1 20) (0 : Int32) = some (nI t) := by
  have := rdk (k := 20) (i := 0) hl (by decide) (by decide) (by decide)
  rw [hn.2.2.1.2.2.1, hn.1.1.1] at this
  exact this
theorem d0_p (hn : NWr X M t r p q) (hl : lnM M) {k i : Nat} (hk : k < 2) (hi : i < p) : rd (M.2.1 (ikW k)) (nI i) = some (fA X k i) := by
  have hp := hn.1.2.1
  have e := hn.2.2.1.2.2.2.1 k hk i hi
  rw [show 6 * 0 + i = i by omega] at e
  have : ∀ k, k < 2 → ikW k < 39 ∧ mlen (ikW k) = 138 := by decide
  obtain ⟨h1, h2⟩ := this k hk
  rw [rdk hl h1 (by rw [h2]; omega) (by rw [h2]; decide), e]
theorem d0_t (hn : NWr X M t r p q) (hl : lnM M) {k i : Nat} (hk : 2 ≤ k) (hk2 : k < 6) (hi : i < t) : rd (M.2.1 (ikW k)) (nI i) = some (fA X k i) := by
  have ht := hn.1.1.2.2.1
  have e := hn.2.2.1.2.2.2.2.1 k hk hk2 i hi
  rw [show 8 * 0 + i = i by omega] at e
  have : ∀ k, k < 6 → 2 ≤ k → ikW k < 39 ∧ mlen (ikW k) = 184 := by decide
  obtain ⟨h1, h2⟩ := this k hk2 hk
  rw [rdk hl h1 (by rw [h2]; omega) (by rw [h2]; decide), e]
theorem d0_r (hn : NWr X M t r p q) (hl : lnM M) {k i : Nat} (hk : 8 ≤ k) (hk2 : k < 12) (hi : i < r) : rd (M.2.1 (ikW k)) (nI i) = some (fA X k i) := by
  have hr := hn.1.1.2.2.2.1
  have e := hn.2.2.1.2.2.2.2.2 k hk hk2 i hi
  rw [show 10 * 0 + i = i by omega] at e
  have : ∀ k, k < 12 → 8 ≤ k → ikW k < 39 ∧ mlen (ikW k) = 230 := by decide
  obtain ⟨h1, h2⟩ := this k hk2 hk
  rw [rdk hl h1 (by rw [h2]; omega) (by rw [h2]; decide), e]
theorem p_isTone (hl : lnM M) (hn : NWr X M t r p q) (v : Int32) : ia_cal xs (d + 1) im_Mod_isTone [.ref a, .int v] (pM h a M) = some (some (.int (inI v t)), pM h a M) := by
  rw [iu_Mod_isTone, iq_Mod_isTone_0]
  simp only [↓pM_Rb, ↓pM_ldb, ↓bs (d0_20 hn hl), ↓ok0, ↓ok1, inI]
  split
  · rfl
  · split <;> rfl
end PX
section EX
variable (xs : List Int32) (d : Nat) {H : ia_H} {x : Nat} {C : aC} {σ : Bool} {t r p n : Nat}
theorem e_isPerson (q : fx x C σ) (hS : wfS (C.1 (kS σ)) p n) (v : Int32) : ia_cal xs (d + 1) im_Eng_isPerson [.ref x, .int v] (tot H x C) = some (some (.int (inI v p)), tot H x C) := by
  rw [iu_Eng_isPerson, iq_Eng_isPerson_0]
  simp only [↓tN_Rb q, ↓tS_Ib, hS.1, ↓ok0, ↓ok1, inI]
  split
  · rfl
  · split <;> rfl
theorem e_isTone (q : fx x C σ) (hX : wfW (C.2 1) t r) (v : Int32) : ia_cal xs (d + 1) im_Eng_isTone [.ref x, .int v] (tot H x C) = some (some (.int (inI v t)), tot H x C) := by
  rw [iu_Eng_isTone, iq_Eng_isTone_0]
  simp only [↓tN_Rb q, ↓tW_Ib (show 1 < 7 by decide), hX.1, ↓ok0, ↓ok1, inI]
  split
  · rfl
  · split <;> rfl
theorem e_isRing (q : fx x C σ) (hX : wfW (C.2 1) t r) (v : Int32) : ia_cal xs (d + 1) im_Eng_isRing [.ref x, .int v] (tot H x C) = some (some (.int (inI v r)), tot H x C) := by
  rw [iu_Eng_isRing, iq_Eng_isRing_0]
  simp only [↓tN_Rb q, ↓tW_Ib (show 1 < 7 by decide), hX.2.1, ↓ok0, ↓ok1, inI]
  split
  · rfl
  · split <;> rfl
theorem t_priceAt (hS : wfS (C.1 (kS σ)) p n) (v : Int32) : ia_cal xs (d + 1) im_Script_priceAt [.ref (sd x σ), .int v] (tot H x C) = some (some (.int (prF (fG (C.1 (kS σ)) 2) (fG (C.1 (kS σ)) 3) v n).2), tot H x C) := by
  have this := k_priceAt xs d (tot H x C) (sd x σ) (C.1 (kS σ)) hS v
  simp only [tq_S, uG_id] at this
  exact this
theorem t_personNamed (hS : wfS (C.1 (kS σ)) p n) (v : Int32) : ia_cal xs (d + 1) im_Script_personNamed [.ref (sd x σ), .int v] (tot H x C) = some (some (.int (fstI (fun i => fG (C.1 (kS σ)) 0 i = v) p 0)), tot H x C) := by
  have this := k_personNamed xs d (tot H x C) (sd x σ) (C.1 (kS σ)) hS v
  simp only [tq_S, uG_id] at this
  exact this
end EX
