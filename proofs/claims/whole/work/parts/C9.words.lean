/-! text: the class takes a word. -/
def kwF (v : Int32) : Nat → Nat → Int32 → Int32
  | 0, _, κ => κ
  | k + 1, w, κ => kwF v k (w + 1) (if wordL.getD w 0 = v then nI (4 + w) else κ)
theorem kw_n {v : Int32} : ∀ k w κ, (∀ j, w ≤ j → j < w + k → wordL.getD j 0 ≠ v) → kwF v k w κ = κ
  | 0, _, _, _ => rfl
  | k + 1, w, κ, h => by
    rw [kwF, if_neg (h w (by omega) (by omega)), kw_n k (w + 1) κ (fun j h1 h2 => h j (by omega) (by omega))]
theorem kw_y {v : Int32} {c : Nat} : ∀ k w κ, w ≤ c → c < w + k → wordL.getD c 0 = v → (∀ j, c < j → j < w + k → wordL.getD j 0 ≠ v) → kwF v k w κ = nI (4 + c)
  | 0, _, _, h1, h2, _, _ => absurd h2 (by omega)
  | k + 1, w, κ, h1, h2, h3, h4 => by
    rw [kwF]
    by_cases e : w = c
    · subst e
      rw [if_pos h3, kw_n k (w + 1) _ (fun j a b => h4 j (by omega) (by omega))]
    · exact kw_y k (w + 1) _ (by omega) (by omega) h3 (fun j a b => h4 j a (by omega))
theorem kw_21 {by_ : Nat → Nat} {T i m : Nat} (hm1 : 1 ≤ m) (hm : m ≤ 6) (h : ∀ l, l < m → lwB by_ T (i + l) = true) : kwF (nI (pkN by_ i m)) 21 0 2 = if wnF by_ i m 21 0 < 21 then nI (4 + cw (wnF by_ i m 21 0)) else 2 := by
  have hle := (wn_le (by_ := by_) (i := i) (m := m) 21 0).2
  by_cases c : wnF by_ i m 21 0 < 21
  · rw [if_pos c]
    have hmt := wn_lt (by_ := by_) (i := i) (m := m) 21 0 (by omega)
    generalize wnF by_ i m 21 0 = n at *
    refine kw_y 21 0 2 (by omega) (by have := (cw_ok n c).1; omega) ((mt_pk c hm1 hm h).mpr hmt) ?_
    intro j h1 h2 e
    obtain ⟨n', h3, h4⟩ := cw_on j (by omega)
    have := mt_one h3 c hm1 hm h ((mt_pk h3 hm1 hm h).mp (by rw [h4]; exact e)) hmt
    rw [this] at h4
    omega
  · rw [if_neg c]
    have hno := wn_not (by_ := by_) (i := i) (m := m) 21 0 (by omega)
    refine kw_n 21 0 2 ?_
    intro j h1 h2 e
    obtain ⟨n', h3, h4⟩ := cw_on j (by omega)
    exact hno n' (by omega) (by omega) ((mt_pk h3 hm1 hm h).mp (by rw [h4]; exact e))
section CX9
variable (xs : List Int32) (d : Nat) {H : ia_H} {x : Nat} {C : aC} {M : aG} {by_ : Nat → Nat} {T : Nat}
theorem t_word2 (hb : txB (C.1 0) M by_ T) {Z : aG} (hL : Z.1 3 = nI T) (hr : Z.2.2.2.2 0 = x + 1) (i : Nat) (hp : Z.1 1 = nI i) (hi : i ≤ T) : ∀ k j F, j + k = T - i → (∀ l, l < j → lwB by_ T (i + l) = true) → 2 * k + 1 ≤ F → ∃ F', F ≤ F' + 2 * k + 1 ∧ ia_qr xs (ia_cal xs (d + 2)) im_Tokens_takeWord F 2 [.ref (x + 79), .int (nI (pkN by_ i j)), .float 0] [] (tot H x (uG C 6 (gI Z 4 (nI (i + j))))) = ia_qr xs (ia_cal xs (d + 2)) im_Tokens_takeWord F' 52 [.ref (x + 79), .int (nI (pkN by_ i (whN (lwB by_ T) k (i + j) - i))), .float 0] [] (tot H x (uG C 6 (gI Z 4 (nI (whN (lwB by_ T) k (i + j)))))) := by
  have hT7 := hb.1
  have s4 : ∀ j, (gI Z 4 (nI j)).1 4 = nI j := fun j => gI_s
  have s3 : ∀ j, (gI Z 4 (nI j)).1 3 = nI T := fun j => hL
  have s1 : ∀ j, (gI Z 4 (nI j)).1 1 = nI i := fun j => hp
  have sg : ∀ l, l < 2 ^ 30 → ia_cal xs (d + 2) im_Tokens_signAt [.ref (x + 79), .int (nI l)] (tot H x (uG C 6 (gI Z 4 (nI l)))) = some (some (.int (if l < T then nI (by_ l) else 0)), tot H x (uG C 6 (gI Z 4 (nI l)))) := fun l hl => by
    refine t_signAt xs (d + 1) (H := H) (x := x) (C := uG C 6 (gI Z 4 (nI l))) (M := M) ?_ (by rw [uG_s]; exact hL) (by rw [uG_s]; exact hr) l hl
    rw [uG_n (by decide)]
    exact hb
  intro k
  induction k with
  | zero =>
    intro j F hj hd hF
    obtain ⟨F, rfl⟩ : ∃ k, F = k + 1 := ⟨F - 1, by omega⟩
    refine ⟨F, by omega, ?_⟩
    rw [iq_Tokens_takeWord_2, whN, show i + j - i = j by omega]
    simp only [↓tT_Ib, uG_s, s4, s3, ↓if_n (nI_nlt (show T ≤ i + j by omega) (show i + j < 2 ^ 31 by omega))]
  | succ k ih =>
    intro j F hj hd hF
    obtain ⟨F, rfl⟩ : ∃ k, F = k + 1 + 1 := ⟨F - 2, by omega⟩
    have hlt : i + j < T := by omega
    obtain ⟨b1, -⟩ := hb.2.2.2 (i + j) hlt
    have sgn := sg (i + j) (by omega)
    rw [if_pos hlt] at sgn
    rw [iq_Tokens_takeWord_2, whN]
    simp only [↓tT_Ib, uG_s, s4, s3, s1, ↓if_p (nI_lt hlt (show T < 2 ^ 31 by omega)), ↓tT_clsb, ↓cI_of sgn]
    by_cases c1 : by_ (i + j) < 97
    · have nd : ¬ lwB by_ T (i + j) = true := fun z => by have := of_decide_eq_true z; omega
      rw [if_pos (show nI (by_ (i + j)) < (97 : Int32) from nI_lt (b := 97) c1 (by decide)), if_neg nd, show i + j - i = j by omega]
      exact ⟨F + 1, by omega, rfl⟩
    · rw [if_neg (show ¬ nI (by_ (i + j)) < (97 : Int32) from nI_nlt (b := 97) (by omega) (by omega))]
      by_cases c2 : 122 < by_ (i + j)
      · have nd : ¬ lwB by_ T (i + j) = true := fun z => by have := of_decide_eq_true z; omega
        rw [if_pos (show (122 : Int32) < nI (by_ (i + j)) from nI_lt (a := 122) c2 (by omega)), if_neg nd, show i + j - i = j by omega]
        exact ⟨F + 1, by omega, rfl⟩
      · have yd : lwB by_ T (i + j) = true := decide_eq_true ⟨hlt, by omega, by omega⟩
        have hd' : ∀ l, l < j + 1 → lwB by_ T (i + l) = true := fun l hl => by
          by_cases c : l = j
          · subst c; exact yd
          · exact hd l (by omega)
        rw [if_neg (show ¬ (122 : Int32) < nI (by_ (i + j)) from nI_nlt (a := 122) (by omega) (by decide)), if_pos yd, pk_sub (show i ≤ i + j by omega), show i + j - i = j by omega]
        obtain ⟨F', g1, g2⟩ := ih (j + 1) F (by omega) hd' (by omega)
        have st : ia_qr xs (ia_cal xs (d + 2)) im_Tokens_takeWord (F + 1) 45 [.ref (x + 79), .int (nI (pkN by_ i (j + 1))), .float 0] [] (tot H x (uG C 6 (gI Z 4 (nI (i + j))))) = ia_qr xs (ia_cal xs (d + 2)) im_Tokens_takeWord F' 52 [.ref (x + 79), .int (nI (pkN by_ i (whN (lwB by_ T) k (i + (j + 1)) - i))), .float 0] [] (tot H x (uG C 6 (gI Z 4 (nI (whN (lwB by_ T) k (i + (j + 1))))))) := by
          have i4 : ∀ j j', gI (gI Z 4 (nI j)) 4 (nI j') = gI Z 4 (nI j') := fun j j' => gI_I
          rw [iq_Tokens_takeWord_45]
          simp only [↓tT_Ib, ↓tT_pfb, uG_s, uG_G, s4, nI_1, i4]
          exact g2
        refine ⟨F', by omega, ?_⟩
        by_cases c6 : j < 6
        · rw [if_pos (show nI j < (6 : Int32) from nI_lt (b := 6) c6 (by decide)), pk_cls c6 hd']
          exact st
        · rw [if_neg (show ¬ nI j < (6 : Int32) from nI_nlt (b := 6) (by omega) (by omega)), ← pk_more (by_ := by_) (i := i) (show 6 ≤ j by omega)]
          exact st
theorem t_word71 {Z : aG} (hw : Z.2.1 1 = wordL) (v : Int32) : ∀ k w F, w + k = 21 → k + 1 ≤ F → ∀ κ, ia_qr xs (ia_cal xs (d + 2)) im_Tokens_takeWord F 71 [.ref (x + 79), .int v, .int (nI w)] [] (tot H x (uG C 6 (gI Z 0 κ))) = some (none, tot H x (uG C 6 (gI Z 0 (kwF v k w κ)))) := by
  intro k
  induction k with
  | zero =>
    intro w F hw2 hF κ
    obtain ⟨F, rfl⟩ : ∃ k, F = k + 1 := ⟨F - 1, by omega⟩
    rw [iq_Tokens_takeWord_71, if_neg (show ¬ nI w < (21 : Int32) from nI_nlt (b := 21) (by omega) (by omega)), kwF]
  | succ k ih =>
    intro w F hw2 hF κ
    obtain ⟨F, rfl⟩ : ∃ k, F = k + 1 := ⟨F - 1, by omega⟩
    have r1 : rd (Z.2.1 1) (nI w) = some (wordL.getD w 0) := by
      rw [hw, rd_nI (by omega)]
      have : w < wordL.length := by show w < 21; omega
      rw [List.getD_eq_getElem?_getD, List.getElem?_eq_getElem this]
      rfl
    have q1 : (gI Z 0 κ).2.1 1 = Z.2.1 1 := rfl
    rw [iq_Tokens_takeWord_71, if_pos (show nI w < (21 : Int32) from nI_lt (b := 21) (by omega) (by decide))]
    simp only [↓tT_Rb, ↓tT_ldb, uG_s, q1, ↓bs r1]
    by_cases c : wordL.getD w 0 = v
    · rw [if_pos c]
      have e4 : (4 : Int32) + nI w = nI (4 + w) := nI_add 4 w
      simp only [↓tT_pfb, uG_s, uG_G, e4, nI_1, gI_I]
      rw [ih (w + 1) F (by omega) (by omega) (nI (4 + w))]
      rw [kwF, if_pos c]
    · rw [if_neg c]
      simp only [nI_1]
      rw [ih (w + 1) F (by omega) (by omega) κ]
      rw [kwF, if_neg c]
/-- where the letters end -/
def weN (by_ : Nat → Nat) (T i : Nat) : Nat := whN (lwB by_ T) (T - i) i
theorem wh_all {P : Nat → Bool} : ∀ k i j, i ≤ j → j < whN P k i → P j = true
  | 0, i, j, h1, h2 => absurd h2 (by rw [whN]; omega)
  | k + 1, i, j, h1, h2 => by
    rw [whN] at h2
    by_cases c : P i = true
    · rw [if_pos c] at h2
      by_cases e : i = j
      · rw [← e]; exact c
      · exact wh_all k (i + 1) j (by omega) h2
    · rw [if_neg c] at h2
      omega
theorem wh_on {P : Nat → Bool} {k i : Nat} (h : P i = true) (hk : 0 < k) : i < whN P k i := by
  obtain ⟨k, rfl⟩ : ∃ l, k = l + 1 := ⟨k - 1, by omega⟩
  rw [whN, if_pos h]
  have := (wh_le (P := P) k (i + 1)).1
  omega
def wdT (Z : aG) (by_ : Nat → Nat) (T i : Nat) : aG := if 6 < weN by_ T i - i then gI (gI Z 4 (nI (weN by_ T i))) 0 1 else gI (gI (gI Z 4 (nI (weN by_ T i))) 2 (nI (pkN by_ i (weN by_ T i - i)))) 0 (if wnF by_ i (weN by_ T i - i) 21 0 < 21 then nI (4 + cw (wnF by_ i (weN by_ T i - i) 21 0)) else 2)
theorem pk_0 {by_ : Nat → Nat} {i : Nat} : pkN by_ i 0 = 0 := by
  unfold pkN
  rw [Nat.min_eq_left (Nat.zero_le 6), lpF, Nat.zero_mul]
theorem gI_20 {Z : aG} {v w : Int32} : gI (gI Z 0 v) 2 w = gI (gI Z 2 w) 0 v := by
  refine Prod.ext (funext fun k => ?_) rfl
  show (if k = 2 then w else if k = 0 then v else Z.1 k) = if k = 0 then v else if k = 2 then w else Z.1 k
  by_cases c2 : k = 2
  · rw [if_pos c2, if_neg (by omega), if_pos c2]
  · rw [if_neg c2]
    by_cases c0 : k = 0
    · rw [if_pos c0, if_pos c0]
    · rw [if_neg c0, if_neg c0, if_neg c2]
theorem t_word52 {Z : aG} (hw : Z.2.1 1 = wordL) (i e : Nat) (hp : Z.1 1 = nI i) (h4 : Z.1 4 = nI e) (hie : i < e) (he : e ≤ 700) (hd : ∀ l, l < e - i → lwB by_ T (i + l) = true) (F : Nat) (hF : 30 ≤ F) : ∃ n, n = wnF by_ i (e - i) 21 0 ∧ ia_qr xs (ia_cal xs (d + 2)) im_Tokens_takeWord F 52 [.ref (x + 79), .int (nI (pkN by_ i (e - i))), .float 0] [] (tot H x (uG C 6 Z)) = some (none, tot H x (uG C 6 (if 6 < e - i then gI Z 0 1 else gI (gI Z 2 (nI (pkN by_ i (e - i)))) 0 (if n < 21 then nI (4 + cw n) else 2)))) := by
  obtain ⟨F, rfl⟩ : ∃ k, F = k + 1 := ⟨F - 1, by omega⟩
  rw [iq_Tokens_takeWord_52]
  simp only [↓tT_Ib, uG_s, h4, hp, pk_sub (show i ≤ e by omega)]
  by_cases c : 6 < e - i
  · refine ⟨_, rfl, ?_⟩
    rw [if_pos (show (6 : Int32) < nI (e - i) from nI_lt (a := 6) c (by omega)), if_pos c]
    simp only [↓tT_pfb, uG_s, uG_G]
  · have hk := kw_21 (by omega) (by omega) hd
    obtain ⟨n, hn⟩ : ∃ n, n = wnF by_ i (e - i) 21 0 := ⟨_, rfl⟩
    rw [← hn] at hk
    refine ⟨n, hn, ?_⟩
    rw [if_neg (show ¬ (6 : Int32) < nI (e - i) from nI_nlt (a := 6) (by omega) (by decide)), if_neg c]
    simp only [↓tT_pfb, uG_s, uG_G]
    rw [gI_20]
    have h71 := t_word71 xs d (H := H) (x := x) (C := C) (Z := gI Z 2 (nI (pkN by_ i (e - i)))) hw (nI (pkN by_ i (e - i))) 21 0 F (Nat.zero_add 21) (by omega) 2
    rw [hk] at h71
    exact h71
theorem t_takeWord (hb : txB (C.1 0) M by_ T) {Z : aG} (hL : Z.1 3 = nI T) (hr : Z.2.2.2.2 0 = x + 1) (hw : Z.2.1 1 = wordL) (i : Nat) (hp : Z.1 1 = nI i) (h4 : Z.1 4 = nI i) (hl : lwB by_ T i = true) : ia_cal xs (d + 3) im_Tokens_takeWord [.ref (x + 79)] (tot H x (uG C 6 Z)) = some (none, tot H x (uG C 6 (wdT Z by_ T i))) := by
  have hT7 := hb.1
  have hi := (of_decide_eq_true hl).1
  have e0 : gI Z 4 (nI (i + 0)) = Z := by rw [Nat.add_zero, ← h4, gI_id]
  obtain ⟨F, hF, g⟩ := t_word2 xs d (H := H) (x := x) (C := C) hb hL hr i hp (by omega) (T - i) 0 999999 (by omega) (fun l hl => absurd hl (by omega)) (by omega)
  have b2 := wh_le (P := lwB by_ T) (T - i) i
  have b3 := wh_on hl (show 0 < T - i by omega)
  have b4 := wh_all (P := lwB by_ T) (T - i) i
  rw [iu_Tokens_takeWord, show (1000000 : Nat) = 999999 + 1 from rfl, iq_Tokens_takeWord_0]
  rw [e0, Nat.add_zero, pk_0] at g
  refine Eq.trans g ?_
  unfold wdT weN
  generalize whN (lwB by_ T) (T - i) i = e at *
  obtain ⟨n, hn, r⟩ := t_word52 xs d (H := H) (x := x) (C := C) (by_ := by_) (T := T) (Z := gI Z 4 (nI e)) hw i e hp gI_s b3 (by omega) (fun l hl => b4 (i + l) (by omega) (by omega)) F (by omega)
  rw [← hn]
  exact r
end CX9
