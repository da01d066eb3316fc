/-! Constructors: the class. -/
section JX4
variable {g : Nat → ia_E} {x s : Nat} {L0 R : List ia_E} {o : ia_E} (xs : List Int32) (d : Nat)
theorem n_Rsub : ia_cal xs (d + 4) im_Reader_init [.ref (hbB g x s (L0 ++ o :: R)).1] (ia_new (hbB g x s (L0 ++ o :: R)) 8 (.inr (.inr (4, ia_dfl 4)))) = some (none, hbB g x (s + 476) (L0 ++ o :: (R ++ reL (x + (L0.length + (R.length + 1)))))) := by
  have := n_Reader xs d (g := g) (x := x) (s := s + 8) (L0 := L0 ++ o :: R)
  rw [ap_ln] at this
  rw [hb_n, hb_1, ap_as, ap_as, this]
theorem n_Fsub : ia_cal xs (d + 4) im_Foresight_init [.ref (hbB g x s (L0 ++ o :: R)).1] (ia_new (hbB g x s (L0 ++ o :: R)) 2 (.inr (.inr (2, ia_dfl 2)))) = some (none, hbB g x (s + 497) (L0 ++ o :: (R ++ foL (x + (L0.length + (R.length + 1)))))) := by
  have := n_Foresight xs d (g := g) (x := x) (s := s + 2) (L0 := L0 ++ o :: R)
  rw [ap_ln] at this
  rw [hb_n, hb_1, ap_as, ap_as, this]
theorem n_Usub : ia_cal xs (d + 1) im_Rumours_init [.ref (hbB g x s (L0 ++ o :: R)).1] (ia_new (hbB g x s (L0 ++ o :: R)) 6 (.inr (.inr (5, ia_dfl 5)))) = some (none, hbB g x (s + 102) (L0 ++ o :: (R ++ ruL (x + (L0.length + (R.length + 1)))))) := by
  have := n_Rumours xs d (g := g) (x := x) (s := s + 6) (L0 := L0 ++ o :: R)
  rw [ap_ln] at this
  rw [hb_n, hb_1, ap_as, ap_as, this]
theorem n_Dsub : ia_cal xs (d + 1) im_Deeds_init [.ref (hbB g x s (L0 ++ o :: R)).1] (ia_new (hbB g x s (L0 ++ o :: R)) 7 (.inr (.inr (0, ia_dfl 0)))) = some (none, hbB g x (s + 67) (L0 ++ o :: (R ++ deL (x + (L0.length + (R.length + 1)))))) := by
  have := n_Deeds xs d (g := g) (x := x) (s := s + 7) (L0 := L0 ++ o :: R)
  rw [ap_ln] at this
  rw [hb_n, hb_1, ap_as, ap_as, this]
/-- the class's cells, all new -/
def enA (x : Nat) : List ia_E := zL 1 700 :: sdL (x + 2)
def enB (x : Nat) : List ia_E := (enA x ++ wdL (x + 27)) ++ wdL (x + 40)
def enC (x : Nat) : List ia_E := (enB x ++ reL (x + 53)) ++ exL (x + 83)
def enD (x : Nat) : List ia_E := ((enC x ++ foL (x + 109)) ++ ruL (x + 149)) ++ deL (x + 154)
def enO (x : Nat) : ia_E := .inr (.inr (9, [.ref (x + 1), .int 0, .ref (x + 2), .ref (x + 27), .ref (x + 40), .int 0, .ref (x + 53), .ref (x + 83), .ref (x + 109), .ref (x + 149), .ref (x + 154)]))
theorem en_len : (enA x).length = 26 ∧ (enA x ++ wdL (x + 27)).length = 39 ∧ (enB x).length = 52 ∧ (enB x ++ reL (x + 53)).length = 82 ∧ (enC x).length = 108 ∧ (enC x ++ foL (x + 109)).length = 148 ∧ ((enC x ++ foL (x + 109)) ++ ruL (x + 149)).length = 153 ∧ (enD x).length = 157 := ⟨rfl, rfl, rfl, rfl, rfl, rfl, rfl, rfl⟩
theorem en_st {cc : Option ia_R} {fs : List Value} {k a A : Nat} {K : ia_H → Option ia_R} (hc : cc = some (none, hbB g x s ([] ++ .inr (.inr (9, fs)) :: R))) (hk : k < fs.length) (ha : a = A) : ia_cV cc (fun h2 => (ia_putf h2 x 9 k (.ref a)).bind K) = K (hbB g x s ([] ++ .inr (.inr (9, fs.set k (.ref A))) :: R)) := by
  subst ha
  rw [cV_of hc]
  exact hb_pf (L0 := []) hk K
theorem n_Eng : ia_cal xs (d + 5) im_Eng_init [.ref x] (hbB g x s [.inr (.inr (9, ia_dfl 9))]) = some (none, hbB g x (s + 2825) (enO x :: enD x)) := by
  have n700 : Int32.toNatClampNeg 700 = 700 := by decide
  obtain ⟨l1, l2, l3, l4, l5, l6, l7, l8⟩ := en_len (x := x)
  have ad : ∀ (fs : List Value) (s n : Nat) (R : List ia_E), R.length = n → (hbB g x s ([] ++ .inr (.inr (9, fs)) :: R)).1 = x + (n + 1) := fun fs s n R e => by
    rw [hb_1, e]
    show x + (0 + (n + 1)) = _
    rw [Nat.zero_add]
  have ax : ∀ (n : Nat) (R : List ia_E), R.length = n → x + (([] : List ia_E).length + (R.length + 1)) = x + (n + 1) := fun n R e => by
    rw [e]
    show x + (0 + (n + 1)) = _
    rw [Nat.zero_add]
  rw [iu_Eng_init, iq_Eng_init_0]
  refine (hb_arr (L0 := []) (R := []) (fs := ia_dfl 9) (k := 0) (by decide) (by decide) n700 (Nat.le_of_ble_eq_true rfl) _).trans ?_
  rw [n700]
  refine (en_st (R := enA x) (A := x + 2) (by
    have q := fun o s => n_Ssub xs (d + 2) (g := g) (x := x) (L0 := []) (R := [zL 1 700]) (o := o) (s := s)
    rw [ax 1 _ rfl] at q
    exact q _ _) (Nat.le_of_ble_eq_true rfl) (ad _ _ 1 _ rfl)).trans ?_
  refine (en_st (R := enA x ++ wdL (x + 27)) (A := x + 27) (by
    have q := fun o s => n_Wsub xs (d + 3) (g := g) (x := x) (L0 := []) (R := enA x) (o := o) (s := s)
    rw [ax 26 _ l1] at q
    exact q _ _) (Nat.le_of_ble_eq_true rfl) (ad _ _ 26 _ l1)).trans ?_
  refine (en_st (R := enB x) (A := x + 40) (by
    have q := fun o s => n_Wsub xs (d + 3) (g := g) (x := x) (L0 := []) (R := enA x ++ wdL (x + 27)) (o := o) (s := s)
    rw [ax 39 _ l2] at q
    exact q _ _) (Nat.le_of_ble_eq_true rfl) (ad _ _ 39 _ l2)).trans ?_
  refine (en_st (R := enB x ++ reL (x + 53)) (A := x + 53) (by
    have q := fun o s => n_Rsub xs d (g := g) (x := x) (L0 := []) (R := enB x) (o := o) (s := s)
    rw [ax 52 _ l3] at q
    exact q _ _) (Nat.le_of_ble_eq_true rfl) (ad _ _ 52 _ l3)).trans ?_
  refine (en_st (R := enC x) (A := x + 83) (by
    have q := fun o s => n_Xsub xs (d + 1) (g := g) (x := x) (L0 := []) (R := enB x ++ reL (x + 53)) (o := o) (s := s)
    rw [ax 82 _ l4] at q
    exact q _ _) (Nat.le_of_ble_eq_true rfl) (ad _ _ 82 _ l4)).trans ?_
  refine (en_st (R := enC x ++ foL (x + 109)) (A := x + 109) (by
    have q := fun o s => n_Fsub xs d (g := g) (x := x) (L0 := []) (R := enC x) (o := o) (s := s)
    rw [ax 108 _ l5] at q
    exact q _ _) (Nat.le_of_ble_eq_true rfl) (ad _ _ 108 _ l5)).trans ?_
  refine (en_st (R := (enC x ++ foL (x + 109)) ++ ruL (x + 149)) (A := x + 149) (by
    have q := fun o s => n_Usub xs (d + 3) (g := g) (x := x) (L0 := []) (R := enC x ++ foL (x + 109)) (o := o) (s := s)
    rw [ax 148 _ l6] at q
    exact q _ _) (Nat.le_of_ble_eq_true rfl) (ad _ _ 148 _ l6)).trans ?_
  refine (en_st (R := enD x) (A := x + 154) (by
    have q := fun o s => n_Dsub xs (d + 3) (g := g) (x := x) (L0 := []) (R := (enC x ++ foL (x + 109)) ++ ruL (x + 149)) (o := o) (s := s)
    rw [ax 153 _ l7] at q
    exact q _ _) (Nat.le_of_ble_eq_true rfl) (ad _ _ 153 _ l7)).trans ?_
  refine (hb_pf (L0 := []) (Nat.le_of_ble_eq_true rfl) _).trans ?_
  rfl
end JX4
