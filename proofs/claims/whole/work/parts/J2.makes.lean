/-! Constructors: scripts, exchanges, rumours, deeds. -/
section JX2
variable {g : Nat → ia_E} {x s : Nat} {L0 R : List ia_E} {o : ia_E} (xs : List Int32) (d : Nat)
theorem ap_as {α : Type} {a b c : List α} {o : α} : a ++ o :: (b ++ c) = (a ++ o :: b) ++ c := by rw [List.append_assoc]; rfl
theorem ap_ln {α : Type} {a b : List α} {o : α} : (a ++ o :: b).length = a.length + (b.length + 1) := by rw [List.length_append, List.length_cons]
theorem n_Wsub : ia_cal xs (d + 1) im_World_init [.ref (hbB g x s (L0 ++ o :: R)).1] (ia_new (hbB g x s (L0 ++ o :: R)) 16 (.inr (.inr (8, ia_dfl 8)))) = some (none, hbB g x (s + 120) (L0 ++ o :: (R ++ wdL (x + (L0.length + (R.length + 1)))))) := by
  have := n_World xs d (g := g) (x := x) (s := s + 16) (L0 := L0 ++ o :: R)
  rw [ap_ln] at this
  rw [hb_n, hb_1, ap_as, ap_as, this]
theorem n_Lsub : ia_cal xs (d + 1) im_Laws_init [.ref (hbB g x s (L0 ++ o :: R)).1] (ia_new (hbB g x s (L0 ++ o :: R)) 8 (.inr (.inr (3, ia_dfl 3)))) = some (none, hbB g x (s + 213) (L0 ++ o :: (R ++ lwL (x + (L0.length + (R.length + 1)))))) := by
  have := n_Laws xs d (g := g) (x := x) (s := s + 8) (L0 := L0 ++ o :: R)
  rw [ap_ln] at this
  rw [hb_n, hb_1, ap_as, ap_as, this]
/-- a new script at w -/
def sdL (w : Nat) : List ia_E := [.inr (.inr (6, [.int 0, .ref (w + 1), .ref (w + 2), .int 0, .ref (w + 3), .ref (w + 4), .int (-1), .int (-1), .int (-1), .ref (w + 5), .ref (w + 18)])), zL 0 6, zL 0 6, zL 0 6, zL 0 6] ++ (wdL (w + 5) ++ lwL (w + 18))
theorem n_Script : ia_cal xs (d + 2) im_Script_init [.ref (x + L0.length)] (hbB g x s (L0 ++ [.inr (.inr (6, ia_dfl 6))])) = some (none, hbB g x (s + 357) (L0 ++ sdL (x + L0.length))) := by
  have n6 : Int32.toNatClampNeg 6 = 6 := by decide
  rw [iu_Script_init, iq_Script_init_0]
  show (if (6 : Int32) < 0 then none else if (6 : Int32).toNatClampNeg ≤ 100000 then ((ia_putf (ia_new (hbB g x s (L0 ++ .inr (.inr (6, ia_dfl 6)) :: [])) (6 : Int32).toNatClampNeg (.inl (0, List.replicate (6 : Int32).toNatClampNeg 0))) (x + L0.length) 6 1 (.ref (hbB g x s (L0 ++ .inr (.inr (6, ia_dfl 6)) :: [])).1)).bind _) else none) = _
  rw [hb_arr (by decide) (by decide) n6 (Nat.le_of_ble_eq_true rfl)]
  rw [hb_arr (by decide) (by decide) n6 (Nat.le_of_ble_eq_true rfl)]
  rw [hb_arr (by decide) (by decide) n6 (Nat.le_of_ble_eq_true rfl)]
  rw [hb_arr (by decide) (by decide) n6 (Nat.le_of_ble_eq_true rfl)]
  rw [hb_pf (Nat.le_of_ble_eq_true rfl), hb_pf (Nat.le_of_ble_eq_true rfl), hb_pf (Nat.le_of_ble_eq_true rfl), n6]
  rw [cV_of (n_Wsub xs d), hb_1, hb_pf (Nat.le_of_ble_eq_true rfl)]
  rw [cV_of (n_Lsub xs d), hb_1, hb_pf (Nat.le_of_ble_eq_true rfl)]
  rfl
theorem n_Ssub : ia_cal xs (d + 2) im_Script_init [.ref (hbB g x s (L0 ++ o :: R)).1] (ia_new (hbB g x s (L0 ++ o :: R)) 11 (.inr (.inr (6, ia_dfl 6)))) = some (none, hbB g x (s + 368) (L0 ++ o :: (R ++ sdL (x + (L0.length + (R.length + 1)))))) := by
  have := n_Script xs d (g := g) (x := x) (s := s + 11) (L0 := L0 ++ o :: R)
  rw [ap_ln] at this
  rw [hb_n, hb_1, ap_as, ap_as, this]
/-- a new exchange at w -/
def exL (w : Nat) : List ia_E := .inr (.inr (1, [.ref (w + 1), .int 0, .int 0, .int 0, .int (-1), .int 0, .long 0])) :: sdL (w + 1)
theorem n_Exchange : ia_cal xs (d + 3) im_Exchange_init [.ref (x + L0.length)] (hbB g x s (L0 ++ [.inr (.inr (1, ia_dfl 1))])) = some (none, hbB g x (s + 368) (L0 ++ exL (x + L0.length))) := by
  rw [iu_Exchange_init, iq_Exchange_init_0]
  rw [cV_of (n_Ssub xs d (R := [])), hb_1, hb_pf (Nat.le_of_ble_eq_true rfl), hb_pf (Nat.le_of_ble_eq_true rfl), show x + (L0.length + (([] : List ia_E).length + 1)) = x + L0.length + 1 from rfl, List.nil_append]
  unfold exL
  rfl
theorem n_Xsub : ia_cal xs (d + 3) im_Exchange_init [.ref (hbB g x s (L0 ++ o :: R)).1] (ia_new (hbB g x s (L0 ++ o :: R)) 7 (.inr (.inr (1, ia_dfl 1)))) = some (none, hbB g x (s + 375) (L0 ++ o :: (R ++ exL (x + (L0.length + (R.length + 1)))))) := by
  have := n_Exchange xs d (g := g) (x := x) (s := s + 7) (L0 := L0 ++ o :: R)
  rw [ap_ln] at this
  rw [hb_n, hb_1, ap_as, ap_as, this]
/-- a new foresight at w -/
def foL (w : Nat) : List ia_E := .inr (.inr (2, [.ref (w + 1), .ref (w + 14)])) :: (wdL (w + 1) ++ exL (w + 14))
theorem n_Foresight : ia_cal xs (d + 4) im_Foresight_init [.ref (x + L0.length)] (hbB g x s (L0 ++ [.inr (.inr (2, ia_dfl 2))])) = some (none, hbB g x (s + 495) (L0 ++ foL (x + L0.length))) := by
  rw [iu_Foresight_init, iq_Foresight_init_0]
  rw [cV_of (n_Wsub xs (d + 2) (R := [])), hb_1, hb_pf (Nat.le_of_ble_eq_true rfl)]
  rw [cV_of (n_Xsub xs d), hb_1, hb_pf (Nat.le_of_ble_eq_true rfl), show x + (L0.length + (([] : List ia_E).length + 1)) = x + L0.length + 1 from rfl, List.nil_append, show x + (L0.length + ((wdL (x + L0.length + 1)).length + 1)) = x + L0.length + 14 from rfl]
  unfold foL
  rfl
/-- new rumours, new deeds -/
def ruL (w : Nat) : List ia_E := [.inr (.inr (5, [.int 0, .int (-1), .ref (w + 1), .ref (w + 2), .ref (w + 3), .ref (w + 4)])), zL 0 24, zL 0 24, zL 0 24, zL 2 24]
def deL (w : Nat) : List ia_E := [.inr (.inr (0, (ia_dfl 0).set 4 (.ref (w + 1)) |>.set 5 (.ref (w + 2)) |>.set 6 (.ref (w + 3)))), zL 0 20, zL 0 20, zL 0 20]
theorem n_Rumours : ia_cal xs (d + 1) im_Rumours_init [.ref (x + L0.length)] (hbB g x s (L0 ++ [.inr (.inr (5, ia_dfl 5))])) = some (none, hbB g x (s + 96) (L0 ++ ruL (x + L0.length))) := by
  have n24 : Int32.toNatClampNeg 24 = 24 := by decide
  rw [iu_Rumours_init, iq_Rumours_init_0]
  show ((ia_putf (hbB g x s (L0 ++ .inr (.inr (5, ia_dfl 5)) :: [])) (x + L0.length) 5 1 (.int (-1))).bind _) = _
  rw [hb_pf (Nat.le_of_ble_eq_true rfl)]
  rw [hb_arr (by decide) (by decide) n24 (Nat.le_of_ble_eq_true rfl)]
  rw [hb_arr (by decide) (by decide) n24 (Nat.le_of_ble_eq_true rfl)]
  rw [hb_arr (by decide) (by decide) n24 (Nat.le_of_ble_eq_true rfl)]
  rw [hb_arr (by decide) (by decide) n24 (Nat.le_of_ble_eq_true rfl)]
  rw [n24]
  rfl
theorem n_Deeds : ia_cal xs (d + 1) im_Deeds_init [.ref (x + L0.length)] (hbB g x s (L0 ++ [.inr (.inr (0, ia_dfl 0))])) = some (none, hbB g x (s + 60) (L0 ++ deL (x + L0.length))) := by
  have n20 : Int32.toNatClampNeg 20 = 20 := by decide
  rw [iu_Deeds_init, iq_Deeds_init_0]
  show (if (20 : Int32) < 0 then none else if (20 : Int32).toNatClampNeg ≤ 100000 then ((ia_putf (ia_new (hbB g x s (L0 ++ .inr (.inr (0, ia_dfl 0)) :: [])) (20 : Int32).toNatClampNeg (.inl (0, List.replicate (20 : Int32).toNatClampNeg 0))) (x + L0.length) 0 4 (.ref (hbB g x s (L0 ++ .inr (.inr (0, ia_dfl 0)) :: [])).1)).bind _) else none) = _
  rw [hb_arr (by decide) (by decide) n20 (Nat.le_of_ble_eq_true rfl)]
  rw [hb_arr (by decide) (by decide) n20 (Nat.le_of_ble_eq_true rfl)]
  rw [hb_arr (by decide) (by decide) n20 (Nat.le_of_ble_eq_true rfl)]
  rw [n20]
  rfl
end JX2
