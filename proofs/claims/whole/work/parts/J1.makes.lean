/-! Constructors: worlds, laws, scripts. -/
section JX1
variable {g : Nat → ia_E} {x s : Nat} {L0 R : List ia_E}
theorem hb_arr {n : Int32} (h0 : ¬ n < 0) (h1 : n.toNatClampNeg ≤ 100000) {m : Nat} (hm : n.toNatClampNeg = m) {a : ia_E} {ci k : Nat} {fs : List Value} (hk : k < fs.length) (f : ia_H → Option ia_R) : (if n < 0 then none else if n.toNatClampNeg ≤ 100000 then ((ia_putf (ia_new (hbB g x s (L0 ++ .inr (.inr (ci, fs)) :: R)) n.toNatClampNeg a) (x + L0.length) ci k (.ref (hbB g x s (L0 ++ .inr (.inr (ci, fs)) :: R)).1)).bind f) else none) = f (hbB g x (s + m) (L0 ++ .inr (.inr (ci, fs.set k (.ref (x + (L0.length + (R.length + 1)))))) :: (R ++ [a]))) := by
  rw [if_neg h0, if_pos h1, hb_n, hb_1, hb_pf hk, hm]
def zL (t n : Nat) : ia_E := .inl (t, List.replicate n 0)
def zJ (n : Nat) : ia_E := .inr (.inl (List.replicate n 0))
/-- a new world at w -/
def wdL (w : Nat) : List ia_E := [.inr (.inr (8, [.int 0, .int 0, .ref (w + 1), .ref (w + 2), .int 0, .ref (w + 3), .ref (w + 4), .ref (w + 5), .ref (w + 6), .int 0, .ref (w + 7), .ref (w + 8), .ref (w + 9), .ref (w + 10), .ref (w + 11), .ref (w + 12)])), zL 0 6, zL 0 6, zL 0 8, zL 0 8, zL 0 8, zL 0 8, zL 0 10, zL 0 10, zL 0 10, zL 0 10, zL 0 10, zL 0 10]
def lwL (w : Nat) : List ia_E := [.inr (.inr (3, [.int 0, .int 0, .ref (w + 1), .ref (w + 2), .ref (w + 3), .ref (w + 4), .ref (w + 5), .ref (w + 6)])), zL 0 64, zL 0 64, zL 0 3, zL 0 3, zJ 7, zJ 64]
variable (xs : List Int32) (d : Nat)
theorem n_World : ia_cal xs (d + 1) im_World_init [.ref (x + L0.length)] (hbB g x s (L0 ++ [.inr (.inr (8, ia_dfl 8))])) = some (none, hbB g x (s + 104) (L0 ++ wdL (x + L0.length))) := by
  have n6 : Int32.toNatClampNeg 6 = 6 := by decide
  have n8 : Int32.toNatClampNeg 8 = 8 := by decide
  have n10 : Int32.toNatClampNeg 10 = 10 := by decide
  rw [iu_World_init, iq_World_init_0]
  show (if (6 : Int32) < 0 then none else if (6 : Int32).toNatClampNeg ≤ 100000 then ((ia_putf (ia_new (hbB g x s (L0 ++ .inr (.inr (8, ia_dfl 8)) :: [])) (6 : Int32).toNatClampNeg (.inl (0, List.replicate (6 : Int32).toNatClampNeg 0))) (x + L0.length) 8 2 (.ref (hbB g x s (L0 ++ .inr (.inr (8, ia_dfl 8)) :: [])).1)).bind _) else none) = _
  rw [hb_arr (by decide) (by decide) n6 (Nat.le_of_ble_eq_true rfl)]
  rw [hb_arr (by decide) (by decide) n6 (Nat.le_of_ble_eq_true rfl)]
  rw [hb_arr (by decide) (by decide) n8 (Nat.le_of_ble_eq_true rfl)]
  rw [hb_arr (by decide) (by decide) n8 (Nat.le_of_ble_eq_true rfl)]
  rw [hb_arr (by decide) (by decide) n8 (Nat.le_of_ble_eq_true rfl)]
  rw [hb_arr (by decide) (by decide) n8 (Nat.le_of_ble_eq_true rfl)]
  rw [hb_arr (by decide) (by decide) n10 (Nat.le_of_ble_eq_true rfl)]
  rw [hb_arr (by decide) (by decide) n10 (Nat.le_of_ble_eq_true rfl)]
  rw [hb_arr (by decide) (by decide) n10 (Nat.le_of_ble_eq_true rfl)]
  rw [hb_arr (by decide) (by decide) n10 (Nat.le_of_ble_eq_true rfl)]
  rw [hb_arr (by decide) (by decide) n10 (Nat.le_of_ble_eq_true rfl)]
  rw [hb_arr (by decide) (by decide) n10 (Nat.le_of_ble_eq_true rfl)]
  rw [n6, n8, n10]
  rfl
theorem n_Laws : ia_cal xs (d + 1) im_Laws_init [.ref (x + L0.length)] (hbB g x s (L0 ++ [.inr (.inr (3, ia_dfl 3))])) = some (none, hbB g x (s + 205) (L0 ++ lwL (x + L0.length))) := by
  have n64 : Int32.toNatClampNeg 64 = 64 := by decide
  have n3 : Int32.toNatClampNeg 3 = 3 := by decide
  have n7 : Int32.toNatClampNeg 7 = 7 := by decide
  rw [iu_Laws_init, iq_Laws_init_0]
  show (if (64 : Int32) < 0 then none else if (64 : Int32).toNatClampNeg ≤ 100000 then ((ia_putf (ia_new (hbB g x s (L0 ++ .inr (.inr (3, ia_dfl 3)) :: [])) (64 : Int32).toNatClampNeg (.inl (0, List.replicate (64 : Int32).toNatClampNeg 0))) (x + L0.length) 3 2 (.ref (hbB g x s (L0 ++ .inr (.inr (3, ia_dfl 3)) :: [])).1)).bind _) else none) = _
  rw [hb_arr (by decide) (by decide) n64 (Nat.le_of_ble_eq_true rfl)]
  rw [hb_arr (by decide) (by decide) n64 (Nat.le_of_ble_eq_true rfl)]
  rw [hb_arr (by decide) (by decide) n3 (Nat.le_of_ble_eq_true rfl)]
  rw [hb_arr (by decide) (by decide) n3 (Nat.le_of_ble_eq_true rfl)]
  rw [hb_arr (by decide) (by decide) n7 (Nat.le_of_ble_eq_true rfl)]
  rw [hb_arr (by decide) (by decide) n64 (Nat.le_of_ble_eq_true rfl)]
  rw [n64, n3, n7]
  rfl
end JX1
