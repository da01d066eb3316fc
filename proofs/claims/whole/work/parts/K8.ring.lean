/-! The law's ring: what it makes of an answer, of an exception. -/
def yLr : MethodName := ⟨"EngagedToneLaw", "ring", "(LEngagedTone;II[J)I"⟩
def hhLr : List (Nat × Nat × Nat × Nat) := [(0, 10, 13, 13), (0, 10, 17, 15)]
def wsLr : List Cond := Cond.codeWith yLr method_3_code 5 (some .int) hhLr :: ia_T
theorem dLr0 : decode method_3_code 0 = .ok (.aload_n 3, 1) := by decide +kernel
theorem dLr1 : decode method_3_code 1 = .ok (.iconst 0, 1) := by decide +kernel
theorem dLr2 : decode method_3_code 2 = .ok (.aload_n 0, 1) := by decide +kernel
theorem dLr3 : decode method_3_code 3 = .ok (.iload_n 1, 1) := by decide +kernel
theorem dLr4 : decode method_3_code 4 = .ok (.iload_n 2, 1) := by decide +kernel
theorem dLr5 : decode method_3_code 5 = .ok (.invokevirtual 7, 3) := by decide +kernel
theorem dLr8 : decode method_3_code 8 = .ok (.i2l, 1) := by decide +kernel
theorem dLr9 : decode method_3_code 9 = .ok (.lastore, 1) := by decide +kernel
theorem dLr10 : decode method_3_code 10 = .ok (.goto 11, 3) := by decide +kernel
theorem dLr13 : decode method_3_code 13 = .ok (.astore 4, 2) := by decide +kernel
theorem dLr15 : decode method_3_code 15 = .ok (.iconst 1, 1) := by decide +kernel
theorem dLr16 : decode method_3_code 16 = .ok (.ireturn, 1) := by decide +kernel
theorem dLr17 : decode method_3_code 17 = .ok (.astore 4, 2) := by decide +kernel
theorem dLr19 : decode method_3_code 19 = .ok (.iconst 2, 1) := by decide +kernel
theorem dLr20 : decode method_3_code 20 = .ok (.ireturn, 1) := by decide +kernel
theorem dLr21 : decode method_3_code 21 = .ok (.iconst 0, 1) := by decide +kernel
theorem dLr22 : decode method_3_code 22 = .ok (.ireturn, 1) := by decide +kernel
section KX8
variable {p : Program} {l : Launch} {e : Env} {R : Room} {s : State} {m : MethodId} {args : Array Value} {below : List Frame} {meth : Method} {c : Code} {H : Heap} {locs : List Loc} {cells slots : Nat} {Q : State → Prop} {pc : Nat} {ls : Array Slot} {st0 rest : List Value} {D : va_G} {cA : Nat → ClassId} {xt : Nat → Nat} {base : Nat}
/-- caught by the row x of this method's table; the rows ahead hold other classes -/
theorem ix_catch {own name E : String} {ce : Cell} {q : Addr} (hown : s.vm.findClass own = some m.cls) (pre : List ExceptionTableEntry) (x : ExceptionTableEntry) (suf : List ExceptionTableEntry) (hsplit : c.exceptionTable.toList = pre ++ x :: suf)
    (hpass : ∀ z ∈ pre, covers z pc = true ∧ z.catchType ≠ 0 ∧ ∃ nm : String, (Cond.classLink own z.catchType nm).before args s = true ∧ va_Nc E nm s) (hx : covers x pc = true) (h0 : x.catchType ≠ 0)
    (hlink : (Cond.classLink own x.catchType name).before args s = true) (hcast : (Cond.castable E name).before args s = true) (hcell : H[q]? = some ce) (hv : ce.vm = .none) (hcl : s.vm.findClass E = some ce.cls)
    (kk : W p l e R s m args below meth c H locs cells slots Q (F0 m x.handlerPc ls [.ref q])) : vx_W p l e R s m args below meth c H locs cells slots Q (F0 m pc ls rest) q := by
  intro T hT X
  have hpl : e.platform.magicAccessors = ({} : Platform).magicAccessors := by rw [X.admits.platform]
  obtain ⟨c3, c4, hc3, hc4, hasg⟩ := Cond.castable_spec hcast
  cases Option.some.inj (hc3.symm.trans hcl)
  obtain ⟨c5, hc5, hcl5⟩ := Cond.classLink_spec hown hlink e.platform hpl
  cases Option.some.inj (hc4.symm.trans hc5)
  have hk9 : ∃ k, s.vm.classes[ce.cls]? = some k := by
    obtain ⟨k9, h9, -⟩ := Vm.findClass_spec hcl
    exact ⟨k9, h9⟩
  have hobj : ∀ k, ce.vm ≠ .statics k := fun k h => by rw [hv] at h; cases h
  obtain ⟨vm', hW', hq⟩ := ix_go (e := e) (s₀ := s) (f := F0 m pc ls rest) (a := q) (cell := ce) hobj hk9 x suf hx h0 hcl5 hasg pre ((T.setTop (F0 m pc ls rest)).pushFrame (.throwing q)) X.warmed (by
      show T.heap[q]? = some ce
      rw [hT]; exact hcell) (fun z hz => by
      obtain ⟨g1, g2, nm, hl1, hn1⟩ := hpass z hz
      obtain ⟨c6, hc6, hcl6⟩ := Cond.classLink_spec hown hl1 e.platform hpl
      obtain ⟨a8, b8, h1, h2, h3⟩ := hn1
      cases Option.some.inj (h1.symm.trans hcl)
      cases Option.some.inj (h2.symm.trans hc6)
      exact ⟨g1, g2, _, hcl6, h3⟩)
  obtain ⟨t, a1, b1⟩ := kk (T.setVm vm') hT (X.noted hW')
  refine ⟨t, ix_caught (g := F0 m pc ls rest) X.here (pc := x.handlerPc) (vm' := vm') ?_ a1, b1⟩
  intro Q' E' d' acts'
  have h9 := W.findHandler_eq (f := F0 m pc ls rest) (a := q) (Q := Q') (E := E') (e := e) (d := d') (acts := acts') (s := (T.setTop (F0 m pc ls rest)).pushFrame (.throwing q)) (meth := meth) (code := c) X.method' X.code
  rw [hsplit] at h9
  exact h9.trans (hq Q' E' d' acts')
theorem ix_call {r : ia_R} {mc ms : Nat} {av : Array Value} (hr : vx_Run p l e R s m args below meth c H locs cells slots mc ms (F0 m pc ls st0) rest (irQ D cA xt base r av) (irX D cA xt base r) (fun q => base ≤ q)) (hS : va_S (fun q => base ≤ q) s.heap H locs)
    (kk : ∀ (x : Int32) (H' : Heap) (locs' : List Loc), r.1 = some (.int x) → ia_rep D cA xt base r.2 H' → va_S (fun q => base ≤ q) s.heap H' locs' → W p l e R s m args below meth c H' locs' (cells + mc) (slots + ms) Q (F0 m (pc + 3) ls (.int x :: rest)))
    (kx : ∀ (E : String) (ce : Cell) (q : Addr) (H' : Heap) (locs' : List Loc), ((r.1 = some (.float 1) ∧ E = irIO) ∨ (r.1 = some (.float 2) ∧ E = irNS)) → ia_rep D cA xt base r.2 H' → va_S (fun q => base ≤ q) s.heap H' locs' → H'[q]? = some ce → ce.vm = .none → s.vm.findClass E = some ce.cls → vx_W p l e R s m args below meth c H' locs' (cells + mc) (slots + ms) Q (F0 m pc ls rest) q) : W p l e R s m args below meth c H locs cells slots Q (F0 m pc ls st0) := by
  intro T hT X
  have keep : ∀ (st₀ t : State) (L : List Loc), st₀.heap = H → (∀ q ∈ L, base ≤ q.base) → va_F (fun q => base ≤ q) st₀ t → va_S (fun q => base ≤ q) s.heap t.heap (locs ++ L) := by
    intro st₀ t L e0 hL hF
    obtain ⟨hF1, hF2⟩ := hF
    exact ⟨Nat.le_trans hS.1 (by rw [← e0]; exact hF1), fun q h1 h2 => by
      rw [hF2 q (by rw [e0]; exact Nat.lt_of_lt_of_le h1 hS.1) h2, e0]
      exact hS.2.1 q h1 h2, fun q hq => by
      rcases List.mem_append.mp hq with h | h
      · exact hS.2.2 q h
      · exact hL q h⟩
  rcases hr T hT X with ⟨v, st₀, t, T', L, e0, X', hL, e1, e2, ⟨⟨x, hrx⟩, hv, hrep, hF⟩, st⟩ | ⟨q, st₀, t, T', L, E, ce, e0, X', hL, e1, e2, ⟨hc, hrep, hF⟩, hce, hcv, hcl, st⟩
  · rw [hrx] at hv
    cases hv
    obtain ⟨t2, a1, b1⟩ := kk x t.heap (locs ++ L) hrx hrep (keep st₀ t L e0 hL hF) T' e1 X'
    exact ⟨t2, st t2 a1, b1⟩
  · obtain ⟨t2, a1, b1⟩ := kx E ce q t.heap (locs ++ L) hc hrep (keep st₀ t L e0 hL hF) hce hcv hcl T' e1 X'
    exact ⟨t2, st.trans a1, b1⟩
end KX8
theorem ia_getR_cls {h : ia_H} {a ci k w : Nat} (e : ia_getR h a ci k = some w) : ia_cls h a = ci ∧ ∃ fs, h.2.2 a = .inr (.inr (ci, fs)) := by
  unfold ia_getR at e
  unfold ia_cls
  split at e
  · rename_i c fs he
    split at e
    · rename_i hc
      subst hc
      rw [he]
      exact ⟨rfl, fs, rfl⟩
    · cases e
  · cases e
/-- what the law's ring is, in terms of the class's -/
theorem ir_lr {xs : List Int32} {x out : Nat} {p0 p1 : Int32} {h : ia_H} {q : ia_R} (e1 : ia_lring x p0 p1 out h = some q) : ∃ r, irR xs 1 x p0 p1 h = some r ∧
    ((r = (some (.float 1), (h.1 + 1, h.2.1 + 6, h.2.2)) ∧ q = (some (.int 1), (h.1 + 1, h.2.1 + 6, h.2.2))) ∨ (r = (some (.float 2), (h.1 + 1, h.2.1 + 6, h.2.2)) ∧ q = (some (.int 2), (h.1 + 1, h.2.1 + 6, h.2.2))) ∨ ∃ v h', r = (some (.int v), h) ∧ ia_last h out 0 v.toInt64 = some h' ∧ q = (some (.int 0), h')) := by
  unfold ia_lring at e1
  obtain ⟨now, g1, e1⟩ := Option.bind_eq_some_iff.mp e1
  obtain ⟨rings, g2, e1⟩ := Option.bind_eq_some_iff.mp e1
  have hcls := (ia_getR_cls g1).1
  have hR : ia_cal xs 1 im_Eng_isRing [.ref x, .int p0] h = some (some (.int (if p0 < 0 then 0 else if p0 < rings then 1 else 0)), h) := by
    rw [iu_Eng_isRing xs 0, iq_Eng_isRing_0]
    simp only [g1, g2, Option.bind_some]
    by_cases a : p0 < 0
    · rw [if_pos a, if_pos a]; rfl
    · rw [if_neg a, if_neg a]
      by_cases b : p0 < rings
      · rw [if_pos b, if_pos b]; rfl
      · rw [if_neg b, if_neg b]; rfl
  have hrr := irR_eq xs 1 x p0 p1 h
  rw [if_pos hcls, hR] at hrr
  have rr2 : irR xs 1 x p0 p1 h = _ := hrr
  by_cases a : p0 < 0
  · rw [if_pos a] at e1
    rw [if_pos a] at rr2
    exact ⟨_, rr2, Or.inl ⟨rfl, (Option.some.inj e1).symm⟩⟩
  · rw [if_neg a] at e1
    by_cases b : p0 < rings
    · rw [if_pos b] at e1
      rw [if_neg a, if_pos b] at rr2
      have rr3 : irR xs 1 x p0 p1 h = (if p1 = 0 then (ia_getR h x 9 3).bind fun w => (ia_getR h w 8 10).bind fun a => (ia_ald h a 0 p0).bind fun v => some (some (.int v), h)
        else if p1 = 1 then (ia_getR h x 9 3).bind fun w => (ia_getR h w 8 11).bind fun a => (ia_ald h a 0 p0).bind fun v => some (some (.int v), h)
        else if p1 = 2 then (ia_getR h x 9 3).bind fun w => (ia_getR h w 8 12).bind fun a => (ia_ald h a 0 p0).bind fun v => some (some (.int v), h)
        else if p1 = 3 then (ia_getR h x 9 3).bind fun w => (ia_getR h w 8 13).bind fun a => (ia_ald h a 0 p0).bind fun v => some (some (.int v), h)
        else if p1 = 4 then (ia_getR h x 9 3).bind fun w => (ia_getR h w 8 14).bind fun a => (ia_ald h a 0 p0).bind fun v => some (some (.int v), h)
        else if p1 = 5 then (ia_getR h x 9 3).bind fun w => (ia_getR h w 8 15).bind fun a => (ia_ald h a 0 p0).bind fun v => some (some (.int v), h)
        else some (some (.float 2), (h.1 + 1, h.2.1 + 6, h.2.2))) := rr2
      simp only [g1, Option.bind_some] at rr3
      have leg : ∀ (k : Nat), (ia_getR h now 8 k).bind (fun a => (ia_ald h a 0 p0).bind fun v => (ia_last h out 0 v.toInt64).bind fun h' => some (some (Value.int 0), h')) = some q → irR xs 1 x p0 p1 h = ((ia_getR h now 8 k).bind fun a => (ia_ald h a 0 p0).bind fun v => some (some (.int v), h)) → ∃ r, irR xs 1 x p0 p1 h = some r ∧ ((r = (some (.float 1), (h.1 + 1, h.2.1 + 6, h.2.2)) ∧ q = (some (.int 1), (h.1 + 1, h.2.1 + 6, h.2.2))) ∨ (r = (some (.float 2), (h.1 + 1, h.2.1 + 6, h.2.2)) ∧ q = (some (.int 2), (h.1 + 1, h.2.1 + 6, h.2.2))) ∨ ∃ v h', r = (some (.int v), h) ∧ ia_last h out 0 v.toInt64 = some h' ∧ q = (some (.int 0), h')) := by
        intro k f1 f2
        obtain ⟨a, k1, f1⟩ := Option.bind_eq_some_iff.mp f1
        obtain ⟨v, k2, f1⟩ := Option.bind_eq_some_iff.mp f1
        obtain ⟨h', k3, f1⟩ := Option.bind_eq_some_iff.mp f1
        rw [k1, Option.bind_some, k2, Option.bind_some] at f2
        exact ⟨_, f2, Or.inr (Or.inr ⟨v, h', rfl, k3, (Option.some.inj f1).symm⟩)⟩
      by_cases b0 : p1 = 0
      · rw [if_pos b0] at e1 rr3
        exact leg _ e1 rr3
      rw [if_neg b0] at e1 rr3
      by_cases b0 : p1 = 1
      · rw [if_pos b0] at e1 rr3
        exact leg _ e1 rr3
      rw [if_neg b0] at e1 rr3
      by_cases b0 : p1 = 2
      · rw [if_pos b0] at e1 rr3
        exact leg _ e1 rr3
      rw [if_neg b0] at e1 rr3
      by_cases b0 : p1 = 3
      · rw [if_pos b0] at e1 rr3
        exact leg _ e1 rr3
      rw [if_neg b0] at e1 rr3
      by_cases b0 : p1 = 4
      · rw [if_pos b0] at e1 rr3
        exact leg _ e1 rr3
      rw [if_neg b0] at e1 rr3
      by_cases b0 : p1 = 5
      · rw [if_pos b0] at e1 rr3
        exact leg _ e1 rr3
      rw [if_neg b0] at e1 rr3
      exact ⟨_, rr3, Or.inr (Or.inl ⟨rfl, (Option.some.inj e1).symm⟩)⟩
    · rw [if_neg b] at e1
      rw [if_neg a, if_neg b] at rr2
      exact ⟨_, rr2, Or.inl ⟨rfl, (Option.some.inj e1).symm⟩⟩
