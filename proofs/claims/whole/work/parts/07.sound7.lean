/-! Runs and calls are sound. -/
theorem ia_kill_len (kl : List Nat) : ∀ ls : List Value, (ia_kill kl ls).length = ls.length := by
  induction kl with
  | nil => intro ls; rfl
  | cons i r ih => intro ls; exact (ih _).trans (by simp)
theorem ia_pcOf_of {code : List ia_I} {t : Nat} {e : ia_I} (h : ia_nth code t = some e) : ia_pcOf code t = e.2.2.2.2.1 := by
  unfold ia_pcOf
  rw [h]
/-- all special calls hold, wherever a method stands -/
def ia_SpA (l : Launch) (D : va_G) (cA : Nat → ClassId) (xt : Nat → Nat) (base : Nat) (xs : List Int32) (E : State → Prop) : Prop :=
  ∀ (p : Program) (e : Env) (R : Room) (s : State) (m : MethodId) (args : Array Value) (below : List Frame) (meth : Method) (c : Code) (Q : State → Prop) (h0 : ia_H) (r : ia_R) (o nL : Nat) (cc : ByteArray), ia_C p s m args c D cA xt base xs E o nL cc → R.cells + h0.1 = r.2.1 → R.slots + h0.2.1 = r.2.2.1 → 21 ≤ R.frames → 2064 ≤ R.locals → ia_So p l e R s m args below meth c Q D cA xt base h0 r o cc
section IAV
variable {p : Program} {l : Launch} {e : Env} {R : Room} {s : State} {m : MethodId} {args : Array Value} {below : List Frame} {meth : Method} {c : Code} {Q : State → Prop} {D : va_G} {cA : Nat → ClassId} {xt : Nat → Nat} {base : Nat} {xs : List Int32} {E : State → Prop} {o nL : Nat} {cc : ByteArray} {ini : Bool} {rt : Option FieldType} {code : List ia_I} {h0 : ia_H} {r : ia_R} {d : Nat} {cal : Nat → List Value → ia_H → Option ia_R}
theorem ia_runS (hE : ia_Ek base E) (C : ia_C p s m args c D cA xt base xs E o nL cc) (hnm : ini = true → meth.name = "<init>") (hR1 : R.cells + h0.1 = r.2.1) (hR2 : R.slots + h0.2.1 = r.2.2.1) (hR3 : d + 21 ≤ R.frames) (hR4 : 64 * d + 2064 ≤ R.locals)
    (hcm : ∀ j as h q, cal j as h = some q → h.1 ≤ q.2.1 ∧ h.2.1 ≤ q.2.2.1) (hcal : ∀ j as h q, j ∈ ia_jL → cal j as h = some q → ia_Mt l D cA xt base xs E d j as h q)
    (hsp : ia_So p l e R s m args below meth c Q D cA xt base h0 r o cc) (hok : ∀ t ei, ia_nth code t = some ei → ia_okB o ini cc code rt t ei = true)
    (hret : ∀ (pc : Nat) (v : Option Value) (h : ia_H) (H : Heap) (locs : List Loc) (cells slots : Nat) (sl : Array Slot), ia_Ro cc rt pc v → r = (v, h) → ia_Z D cA xt base s h0 h H locs cells slots → W p l e R s m args below meth c H locs cells slots Q (F0 m pc sl (v.toList.map (ia_tr xt base)))) :
    ∀ (n t : Nat) (ls st : List Value) (h : ia_H) (H : Heap) (locs : List Loc) (cells slots : Nat) (sl : Array Slot), ia_run xs ia_dfl ia_spec code cal n t ls st h = some r → ia_Z D cA xt base s h0 h H locs cells slots → ia_lr (ia_tr xt base) sl ls → ls.length = nL →
      W p l e R s m args below meth c H locs cells slots Q (F0 m (ia_pcOf code t) sl (st.map (ia_tr xt base))) := by
  intro n
  induction n with
  | zero => intro t ls st h H locs cells slots sl e1; cases e1
  | succ n ih =>
    intro t ls st h H locs cells slots sl e1 hZ hl hnl
    have hgo : ∀ (f t : Nat) (ls st : List Value) (h : ia_H) (H : Heap) (locs : List Loc) (cells slots : Nat) (sl : Array Slot), ia_go xs ia_dfl ia_spec code cal (ia_run xs ia_dfl ia_spec code cal n) f t ls st h = some r → ia_Z D cA xt base s h0 h H locs cells slots → ia_lr (ia_tr xt base) sl ls → ls.length = nL →
        W p l e R s m args below meth c H locs cells slots Q (F0 m (ia_pcOf code t) sl (st.map (ia_tr xt base))) := by
      intro f
      induction f with
      | zero => intro t ls st h H locs cells slots sl e1; cases e1
      | succ f ihf =>
        intro t ls st h H locs cells slots sl e1 hZ hl hnl
        simp only [ia_go] at e1
        split at e1
        · cases e1
        · rename_i ei hei
          split at e1
          · rename_i kl hkl
            exact ih _ _ _ _ _ _ _ _ _ e1 hZ (hl.kill kl) (by rw [ia_kill_len]; exact hnl)
          · rw [ia_pcOf_of hei]
            exact ia_stepW hE C hnm hR1 hR2 hR3 hR4 (fun t ls st h q => ia_goM (ia_runM hcm n) hcm f t ls st h q) hcal hsp (fun t' ls' st' h' H' locs' cells' slots' sl' => ihf t' ls' st' h' H' locs' cells' slots' sl') hret (hok t ei hei) e1 hZ hl hnl
    simp only [ia_run] at e1
    split at e1
    · cases e1
    · rename_i ei hei
      rw [ia_pcOf_of hei]
      exact ia_stepW hE C hnm hR1 hR2 hR3 hR4 (fun t ls st h q => ia_goM (ia_runM hcm n) hcm 1000 t ls st h q) hcal hsp (fun t' ls' st' h' H' locs' cells' slots' sl' => hgo 1000 t' ls' st' h' H' locs' cells' slots' sl') hret (hok t ei hei) e1 hZ hl hnl
end IAV
theorem ia_okM_at {j : Nat} (h : ia_okM j = true) (t : Nat) (ei : ia_I) (ht : ia_nth (ia_pg j).1 t = some ei) : ia_okB (ia_ow j) (decide (ia_kd j = 1)) (ia_bb j) (ia_pg j).1 (ia_rt j) t ei = true := by
  have hlt : ∀ (l : List ia_I) (t : Nat), ia_nth l t = some ei → t < l.length := by
    intro l
    induction l with
    | nil => intro t h; cases t <;> cases h
    | cons x l ih =>
      intro t h
      cases t with
      | zero => exact Nat.zero_lt_succ _
      | succ t => exact Nat.succ_lt_succ (ih t h)
  have := List.all_eq_true.mp h t (List.mem_range.mpr (hlt _ _ ht))
  rw [ht] at this
  exact this
set_option maxHeartbeats 2000000 in
/-- every call that my machine answers keeps its contract -/
theorem ia_calS {l : Launch} {D : va_G} {cA : Nat → ClassId} {xt : Nat → Nat} {base : Nat} {xs : List Int32} {E : State → Prop} (hE : ia_Ek base E) (hSp : ia_SpA l D cA xt base xs E) (hokM : ∀ j ∈ ia_jL, ia_okM j = true ∧ ia_pcOf (ia_pg j).1 0 = 0) :
    ∀ (d j : Nat) (as : List Value) (h : ia_H) (q : ia_R), j ∈ ia_jL → ia_cal xs d j as h = some q → ia_Mt l D cA xt base xs E d j as h q := by
  intro d
  induction d with
  | zero => intro j as h q _ e; cases e
  | succ d ih =>
    intro j as h r hj e1
    have hm := ia_callM _ _ _ _ _ e1
    refine ⟨hm.1, hm.2, ?_⟩
    have hP := ia_miO j hj
    obtain ⟨hpl, hcls, hcode, hini, hnp, hmax, hk0, hk1, hk2⟩ := id hP
    simp only [ia_cal, ia_call] at e1
    split at e1
    · rename_i hfit
      refine va_MetF (cc := ia_bb j) (maxL := (ia_pg j).2) (ret := ia_rt j) hpl rfl ?_
      intro p e s m args below meth c s₁ B hml hPc
      obtain ⟨rfl, hrep, hX⟩ := hPc
      have hx := B.exec
      have hb := B.bytes
      have hr := B.returns
      have hlocks := B.notSynchronized
      have hts0 := atoms_spec (ws := ia_ws j) B.pre
      have hts : ∀ w ∈ ia_T, w.before (as.map (ia_tr xt base)).toArray s = true := fun w hw => hts0 w (List.mem_cons_of_mem _ hw)
      have hown : s.vm.findClass (ia_on (ia_ow j)) = some m.cls := by rw [← hcls]; exact findClass_of_methodNamed B.named
      have hin : decide (ia_kd j = 1) = true → meth.name = "<init>" := fun q => by
        rw [(name_of_methodNamed B.named B.method).1]
        exact (hk1 (of_decide_eq_true q)).2.1
      have hC : ia_C p s m (as.map (ia_tr xt base)).toArray c D cA xt base xs E (ia_ow j) (ia_pg j).2 (ia_bb j) := ⟨hx, hb, hml, hown, hts, hX⟩
      have hRR : (headSpec (ia_ws j) (ia_rm (d + 1) (r.2.1 - h.1) (r.2.2.1 - h.2.1))).room = ia_rm (d + 1) (r.2.1 - h.1) (r.2.2.1 - h.2.1) := rfl
      rw [hRR]
      have hR1 : (ia_rm (d + 1) (r.2.1 - h.1) (r.2.2.1 - h.2.1)).cells + h.1 = r.2.1 := by show r.2.1 - h.1 + h.1 = r.2.1; omega
      have hR2 : (ia_rm (d + 1) (r.2.1 - h.1) (r.2.2.1 - h.2.1)).slots + h.2.1 = r.2.2.1 := by show r.2.2.1 - h.2.1 + h.2.1 = r.2.2.1; omega
      have hR3 : d + 21 ≤ (ia_rm (d + 1) (r.2.1 - h.1) (r.2.2.1 - h.2.1)).frames := by show d + 21 ≤ d + 1 + 20; omega
      have hR4 : 64 * d + 2064 ≤ (ia_rm (d + 1) (r.2.1 - h.1) (r.2.2.1 - h.2.1)).locals := by show 64 * d + 2064 ≤ 64 * (d + 1) + 2000; omega
      have hpc0 : ia_pcOf (ia_pg j).1 0 = 0 := (hokM j hj).2
      rw [lg_entry_eq]
      have run := ia_runS (e := e) (below := below) (meth := meth) (ini := decide (ia_kd j = 1)) (rt := ia_rt j) (code := (ia_pg j).1) (d := d) (Q := MQ below (ia_Qc D cA xt base r) (as.map (ia_tr xt base)).toArray s (r.2.1 - h.1) (r.2.2.1 - h.2.1) (fun q => base ≤ q)) hE hC hin hR1 hR2 hR3 hR4 (ia_callM d) ih (hSp p e _ s m _ below meth c _ h r _ _ _ hC hR1 hR2 (by omega) (by omega)) (ia_okM_at (hokM j hj).1) (fun pc v h' H locs cells slots sl hro hrv hZ => ?_) 1000000 0 (ia_loc (ia_pg j).2 as) [] h s.heap [] 0 0 _ e1 ⟨hrep, va_S.rf, by omega, by omega⟩ (ia_lr.entry hfit) hfit
      · rw [hpc0] at run
        exact run
      · obtain ⟨hr', hS', z1, z2⟩ := hZ
        subst hrv
        have e1 : (v, h').2.1 - h.1 = cells := by show h'.1 - h.1 = cells; omega
        have e2 : (v, h').2.2.1 - h.2.1 = slots := by show h'.2.1 - h.2.1 = slots; omega
        rw [e1, e2]
        have post : ∀ t : State, t.heap = H → s.WarmedH t.vm → ia_Qc D cA xt base (v, h') (as.map (ia_tr xt base)).toArray s (.returned (v.map (ia_tr xt base))) t := fun t ht _ => ⟨rfl, by rw [ht]; exact hr', hS'.F ht⟩
        rcases hro with ⟨x, rfl, hd, hrt⟩ | ⟨x, rfl, hd, hrt⟩ | ⟨a, nm, rfl, hd, hrt⟩ | ⟨rfl, hd, hrt⟩
        · rcases hrt with hrt | ⟨ty, hrt, h01⟩
          · exact W.iret hx hb (by rw [hr, hrt]) post hS'.2.2 hd
          · exact W.zret hx hb (by rw [hr, hrt]) h01 post hS'.2.2 hd
        · exact W.lret hx hb (by rw [hr, hrt]) post hS'.2.2 hd
        · exact W.aret hx hb (by rw [hr, hrt]) (Or.inl ⟨nm, rfl⟩) (Or.inr ⟨_, rfl⟩) post hS'.2.2 hd
        · exact W.vret hx hb (by rw [hr, hrt]) post hS'.2.2 hd
    · cases e1
