/-! One instruction is sound: where my machine answers, the Java machine comes to the same. -/
/-- how a method may end -/
def ia_Ro (cc : ByteArray) (rt : Option FieldType) (pc : Nat) (v : Option Value) : Prop :=
  (∃ x, v = some (.int x) ∧ decode cc pc = .ok (.ireturn, 1) ∧ (rt = some .int ∨ ∃ ty, rt = some ty ∧ narrow ty (.int x) = .int x)) ∨ (∃ x, v = some (.long x) ∧ decode cc pc = .ok (.lreturn, 1) ∧ rt = some .long) ∨ (∃ a n, v = some (.ref a) ∧ decode cc pc = .ok (.areturn, 1) ∧ rt = some (.object n)) ∨ (v = none ∧ decode cc pc = .ok (.return_, 1) ∧ rt = none)
/-- the special calls hold -/
def ia_So (p : Program) (l : Launch) (e : Env) (R : Room) (s : State) (m : MethodId) (args : Array Value) (below : List Frame) (meth : Method) (c : Code) (Q : State → Prop) (D : va_G) (cA : Nat → ClassId) (xt : Nat → Nat) (base : Nat) (h0 : ia_H) (r : ia_R) (o : Nat) (cc : ByteArray) : Prop :=
  ∀ (ix sp kind pc : Nat) (as rest : List Value) (h : ia_H) (q : ia_R) (H : Heap) (locs : List Loc) (cells slots : Nat) (sl : Array Slot), (o, ix, sp, kind) ∈ ia_spL → ((kind = 0 ∧ decode cc pc = .ok (.invokevirtual ix, 3)) ∨ (kind = 2 ∧ decode cc pc = .ok (.invokestatic ix, 3))) → ia_spec sp as h = some q → ia_cats rest ≤ 8 → sl.size = c.maxLocals →
    q.2.1 ≤ r.2.1 → q.2.2.1 ≤ r.2.2.1 → ia_Z D cA xt base s h0 h H locs cells slots →
    (∀ (H' : Heap) (locs' : List Loc) (cells' slots' : Nat), ia_Z D cA xt base s h0 q.2 H' locs' cells' slots' → W p l e R s m args below meth c H' locs' cells' slots' Q (F0 m (pc + 3) sl ((q.1.toList ++ rest).map (ia_tr xt base)))) →
    W p l e R s m args below meth c H locs cells slots Q (F0 m pc sl ((as.reverse ++ rest).map (ia_tr xt base)))
set_option maxHeartbeats 8000000 in
theorem ia_stepW {p : Program} {l : Launch} {e : Env} {R : Room} {s : State} {m : MethodId} {args : Array Value} {below : List Frame} {meth : Method} {c : Code} {Q : State → Prop} {D : va_G} {cA : Nat → ClassId} {xt : Nat → Nat} {base : Nat} {xs : List Int32} {E : State → Prop} {o nL : Nat} {cc : ByteArray} {ini : Bool} {rt : Option FieldType} {code : List ia_I} {h0 : ia_H} {r : ia_R} {d : Nat} {cal : Nat → List Value → ia_H → Option ia_R} {k : ia_K4}
    (hE : ia_Ek base E) (C : ia_C p s m args c D cA xt base xs E o nL cc) (hnm : ini = true → meth.name = "<init>") (hR1 : R.cells + h0.1 = r.2.1) (hR2 : R.slots + h0.2.1 = r.2.2.1) (hR3 : d + 21 ≤ R.frames) (hR4 : 64 * d + 2064 ≤ R.locals)
    (hmono : ∀ t ls st h, k t ls st h = some r → h.1 ≤ r.2.1 ∧ h.2.1 ≤ r.2.2.1) (hcal : ∀ j as h q, j ∈ ia_jL → cal j as h = some q → ia_Mt l D cA xt base xs E d j as h q)
    (hsp : ia_So p l e R s m args below meth c Q D cA xt base h0 r o cc)
    (hk : ∀ (t' : Nat) (ls' st' : List Value) (h' : ia_H) (H' : Heap) (locs' : List Loc) (cells' slots' : Nat) (sl' : Array Slot), k t' ls' st' h' = some r → ia_Z D cA xt base s h0 h' H' locs' cells' slots' → ia_lr (ia_tr xt base) sl' ls' → ls'.length = nL → W p l e R s m args below meth c H' locs' cells' slots' Q (F0 m (ia_pcOf code t') sl' (st'.map (ia_tr xt base))))
    (hret : ∀ (pc : Nat) (v : Option Value) (h : ia_H) (H : Heap) (locs : List Loc) (cells slots : Nat) (sl : Array Slot), ia_Ro cc rt pc v → r = (v, h) → ia_Z D cA xt base s h0 h H locs cells slots → W p l e R s m args below meth c H locs cells slots Q (F0 m pc sl (v.toList.map (ia_tr xt base))))
    {ei : ia_I} {t : Nat} {ls st : List Value} {h : ia_H} {H : Heap} {locs : List Loc} {cells slots : Nat} {sl : Array Slot} (hok : ia_okB o ini cc code rt t ei = true) (hs : ia_step xs ia_dfl ia_spec ei t ls st h cal k = some r) (hZ : ia_Z D cA xt base s h0 h H locs cells slots) (hl : ia_lr (ia_tr xt base) sl ls) (hnl : ls.length = nL) :
    W p l e R s m args below meth c H locs cells slots Q (F0 m ei.2.2.2.2.1 sl (st.map (ia_tr xt base))) := by
  obtain ⟨ins, rs, ks, cv, pc, fl⟩ := ei
  obtain ⟨hx, hb, hml, hown, hts, hX⟩ := id C
  have hK := hX.1
  have go : ∀ {t' : Nat} {ls' st' : List Value} {h' : ia_H} {H' : Heap} {locs' : List Loc} {cells' slots' : Nat} {sl' : Array Slot} {q : Nat}, ia_pcOf code t' = q → k t' ls' st' h' = some r → ia_Z D cA xt base s h0 h' H' locs' cells' slots' → ia_lr (ia_tr xt base) sl' ls' → ls'.length = nL → W p l e R s m args below meth c H' locs' cells' slots' Q (F0 m q sl' (st'.map (ia_tr xt base))) := by
    intro t' ls' st' h' H' locs' cells' slots' sl' q hq h1 h2 h3 h4
    rw [← hq]
    exact hk t' ls' st' h' H' locs' cells' slots' sl' h1 h2 h3 h4
  have hsz : sl.size = nL := hl.1.trans hnl
  have cls : ∀ (kind : Nat) {ix : Nat} {as rest : List Value}, ia_okC o ix kind rs = true → as.length = ia_r rs 2 → ((kind = 0 ∧ decode cc pc = .ok (.invokevirtual ix, 3)) ∨ (kind = 1 ∧ decode cc pc = .ok (.invokespecial ix, 3)) ∨ (kind = 2 ∧ decode cc pc = .ok (.invokestatic ix, 3))) → ia_pcOf code (t + 1) = pc + 3 →
      (kind = 0 → (∃ b as' fs, as = .ref b :: as' ∧ h.2.2 b = .inr (.inr (ia_ow (ia_r rs 1), fs)) ∧ ia_ow (ia_r rs 1) < 11) ∨ ∃ j9 as', as = .retAddr j9 :: as' ∧ ia_isS j9 = true ∧ ia_ow (ia_r rs 1) = 14) → (kind = 1 → ∃ b as', as = .ref b :: as') → ia_cats rest ≤ 8 → ia_ret (ia_r rs 3) (cal (ia_r rs 1) as h) (fun v h' => k (t + 1) ls (v ++ rest) h') = some r →
      W p l e R s m args below meth c H locs cells slots Q (F0 m pc sl ((as.reverse ++ rest).map (ia_tr xt base))) := by
    intro kind ix as rest hC hlen hdk hnx hrec hinit hcat hs9
    unfold ia_okC at hC
    split at hC
    · rename_i j lk hF
      simp only [Bool.and_eq_true, Bool.or_eq_true, decide_eq_true_eq] at hC
      obtain ⟨rfl, c2, c3, c4, c5⟩ := hC
      obtain ⟨q, e1, e2⟩ := ia_ret_s hs9
      have hM := hcal _ _ _ _ c4 e1
      have hm := hmono _ _ _ _ e2
      obtain ⟨hr0, hS0, z1, z2⟩ := id hZ
      refine ia_callW (ia_runW hE C hsz hZ hF c4 c2 c5 (by rw [hlen, c3]) hdk hrec hinit (by rw [ia_cats_sum]; exact hcat) hM ?_ ?_ hR3 hR4) hS0 (fun H' locs' hr' hS' => ?_)
      · have := hM.1
        omega
      · have := hM.2.1
        omega
      · have hst : (q.1.map (ia_tr xt base)).toList ++ rest.map (ia_tr xt base) = (q.1.toList ++ rest).map (ia_tr xt base) := by
          rw [List.map_append]
          cases q.1 <;> rfl
        rw [hst]
        have := hM.1
        have := hM.2.1
        exact go hnx e2 ⟨hr', hS', by omega, by omega⟩ hl hnl
    · cases hC
  have spc : ∀ (kind : Nat) {ix : Nat} {as rest : List Value}, (o, ix, ia_r rs 1, kind) ∈ ia_spL → ((kind = 0 ∧ decode cc pc = .ok (.invokevirtual ix, 3)) ∨ (kind = 2 ∧ decode cc pc = .ok (.invokestatic ix, 3))) → ia_pcOf code (t + 1) = pc + 3 → ia_cats rest ≤ 8 → ia_ret (ia_r rs 3) (ia_spec (ia_r rs 1) as h) (fun v h' => k (t + 1) ls (v ++ rest) h') = some r →
      W p l e R s m args below meth c H locs cells slots Q (F0 m pc sl ((as.reverse ++ rest).map (ia_tr xt base))) := by
    intro kind ix as rest hin hdk hnx hcat hs9
    obtain ⟨q, e1, e2⟩ := ia_ret_s hs9
    have hm := hmono _ _ _ _ e2
    exact hsp ix _ kind pc as rest h q H locs cells slots sl hin hdk e1 hcat (by rw [hml]; exact hsz) hm.1 hm.2 hZ (fun H' locs' cells' slots' hZ' => go hnx e2 hZ' hl hnl)
  show W p l e R s m args below meth c H locs cells slots Q (F0 m pc sl (st.map (ia_tr xt base)))
  cases ins with
  | iconst n =>
    simp only [ia_okB, Bool.and_eq_true, decide_eq_true_eq] at hok
    obtain ⟨⟨h1, h2⟩, h3⟩ := hok
    subst h3
    exact lv_iconst hx hb (ia_dc_ok h1) rfl (go h2 hs hZ hl hnl)
  | bipush n =>
    simp only [ia_okB, Bool.and_eq_true, decide_eq_true_eq] at hok
    obtain ⟨⟨h1, h2⟩, h3⟩ := hok
    subst h3
    exact lv_bipush hx hb (ia_dc_ok h1) rfl (go h2 hs hZ hl hnl)
  | sipush n =>
    simp only [ia_okB, Bool.and_eq_true, decide_eq_true_eq] at hok
    obtain ⟨⟨h1, h2⟩, h3⟩ := hok
    subst h3
    exact lv_sipush hx hb (ia_dc_ok h1) rfl (go h2 hs hZ hl hnl)
  | lconst n =>
    simp only [ia_okB, Bool.and_eq_true, decide_eq_true_eq] at hok
    obtain ⟨⟨h1, h2⟩, h3⟩ := hok
    subst h3
    exact lv_lconst hx hb (ia_dc_ok h1) rfl (go h2 hs hZ hl hnl)
  | ldc ix =>
    simp only [ia_okB, Bool.and_eq_true, decide_eq_true_eq] at hok
    obtain ⟨⟨h1, h2⟩, h3⟩ := hok
    cases cv with
    | int v =>
      simp only [decide_eq_true_eq] at h3
      rcases ia_kcO o _ (ia_find_mem h3) with ⟨w, e1, e2⟩ | ⟨w, e1, e2⟩
      · cases e1
        exact lv_ldc hx hb hown (hts _ e2) (ia_dc_ok h1) (go h2 hs hZ hl hnl)
      · cases e1
    | retAddr j =>
      simp only [decide_eq_true_eq] at h3
      exact va_ldcS hx hb hown (hX.2.2.2.2.2.1 _ h3) (ia_dc_ok h1) (go h2 hs hZ hl hnl)
    | _ => cases h3
  | ldc_w ix =>
    simp only [ia_okB, Bool.and_eq_true, decide_eq_true_eq] at hok
    obtain ⟨⟨h1, h2⟩, h3⟩ := hok
    cases cv with
    | int v =>
      simp only [decide_eq_true_eq] at h3
      rcases ia_kcO o _ (ia_find_mem h3) with ⟨w, e1, e2⟩ | ⟨w, e1, e2⟩
      · cases e1
        exact lv_ldcw hx hb hown (hts _ e2) (ia_dc_ok h1) (go h2 hs hZ hl hnl)
      · cases e1
    | _ => cases h3
  | ldc2_w ix =>
    simp only [ia_okB, Bool.and_eq_true, decide_eq_true_eq] at hok
    obtain ⟨⟨h1, h2⟩, h3⟩ := hok
    cases cv with
    | long v =>
      simp only [decide_eq_true_eq] at h3
      rcases ia_kcO o _ (ia_find_mem h3) with ⟨w, e1, e2⟩ | ⟨w, e1, e2⟩
      · cases e1
      · cases e1
        exact lv_ldc2 hx hb hown (hts _ e2) (ia_dc_ok h1) (go h2 hs hZ hl hnl)
    | _ => cases h3
  | iload n =>
    simp only [ia_okB, Bool.and_eq_true, decide_eq_true_eq] at hok
    obtain ⟨⟨h1, h2⟩, h3⟩ := hok
    subst h3
    obtain ⟨v, e1, e⟩ := ia_load_s hs
    cases v with
    | int x => exact lv_iload hx hb (ia_dc_ok h1) (hl.2.2 _ _ e1 (by intro q; cases q)) (go h2 e hZ hl hnl)
    | _ => cases e
  | lload n =>
    simp only [ia_okB, Bool.and_eq_true, decide_eq_true_eq] at hok
    obtain ⟨⟨h1, h2⟩, h3⟩ := hok
    subst h3
    obtain ⟨v, e1, e⟩ := ia_load_s hs
    cases v with
    | long x => exact lv_lload hx hb (ia_dc_ok h1) (hl.2.2 _ _ e1 (by intro q; cases q)) (go h2 e hZ hl hnl)
    | _ => cases e
  | iload_n n =>
    simp only [ia_okB, Bool.and_eq_true, decide_eq_true_eq] at hok
    obtain ⟨⟨h1, h2⟩, h3⟩ := hok
    obtain ⟨v, e1, e⟩ := ia_load_s hs
    cases v with
    | int x => exact lv_iload_n hx hb (ia_dc_ok h1) h3.symm (hl.2.2 _ _ e1 (by intro q; cases q)) (go h2 e hZ hl hnl)
    | _ => cases e
  | lload_n n =>
    simp only [ia_okB, Bool.and_eq_true, decide_eq_true_eq] at hok
    obtain ⟨⟨h1, h2⟩, h3⟩ := hok
    obtain ⟨v, e1, e⟩ := ia_load_s hs
    cases v with
    | long x => exact lv_lload_n hx hb (ia_dc_ok h1) h3.symm (hl.2.2 _ _ e1 (by intro q; cases q)) (go h2 e hZ hl hnl)
    | _ => cases e
  | aload n =>
    simp only [ia_okB, Bool.and_eq_true, decide_eq_true_eq] at hok
    obtain ⟨⟨h1, h2⟩, h3⟩ := hok
    subst h3
    obtain ⟨v, e1, e⟩ := ia_load_s hs
    cases v with
    | ref x => exact lv_aload hx hb (ia_dc_ok h1) (hl.2.2 _ _ e1 (by intro q; cases q)) (go h2 e hZ hl hnl)
    | retAddr x => exact lv_aload hx hb (ia_dc_ok h1) (hl.2.2 _ _ e1 (by intro q; cases q)) (go h2 e hZ hl hnl)
    | _ => cases e
  | aload_n n =>
    simp only [ia_okB, Bool.and_eq_true, decide_eq_true_eq] at hok
    obtain ⟨⟨h1, h2⟩, h3⟩ := hok
    obtain ⟨v, e1, e⟩ := ia_load_s hs
    cases v with
    | ref x => exact lv_aload_n hx hb (ia_dc_ok h1) h3.symm (hl.2.2 _ _ e1 (by intro q; cases q)) (go h2 e hZ hl hnl)
    | retAddr x => exact lv_aload_n hx hb (ia_dc_ok h1) h3.symm (hl.2.2 _ _ e1 (by intro q; cases q)) (go h2 e hZ hl hnl)
    | _ => cases e
  | istore n =>
    simp only [ia_okB, Bool.and_eq_true, decide_eq_true_eq] at hok
    obtain ⟨⟨h1, h2⟩, h3⟩ := hok
    obtain ⟨x, st', rfl, e⟩ := ia_i1_s hs
    obtain ⟨g1, g2, g3, g4⟩ := ia_store_s e
    subst h3
    exact lv_istore hx hb (ia_dc_ok h1) hl.has g1 rfl (fun sl' hl' => go h2 g4 hZ (ia_lr.store g1 g2 g3 hl') (by simpa using hnl))
  | istore_n n =>
    simp only [ia_okB, Bool.and_eq_true, decide_eq_true_eq] at hok
    obtain ⟨⟨h1, h2⟩, h3⟩ := hok
    obtain ⟨x, st', rfl, e⟩ := ia_i1_s hs
    obtain ⟨g1, g2, g3, g4⟩ := ia_store_s e
    exact lv_istore_n hx hb (ia_dc_ok h1) h3.symm hl.has g1 rfl (fun sl' hl' => go h2 g4 hZ (ia_lr.store g1 g2 g3 hl') (by simpa using hnl))
  | lstore n =>
    simp only [ia_okB, Bool.and_eq_true, decide_eq_true_eq] at hok
    obtain ⟨⟨h1, h2⟩, h3⟩ := hok
    obtain ⟨x, st', rfl, e⟩ := ia_l1_s hs
    obtain ⟨g1, g2, g3, g4⟩ := ia_storeL_s e
    subst h3
    exact lv_lstore hx hb (ia_dc_ok h1) hl.has g1 rfl (fun sl' hl' => go h2 g4 hZ (ia_lr.storeL g1 g2 g3 hl') (by simpa using hnl))
  | lstore_n n =>
    simp only [ia_okB, Bool.and_eq_true, decide_eq_true_eq] at hok
    obtain ⟨⟨h1, h2⟩, h3⟩ := hok
    obtain ⟨x, st', rfl, e⟩ := ia_l1_s hs
    obtain ⟨g1, g2, g3, g4⟩ := ia_storeL_s e
    exact lv_lstore_n hx hb (ia_dc_ok h1) h3.symm hl.has g1 rfl (fun sl' hl' => go h2 g4 hZ (ia_lr.storeL g1 g2 g3 hl') (by simpa using hnl))
  | astore n =>
    simp only [ia_okB, Bool.and_eq_true, decide_eq_true_eq] at hok
    obtain ⟨⟨h1, h2⟩, h3⟩ := hok
    simp only [ia_step] at hs
    split at hs
    · obtain ⟨g1, g2, g3, g4⟩ := ia_store_s hs
      subst h3
      exact lv_astore hx hb (ia_dc_ok h1) hl.has g1 rfl (fun sl' hl' => go h2 g4 hZ (ia_lr.store g1 g2 g3 hl') (by simpa using hnl))
    · cases hs
  | astore_n n =>
    simp only [ia_okB, Bool.and_eq_true, decide_eq_true_eq] at hok
    obtain ⟨⟨h1, h2⟩, h3⟩ := hok
    simp only [ia_step] at hs
    split at hs
    · obtain ⟨g1, g2, g3, g4⟩ := ia_store_s hs
      exact lv_astore_n hx hb (ia_dc_ok h1) h3.symm hl.has g1 rfl (fun sl' hl' => go h2 g4 hZ (ia_lr.store g1 g2 g3 hl') (by simpa using hnl))
    · cases hs
  | iinc i n =>
    simp only [ia_okB, Bool.and_eq_true, decide_eq_true_eq] at hok
    obtain ⟨⟨h1, h2⟩, h3, h4⟩ := hok
    subst h4
    obtain ⟨v, e1, e⟩ := ia_load_s hs
    cases v with
    | int x =>
      obtain ⟨g1, g2, g3, g4⟩ := ia_store_s e
      rw [h3] at e1 g1 g2 g3 g4
      obtain ⟨kk, hkk⟩ := List.getElem?_of_mem (ia_lp_mem (T := ia_tr xt base) e1 (by intro q; cases q))
      exact lv_iinc hx hb (ia_dc_ok h1) hl.has hkk rfl g1 rfl (fun sl' hl' => go h2 g4 hZ (ia_lr.store g1 g2 g3 hl') (by simpa using hnl))
    | _ => cases e
  | iadd =>
    simp only [ia_okB, Bool.and_eq_true, decide_eq_true_eq] at hok
    obtain ⟨h1, h2⟩ := hok
    obtain ⟨x, y, st', rfl, e⟩ := ia_ii_s hs
    exact lv_iadd hx hb (ia_dc_ok h1) (go h2 e hZ hl hnl)
  | isub =>
    simp only [ia_okB, Bool.and_eq_true, decide_eq_true_eq] at hok
    obtain ⟨h1, h2⟩ := hok
    obtain ⟨x, y, st', rfl, e⟩ := ia_ii_s hs
    exact lv_isub hx hb (ia_dc_ok h1) (go h2 e hZ hl hnl)
  | imul =>
    simp only [ia_okB, Bool.and_eq_true, decide_eq_true_eq] at hok
    obtain ⟨h1, h2⟩ := hok
    obtain ⟨x, y, st', rfl, e⟩ := ia_ii_s hs
    exact lv_imul hx hb (ia_dc_ok h1) (go h2 e hZ hl hnl)
  | iand =>
    simp only [ia_okB, Bool.and_eq_true, decide_eq_true_eq] at hok
    obtain ⟨h1, h2⟩ := hok
    obtain ⟨x, y, st', rfl, e⟩ := ia_ii_s hs
    exact lv_iand hx hb (ia_dc_ok h1) (go h2 e hZ hl hnl)
  | ior =>
    simp only [ia_okB, Bool.and_eq_true, decide_eq_true_eq] at hok
    obtain ⟨h1, h2⟩ := hok
    obtain ⟨x, y, st', rfl, e⟩ := ia_ii_s hs
    exact lv_ior hx hb (ia_dc_ok h1) (go h2 e hZ hl hnl)
  | ixor =>
    simp only [ia_okB, Bool.and_eq_true, decide_eq_true_eq] at hok
    obtain ⟨h1, h2⟩ := hok
    obtain ⟨x, y, st', rfl, e⟩ := ia_ii_s hs
    exact lv_ixor hx hb (ia_dc_ok h1) (go h2 e hZ hl hnl)
  | ishl =>
    simp only [ia_okB, Bool.and_eq_true, decide_eq_true_eq] at hok
    obtain ⟨h1, h2⟩ := hok
    obtain ⟨x, y, st', rfl, e⟩ := ia_ii_s hs
    exact lv_ishl hx hb (ia_dc_ok h1) (go h2 e hZ hl hnl)
  | ishr =>
    simp only [ia_okB, Bool.and_eq_true, decide_eq_true_eq] at hok
    obtain ⟨h1, h2⟩ := hok
    obtain ⟨x, y, st', rfl, e⟩ := ia_ii_s hs
    exact lv_ishr hx hb (ia_dc_ok h1) (go h2 e hZ hl hnl)
  | iushr =>
    simp only [ia_okB, Bool.and_eq_true, decide_eq_true_eq] at hok
    obtain ⟨h1, h2⟩ := hok
    obtain ⟨x, y, st', rfl, e⟩ := ia_ii_s hs
    exact lv_iushr hx hb (ia_dc_ok h1) rfl (go h2 e hZ hl hnl)
  | ladd =>
    simp only [ia_okB, Bool.and_eq_true, decide_eq_true_eq] at hok
    obtain ⟨h1, h2⟩ := hok
    obtain ⟨x, y, st', rfl, e⟩ := ia_ll_s hs
    exact lv_ladd hx hb (ia_dc_ok h1) (go h2 e hZ hl hnl)
  | lsub =>
    simp only [ia_okB, Bool.and_eq_true, decide_eq_true_eq] at hok
    obtain ⟨h1, h2⟩ := hok
    obtain ⟨x, y, st', rfl, e⟩ := ia_ll_s hs
    exact lv_lsub hx hb (ia_dc_ok h1) (go h2 e hZ hl hnl)
  | lmul =>
    simp only [ia_okB, Bool.and_eq_true, decide_eq_true_eq] at hok
    obtain ⟨h1, h2⟩ := hok
    obtain ⟨x, y, st', rfl, e⟩ := ia_ll_s hs
    exact lv_lmul hx hb (ia_dc_ok h1) (go h2 e hZ hl hnl)
  | land =>
    simp only [ia_okB, Bool.and_eq_true, decide_eq_true_eq] at hok
    obtain ⟨h1, h2⟩ := hok
    obtain ⟨x, y, st', rfl, e⟩ := ia_ll_s hs
    exact lv_land hx hb (ia_dc_ok h1) (go h2 e hZ hl hnl)
  | lcmp =>
    simp only [ia_okB, Bool.and_eq_true, decide_eq_true_eq] at hok
    obtain ⟨h1, h2⟩ := hok
    obtain ⟨x, y, st', rfl, e⟩ := ia_ll_s hs
    exact W.lcmp hx hb (ia_dc_ok h1) (go h2 e hZ hl hnl)
  | idiv =>
    simp only [ia_okB, Bool.and_eq_true, decide_eq_true_eq] at hok
    obtain ⟨h1, h2⟩ := hok
    obtain ⟨x, y, st', rfl, e⟩ := ia_ii_s hs
    split at e
    · cases e
    · rename_i hy
      exact lv_idiv hx hb (ia_dc_ok h1) hy (go h2 e hZ hl hnl)
  | irem =>
    simp only [ia_okB, Bool.and_eq_true, decide_eq_true_eq] at hok
    obtain ⟨h1, h2⟩ := hok
    obtain ⟨x, y, st', rfl, e⟩ := ia_ii_s hs
    split at e
    · cases e
    · rename_i hy
      exact lv_irem hx hb (ia_dc_ok h1) hy (go h2 e hZ hl hnl)
  | ldiv =>
    simp only [ia_okB, Bool.and_eq_true, decide_eq_true_eq] at hok
    obtain ⟨h1, h2⟩ := hok
    obtain ⟨x, y, st', rfl, e⟩ := ia_ll_s hs
    split at e
    · cases e
    · rename_i hy
      exact lv_ldiv hx hb (ia_dc_ok h1) hy (go h2 e hZ hl hnl)
  | ineg =>
    simp only [ia_okB, Bool.and_eq_true, decide_eq_true_eq] at hok
    obtain ⟨h1, h2⟩ := hok
    obtain ⟨x, st', rfl, e⟩ := ia_i1_s hs
    exact lv_ineg hx hb (ia_dc_ok h1) (go h2 e hZ hl hnl)
  | lneg =>
    simp only [ia_okB, Bool.and_eq_true, decide_eq_true_eq] at hok
    obtain ⟨h1, h2⟩ := hok
    obtain ⟨x, st', rfl, e⟩ := ia_l1_s hs
    exact lv_lneg hx hb (ia_dc_ok h1) (go h2 e hZ hl hnl)
  | i2l =>
    simp only [ia_okB, Bool.and_eq_true, decide_eq_true_eq] at hok
    obtain ⟨h1, h2⟩ := hok
    obtain ⟨x, st', rfl, e⟩ := ia_i1_s hs
    exact lv_i2l hx hb (ia_dc_ok h1) rfl (go h2 e hZ hl hnl)
  | i2b =>
    simp only [ia_okB, Bool.and_eq_true, decide_eq_true_eq] at hok
    obtain ⟨h1, h2⟩ := hok
    obtain ⟨x, st', rfl, e⟩ := ia_i1_s hs
    exact lv_i2b hx hb (ia_dc_ok h1) rfl (go h2 e hZ hl hnl)
  | i2c =>
    simp only [ia_okB, Bool.and_eq_true, decide_eq_true_eq] at hok
    obtain ⟨h1, h2⟩ := hok
    obtain ⟨x, st', rfl, e⟩ := ia_i1_s hs
    exact lv_i2c hx hb (ia_dc_ok h1) rfl (go h2 e hZ hl hnl)
  | l2i =>
    simp only [ia_okB, Bool.and_eq_true, decide_eq_true_eq] at hok
    obtain ⟨h1, h2⟩ := hok
    obtain ⟨x, st', rfl, e⟩ := ia_l1_s hs
    exact lv_l2i hx hb (ia_dc_ok h1) rfl (go h2 e hZ hl hnl)
  | lshr =>
    simp only [ia_okB, Bool.and_eq_true, decide_eq_true_eq] at hok
    obtain ⟨h1, h2⟩ := hok
    simp only [ia_step] at hs
    split at hs
    · exact lv_lshr hx hb (ia_dc_ok h1) rfl (go h2 hs hZ hl hnl)
    · cases hs
  | dup =>
    simp only [ia_okB, Bool.and_eq_true, decide_eq_true_eq] at hok
    obtain ⟨h1, h2⟩ := hok
    simp only [ia_step] at hs
    split at hs
    · split at hs
      · rename_i hv
        exact lv_dup hx hb (ia_dc_ok h1) (by rw [ia_tr_cat2]; exact hv) (go h2 hs hZ hl hnl)
      · cases hs
    · cases hs
  | pop =>
    simp only [ia_okB, Bool.and_eq_true, decide_eq_true_eq] at hok
    obtain ⟨h1, h2⟩ := hok
    simp only [ia_step] at hs
    split at hs
    · split at hs
      · rename_i hv
        exact lv_pop hx hb (ia_dc_ok h1) (by rw [ia_tr_cat2]; exact hv) (go h2 hs hZ hl hnl)
      · cases hs
    · cases hs
  | dup2 =>
    simp only [ia_okB, Bool.and_eq_true, decide_eq_true_eq] at hok
    obtain ⟨h1, h2⟩ := hok
    simp only [ia_step] at hs
    split at hs
    · split at hs
      · rename_i hv
        split at hs
        · rename_i hw
          exact lv_dup2_11 hx hb (ia_dc_ok h1) (by rw [ia_tr_cat2]; exact hv) (by rw [ia_tr_cat2]; exact hw) (go h2 hs hZ hl hnl)
        · cases hs
      · cases hs
    · cases hs
  | ifCond c n =>
    simp only [ia_okB, Bool.and_eq_true, decide_eq_true_eq] at hok
    obtain ⟨⟨h1, h2⟩, h3⟩ := hok
    obtain ⟨x, st', rfl, e⟩ := ia_i1_s hs
    have hi := ia_if_s e
    cases c with
    | eq =>
      rcases hi with ⟨q, e⟩ | ⟨q, e⟩
      · exact lv_if_eq hx hb (ia_dc_ok h1) h3 (fun _ => go rfl e hZ hl hnl) (fun q2 => absurd q (by first | exact q2 | exact fun q3 => q3 q2 | exact not_not_intro q2))
      · exact lv_if_eq hx hb (ia_dc_ok h1) h3 (fun q2 => absurd q (by first | exact q2 | exact fun q3 => q3 q2 | exact not_not_intro q2)) (fun _ => go h2 e hZ hl hnl)
    | ne =>
      rcases hi with ⟨q, e⟩ | ⟨q, e⟩
      · exact lv_if_ne hx hb (ia_dc_ok h1) h3 (fun _ => go rfl e hZ hl hnl) (fun q2 => absurd q (by first | exact q2 | exact fun q3 => q3 q2 | exact not_not_intro q2))
      · exact lv_if_ne hx hb (ia_dc_ok h1) h3 (fun q2 => absurd q (by first | exact q2 | exact fun q3 => q3 q2 | exact not_not_intro q2)) (fun _ => go h2 e hZ hl hnl)
    | lt =>
      rcases hi with ⟨q, e⟩ | ⟨q, e⟩
      · exact lv_if_lt hx hb (ia_dc_ok h1) h3 (fun _ => go rfl e hZ hl hnl) (fun q2 => absurd q (by first | exact q2 | exact fun q3 => q3 q2 | exact not_not_intro q2))
      · exact lv_if_lt hx hb (ia_dc_ok h1) h3 (fun q2 => absurd q (by first | exact q2 | exact fun q3 => q3 q2 | exact not_not_intro q2)) (fun _ => go h2 e hZ hl hnl)
    | gt =>
      rcases hi with ⟨q, e⟩ | ⟨q, e⟩
      · exact lv_if_gt hx hb (ia_dc_ok h1) h3 (fun _ => go rfl e hZ hl hnl) (fun q2 => absurd q (by first | exact q2 | exact fun q3 => q3 q2 | exact not_not_intro q2))
      · exact lv_if_gt hx hb (ia_dc_ok h1) h3 (fun q2 => absurd q (by first | exact q2 | exact fun q3 => q3 q2 | exact not_not_intro q2)) (fun _ => go h2 e hZ hl hnl)
    | ge =>
      rcases hi with ⟨q, e⟩ | ⟨q, e⟩
      · exact lv_if_ge hx hb (ia_dc_ok h1) h3 (fun _ => go rfl e hZ hl hnl) (fun q2 => absurd (Int32.not_lt.mp q) q2)
      · exact lv_if_ge hx hb (ia_dc_ok h1) h3 (fun q2 => absurd q (Int32.not_lt.mpr q2)) (fun _ => go h2 e hZ hl hnl)
    | le =>
      rcases hi with ⟨q, e⟩ | ⟨q, e⟩
      · exact lv_if_le hx hb (ia_dc_ok h1) h3 (fun _ => go rfl e hZ hl hnl) (fun q2 => absurd (Int32.not_lt.mp q) q2)
      · exact lv_if_le hx hb (ia_dc_ok h1) h3 (fun q2 => absurd q (Int32.not_lt.mpr q2)) (fun _ => go h2 e hZ hl hnl)
  | if_icmp c n =>
    simp only [ia_okB, Bool.and_eq_true, decide_eq_true_eq] at hok
    obtain ⟨⟨h1, h2⟩, h3⟩ := hok
    obtain ⟨x, y, st', rfl, e⟩ := ia_ii_s hs
    have hi := ia_if_s e
    cases c with
    | eq =>
      rcases hi with ⟨q, e⟩ | ⟨q, e⟩
      · exact lv_icmp_eq hx hb (ia_dc_ok h1) h3 (fun _ => go rfl e hZ hl hnl) (fun q2 => absurd q (by first | exact q2 | exact fun q3 => q3 q2 | exact not_not_intro q2))
      · exact lv_icmp_eq hx hb (ia_dc_ok h1) h3 (fun q2 => absurd q (by first | exact q2 | exact fun q3 => q3 q2 | exact not_not_intro q2)) (fun _ => go h2 e hZ hl hnl)
    | ne =>
      rcases hi with ⟨q, e⟩ | ⟨q, e⟩
      · exact lv_icmp_ne hx hb (ia_dc_ok h1) h3 (fun _ => go rfl e hZ hl hnl) (fun q2 => absurd q (by first | exact q2 | exact fun q3 => q3 q2 | exact not_not_intro q2))
      · exact lv_icmp_ne hx hb (ia_dc_ok h1) h3 (fun q2 => absurd q (by first | exact q2 | exact fun q3 => q3 q2 | exact not_not_intro q2)) (fun _ => go h2 e hZ hl hnl)
    | lt =>
      rcases hi with ⟨q, e⟩ | ⟨q, e⟩
      · exact lv_icmp_lt hx hb (ia_dc_ok h1) h3 (fun _ => go rfl e hZ hl hnl) (fun q2 => absurd q (by first | exact q2 | exact fun q3 => q3 q2 | exact not_not_intro q2))
      · exact lv_icmp_lt hx hb (ia_dc_ok h1) h3 (fun q2 => absurd q (by first | exact q2 | exact fun q3 => q3 q2 | exact not_not_intro q2)) (fun _ => go h2 e hZ hl hnl)
    | gt =>
      rcases hi with ⟨q, e⟩ | ⟨q, e⟩
      · exact lv_icmp_gt hx hb (ia_dc_ok h1) h3 (fun _ => go rfl e hZ hl hnl) (fun q2 => absurd q (by first | exact q2 | exact fun q3 => q3 q2 | exact not_not_intro q2))
      · exact lv_icmp_gt hx hb (ia_dc_ok h1) h3 (fun q2 => absurd q (by first | exact q2 | exact fun q3 => q3 q2 | exact not_not_intro q2)) (fun _ => go h2 e hZ hl hnl)
    | ge =>
      rcases hi with ⟨q, e⟩ | ⟨q, e⟩
      · exact lv_icmp_ge hx hb (ia_dc_ok h1) h3 (fun _ => go rfl e hZ hl hnl) (fun q2 => absurd (Int32.not_lt.mp q) q2)
      · exact lv_icmp_ge hx hb (ia_dc_ok h1) h3 (fun q2 => absurd q (Int32.not_lt.mpr q2)) (fun _ => go h2 e hZ hl hnl)
    | le =>
      rcases hi with ⟨q, e⟩ | ⟨q, e⟩
      · exact lv_icmp_le hx hb (ia_dc_ok h1) h3 (fun _ => go rfl e hZ hl hnl) (fun q2 => absurd (Int32.not_lt.mp q) q2)
      · exact lv_icmp_le hx hb (ia_dc_ok h1) h3 (fun q2 => absurd q (Int32.not_lt.mpr q2)) (fun _ => go h2 e hZ hl hnl)
  | goto n =>
    simp only [ia_okB, Bool.and_eq_true, decide_eq_true_eq] at hok
    obtain ⟨h1, h2⟩ := hok
    exact lv_goto hx hb (ia_dc_ok h1) h2 (go rfl hs hZ hl hnl)
  | tableswitch df lo hi offs =>
    simp only [ia_okB, Bool.and_eq_true, decide_eq_true_eq] at hok
    obtain ⟨⟨⟨h1, h2⟩, h3⟩, h4⟩ := hok
    obtain ⟨len, hd⟩ : ∃ len, decode cc pc = .ok (.tableswitch df lo hi offs, len) := by
      split at h1
      · rename_i i n hd
        simp only [decide_eq_true_eq] at h1
        exact ⟨n, by rw [hd, h1]⟩
      · cases h1
    obtain ⟨x, st', rfl, e⟩ := ia_i1_s hs
    have hz : offs.toList.length = offs.size := Array.length_toList
    rcases ia_sw_tb _ _ _ _ h4 e with ⟨g1, g2⟩ | ⟨t', f, g1, g2, g3, g4, g5⟩
    · exact lv_tableOut hx hb hd (by omega) h2 (go rfl g1 hZ hl hnl)
    · exact lv_tableIn hx hb hd (by omega) (by omega) (by rw [← Array.getElem?_toList]; exact g4) g5 (go rfl g1 hZ hl hnl)
  | lookupswitch df ps =>
    simp only [ia_okB, Bool.and_eq_true, decide_eq_true_eq] at hok
    obtain ⟨⟨⟨h1, h2⟩, h3⟩, h4⟩ := hok
    obtain ⟨len, hd⟩ : ∃ len, decode cc pc = .ok (.lookupswitch df ps, len) := by
      split at h1
      · rename_i i n hd
        simp only [decide_eq_true_eq] at h1
        exact ⟨n, by rw [hd, h1]⟩
      · cases h1
    obtain ⟨x, st', rfl, e⟩ := ia_i1_s hs
    obtain ⟨t', g1, g2⟩ := ia_sw_lk h2 _ _ _ h4 e
    exact lv_lookup hx hb hd h3 rfl g2 (go rfl g1 hZ hl hnl)
  | getfield ix =>
    simp only [ia_okB, Bool.and_eq_true, decide_eq_true_eq] at hok
    obtain ⟨⟨h1, h2⟩, h3⟩ := hok
    split at h3
    · rename_i ci sl' kd f1 f2 hF
      simp only [Bool.and_eq_true, decide_eq_true_eq] at h3
      obtain ⟨e1, e2, e3⟩ := h3
      simp only [ia_step] at hs
      split at hs
      · rw [e1, e2, e3] at hs
        split at hs
        · obtain ⟨x, g1, g⟩ := ia_bind_s hs
          obtain ⟨fs, he, hv⟩ := ia_getR_s g1
          exact ia_getW hx hb hts hown hK hZ.1 hF he hv (ia_clall ci) (ia_dc_ok h1) (go h2 g hZ hl hnl)
        · obtain ⟨x, g1, g⟩ := ia_bind_s hs
          obtain ⟨fs, he, hv⟩ := ia_getL_s g1
          exact ia_getW hx hb hts hown hK hZ.1 hF he hv (ia_clall ci) (ia_dc_ok h1) (go h2 g hZ hl hnl)
        · obtain ⟨x, g1, g⟩ := ia_bind_s hs
          obtain ⟨fs, he, hv⟩ := ia_getI_s g1
          exact ia_getW hx hb hts hown hK hZ.1 hF he hv (ia_clall ci) (ia_dc_ok h1) (go h2 g hZ hl hnl)
        · obtain ⟨x, g1, g⟩ := ia_bind_s hs
          obtain ⟨fs, he, hv⟩ := ia_getI_s g1
          exact ia_getW hx hb hts hown hK hZ.1 hF he hv (ia_clall ci) (ia_dc_ok h1) (go h2 g hZ hl hnl)
        · cases hs
      · rename_i j st' hne
        split at hs
        · rename_i hj
          obtain ⟨C0, T0, N0, hc0, -, -, -, -, hkd⟩ := ia_flO o _ (ia_find_mem hF)
          dsimp only at hkd
          rw [e3] at hs
          split at hs
          · cases hty : ia_tyf ci sl' <;> simp [ia_kdB, hty] at hkd
          · cases hty : ia_tyf ci sl' <;> simp [ia_kdB, hty] at hkd
          · cases hs
        · cases hs
      · cases hs
    · rename_i hF
      simp only [decide_eq_true_eq] at h3
      obtain ⟨hk56, hw⟩ := ia_xfO _ h3
      dsimp only at hk56 hw
      simp only [ia_step] at hs
      split at hs
      · rename_i a st'
        rcases hk56 with q5 | q6
        · rw [q5] at hs
          cases hs
        · rw [q6] at hs
          cases hs
      · rename_i j st'
        split at hs
        · rename_i hj
          have hXS := hX.2.2.2.2.2.2.1.2.2 j hj
          rcases hk56 with q5 | q6
          · rw [q5] at hs hw
            exact vk_getf hx hb hXS.2.2.1 hZ.2.1 hown (hts _ hw) (fun _ h9 => h9) (ia_dc_ok h1) (go (st' := .retAddr (10 + j) :: st') h2 hs hZ hl hnl)
          · rw [q6] at hs hw
            exact vk_getf hx hb hXS.2.1 hZ.2.1 hown (hts _ hw) (fun _ h9 => h9) (ia_dc_ok h1) (go (st' := .int 0 :: st') h2 hs hZ hl hnl)
        · cases hs
      · cases hs
  | getstatic ix =>
    simp only [ia_okB, Bool.and_eq_true, decide_eq_true_eq] at hok
    obtain ⟨⟨h1, h2⟩, h3, h4⟩ := hok
    subst h4
    exact va_gets hx hb hX.2.2.2.2.2.2.1.1 hZ.2.1 hown (hts _ (ia_gsO _ h3)) (fun _ h9 => h9) (ia_dc_ok h1) (go (st' := .int 1 :: st) h2 hs hZ hl hnl)
  | putfield ix =>
    simp only [ia_okB, Bool.and_eq_true, decide_eq_true_eq] at hok
    obtain ⟨⟨h1, h2⟩, h3⟩ := hok
    split at h3
    · rename_i ci sl' kd f1 f2 hF
      simp only [Bool.and_eq_true, decide_eq_true_eq, Bool.or_eq_true, Bool.not_eq_true'] at h3
      obtain ⟨e1, e2, e3, e4⟩ := h3
      have hfin : f1 = false ∨ (meth.name = "<init>" ∧ f2 = true) := e4.imp_right fun q => ⟨hnm q.1, q.2⟩
      obtain ⟨C0, T0, N0, hc0, -, -, -, -, hkd⟩ := ia_flO o _ (ia_find_mem hF)
      dsimp only at hc0 hkd
      simp only [ia_step] at hs
      rw [e1, e2, e3] at hs
      have put : ∀ {a : Nat} {v : Value} {st' : List Value}, narrow (ia_tyf ci sl') (ia_tr xt base v) = ia_tr xt base v → fits (ia_tyf ci sl') (ia_tr xt base v) = true → ((ia_putf h a ci sl' v).bind fun h' => k (t + 1) ls st' h') = some r → W p l e R s m args below meth c H locs cells slots Q (F0 m pc sl (ia_tr xt base v :: .ref (base + a) :: st'.map (ia_tr xt base))) := by
        intro a v st' hn hf g
        obtain ⟨h', g1, g⟩ := ia_bind_s g
        obtain ⟨fs, he, hlt, rfl⟩ := ia_putf_s g1
        exact ia_putW hx hb hts hown hK hZ hF he hlt (ia_clall ci) hfin hn hf (ia_dc_ok h1) (fun H' locs' hZ' => go h2 g hZ' hl hnl)
      split at hs
      · rename_i x a st'
        split at hs
        · have hty : ia_tyf ci sl' = .int := by
            revert hkd
            cases ia_tyf ci sl' <;> simp [ia_kdB]
          exact put (v := .int x) (by rw [hty]; rfl) (by rw [hty]; rfl) hs
        · have hty : ia_tyf ci sl' = .boolean := by
            revert hkd
            cases ia_tyf ci sl' <;> simp [ia_kdB]
          split at hs
          · rename_i hx01
            refine put (v := .int x) ?_ ?_ hs
            · rw [hty]
              rcases hx01 with rfl | rfl <;> rfl
            · rw [hty]
              rcases hx01 with rfl | rfl <;> rfl
          · cases hs
        · cases hs
      · rename_i x a st'
        split at hs
        · have hty : ia_tyf ci sl' = .long := by
            revert hkd
            cases ia_tyf ci sl' <;> simp [ia_kdB]
          exact put (v := .long x) (by rw [hty]; rfl) (by rw [hty]; rfl) hs
        · cases hs
      · rename_i x a st'
        split at hs
        · have hty : (∃ z, ia_tyf ci sl' = .array z) ∨ ∃ z, ia_tyf ci sl' = .object z := by
            revert hkd
            cases ia_tyf ci sl' <;> simp [ia_kdB]
          refine put (v := .ref x) ?_ ?_ hs
          · rcases hty with ⟨z, hty⟩ | ⟨z, hty⟩ <;> (rw [hty]; rfl)
          · rcases hty with ⟨z, hty⟩ | ⟨z, hty⟩ <;> (rw [hty]; rfl)
        · cases hs
      · cases hs
    · cases h3
  | iaload =>
    simp only [ia_okB, Bool.and_eq_true, decide_eq_true_eq] at hok
    obtain ⟨h1, h2⟩ := hok
    simp only [ia_step] at hs
    split at hs
    · obtain ⟨x, g1, g⟩ := ia_bind_s hs
      obtain ⟨l9, he, hi, hv⟩ := ia_ald_s g1
      exact ia_ildW hx hb hK hZ.1 he hi hv (ia_dc_ok h1) (go h2 g hZ hl hnl)
    · rename_i i st'
      obtain ⟨x, g1, g⟩ := ia_bind_s hs
      split at g1
      · cases g1
      · rename_i hi
        refine va_sld (A := fun q => base ≤ q) (H0 := s.heap) hx hb hX.2.2.1 (Nat.lt_of_lt_of_le hX.2.2.2.1 hX.2.2.2.2.1) (Nat.not_le.mpr hX.2.2.2.1) hZ.2.1 (ia_in_of hi (List.getElem?_eq_some_iff.mp g1).1) (ia_dc_ok h1) ?_
        rw [ia_getD_of g1]
        exact go h2 g hZ hl hnl
    · cases hs
  | iastore =>
    simp only [ia_okB, Bool.and_eq_true, decide_eq_true_eq] at hok
    obtain ⟨h1, h2⟩ := hok
    simp only [ia_step] at hs
    split at hs
    · obtain ⟨h', g1, g⟩ := ia_bind_s hs
      obtain ⟨l9, he, hi, hv, rfl⟩ := ia_ast_s g1
      exact ia_istW hx hb hK hZ he hi hv (ia_dc_ok h1) (fun H' locs' hZ' => go h2 g hZ' hl hnl)
    · cases hs
  | baload =>
    simp only [ia_okB, Bool.and_eq_true, decide_eq_true_eq] at hok
    obtain ⟨h1, h2⟩ := hok
    simp only [ia_step] at hs
    split at hs
    · split at hs
      · obtain ⟨x, g1, g⟩ := ia_bind_s hs
        obtain ⟨l9, he, hi, hv⟩ := ia_ald_s g1
        exact ia_bldW hx hb hK hZ.1 he hi hv (ia_dc_ok h1) (go h2 g hZ hl hnl)
      · obtain ⟨x, g1, g⟩ := ia_bind_s hs
        obtain ⟨l9, he, hi, hv⟩ := ia_ald_s g1
        exact ia_zldW hx hb hK hZ.1 he hi hv (ia_dc_ok h1) (go h2 g hZ hl hnl)
    · rename_i i j st'
      split at hs
      · rename_i hj
        obtain ⟨x, g1, g⟩ := ia_bind_s hs
        split at g1
        · cases g1
        · rename_i hi
          obtain ⟨j0, hj0, rfl⟩ : ∃ j0, ia_isS j0 = true ∧ j = 10 + j0 := by
            simp only [ia_isB, Bool.or_eq_true, beq_iff_eq] at hj
            rcases hj with rfl | rfl | rfl
            · exact ⟨1, rfl, rfl⟩
            · exact ⟨2, rfl, rfl⟩
            · exact ⟨3, rfl, rfl⟩
          have hXS := hX.2.2.2.2.2.2.1.2.2 j0 hj0
          rw [Nat.add_sub_cancel_left] at g1
          exact va_tb hx hb hXS.2.2.2 hZ.2.1 (ia_in_of hi (List.getElem?_eq_some_iff.mp g1).1) (by rw [ia_getD_of g1]; rfl) (ia_dc_ok h1) (go (st' := .int x :: st') h2 g hZ hl hnl)
      · cases hs
    · cases hs
  | bastore =>
    simp only [ia_okB, Bool.and_eq_true, decide_eq_true_eq] at hok
    obtain ⟨h1, h2⟩ := hok
    simp only [ia_step] at hs
    split at hs
    · split at hs
      · obtain ⟨h', g1, g⟩ := ia_bind_s hs
        obtain ⟨l9, he, hi, hv, rfl⟩ := ia_ast_s g1
        exact ia_bstW hx hb hK hZ he hi hv (ia_dc_ok h1) (fun H' locs' hZ' => go h2 g hZ' hl hnl)
      · obtain ⟨h', g1, g⟩ := ia_bind_s hs
        obtain ⟨l9, he, hi, hv, rfl⟩ := ia_ast_s g1
        exact ia_zstW hx hb hK hZ he hi hv (ia_dc_ok h1) (fun H' locs' hZ' => go h2 g hZ' hl hnl)
    · cases hs
  | laload =>
    simp only [ia_okB, Bool.and_eq_true, decide_eq_true_eq] at hok
    obtain ⟨h1, h2⟩ := hok
    simp only [ia_step] at hs
    split at hs
    · obtain ⟨x, g1, g⟩ := ia_bind_s hs
      obtain ⟨l9, he, hi, hv⟩ := ia_lald_s g1
      exact ia_lldW hx hb hK hZ.1 he hi hv (ia_dc_ok h1) (go h2 g hZ hl hnl)
    · cases hs
  | lastore =>
    simp only [ia_okB, Bool.and_eq_true, decide_eq_true_eq] at hok
    obtain ⟨h1, h2⟩ := hok
    simp only [ia_step] at hs
    split at hs
    · obtain ⟨h', g1, g⟩ := ia_bind_s hs
      obtain ⟨l9, he, hi, hv, rfl⟩ := ia_last_s g1
      exact ia_lstW hx hb hK hZ he hi hv (ia_dc_ok h1) (fun H' locs' hZ' => go h2 g hZ' hl hnl)
    · cases hs
  | arraylength =>
    simp only [ia_okB, Bool.and_eq_true, decide_eq_true_eq] at hok
    obtain ⟨h1, h2⟩ := hok
    simp only [ia_step] at hs
    split at hs
    · rename_i a st'
      obtain ⟨x, g1, g⟩ := ia_bind_s hs
      unfold ia_len at g1
      split at g1
      · rename_i tg l9 he
        cases g1
        have h9 := hZ.1.ints he
        exact va_alen (a := base + a) (D := D) (cl := ia_cl) (ws := [(base + a, .inl (cA tg, l9.length, .inl (fun j => l9.getD j 0)))]) hx hb (hK.k1 (tg := tg) (by omega)) (ia_sing h9.2) 0 0 rfl rfl rfl (ia_dc_ok h1) (go h2 g hZ hl hnl)
      · rename_i l9 he
        cases g1
        exact va_alen (a := base + a) (D := D) (cl := ia_cl) (ws := [(base + a, .inl (cA 3, l9.length, .inr (.inl (fun j => l9.getD j 0))))]) hx hb (hK.k1 (tg := 3) (by decide)) (ia_sing (hZ.1.longs he)) 0 0 rfl rfl rfl (ia_dc_ok h1) (go h2 g hZ hl hnl)
      · cases g1
    · rename_i j st'
      unfold ia_xlen at hs
      split at hs
      · rename_i hj
        subst hj
        exact va_slen (A := fun q => base ≤ q) (H0 := s.heap) hx hb hX.2.2.1 (Nat.lt_of_lt_of_le hX.2.2.2.1 hX.2.2.2.2.1) (Nat.not_le.mpr hX.2.2.2.1) hZ.2.1 (ia_dc_ok h1) (go (st' := .int (Int32.ofNat xs.length) :: st') h2 hs hZ hl hnl)
      · split at hs
        · rename_i hj
          obtain ⟨j0, hj0, rfl⟩ : ∃ j0, ia_isS j0 = true ∧ j = 10 + j0 := by
            simp only [ia_isB, Bool.or_eq_true, beq_iff_eq] at hj
            rcases hj with rfl | rfl | rfl
            · exact ⟨1, rfl, rfl⟩
            · exact ⟨2, rfl, rfl⟩
            · exact ⟨3, rfl, rfl⟩
          have hXS := hX.2.2.2.2.2.2.1.2.2 j0 hj0
          rw [Nat.add_sub_cancel_left] at hs
          exact va_tlen hx hb hXS.2.2.2 hZ.2.1 rfl (ia_dc_ok h1) (go (st' := .int (Int32.ofNat (ia_str j0).length) :: st') h2 hs hZ hl hnl)
        · cases hs
    · cases hs
  | newarray at_ =>
    simp only [ia_okB, Bool.and_eq_true, decide_eq_true_eq] at hok
    obtain ⟨⟨h1, h2⟩, h3, h4⟩ := hok
    obtain ⟨n, st', rfl, e⟩ := ia_i1_s hs
    split at e
    · cases e
    · rename_i hn
      split at e
      · rename_i hn2
        have nw : k (t + 1) ls (.ref h.1 :: st') (ia_new h n.toNatClampNeg (ia_zero (ia_r rs 0) n.toNatClampNeg)) = some r := by
          unfold ia_zero
          split at e
          · rename_i q; rw [q]; exact e
          · rename_i q; rw [q]; exact e
          · rename_i q; rw [q]; exact e
          · rename_i q1 q2 q3
            have n3 : ¬ ia_r rs 0 = 3 := q1
            have n2 : ¬ ia_r rs 0 = 2 := q2
            have n1 : ¬ ia_r rs 0 = 1 := q3
            have : ia_r rs 0 = 0 := by omega
            rw [this]
            exact e
        have hm := hmono _ _ _ _ nw
        have e1 : (ia_new h n.toNatClampNeg (ia_zero (ia_r rs 0) n.toNatClampNeg)).1 = h.1 + 1 := rfl
        have e2 : (ia_new h n.toNatClampNeg (ia_zero (ia_r rs 0) n.toNatClampNeg)).2.1 = h.2.1 + n.toNatClampNeg := rfl
        rw [e1, e2] at hm
        obtain ⟨-, -, z1, z2⟩ := id hZ
        exact ia_newaW hx hb hts hK hZ h4 h3 hn hn2 (by omega) (by omega) (ia_dc_ok h1) (fun H' hZ' => go h2 nw hZ' hl hnl)
      · cases e
  | new ix =>
    simp only [ia_okB, Bool.and_eq_true, decide_eq_true_eq] at hok
    obtain ⟨⟨h1, h2⟩, h3⟩ := hok
    split at h3
    · rename_i ci hF
      simp only [Bool.and_eq_true, decide_eq_true_eq] at h3
      obtain ⟨e1, e2⟩ := h3
      have hs2 : k (t + 1) ls (.ref h.1 :: st) (ia_new h (ia_r rs 1) (.inr (.inr (ia_r rs 0, ia_dfl (ia_r rs 0))))) = some r := hs
      rw [e2, e1] at hs2
      have hm := hmono _ _ _ _ hs2
      have e3 : (ia_new h (ia_dfl ci).length (.inr (.inr (ci, ia_dfl ci)))).1 = h.1 + 1 := rfl
      have e4 : (ia_new h (ia_dfl ci).length (.inr (.inr (ci, ia_dfl ci)))).2.1 = h.2.1 + (ia_dfl ci).length := rfl
      rw [e3, e4] at hm
      obtain ⟨-, -, z1, z2⟩ := id hZ
      exact ia_newW hx hb hts hown hK hZ hF (ia_clall ci) (by omega) (by omega) (ia_dc_ok h1) (fun H' hZ' => go h2 hs2 hZ' hl hnl)
    · cases h3
  | invokevirtual ix =>
    simp only [ia_okB, Bool.and_eq_true, decide_eq_true_eq] at hok
    obtain ⟨⟨h1, h2⟩, h3⟩ := hok
    simp only [ia_step] at hs
    split at hs
    · rename_i as rest hp
      obtain ⟨rfl, hlen⟩ := ia_pops_0 hp
      split at hs
      · rename_i hcat
        split at hs
        · rename_i q0
          rw [q0] at h3
          simp only [Bool.and_eq_true, decide_eq_true_eq] at h3
          obtain ⟨h3, h4, h5⟩ := h3
          split at hs
          · rename_i b as'
            split at hs
            · rename_i hcls
              obtain ⟨fs, hfs⟩ := ia_cls_s (by omega) hcls
              exact cls 0 h3 hlen (Or.inl ⟨rfl, ia_dc_ok h1⟩) h2 (fun _ => Or.inl ⟨b, as', fs, rfl, by rw [← h4]; exact hfs, by omega⟩) (fun q => by cases q) hcat hs
            · cases hs
          · cases hs
        · rename_i q0
          rw [q0] at h3
          simp only [Bool.and_eq_true, decide_eq_true_eq] at h3
          obtain ⟨h3, h5⟩ := h3
          split at hs
          · rename_i j9 as'
            split at hs
            · rename_i hj9
              exact cls 0 h3 hlen (Or.inl ⟨rfl, ia_dc_ok h1⟩) h2 (fun _ => Or.inr ⟨j9, as', rfl, hj9, h5⟩) (fun q => by cases q) hcat hs
            · cases hs
          · cases hs
        · rename_i q0 q4
          split at h3
          · rename_i q1
            exact absurd q1 q0
          · rename_i q1
            exact absurd q1 q4
          · simp only [decide_eq_true_eq] at h3
            exact spc 0 h3 (Or.inl ⟨rfl, ia_dc_ok h1⟩) h2 hcat hs
      · cases hs
    · cases hs
  | invokespecial ix =>
    simp only [ia_okB, Bool.and_eq_true, decide_eq_true_eq] at hok
    obtain ⟨⟨h1, h2⟩, h3⟩ := hok
    simp only [ia_step] at hs
    split at hs
    · rename_i q0
      rw [q0] at h3
      split at hs
      · rename_i as rest hp
        obtain ⟨rfl, hlen⟩ := ia_pops_0 hp
        split at hs
        · rename_i hcat
          split at hs
          · rename_i b as'
            exact cls 1 h3 hlen (Or.inr (Or.inl ⟨rfl, ia_dc_ok h1⟩)) h2 (fun q => by cases q) (fun _ => ⟨b, as', rfl⟩) hcat hs
          · cases hs
        · cases hs
      · cases hs
    · rename_i q0
      split at h3
      · rename_i q1
        exact absurd q1 q0
      · simp only [decide_eq_true_eq] at h3
        split at hs
        · rename_i a st'
          split at hs
          · rename_i hcat
            refine W.objInit hx hb hown (hts _ (ia_oiO _ h3)) (hts _ ia_oi1) (hts _ ia_oi2) rfl (by rw [hml, ← hnl]; exact hl.1) rfl (ia_dc_ok h1) (by omega) ?_ (go h2 hs hZ hl hnl)
            show 2 * 0 + _ + 12 ≤ _
            rw [ia_cats_sum]
            omega
          · cases hs
        · cases hs
  | invokestatic ix =>
    simp only [ia_okB, Bool.and_eq_true, decide_eq_true_eq] at hok
    obtain ⟨⟨h1, h2⟩, h3⟩ := hok
    simp only [ia_step] at hs
    split at hs
    · rename_i q0
      rw [q0] at h3
      split at hs
      · rename_i as rest hp
        obtain ⟨rfl, hlen⟩ := ia_pops_0 hp
        split at hs
        · rename_i hcat
          exact cls 2 h3 hlen (Or.inr (Or.inr ⟨rfl, ia_dc_ok h1⟩)) h2 (fun q => by cases q) (fun q => by cases q) hcat hs
        · cases hs
      · cases hs
    · rename_i q0
      rw [q0] at h3
      simp only [decide_eq_true_eq] at h3
      split at hs
      · rename_i n dp b sp a st'
        split at hs
        · rename_i hcat
          obtain ⟨h', e1, g⟩ := ia_bind_s hs
          obtain ⟨f9, g9, ea, eb, c1, c2, c3, c4, c5, rfl⟩ := ia_cpy_s e1
          have hlc : nativeFrameWords "java/lang/System" "arraycopy" 5 ≤ 200 := by decide +kernel
          exact ia_cpyW hx hb (by rw [hml, ← hnl]; exact hl.1.symm) hts hown h3 hK hZ ea eb c1 c2 c3 c4 c5 (by omega) (by omega) (by rw [ia_cats_sum]; exact hcat) (ia_dc_ok h1) (fun H' locs' hZ' => go h2 g hZ' hl hnl)
        · cases hs
      · cases hs
    · rename_i q0 q2
      split at h3
      · rename_i q1
        exact absurd q1 q0
      · rename_i q1
        exact absurd q1 q2
      · simp only [decide_eq_true_eq] at h3
        split at hs
        · rename_i as rest hp
          obtain ⟨rfl, hlen⟩ := ia_pops_0 hp
          split at hs
          · rename_i hcat
            exact spc 2 h3 (Or.inr ⟨rfl, ia_dc_ok h1⟩) h2 hcat hs
          · cases hs
        · cases hs
  | ireturn =>
    simp only [ia_okB, Bool.and_eq_true, decide_eq_true_eq] at hok
    obtain ⟨h1, h2⟩ := hok
    simp only [ia_step] at hs
    split at hs
    · rename_i x
      split at hs
      · rename_i q
        rw [q] at h2
        simp only [decide_eq_true_eq] at h2
        split at hs
        · rename_i h01
          exact hret pc (some (.int x)) h H locs cells slots sl (Or.inl ⟨x, rfl, ia_dc_ok h1, Or.inr ⟨_, h2, by rcases h01 with rfl | rfl <;> rfl⟩⟩) (Option.some.inj hs).symm hZ
        · cases hs
      · rename_i q
        rw [q] at h2
        simp only [decide_eq_true_eq] at h2
        split at hs
        · rename_i h01
          exact hret pc (some (.int x)) h H locs cells slots sl (Or.inl ⟨x, rfl, ia_dc_ok h1, Or.inr ⟨_, h2, by rw [ia_nar_of .byte x ⟨_, rfl⟩, h01]⟩⟩) (Option.some.inj hs).symm hZ
        · cases hs
      · rename_i q
        rw [q] at h2
        simp only [decide_eq_true_eq] at h2
        split at hs
        · rename_i h01
          exact hret pc (some (.int x)) h H locs cells slots sl (Or.inl ⟨x, rfl, ia_dc_ok h1, Or.inr ⟨_, h2, by rw [ia_nar_of .char x ⟨_, rfl⟩, h01]⟩⟩) (Option.some.inj hs).symm hZ
        · cases hs
      · rename_i q1 q2 q3
        split at h2
        · rename_i q
          exact absurd q q1
        · rename_i q
          exact absurd q q2
        · rename_i q
          exact absurd q q3
        · simp only [decide_eq_true_eq] at h2
          exact hret pc (some (.int x)) h H locs cells slots sl (Or.inl ⟨x, rfl, ia_dc_ok h1, Or.inl h2⟩) (Option.some.inj hs).symm hZ
    · cases hs
  | lreturn =>
    simp only [ia_okB, Bool.and_eq_true, decide_eq_true_eq] at hok
    obtain ⟨h1, h2⟩ := hok
    simp only [ia_step] at hs
    split at hs
    · rename_i x
      exact hret pc (some (.long x)) h H locs cells slots sl (Or.inr (Or.inl ⟨x, rfl, ia_dc_ok h1, h2⟩)) (Option.some.inj hs).symm hZ
    · cases hs
  | areturn =>
    simp only [ia_okB, Bool.and_eq_true, decide_eq_true_eq] at hok
    obtain ⟨h1, h2⟩ := hok
    simp only [ia_step] at hs
    split at hs
    · rename_i x
      split at h2
      · exact hret pc (some (.ref x)) h H locs cells slots sl (Or.inr (Or.inr (Or.inl ⟨x, _, rfl, ia_dc_ok h1, rfl⟩))) (Option.some.inj hs).symm hZ
      · cases h2
    · cases hs
  | return_ =>
    simp only [ia_okB, Bool.and_eq_true, decide_eq_true_eq] at hok
    obtain ⟨h1, h2⟩ := hok
    simp only [ia_step] at hs
    split at hs
    · exact hret pc none h H locs cells slots sl (Or.inr (Or.inr (Or.inr ⟨rfl, ia_dc_ok h1, h2⟩))) (Option.some.inj hs).symm hZ
    · cases hs
  | _ => cases hok
