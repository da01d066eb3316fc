/-! One instruction: sound (ia_stepW), and cells are never given back (ia_stepM). -/
theorem ia_specM {k : Nat} {as : List Value} {h : ia_H} {q : ia_R} (e : ia_spec k as h = some q) : h.1 ≤ q.2.1 ∧ h.2.1 ≤ q.2.2.1 := by
  have up : ∀ {v : Value} {out : Nat} {x : Int64} {i : Int32}, ((ia_last h out i x).bind fun h' => some (some v, h')) = some q → h.1 ≤ q.2.1 ∧ h.2.1 ≤ q.2.2.1 := by
    intro v out x i e
    obtain ⟨h', e1, e2⟩ := ia_bind_s e
    obtain ⟨l, -, -, -, rfl⟩ := ia_last_s e1
    cases e2
    exact ⟨Nat.le_refl _, Nat.le_refl _⟩
  have up2 : ∀ {v : Value} {out : Nat} {p0 : Int32} {now sl : Nat}, ((ia_getR h now 8 sl).bind fun a => (ia_ald h a 0 p0).bind fun v9 => (ia_last h out 0 v9.toInt64).bind fun h' => some (some v, h')) = some q → h.1 ≤ q.2.1 ∧ h.2.1 ≤ q.2.2.1 := by
    intro v out p0 now sl e
    obtain ⟨a, -, e⟩ := ia_bind_s e
    obtain ⟨x, -, e⟩ := ia_bind_s e
    exact up e
  unfold ia_spec at e
  split at e
  · split at e
    · unfold ia_lring at e
      obtain ⟨now, -, e⟩ := ia_bind_s e
      obtain ⟨rings, -, e⟩ := ia_bind_s e
      split at e
      · cases e
        exact ⟨Nat.le_succ _, Nat.le_add_right _ _⟩
      · split at e
        · split at e
          · exact up2 e
          · split at e
            · exact up2 e
            · split at e
              · exact up2 e
              · split at e
                · exact up2 e
                · split at e
                  · exact up2 e
                  · split at e
                    · exact up2 e
                    · cases e
                      exact ⟨Nat.le_succ _, Nat.le_add_right _ _⟩
        · cases e
          exact ⟨Nat.le_succ _, Nat.le_add_right _ _⟩
    · cases e
  · split at e
    · split at e
      · cases e
      · split at e
        · cases e
          exact ⟨Nat.le_refl _, Nat.le_refl _⟩
        · cases e
    · cases e
  · cases e
set_option maxHeartbeats 4000000 in
theorem ia_stepM {xs : List Int32} {cal : Nat → List Value → ia_H → Option ia_R} {k : ia_K4} {r : ia_R} {ei : ia_I} {t : Nat} {ls st : List Value} {h : ia_H} (hk : ∀ t ls st h, k t ls st h = some r → h.1 ≤ r.2.1 ∧ h.2.1 ≤ r.2.2.1) (hc : ∀ j as h q, cal j as h = some q → h.1 ≤ q.2.1 ∧ h.2.1 ≤ q.2.2.1)
    (hs : ia_step xs ia_dfl ia_spec ei t ls st h cal k = some r) : h.1 ≤ r.2.1 ∧ h.2.1 ≤ r.2.2.1 := by
  obtain ⟨ins, rs, ks, cv, pc, fl⟩ := ei
  have call : ∀ {o : Option ia_R} {kind : Nat} {kk : List Value → ia_H → Option ia_R}, (∀ q, o = some q → h.1 ≤ q.2.1 ∧ h.2.1 ≤ q.2.2.1) → (∀ v h', kk v h' = some r → h'.1 ≤ r.2.1 ∧ h'.2.1 ≤ r.2.2.1) → ia_ret kind o kk = some r → h.1 ≤ r.2.1 ∧ h.2.1 ≤ r.2.2.1 := by
    intro o kind kk h1 h2 h3
    obtain ⟨q, e1, e2⟩ := ia_ret_s h3
    have a1 := h1 q e1
    have a2 := h2 _ _ e2
    omega
  cases ins with
  | iconst n => exact hk _ _ _ _ hs
  | bipush n => exact hk _ _ _ _ hs
  | sipush n => exact hk _ _ _ _ hs
  | lconst n => exact hk _ _ _ _ hs
  | ldc n => exact hk _ _ _ _ hs
  | ldc_w n => exact hk _ _ _ _ hs
  | ldc2_w n => exact hk _ _ _ _ hs
  | iload n =>
    obtain ⟨v, -, e⟩ := ia_load_s hs
    split at e <;> first | exact hk _ _ _ _ e | cases e
  | iload_n n =>
    obtain ⟨v, -, e⟩ := ia_load_s hs
    split at e <;> first | exact hk _ _ _ _ e | cases e
  | lload n =>
    obtain ⟨v, -, e⟩ := ia_load_s hs
    split at e <;> first | exact hk _ _ _ _ e | cases e
  | lload_n n =>
    obtain ⟨v, -, e⟩ := ia_load_s hs
    split at e <;> first | exact hk _ _ _ _ e | cases e
  | aload n =>
    obtain ⟨v, -, e⟩ := ia_load_s hs
    split at e <;> first | exact hk _ _ _ _ e | cases e
  | aload_n n =>
    obtain ⟨v, -, e⟩ := ia_load_s hs
    split at e <;> first | exact hk _ _ _ _ e | cases e
  | istore n =>
    obtain ⟨x, s, -, e⟩ := ia_i1_s hs
    exact hk _ _ _ _ (ia_store_s e).2.2.2
  | istore_n n =>
    obtain ⟨x, s, -, e⟩ := ia_i1_s hs
    exact hk _ _ _ _ (ia_store_s e).2.2.2
  | lstore n =>
    obtain ⟨x, s, -, e⟩ := ia_l1_s hs
    exact hk _ _ _ _ (ia_storeL_s e).2.2.2
  | lstore_n n =>
    obtain ⟨x, s, -, e⟩ := ia_l1_s hs
    exact hk _ _ _ _ (ia_storeL_s e).2.2.2
  | astore n =>
    simp only [ia_step] at hs
    split at hs
    · exact hk _ _ _ _ (ia_store_s hs).2.2.2
    · cases hs
  | astore_n n =>
    simp only [ia_step] at hs
    split at hs
    · exact hk _ _ _ _ (ia_store_s hs).2.2.2
    · cases hs
  | iinc i n =>
    obtain ⟨v, -, e⟩ := ia_load_s hs
    split at e
    · exact hk _ _ _ _ (ia_store_s e).2.2.2
    · cases e
  | iadd =>
    obtain ⟨x, y, s, -, e⟩ := ia_ii_s hs
    exact hk _ _ _ _ e
  | isub =>
    obtain ⟨x, y, s, -, e⟩ := ia_ii_s hs
    exact hk _ _ _ _ e
  | imul =>
    obtain ⟨x, y, s, -, e⟩ := ia_ii_s hs
    exact hk _ _ _ _ e
  | iand =>
    obtain ⟨x, y, s, -, e⟩ := ia_ii_s hs
    exact hk _ _ _ _ e
  | ior =>
    obtain ⟨x, y, s, -, e⟩ := ia_ii_s hs
    exact hk _ _ _ _ e
  | ixor =>
    obtain ⟨x, y, s, -, e⟩ := ia_ii_s hs
    exact hk _ _ _ _ e
  | ishl =>
    obtain ⟨x, y, s, -, e⟩ := ia_ii_s hs
    exact hk _ _ _ _ e
  | ishr =>
    obtain ⟨x, y, s, -, e⟩ := ia_ii_s hs
    exact hk _ _ _ _ e
  | iushr =>
    obtain ⟨x, y, s, -, e⟩ := ia_ii_s hs
    exact hk _ _ _ _ e
  | ladd =>
    obtain ⟨x, y, s, -, e⟩ := ia_ll_s hs
    exact hk _ _ _ _ e
  | lsub =>
    obtain ⟨x, y, s, -, e⟩ := ia_ll_s hs
    exact hk _ _ _ _ e
  | lmul =>
    obtain ⟨x, y, s, -, e⟩ := ia_ll_s hs
    exact hk _ _ _ _ e
  | land =>
    obtain ⟨x, y, s, -, e⟩ := ia_ll_s hs
    exact hk _ _ _ _ e
  | lcmp =>
    obtain ⟨x, y, s, -, e⟩ := ia_ll_s hs
    exact hk _ _ _ _ e
  | idiv =>
    obtain ⟨x, y, s, -, e⟩ := ia_ii_s hs
    split at e
    · cases e
    · exact hk _ _ _ _ e
  | irem =>
    obtain ⟨x, y, s, -, e⟩ := ia_ii_s hs
    split at e
    · cases e
    · exact hk _ _ _ _ e
  | ldiv =>
    obtain ⟨x, y, s, -, e⟩ := ia_ll_s hs
    split at e
    · cases e
    · exact hk _ _ _ _ e
  | ineg =>
    obtain ⟨x, s, -, e⟩ := ia_i1_s hs
    exact hk _ _ _ _ e
  | i2l =>
    obtain ⟨x, s, -, e⟩ := ia_i1_s hs
    exact hk _ _ _ _ e
  | i2b =>
    obtain ⟨x, s, -, e⟩ := ia_i1_s hs
    exact hk _ _ _ _ e
  | i2c =>
    obtain ⟨x, s, -, e⟩ := ia_i1_s hs
    exact hk _ _ _ _ e
  | l2i =>
    obtain ⟨x, s, -, e⟩ := ia_l1_s hs
    exact hk _ _ _ _ e
  | lneg =>
    obtain ⟨x, s, -, e⟩ := ia_l1_s hs
    exact hk _ _ _ _ e
  | lshr =>
    simp only [ia_step] at hs
    split at hs
    · exact hk _ _ _ _ hs
    · cases hs
  | dup =>
    simp only [ia_step] at hs
    split at hs
    · split at hs
      · exact hk _ _ _ _ hs
      · cases hs
    · cases hs
  | pop =>
    simp only [ia_step] at hs
    split at hs
    · split at hs
      · exact hk _ _ _ _ hs
      · cases hs
    · cases hs
  | dup2 =>
    simp only [ia_step] at hs
    split at hs
    · split at hs
      · split at hs
        · exact hk _ _ _ _ hs
        · cases hs
      · cases hs
    · cases hs
  | ifCond c n =>
    obtain ⟨x, s, -, e⟩ := ia_i1_s hs
    have := ia_if_s e
    cases c <;> (rcases this with ⟨-, e⟩ | ⟨-, e⟩ <;> exact hk _ _ _ _ e)
  | if_icmp c n =>
    obtain ⟨x, y, s, -, e⟩ := ia_ii_s hs
    have := ia_if_s e
    cases c <;> (rcases this with ⟨-, e⟩ | ⟨-, e⟩ <;> exact hk _ _ _ _ e)
  | goto n => exact hk _ _ _ _ hs
  | tableswitch d lo hi offs =>
    obtain ⟨x, s, -, e⟩ := ia_i1_s hs
    have : ∀ (ks : List Int32) (ts : List Nat), ia_sw x (fun t' => k t' ls s h) (ia_r rs 0) ks ts = some r → h.1 ≤ r.2.1 ∧ h.2.1 ≤ r.2.2.1 := by
      intro ks
      induction ks with
      | nil => intro ts e; cases ts <;> exact hk _ _ _ _ e
      | cons c ks ih =>
        intro ts e
        cases ts with
        | nil => exact hk _ _ _ _ e
        | cons t ts =>
          simp only [ia_sw] at e
          split at e
          · exact hk _ _ _ _ e
          · exact ih _ e
    exact this _ _ e
  | lookupswitch d ps =>
    obtain ⟨x, s, -, e⟩ := ia_i1_s hs
    have : ∀ (ks : List Int32) (ts : List Nat), ia_sw x (fun t' => k t' ls s h) (ia_r rs 0) ks ts = some r → h.1 ≤ r.2.1 ∧ h.2.1 ≤ r.2.2.1 := by
      intro ks
      induction ks with
      | nil => intro ts e; cases ts <;> exact hk _ _ _ _ e
      | cons c ks ih =>
        intro ts e
        cases ts with
        | nil => exact hk _ _ _ _ e
        | cons t ts =>
          simp only [ia_sw] at e
          split at e
          · exact hk _ _ _ _ e
          · exact ih _ e
    exact this _ _ e
  | getfield n =>
    simp only [ia_step] at hs
    split at hs
    · split at hs
      · obtain ⟨x, -, e⟩ := ia_bind_s hs; exact hk _ _ _ _ e
      · obtain ⟨x, -, e⟩ := ia_bind_s hs; exact hk _ _ _ _ e
      · obtain ⟨x, -, e⟩ := ia_bind_s hs; exact hk _ _ _ _ e
      · obtain ⟨x, -, e⟩ := ia_bind_s hs; exact hk _ _ _ _ e
      · cases hs
    · split at hs
      · split at hs
        · exact hk _ _ _ _ hs
        · exact hk _ _ _ _ hs
        · cases hs
      · cases hs
    · cases hs
  | getstatic n => exact hk _ _ _ _ hs
  | putfield n =>
    have pu : ∀ {a ci sl : Nat} {v : Value} {ls' r' : List Value}, ((ia_putf h a ci sl v).bind fun h' => k (t + 1) ls' r' h') = some r → h.1 ≤ r.2.1 ∧ h.2.1 ≤ r.2.2.1 := by
      intro a ci sl v ls' r' e
      obtain ⟨h', e1, e⟩ := ia_bind_s e
      obtain ⟨fs, -, -, rfl⟩ := ia_putf_s e1
      have h9 := hk _ _ _ _ e
      exact h9
    simp only [ia_step] at hs
    split at hs
    · split at hs
      · exact pu hs
      · split at hs
        · exact pu hs
        · cases hs
      · cases hs
    · split at hs
      · exact pu hs
      · cases hs
    · split at hs
      · exact pu hs
      · cases hs
    · cases hs
  | iaload =>
    simp only [ia_step] at hs
    split at hs
    · obtain ⟨x, -, e⟩ := ia_bind_s hs; exact hk _ _ _ _ e
    · obtain ⟨x, -, e⟩ := ia_bind_s hs; exact hk _ _ _ _ e
    · cases hs
  | iastore =>
    simp only [ia_step] at hs
    split at hs
    · obtain ⟨h', e1, e⟩ := ia_bind_s hs
      obtain ⟨l, -, -, -, rfl⟩ := ia_ast_s e1
      have h9 := hk _ _ _ _ e
      exact h9
    · cases hs
  | baload =>
    simp only [ia_step] at hs
    split at hs
    · split at hs <;> (obtain ⟨x, -, e⟩ := ia_bind_s hs; exact hk _ _ _ _ e)
    · split at hs
      · obtain ⟨x, -, e⟩ := ia_bind_s hs; exact hk _ _ _ _ e
      · cases hs
    · cases hs
  | bastore =>
    simp only [ia_step] at hs
    split at hs
    · split at hs <;> (obtain ⟨h', e1, e⟩ := ia_bind_s hs; obtain ⟨l, -, -, -, rfl⟩ := ia_ast_s e1; have h9 := hk _ _ _ _ e; exact h9)
    · cases hs
  | laload =>
    simp only [ia_step] at hs
    split at hs
    · obtain ⟨x, -, e⟩ := ia_bind_s hs; exact hk _ _ _ _ e
    · cases hs
  | lastore =>
    simp only [ia_step] at hs
    split at hs
    · obtain ⟨h', e1, e⟩ := ia_bind_s hs
      obtain ⟨l, -, -, -, rfl⟩ := ia_last_s e1
      have h9 := hk _ _ _ _ e
      exact h9
    · cases hs
  | arraylength =>
    simp only [ia_step] at hs
    split at hs
    · obtain ⟨x, -, e⟩ := ia_bind_s hs; exact hk _ _ _ _ e
    · unfold ia_xlen at hs
      split at hs
      · exact hk _ _ _ _ hs
      · split at hs
        · exact hk _ _ _ _ hs
        · cases hs
    · cases hs
  | newarray n =>
    obtain ⟨x, s, -, e⟩ := ia_i1_s hs
    have nw : ∀ {n : Nat} {c : ia_E} {t : Nat} {ls st : List Value}, k t ls st (ia_new h n c) = some r → h.1 ≤ r.2.1 ∧ h.2.1 ≤ r.2.2.1 := by
      intro n c t ls st e
      have h9 := hk _ _ _ _ e
      have e1 : (ia_new h n c).1 = h.1 + 1 := rfl
      have e2 : (ia_new h n c).2.1 = h.2.1 + n := rfl
      rw [e1, e2] at h9
      omega
    split at e
    · cases e
    · split at e
      · split at e <;> exact nw e
      · cases e
  | new n =>
    have h9 := hk _ _ _ _ hs
    have e1 : (ia_new h (ia_r rs 1) (.inr (.inr (ia_r rs 0, ia_dfl (ia_r rs 0))))).1 = h.1 + 1 := rfl
    have e2 : (ia_new h (ia_r rs 1) (.inr (.inr (ia_r rs 0, ia_dfl (ia_r rs 0))))).2.1 = h.2.1 + ia_r rs 1 := rfl
    rw [e1, e2] at h9
    omega
  | invokevirtual n =>
    simp only [ia_step] at hs
    split at hs
    · split at hs
      · split at hs
        · split at hs
          · split at hs
            · exact call (fun q hq => hc _ _ _ _ hq) (fun v h' e => hk _ _ _ _ e) hs
            · cases hs
          · cases hs
        · split at hs
          · split at hs
            · exact call (fun q hq => hc _ _ _ _ hq) (fun v h' e => hk _ _ _ _ e) hs
            · cases hs
          · cases hs
        · exact call (fun q hq => ia_specM hq) (fun v h' e => hk _ _ _ _ e) hs
      · cases hs
    · cases hs
  | invokespecial n =>
    simp only [ia_step] at hs
    split at hs
    · split at hs
      · split at hs
        · split at hs
          · exact call (fun q hq => hc _ _ _ _ hq) (fun v h' e => hk _ _ _ _ e) hs
          · cases hs
        · cases hs
      · cases hs
    · split at hs
      · split at hs
        · exact hk _ _ _ _ hs
        · cases hs
      · cases hs
  | invokestatic n =>
    simp only [ia_step] at hs
    split at hs
    · split at hs
      · split at hs
        · exact call (fun q hq => hc _ _ _ _ hq) (fun v h' e => hk _ _ _ _ e) hs
        · cases hs
      · cases hs
    · split at hs
      · split at hs
        · obtain ⟨h', e1, e⟩ := ia_bind_s hs
          obtain ⟨l, g, -, -, -, -, -, -, -, rfl⟩ := ia_cpy_s e1
          have h9 := hk _ _ _ _ e
          exact h9
        · cases hs
      · cases hs
    · split at hs
      · split at hs
        · exact call (fun q hq => ia_specM hq) (fun v h' e => hk _ _ _ _ e) hs
        · cases hs
      · cases hs
  | ireturn =>
    simp only [ia_step] at hs
    split at hs
    · split at hs
      · split at hs
        · cases hs; exact ⟨Nat.le_refl _, Nat.le_refl _⟩
        · cases hs
      · split at hs
        · cases hs; exact ⟨Nat.le_refl _, Nat.le_refl _⟩
        · cases hs
      · split at hs
        · cases hs; exact ⟨Nat.le_refl _, Nat.le_refl _⟩
        · cases hs
      · cases hs; exact ⟨Nat.le_refl _, Nat.le_refl _⟩
    · cases hs
  | lreturn =>
    simp only [ia_step] at hs
    split at hs
    · cases hs; exact ⟨Nat.le_refl _, Nat.le_refl _⟩
    · cases hs
  | areturn =>
    simp only [ia_step] at hs
    split at hs
    · cases hs; exact ⟨Nat.le_refl _, Nat.le_refl _⟩
    · cases hs
  | return_ =>
    simp only [ia_step] at hs
    split at hs
    · cases hs; exact ⟨Nat.le_refl _, Nat.le_refl _⟩
    · cases hs
  | _ => cases (show (none : Option ia_R) = some r from hs)
theorem ia_goM {xs : List Int32} {code : List ia_I} {cal : Nat → List Value → ia_H → Option ia_R} {bk : ia_K4} {r : ia_R} (hk : ∀ t ls st h, bk t ls st h = some r → h.1 ≤ r.2.1 ∧ h.2.1 ≤ r.2.2.1) (hc : ∀ j as h q, cal j as h = some q → h.1 ≤ q.2.1 ∧ h.2.1 ≤ q.2.2.1) :
    ∀ (f t : Nat) (ls st : List Value) (h : ia_H), ia_go xs ia_dfl ia_spec code cal bk f t ls st h = some r → h.1 ≤ r.2.1 ∧ h.2.1 ≤ r.2.2.1 := by
  intro f
  induction f with
  | zero => intro t ls st h e; cases e
  | succ f ih =>
    intro t ls st h e
    simp only [ia_go] at e
    split at e
    · cases e
    · split at e
      · exact hk _ _ _ _ e
      · exact ia_stepM ih hc e
theorem ia_runM {xs : List Int32} {code : List ia_I} {cal : Nat → List Value → ia_H → Option ia_R} (hc : ∀ j as h q, cal j as h = some q → h.1 ≤ q.2.1 ∧ h.2.1 ≤ q.2.2.1) {r : ia_R} :
    ∀ (n t : Nat) (ls st : List Value) (h : ia_H), ia_run xs ia_dfl ia_spec code cal n t ls st h = some r → h.1 ≤ r.2.1 ∧ h.2.1 ≤ r.2.2.1 := by
  intro n
  induction n with
  | zero => intro t ls st h e; cases e
  | succ n ih =>
    intro t ls st h e
    simp only [ia_run] at e
    split at e
    · cases e
    · exact ia_stepM (ia_goM ih hc 1000) hc e
theorem ia_callM {xs : List Int32} : ∀ (d j : Nat) (as : List Value) (h : ia_H) (q : ia_R), ia_cal xs d j as h = some q → h.1 ≤ q.2.1 ∧ h.2.1 ≤ q.2.2.1 := by
  intro d
  induction d with
  | zero => intro j as h q e; cases e
  | succ d ih =>
    intro j as h q e
    simp only [ia_cal, ia_call] at e
    split at e
    · exact ia_runM ih _ _ _ _ _ e
    · cases e
