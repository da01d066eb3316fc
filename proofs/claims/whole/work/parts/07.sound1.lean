/-! Which entries are as the class file has them: a test by kernel. -/
def ia_pcOf (code : List ia_I) (t : Nat) : Nat := match ia_nth code t with
  | some e => e.2.2.2.2.1
  | none => 0
def ia_okC (o ix kind : Nat) (rs : List Nat) : Bool := match ia_find ix (ia_ml o) with
  | some (j, lk) => decide (j = ia_r rs 1) && (decide (ia_kd j = kind) && (decide (ia_r rs 2 = ia_np j + (if kind = 2 then 0 else 1)) && (decide (j ∈ ia_jL) && (decide (lk = 0) || decide (kind = 1)))))
  | none => false
def ia_dc (cc : ByteArray) (pc : Nat) (ins : Instr) (len : Nat) : Bool := match decode cc pc with
  | .ok (i, n) => decide (i = ins) && decide (n = len)
  | .error _ => false
theorem ia_dc_ok {cc : ByteArray} {pc : Nat} {ins : Instr} {len : Nat} (h : ia_dc cc pc ins len = true) : decode cc pc = .ok (ins, len) := by
  unfold ia_dc at h
  split at h
  · rename_i i n hd
    simp only [Bool.and_eq_true, decide_eq_true_eq] at h
    rw [hd, h.1, h.2]
  · cases h
def ia_tbB (code : List ia_I) (pc : Nat) : Int → List Int → List Int32 → List Nat → Bool
  | _, [], [], [] => true
  | lo, f :: fs, k :: ks, t :: ts => decide (k.toInt = lo) && (decide ((pc : Int) + f = (ia_pcOf code t : Int)) && ia_tbB code pc (lo + 1) fs ks ts)
  | _, _, _, _ => false
def ia_lkB (code : List ia_I) (pc : Nat) : List (Int × Int) → List Int32 → List Nat → Bool
  | [], [], [] => true
  | q :: fs, k :: ks, t :: ts => decide (k.toInt = q.1) && (decide ((pc : Int) + q.2 = (ia_pcOf code t : Int)) && ia_lkB code pc fs ks ts)
  | _, _, _ => false
theorem ia_sw_tb {code : List ia_I} {pc : Nat} {x : Int32} {k : Nat → Option ia_R} {d : Nat} {r : ia_R} : ∀ (fs : List Int) (lo : Int) (ks : List Int32) (ts : List Nat), ia_tbB code pc lo fs ks ts = true → ia_sw x k d ks ts = some r →
    (k d = some r ∧ (x.toInt < lo ∨ lo + fs.length ≤ x.toInt)) ∨ ∃ t f, k t = some r ∧ lo ≤ x.toInt ∧ x.toInt < lo + fs.length ∧ fs[(x.toInt - lo).toNat]? = some f ∧ (pc : Int) + f = (ia_pcOf code t : Int) := by
  intro fs
  induction fs with
  | nil =>
    intro lo ks ts hB hs
    cases ks <;> cases ts <;> simp [ia_tbB] at hB
    refine Or.inl ⟨hs, ?_⟩
    simp only [List.length_nil]
    omega
  | cons f fs ih =>
    intro lo ks ts hB hs
    cases ks with
    | nil => simp [ia_tbB] at hB
    | cons c ks =>
      cases ts with
      | nil => simp [ia_tbB] at hB
      | cons t ts =>
        simp only [ia_tbB, Bool.and_eq_true, decide_eq_true_eq] at hB
        simp only [ia_sw] at hs
        split at hs
        · rename_i hx
          subst hx
          refine Or.inr ⟨t, f, hs, by omega, by simp only [List.length_cons]; omega, ?_, hB.2.1⟩
          rw [hB.1, Int.sub_self]
          rfl
        · rename_i hx
          have hne : x.toInt ≠ lo := fun q => hx (Int32.toInt_inj.mp (by rw [q, hB.1]))
          rcases ih (lo + 1) ks ts hB.2.2 hs with ⟨h1, h2⟩ | ⟨t', f', h1, h2, h3, h4, h5⟩
          · refine Or.inl ⟨h1, ?_⟩
            simp only [List.length_cons]
            omega
          · refine Or.inr ⟨t', f', h1, by omega, by simp only [List.length_cons]; omega, ?_, h5⟩
            have e : (x.toInt - lo).toNat = (x.toInt - (lo + 1)).toNat + 1 := by omega
            rw [e]
            exact h4
theorem ia_sw_lk {code : List ia_I} {pc : Nat} {x : Int32} {k : Nat → Option ia_R} {d : Nat} {r : ia_R} {df : Int} (hd : (pc : Int) + df = (ia_pcOf code d : Int)) : ∀ (fs : List (Int × Int)) (ks : List Int32) (ts : List Nat), ia_lkB code pc fs ks ts = true → ia_sw x k d ks ts = some r →
    ∃ t, k t = some r ∧ (pc : Int) + Op.lookupswitch.offset fs df x.toInt = (ia_pcOf code t : Int) := by
  intro fs
  induction fs with
  | nil =>
    intro ks ts hB hs
    cases ks <;> cases ts <;> simp [ia_lkB] at hB
    exact ⟨d, hs, hd⟩
  | cons f fs ih =>
    intro ks ts hB hs
    cases ks with
    | nil => simp [ia_lkB] at hB
    | cons c ks =>
      cases ts with
      | nil => simp [ia_lkB] at hB
      | cons t ts =>
        simp only [ia_lkB, Bool.and_eq_true, decide_eq_true_eq] at hB
        simp only [ia_sw] at hs
        obtain ⟨a, o⟩ := f
        rw [Op.lookupswitch.offset_cons]
        split at hs
        · rename_i hx
          subst hx
          rw [if_pos hB.1.symm]
          exact ⟨t, hs, hB.2.1⟩
        · rename_i hx
          rw [if_neg (fun q : a = x.toInt => hx (Int32.toInt_inj.mp (by rw [hB.1]; exact q.symm)))]
          exact ih ks ts hB.2.2 hs
def ia_okB (o : Nat) (ini : Bool) (cc : ByteArray) (code : List ia_I) (rt : Option FieldType) (t : Nat) (e : ia_I) : Bool := match e with
  | (ins, rs, ks, cv, pc, _) => match ins with
    | .iconst n => ia_dc cc pc ins 1 && decide (ia_pcOf code (t + 1) = pc + 1) && decide (cv = .int (Int32.ofInt n))
    | .bipush n => ia_dc cc pc ins 2 && decide (ia_pcOf code (t + 1) = pc + 2) && decide (cv = .int (Int8.ofInt n).toInt32)
    | .sipush n => ia_dc cc pc ins 3 && decide (ia_pcOf code (t + 1) = pc + 3) && decide (cv = .int (Int16.ofInt n).toInt32)
    | .lconst n => ia_dc cc pc ins 1 && decide (ia_pcOf code (t + 1) = pc + 1) && decide (cv = .long (Int64.ofNat (n : Nat)))
    | .ldc ix => ia_dc cc pc ins 2 && decide (ia_pcOf code (t + 1) = pc + 2) && (match cv with
      | .retAddr j => decide ((o, ix, j) ∈ ia_strL)
      | .int v => decide (ia_find ix (ia_kc o) = some (.int v))
      | _ => false)
    | .ldc_w ix => ia_dc cc pc ins 3 && decide (ia_pcOf code (t + 1) = pc + 3) && (match cv with
      | .int v => decide (ia_find ix (ia_kc o) = some (.int v))
      | _ => false)
    | .ldc2_w ix => ia_dc cc pc ins 3 && decide (ia_pcOf code (t + 1) = pc + 3) && (match cv with
      | .long v => decide (ia_find ix (ia_kc o) = some (.long v))
      | _ => false)
    | .iload i | .lload i | .aload i | .istore i | .lstore i | .astore i => ia_dc cc pc ins 2 && decide (ia_pcOf code (t + 1) = pc + 2) && decide (ia_r rs 0 = i)
    | .iload_n i | .lload_n i | .aload_n i | .istore_n i | .lstore_n i | .astore_n i => ia_dc cc pc ins 1 && decide (ia_pcOf code (t + 1) = pc + 1) && decide (ia_r rs 0 = (i : Nat))
    | .iinc i n => ia_dc cc pc ins 3 && decide (ia_pcOf code (t + 1) = pc + 3) && (decide (ia_r rs 0 = i) && decide (cv = .int (Int32.ofInt n)))
    | .iadd | .isub | .imul | .idiv | .irem | .iand | .ior | .ixor | .ishl | .ishr | .iushr | .ineg | .i2l | .i2b | .i2c | .l2i | .ladd | .lsub | .lmul | .land | .ldiv | .lneg | .lshr | .lcmp | .dup | .dup2 | .pop | .iaload | .iastore | .laload | .lastore | .arraylength =>
      ia_dc cc pc ins 1 && decide (ia_pcOf code (t + 1) = pc + 1)
    | .baload | .bastore => ia_dc cc pc ins 1 && decide (ia_pcOf code (t + 1) = pc + 1)
    | .ifCond _ off | .if_icmp _ off => ia_dc cc pc ins 3 && decide (ia_pcOf code (t + 1) = pc + 3) && decide ((pc : Int) + off = (ia_pcOf code (ia_r rs 0) : Int))
    | .goto off => ia_dc cc pc ins 3 && decide ((pc : Int) + off = (ia_pcOf code (ia_r rs 0) : Int))
    | .tableswitch d lo hi offs => (match decode cc pc with
        | .ok (i, _) => decide (i = ins)
        | .error _ => false) && decide ((pc : Int) + d = (ia_pcOf code (ia_r rs 0) : Int)) && decide (hi + 1 = lo + offs.size) && ia_tbB code pc lo offs.toList ks (rs.drop 1)
    | .lookupswitch d ps => (match decode cc pc with
        | .ok (i, _) => decide (i = ins)
        | .error _ => false) && decide ((pc : Int) + d = (ia_pcOf code (ia_r rs 0) : Int)) && (ps.toList.zip (ps.toList.drop 1)).all (fun (a, next) => a.1 < next.1) && ia_lkB code pc ps.toList ks (rs.drop 1)
    | .getfield ix => ia_dc cc pc ins 3 && decide (ia_pcOf code (t + 1) = pc + 3) && (match ia_find ix (ia_fl o) with
      | some (ci, sl, kd, _, _) => decide (ia_r rs 0 = ci) && (decide (ia_r rs 1 = sl) && decide (ia_r rs 2 = kd))
      | none => decide ((o, ix, ia_r rs 2) ∈ ia_xfL))
    | .getstatic ix => ia_dc cc pc ins 3 && decide (ia_pcOf code (t + 1) = pc + 3) && (decide ((o, ix) ∈ ia_gsL) && decide (cv = .int 1))
    | .putfield ix => ia_dc cc pc ins 3 && decide (ia_pcOf code (t + 1) = pc + 3) && (match ia_find ix (ia_fl o) with
      | some (ci, sl, kd, fin, same) => decide (ia_r rs 0 = ci) && (decide (ia_r rs 1 = sl) && (decide (ia_r rs 2 = kd) && (!fin || (ini && same))))
      | none => false)
    | .newarray at_ => ia_dc cc pc ins 2 && decide (ia_pcOf code (t + 1) = pc + 2) && (decide (newarray.typeOf at_ = ia_ty (ia_r rs 0)) && decide (ia_r rs 0 < 4))
    | .new ix => ia_dc cc pc ins 3 && decide (ia_pcOf code (t + 1) = pc + 3) && (match ia_find ix (ia_kl o) with
      | some ci => decide (ia_r rs 0 = ci) && decide (ia_r rs 1 = (ia_dfl ci).length)
      | none => false)
    | .invokevirtual ix => ia_dc cc pc ins 3 && decide (ia_pcOf code (t + 1) = pc + 3) && (match ia_r rs 0 with
      | 0 => ia_okC o ix 0 rs && (decide (ia_r rs 4 = ia_ow (ia_r rs 1)) && decide (ia_r rs 4 < 11))
      | 4 => ia_okC o ix 0 rs && decide (ia_ow (ia_r rs 1) = 14)
      | _ => decide ((o, ix, ia_r rs 1, 0) ∈ ia_spL))
    | .invokespecial ix => ia_dc cc pc ins 3 && decide (ia_pcOf code (t + 1) = pc + 3) && (match ia_r rs 0 with
      | 0 => ia_okC o ix 1 rs
      | _ => decide ((o, ix) ∈ ia_oiL))
    | .invokestatic ix => ia_dc cc pc ins 3 && decide (ia_pcOf code (t + 1) = pc + 3) && (match ia_r rs 0 with
      | 0 => ia_okC o ix 2 rs
      | 2 => decide ((o, ix) ∈ ia_acL)
      | _ => decide ((o, ix, ia_r rs 1, 2) ∈ ia_spL))
    | .ireturn => ia_dc cc pc ins 1 && (match ia_r rs 0 with
      | 1 => decide (rt = some .boolean)
      | 2 => decide (rt = some .byte)
      | 3 => decide (rt = some .char)
      | _ => decide (rt = some .int))
    | .lreturn => ia_dc cc pc ins 1 && decide (rt = some .long)
    | .areturn => ia_dc cc pc ins 1 && (match rt with
      | some (.object _) => true
      | _ => false)
    | .return_ => ia_dc cc pc ins 1 && decide (rt = none)
    | _ => false
def ia_okM (j : Nat) : Bool := (List.range (ia_pg j).1.length).all fun t => match ia_nth (ia_pg j).1 t with
  | some e => ia_okB (ia_ow j) (decide (ia_kd j = 1)) (ia_bb j) (ia_pg j).1 (ia_rt j) t e
  | none => false
