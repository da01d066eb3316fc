/-! A machine of my own over a plain heap: cells by number, arrays as lists. It is run by one instruction at a time in continuation form, so that
its runs unfold by rfl. Part 05 shows that what it answers the Java machine answers. -/
/-- a cell: an array of small numbers (0 int, 1 byte, 2 boolean), of longs, or an object (its class's number, its fields) -/
abbrev ia_E : Type := (Nat × List Int32) ⊕ (List Int64 ⊕ (Nat × List Value))
/-- a heap: how many cells were made, of how many slots in all, the cells -/
abbrev ia_H : Type := Nat × Nat × (Nat → ia_E)
abbrev ia_R : Type := Option Value × ia_H
/-- an instruction: as the class file has it; numbers that it means; keys of a switch; its constant; its place; where runs are cut: which locals are dead there -/
abbrev ia_I : Type := Instr × List Nat × List Int32 × Value × Nat × Option (List Nat)
abbrev ia_K4 : Type := Nat → List Value → List Value → ia_H → Option ia_R
def ia_dead : ia_E := .inr (.inr (9999, []))
/-- an object's class -/
def ia_cls (h : ia_H) (a : Nat) : Nat := match h.2.2 a with
  | .inr (.inr (c, _)) => c
  | _ => 9999
def ia_getI (h : ia_H) (a ci k : Nat) : Option Int32 := match h.2.2 a with
  | .inr (.inr (c, fs)) => if c = ci then (match fs[k]? with | some (.int x) => some x | _ => none) else none
  | _ => none
def ia_getR (h : ia_H) (a ci k : Nat) : Option Nat := match h.2.2 a with
  | .inr (.inr (c, fs)) => if c = ci then (match fs[k]? with | some (.ref x) => some x | _ => none) else none
  | _ => none
def ia_getL (h : ia_H) (a ci k : Nat) : Option Int64 := match h.2.2 a with
  | .inr (.inr (c, fs)) => if c = ci then (match fs[k]? with | some (.long x) => some x | _ => none) else none
  | _ => none
def ia_up (h : ia_H) (a : Nat) (e : ia_E) : ia_H := (h.1, h.2.1, va_up h.2.2 a e)
def ia_putf (h : ia_H) (a ci k : Nat) (v : Value) : Option ia_H := match h.2.2 a with
  | .inr (.inr (c, fs)) => if c = ci then (if k < fs.length then some (ia_up h a (.inr (.inr (c, fs.set k v)))) else none) else none
  | _ => none
def ia_ald (h : ia_H) (a tag : Nat) (i : Int32) : Option Int32 := match h.2.2 a with
  | .inl (tg, l) => if tg = tag then (if i < 0 then none else l[i.toNatClampNeg]?) else none
  | _ => none
def ia_ast (h : ia_H) (a tag : Nat) (i x : Int32) : Option ia_H := match h.2.2 a with
  | .inl (tg, l) => if tg = tag then (if i < 0 then none else if i.toNatClampNeg < l.length then some (ia_up h a (.inl (tg, l.set i.toNatClampNeg x))) else none) else none
  | _ => none
def ia_lald (h : ia_H) (a : Nat) (i : Int32) : Option Int64 := match h.2.2 a with
  | .inr (.inl l) => if i < 0 then none else l[i.toNatClampNeg]?
  | _ => none
def ia_last (h : ia_H) (a : Nat) (i : Int32) (x : Int64) : Option ia_H := match h.2.2 a with
  | .inr (.inl l) => if i < 0 then none else if i.toNatClampNeg < l.length then some (ia_up h a (.inr (.inl (l.set i.toNatClampNeg x)))) else none
  | _ => none
def ia_len (h : ia_H) (a : Nat) : Option Int32 := match h.2.2 a with
  | .inl (_, l) => some (Int32.ofNat l.length)
  | .inr (.inl l) => some (Int32.ofNat l.length)
  | _ => none
def ia_new (h : ia_H) (n : Nat) (e : ia_E) : ia_H := (h.1 + 1, h.2.1 + n, va_up h.2.2 h.1 e)
/-- System.arraycopy between two arrays of ints -/
def ia_cpy (h : ia_H) (a : Nat) (sp : Int32) (b : Nat) (dp n : Int32) : Option ia_H := match h.2.2 a, h.2.2 b with
  | .inl (0, l), .inl (0, g) => if sp < 0 ∨ dp < 0 ∨ n < 0 then none else if sp.toNatClampNeg + n.toNatClampNeg ≤ l.length ∧ dp.toNatClampNeg + n.toNatClampNeg ≤ g.length then
      some (ia_up h b (.inl (0, g.take dp.toNatClampNeg ++ ((l.drop sp.toNatClampNeg).take n.toNatClampNeg ++ g.drop (dp.toNatClampNeg + n.toNatClampNeg))))) else none
  | _, _ => none
def ia_cV (o : Option ia_R) (k : ia_H → Option ia_R) : Option ia_R := match o with
  | some (none, h) => k h
  | _ => none
def ia_cI (o : Option ia_R) (k : Int32 → ia_H → Option ia_R) : Option ia_R := match o with
  | some (some (.int x), h) => k x h
  | _ => none
def ia_cL (o : Option ia_R) (k : Int64 → ia_H → Option ia_R) : Option ia_R := match o with
  | some (some (.long x), h) => k x h
  | _ => none
def ia_cR (o : Option ia_R) (k : Nat → ia_H → Option ia_R) : Option ia_R := match o with
  | some (some (.ref x), h) => k x h
  | _ => none
/-- a call's answer by its kind: 0 none, 1 int, 2 long, 3 reference -/
def ia_ret (kind : Nat) (o : Option ia_R) (k : List Value → ia_H → Option ia_R) : Option ia_R := match kind with
  | 0 => ia_cV o (fun h => k [] h)
  | 1 => ia_cI o (fun x h => k [.int x] h)
  | 2 => ia_cL o (fun x h => k [.long x] h)
  | _ => ia_cR o (fun x h => k [.ref x] h)
def ia_cats (st : List Value) : Nat := match st with
  | [] => 0
  | v :: r => v.category + ia_cats r
def ia_sw (x : Int32) (k : Nat → Option ia_R) (d : Nat) : List Int32 → List Nat → Option ia_R
  | c :: cs, t :: ts => if x = c then k t else ia_sw x k d cs ts
  | _, _ => k d
def ia_load (ls : List Value) (i : Nat) (k : Value → Option ia_R) : Option ia_R := match ls[i]? with
  | some v => k v
  | none => none
/-- a store into local i: not over the second half of a long -/
def ia_store (ls : List Value) (i : Nat) (v : Value) (k : List Value → Option ia_R) : Option ia_R := match ls[i]? with
  | none => none
  | some _ => match ls[i - 1]? with
    | some (.long _) => none
    | some (.double _) => none
    | _ => k (ls.set i v)
def ia_storeL (ls : List Value) (i : Nat) (v : Value) (k : List Value → Option ia_R) : Option ia_R := match ls[i + 1]? with
  | none => none
  | some _ => match ls[i - 1]? with
    | some (.long _) => none
    | some (.double _) => none
    | _ => k ((ls.set i v).set (i + 1) (.float 0))
def ia_ii (st : List Value) (k : Int32 → Int32 → List Value → Option ia_R) : Option ia_R := match st with
  | .int y :: .int x :: r => k x y r
  | _ => none
def ia_ll (st : List Value) (k : Int64 → Int64 → List Value → Option ia_R) : Option ia_R := match st with
  | .long y :: .long x :: r => k x y r
  | _ => none
def ia_i1 (st : List Value) (k : Int32 → List Value → Option ia_R) : Option ia_R := match st with
  | .int x :: r => k x r
  | _ => none
def ia_l1 (st : List Value) (k : Int64 → List Value → Option ia_R) : Option ia_R := match st with
  | .long x :: r => k x r
  | _ => none
def ia_r (rs : List Nat) (i : Nat) : Nat := rs.getD i 0
def ia_if (c : ClassFile.Cond) (x y : Int32) (yes no : Option ia_R) : Option ia_R := match c with
  | .eq => if x = y then yes else no
  | .ne => if x = y then no else yes
  | .lt => if x < y then yes else no
  | .ge => if x < y then no else yes
  | .gt => if y < x then yes else no
  | .le => if y < x then no else yes
/-- a call's arguments off the stack -/
def ia_pops : Nat → List Value → List Value → Option (List Value × List Value)
  | 0, acc, st => some (acc, st)
  | n + 1, acc, v :: st => ia_pops n (v :: acc) st
  | _ + 1, _, [] => none
/-- String constants, and their bytes -/
def ia_isS (j : Nat) : Bool := j == 1 || (j == 2 || j == 3)
def ia_isB (j : Nat) : Bool := j == 11 || (j == 12 || j == 13)
def ia_xlen (xs : List Int32) (j : Nat) (k : Int32 → Option ia_R) : Option ia_R := if j = 0 then k (Int32.ofNat xs.length) else if ia_isB j then k (Int32.ofNat (ia_str (j - 10)).length) else none
section IAM
variable (xs : List Int32) (dfl : Nat → List Value) (spec : Nat → List Value → ia_H → Option ia_R)
/-- one instruction; t: its number; cal: what calls answer; k: what comes behind it -/
def ia_step (e : ia_I) (t : Nat) (ls st : List Value) (h : ia_H) (cal : Nat → List Value → ia_H → Option ia_R) (k : ia_K4) : Option ia_R :=
  match e with
  | (ins, rs, ks, cv, _, _) => match ins with
    | .iconst _ | .bipush _ | .sipush _ | .lconst _ | .ldc _ | .ldc_w _ | .ldc2_w _ => k (t + 1) ls (cv :: st) h
    | .iload _ | .iload_n _ => ia_load ls (ia_r rs 0) fun v => match v with
        | .int x => k (t + 1) ls (.int x :: st) h
        | _ => none
    | .lload _ | .lload_n _ => ia_load ls (ia_r rs 0) fun v => match v with
        | .long x => k (t + 1) ls (.long x :: st) h
        | _ => none
    | .aload _ | .aload_n _ => ia_load ls (ia_r rs 0) fun v => match v with
        | .ref x => k (t + 1) ls (.ref x :: st) h
        | .retAddr x => k (t + 1) ls (.retAddr x :: st) h
        | _ => none
    | .istore _ | .istore_n _ => ia_i1 st fun x r => ia_store ls (ia_r rs 0) (.int x) fun ls' => k (t + 1) ls' r h
    | .lstore _ | .lstore_n _ => ia_l1 st fun x r => ia_storeL ls (ia_r rs 0) (.long x) fun ls' => k (t + 1) ls' r h
    | .astore _ | .astore_n _ => match st with
        | .ref x :: r => ia_store ls (ia_r rs 0) (.ref x) fun ls' => k (t + 1) ls' r h
        | _ => none
    | .iinc _ _ => ia_load ls (ia_r rs 0) fun v => match v, cv with
        | .int x, .int c => ia_store ls (ia_r rs 0) (.int (x + c)) fun ls' => k (t + 1) ls' st h
        | _, _ => none
    | .iadd => ia_ii st fun x y r => k (t + 1) ls (.int (x + y) :: r) h
    | .isub => ia_ii st fun x y r => k (t + 1) ls (.int (x - y) :: r) h
    | .imul => ia_ii st fun x y r => k (t + 1) ls (.int (x * y) :: r) h
    | .idiv => ia_ii st fun x y r => if y = 0 then none else k (t + 1) ls (.int (x / y) :: r) h
    | .irem => ia_ii st fun x y r => if y = 0 then none else k (t + 1) ls (.int (x - x / y * y) :: r) h
    | .iand => ia_ii st fun x y r => k (t + 1) ls (.int (x &&& y) :: r) h
    | .ior => ia_ii st fun x y r => k (t + 1) ls (.int (x ||| y) :: r) h
    | .ixor => ia_ii st fun x y r => k (t + 1) ls (.int (x ^^^ y) :: r) h
    | .ishl => ia_ii st fun x y r => k (t + 1) ls (.int (x <<< (y &&& 31)) :: r) h
    | .ishr => ia_ii st fun x y r => k (t + 1) ls (.int (x >>> (y &&& 31)) :: r) h
    | .iushr => ia_ii st fun x y r => k (t + 1) ls (.int (x.toUInt32 >>> (y.toUInt32 &&& Int32.toUInt32 31)).toInt32 :: r) h
    | .ineg => ia_i1 st fun x r => k (t + 1) ls (.int (-x) :: r) h
    | .i2l => ia_i1 st fun x r => k (t + 1) ls (.long x.toInt64 :: r) h
    | .i2b => ia_i1 st fun x r => k (t + 1) ls (.int x.toInt8.toInt32 :: r) h
    | .i2c => ia_i1 st fun x r => k (t + 1) ls (.int (x.toUInt32 % 65536).toInt32 :: r) h
    | .l2i => ia_l1 st fun x r => k (t + 1) ls (.int x.toInt32 :: r) h
    | .ladd => ia_ll st fun x y r => k (t + 1) ls (.long (x + y) :: r) h
    | .lsub => ia_ll st fun x y r => k (t + 1) ls (.long (x - y) :: r) h
    | .lmul => ia_ll st fun x y r => k (t + 1) ls (.long (x * y) :: r) h
    | .land => ia_ll st fun x y r => k (t + 1) ls (.long (x &&& y) :: r) h
    | .ldiv => ia_ll st fun x y r => if y = 0 then none else k (t + 1) ls (.long (x / y) :: r) h
    | .lneg => ia_l1 st fun x r => k (t + 1) ls (.long (-x) :: r) h
    | .lshr => match st with
        | .int y :: .long x :: r => k (t + 1) ls (.long (x >>> (y.toInt64 &&& 63)) :: r) h
        | _ => none
    | .lcmp => ia_ll st fun x y r => k (t + 1) ls (.int (lg_cmp x y) :: r) h
    | .dup => match st with
        | v :: r => if v.category = 1 then k (t + 1) ls (v :: v :: r) h else none
        | _ => none
    | .dup2 => match st with
        | v :: w :: r => if v.category = 1 then (if w.category = 1 then k (t + 1) ls (v :: w :: v :: w :: r) h else none) else none
        | _ => none
    | .pop => match st with
        | v :: r => if v.category = 1 then k (t + 1) ls r h else none
        | _ => none
    | .ifCond c _ => ia_i1 st fun x r => ia_if c x 0 (k (ia_r rs 0) ls r h) (k (t + 1) ls r h)
    | .if_icmp c _ => ia_ii st fun x y r => ia_if c x y (k (ia_r rs 0) ls r h) (k (t + 1) ls r h)
    | .goto _ => k (ia_r rs 0) ls st h
    | .tableswitch _ _ _ _ | .lookupswitch _ _ => ia_i1 st fun x r => ia_sw x (fun t' => k t' ls r h) (ia_r rs 0) ks (rs.drop 1)
    | .getfield _ => match st with
        | .ref a :: r => match ia_r rs 2 with
          | 1 => (ia_getR h a (ia_r rs 0) (ia_r rs 1)).bind fun x => k (t + 1) ls (.ref x :: r) h
          | 2 => (ia_getL h a (ia_r rs 0) (ia_r rs 1)).bind fun x => k (t + 1) ls (.long x :: r) h
          | 0 => (ia_getI h a (ia_r rs 0) (ia_r rs 1)).bind fun x => k (t + 1) ls (.int x :: r) h
          | 3 => (ia_getI h a (ia_r rs 0) (ia_r rs 1)).bind fun x => k (t + 1) ls (.int x :: r) h
          | _ => none
        | .retAddr j :: r => if ia_isS j then (match ia_r rs 2 with
          | 5 => k (t + 1) ls (.retAddr (10 + j) :: r) h
          | 6 => k (t + 1) ls (.int 0 :: r) h
          | _ => none) else none
        | _ => none
    | .getstatic _ => k (t + 1) ls (cv :: st) h
    | .putfield _ => match st with
        | .int x :: .ref a :: r => match ia_r rs 2 with
          | 0 => (ia_putf h a (ia_r rs 0) (ia_r rs 1) (.int x)).bind fun h' => k (t + 1) ls r h'
          | 3 => if x = 0 ∨ x = 1 then (ia_putf h a (ia_r rs 0) (ia_r rs 1) (.int x)).bind fun h' => k (t + 1) ls r h' else none
          | _ => none
        | .long x :: .ref a :: r => match ia_r rs 2 with
          | 2 => (ia_putf h a (ia_r rs 0) (ia_r rs 1) (.long x)).bind fun h' => k (t + 1) ls r h'
          | _ => none
        | .ref x :: .ref a :: r => match ia_r rs 2 with
          | 1 => (ia_putf h a (ia_r rs 0) (ia_r rs 1) (.ref x)).bind fun h' => k (t + 1) ls r h'
          | _ => none
        | _ => none
    | .iaload => match st with
        | .int i :: .ref a :: r => (ia_ald h a 0 i).bind fun x => k (t + 1) ls (.int x :: r) h
        | .int i :: .retAddr 0 :: r => (if i < 0 then none else xs[i.toNatClampNeg]?).bind fun x => k (t + 1) ls (.int x :: r) h
        | _ => none
    | .iastore => match st with
        | .int x :: .int i :: .ref a :: r => (ia_ast h a 0 i x).bind fun h' => k (t + 1) ls r h'
        | _ => none
    | .baload => match st with
        | .int i :: .ref a :: r => match ia_r rs 0 with
          | 1 => (ia_ald h a 1 i).bind fun x => k (t + 1) ls (.int x :: r) h
          | _ => (ia_ald h a 2 i).bind fun x => k (t + 1) ls (.int x :: r) h
        | .int i :: .retAddr j :: r => if ia_isB j then (if i < 0 then none else (ia_str (j - 10))[i.toNatClampNeg]?).bind fun x => k (t + 1) ls (.int x :: r) h else none
        | _ => none
    | .bastore => match st with
        | .int x :: .int i :: .ref a :: r => match ia_r rs 0 with
          | 1 => (ia_ast h a 1 i (vp_nar .byte x)).bind fun h' => k (t + 1) ls r h'
          | _ => (ia_ast h a 2 i (vp_nar .boolean x)).bind fun h' => k (t + 1) ls r h'
        | _ => none
    | .laload => match st with
        | .int i :: .ref a :: r => (ia_lald h a i).bind fun x => k (t + 1) ls (.long x :: r) h
        | _ => none
    | .lastore => match st with
        | .long x :: .int i :: .ref a :: r => (ia_last h a i x).bind fun h' => k (t + 1) ls r h'
        | _ => none
    | .arraylength => match st with
        | .ref a :: r => (ia_len h a).bind fun x => k (t + 1) ls (.int x :: r) h
        | .retAddr j :: r => ia_xlen xs j fun x => k (t + 1) ls (.int x :: r) h
        | _ => none
    | .newarray _ => ia_i1 st fun n r => if n < 0 then none else if n.toNatClampNeg ≤ 100000 then (match ia_r rs 0 with
          | 3 => k (t + 1) ls (.ref h.1 :: r) (ia_new h n.toNatClampNeg (.inr (.inl (List.replicate n.toNatClampNeg 0))))
          | 2 => k (t + 1) ls (.ref h.1 :: r) (ia_new h n.toNatClampNeg (.inl (2, List.replicate n.toNatClampNeg 0)))
          | 1 => k (t + 1) ls (.ref h.1 :: r) (ia_new h n.toNatClampNeg (.inl (1, List.replicate n.toNatClampNeg 0)))
          | _ => k (t + 1) ls (.ref h.1 :: r) (ia_new h n.toNatClampNeg (.inl (0, List.replicate n.toNatClampNeg 0)))) else none
    | .new _ => k (t + 1) ls (.ref h.1 :: st) (ia_new h (ia_r rs 1) (.inr (.inr (ia_r rs 0, dfl (ia_r rs 0)))))
    | .invokevirtual _ => match ia_pops (ia_r rs 2) [] st with
        | some (as, rest) => if ia_cats rest ≤ 8 then (match ia_r rs 0 with
          | 0 => match as with
            | .ref b :: as' => if ia_cls h b = ia_r rs 4 then ia_ret (ia_r rs 3) (cal (ia_r rs 1) (.ref b :: as') h) fun v h' => k (t + 1) ls (v ++ rest) h' else none
            | _ => none
          | 4 => match as with
            | .retAddr j :: as' => if ia_isS j then ia_ret (ia_r rs 3) (cal (ia_r rs 1) (.retAddr j :: as') h) fun v h' => k (t + 1) ls (v ++ rest) h' else none
            | _ => none
          | _ => ia_ret (ia_r rs 3) (spec (ia_r rs 1) as h) fun v h' => k (t + 1) ls (v ++ rest) h') else none
        | none => none
    | .invokespecial _ => match ia_r rs 0 with
        | 0 => match ia_pops (ia_r rs 2) [] st with
          | some (as, rest) => if ia_cats rest ≤ 8 then (match as with
            | .ref b :: as' => ia_ret (ia_r rs 3) (cal (ia_r rs 1) (.ref b :: as') h) fun v h' => k (t + 1) ls (v ++ rest) h'
            | _ => none) else none
          | none => none
        | _ => match st with
          | .ref _ :: r => if ia_cats r ≤ 8 then k (t + 1) ls r h else none
          | _ => none
    | .invokestatic _ => match ia_r rs 0 with
        | 0 => match ia_pops (ia_r rs 2) [] st with
          | some (as, rest) => if ia_cats rest ≤ 8 then ia_ret (ia_r rs 3) (cal (ia_r rs 1) as h) fun v h' => k (t + 1) ls (v ++ rest) h' else none
          | none => none
        | 2 => match st with
          | .int n :: .int dp :: .ref b :: .int sp :: .ref a :: r => if ia_cats r ≤ 8 then (ia_cpy h a sp b dp n).bind fun h' => k (t + 1) ls r h' else none
          | _ => none
        | _ => match ia_pops (ia_r rs 2) [] st with
          | some (as, rest) => if ia_cats rest ≤ 8 then ia_ret (ia_r rs 3) (spec (ia_r rs 1) as h) fun v h' => k (t + 1) ls (v ++ rest) h' else none
          | none => none
    | .ireturn => match st with
        | [.int x] => match ia_r rs 0 with
          | 1 => if x = 0 ∨ x = 1 then some (some (.int x), h) else none
          | 2 => if vp_nar .byte x = x then some (some (.int x), h) else none
          | 3 => if vp_nar .char x = x then some (some (.int x), h) else none
          | _ => some (some (.int x), h)
        | _ => none
    | .lreturn => match st with
        | [.long x] => some (some (.long x), h)
        | _ => none
    | .areturn => match st with
        | [.ref x] => some (some (.ref x), h)
        | _ => none
    | .return_ => match st with
        | [] => some (none, h)
        | _ => none
    | _ => none
/-- locals that are dead -/
def ia_kill (kl : List Nat) (ls : List Value) : List Value := match kl with
  | [] => ls
  | i :: r => ia_kill r (ls.set i (.float 0))
def ia_nth (code : List ia_I) (t : Nat) : Option ia_I := match code, t with
  | [], _ => none
  | e :: _, 0 => some e
  | _ :: r, t + 1 => ia_nth r t
/-- on, to the next place where runs are cut: there bk takes over -/
def ia_go (code : List ia_I) (cal : Nat → List Value → ia_H → Option ia_R) (bk : ia_K4) : Nat → ia_K4
  | 0 => fun _ _ _ _ => none
  | f + 1 => fun t ls st h => match ia_nth code t with
    | none => none
    | some e => match e.2.2.2.2.2 with
      | some kl => bk t (ia_kill kl ls) st h
      | none => ia_step xs dfl spec e t ls st h cal (ia_go code cal bk f)
/-- from a place on, n cuts at most -/
def ia_run (code : List ia_I) (cal : Nat → List Value → ia_H → Option ia_R) : Nat → ia_K4
  | 0 => fun _ _ _ _ => none
  | n + 1 => fun t ls st h => match ia_nth code t with
    | none => none
    | some e => ia_step xs dfl spec e t ls st h cal (ia_go xs dfl spec code cal (ia_run code cal n) 1000)
/-- a method's locals at its start -/
def ia_loc (n : Nat) : List Value → List Value
  | [] => List.replicate n (.float 0)
  | .long x :: r => .long x :: .float 0 :: ia_loc (n - 2) r
  | .double x :: r => .double x :: .float 0 :: ia_loc (n - 2) r
  | v :: r => v :: ia_loc (n - 1) r
/-- a call, at most d deep; of method j: its code, its locals -/
def ia_call (prog : Nat → List ia_I × Nat) : Nat → Nat → List Value → ia_H → Option ia_R
  | 0 => fun _ _ _ => none
  | d + 1 => fun j as h => if (ia_loc (prog j).2 as).length = (prog j).2 then ia_run xs dfl spec (prog j).1 (ia_call prog d) 1000000 0 (ia_loc (prog j).2 as) [] h else none
end IAM
