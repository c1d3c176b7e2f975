/-! The small machine: its heap, its step, its run. Cells bear numbers: 0 is the script, the others as they are made. -/
/-- shapes (kind, length) of the cells; what they hold: ints, longs, references -/
abbrev rx_H : Type := List (Nat × Nat) × (Nat → Nat → Int32) × (Nat → Nat → Int64) × (Nat → Nat → Option Nat)
def rx_u {α : Type} (f : Nat → Nat → α) (i k : Nat) (v : α) : Nat → Nat → α := fun a => if a = i then (fun b => if b = k then v else f i b) else f a
def rx_row {α : Type} (f : Nat → Nat → α) (i : Nat) (g : Nat → α) : Nat → Nat → α := fun a => if a = i then g else f a
def rx_si (h : rx_H) (i k : Nat) (v : Int32) : rx_H := (h.1, rx_u h.2.1 i k v, h.2.2.1, h.2.2.2)
def rx_sl (h : rx_H) (i k : Nat) (v : Int64) : rx_H := (h.1, h.2.1, rx_u h.2.2.1 i k v, h.2.2.2)
def rx_sr (h : rx_H) (i k : Nat) (v : Option Nat) : rx_H := (h.1, h.2.1, h.2.2.1, rx_u h.2.2.2 i k v)
/-- a new cell, all 0 and null -/
def rx_nw (h : rx_H) (t n : Nat) : rx_H := (h.1 ++ [(t, n)], rx_row h.2.1 h.1.length (fun _ => 0), rx_row h.2.2.1 h.1.length (fun _ => 0), rx_row h.2.2.2 h.1.length (fun _ => none))
/-- the kind of a field: 0 int, 1 long, 2 reference, 3 boolean -/
def rx_ty (c k : Nat) : FieldType := (rx_tys.getD c []).getD k .int
def rx_kd (t : FieldType) : Nat := match t with
  | .long => 1
  | .object _ => 2
  | .array _ => 2
  | .boolean => 3
  | .int => 0
  | _ => 9
def rx_is (h : rx_H) (i t k : Nat) : Bool := match h.1[i]? with
  | some (t', n) => Nat.beq t' t && Nat.blt k n && Nat.blt 0 i
  | none => false
def rx_len (h : rx_H) (i : Nat) : Nat := match h.1[i]? with
  | some (_, n) => n
  | none => 0
def rx_kind (h : rx_H) (i : Nat) : Nat := match h.1[i]? with
  | some (t, _) => t
  | none => 99
/-- an index within -/
def rx_in (x : Int32) (n : Nat) : Bool := decide (¬ (x < 0 ∨ n ≤ x.toNatClampNeg))
def rx_un (v : Value) : Bool := match v with
  | .retAddr _ => true
  | _ => false
def rx_no : Value := .retAddr 0
def rx_kl (ls : List Value) (i : Nat) : List Value := match i with
  | 0 => ls
  | j + 1 => match ls[j]? with
    | some v => if v.category = 2 then ls.set j rx_no else ls
    | none => ls
abbrev rx_C : Type := Nat × List Value × List Value × rx_H
def rx_st1 (ls : List Value) (i : Nat) (v : Value) : List Value := (rx_kl ls i).set i v
def rx_st2 (ls : List Value) (i : Nat) (v : Value) : List Value := ((rx_kl ls i).set i v).set (i + 1) rx_no
def rx_ild (pc i n : Nat) (ls st : List Value) (h : rx_H) : Option rx_C := match ls[i]? with
  | some (.int x) => some (pc + n, ls, .int x :: st, h)
  | _ => none
def rx_lld (pc i n : Nat) (ls st : List Value) (h : rx_H) : Option rx_C := match ls[i]? with
  | some (.long x) => some (pc + n, ls, .long x :: st, h)
  | _ => none
def rx_ald (pc i n : Nat) (ls st : List Value) (h : rx_H) : Option rx_C := match ls[i]? with
  | some (.ref x) => some (pc + n, ls, .ref x :: st, h)
  | some .null => some (pc + n, ls, .null :: st, h)
  | _ => none
def rx_ist (pc i n : Nat) (ls st : List Value) (h : rx_H) : Option rx_C := match st with
  | .int x :: r => bif Nat.blt i ls.length then some (pc + n, rx_st1 ls i (.int x), r, h) else none
  | _ => none
def rx_lst (pc i n : Nat) (ls st : List Value) (h : rx_H) : Option rx_C := match st with
  | .long x :: r => bif Nat.blt (i + 1) ls.length then some (pc + n, rx_st2 ls i (.long x), r, h) else none
  | _ => none
def rx_ast (pc i n : Nat) (ls st : List Value) (h : rx_H) : Option rx_C := match st with
  | .ref x :: r => bif Nat.blt i ls.length then some (pc + n, rx_st1 ls i (.ref x), r, h) else none
  | .null :: r => bif Nat.blt i ls.length then some (pc + n, rx_st1 ls i .null, r, h) else none
  | _ => none
def rx_i2 (f : Int32 → Int32 → Int32) (pc : Nat) (ls st : List Value) (h : rx_H) : Option rx_C := match st with
  | .int y :: .int x :: r => some (pc + 1, ls, .int (f x y) :: r, h)
  | _ => none
def rx_l2 (f : Int64 → Int64 → Int64) (pc : Nat) (ls st : List Value) (h : rx_H) : Option rx_C := match st with
  | .long y :: .long x :: r => some (pc + 1, ls, .long (f x y) :: r, h)
  | _ => none
def rx_to (pc : Nat) (off : Int) : Nat := ((pc : Int) + off).toNat
def rx_br1 (p : Int32 → Bool) (pc : Nat) (off : Int) (ls st : List Value) (h : rx_H) : Option rx_C := match st with
  | .int x :: r => some (bif p x then rx_to pc off else pc + 3, ls, r, h)
  | _ => none
def rx_br2 (p : Int32 → Int32 → Bool) (pc : Nat) (off : Int) (ls st : List Value) (h : rx_H) : Option rx_C := match st with
  | .int y :: .int x :: r => some (bif p x y then rx_to pc off else pc + 3, ls, r, h)
  | _ => none
def rx_ac (v : Value) : Option (Option Nat) := match v with
  | .ref x => some (some x)
  | .null => some none
  | _ => none
def rx_atag (a : ArrayType) : Nat := match a with
  | .byte => 13
  | .int => 14
  | .long => 15
  | .boolean => 16
  | _ => 99
/-- the step of an instruction that neither calls nor returns -/
def rx_ex (i : Instr) (pc : Nat) (ls st : List Value) (h : rx_H) : Option rx_C := match i with
  | .iload k => rx_ild pc k 2 ls st h
  | .iload_n k => rx_ild pc k.val 1 ls st h
  | .lload k => rx_lld pc k 2 ls st h
  | .lload_n k => rx_lld pc k.val 1 ls st h
  | .aload k => rx_ald pc k 2 ls st h
  | .aload_n k => rx_ald pc k.val 1 ls st h
  | .istore k => rx_ist pc k 2 ls st h
  | .istore_n k => rx_ist pc k.val 1 ls st h
  | .lstore k => rx_lst pc k 2 ls st h
  | .lstore_n k => rx_lst pc k.val 1 ls st h
  | .astore k => rx_ast pc k 2 ls st h
  | .astore_n k => rx_ast pc k.val 1 ls st h
  | .iconst n => some (pc + 1, ls, .int (Int32.ofInt n) :: st, h)
  | .bipush n => some (pc + 2, ls, .int (Int8.ofInt n).toInt32 :: st, h)
  | .sipush n => some (pc + 3, ls, .int (Int16.ofInt n).toInt32 :: st, h)
  | .ldc n => some (pc + 2, ls, .int (Int32.ofNat n) :: st, h)
  | .ldc_w n => some (pc + 3, ls, .int (Int32.ofNat n) :: st, h)
  | .lconst n => some (pc + 1, ls, .long (Int64.ofNat n.val) :: st, h)
  | .ldc2_w n => some (pc + 3, ls, .long (Int64.ofNat n) :: st, h)
  | .aconst_null => some (pc + 1, ls, .null :: st, h)
  | .iinc k n => match ls[k]? with
    | some (.int x) => some (pc + 3, rx_st1 ls k (.int (x + Int32.ofInt n)), st, h)
    | _ => none
  | .iadd => rx_i2 (fun x y => x + y) pc ls st h
  | .isub => rx_i2 (fun x y => x - y) pc ls st h
  | .imul => rx_i2 (fun x y => x * y) pc ls st h
  | .iand => rx_i2 (fun x y => x &&& y) pc ls st h
  | .ior => rx_i2 (fun x y => x ||| y) pc ls st h
  | .ixor => rx_i2 (fun x y => x ^^^ y) pc ls st h
  | .ishl => rx_i2 (fun x y => x <<< (y &&& 31)) pc ls st h
  | .ishr => rx_i2 (fun x y => x >>> (y &&& 31)) pc ls st h
  | .idiv => match st with
    | .int y :: .int x :: r => bif decide (¬ y = 0) then some (pc + 1, ls, .int (x / y) :: r, h) else none
    | _ => none
  | .irem => match st with
    | .int y :: .int x :: r => bif decide (¬ y = 0) then some (pc + 1, ls, .int (x - x / y * y) :: r, h) else none
    | _ => none
  | .ladd => rx_l2 (fun x y => x + y) pc ls st h
  | .lsub => rx_l2 (fun x y => x - y) pc ls st h
  | .lmul => rx_l2 (fun x y => x * y) pc ls st h
  | .land => rx_l2 (fun x y => x &&& y) pc ls st h
  | .lor => rx_l2 (fun x y => x ||| y) pc ls st h
  | .lxor => rx_l2 (fun x y => x ^^^ y) pc ls st h
  | .lneg => match st with
    | .long x :: r => some (pc + 1, ls, .long (-x) :: r, h)
    | _ => none
  | .lshl => match st with
    | .int y :: .long x :: r => some (pc + 1, ls, .long (x <<< (y.toInt64 &&& 63)) :: r, h)
    | _ => none
  | .lushr => match st with
    | .int y :: .long x :: r => some (pc + 1, ls, .long (x.toUInt64 >>> (y.toInt64.toUInt64 &&& Int64.toUInt64 63)).toInt64 :: r, h)
    | _ => none
  | .lcmp => match st with
    | .long y :: .long x :: r => some (pc + 1, ls, .int (lg_cmp x y) :: r, h)
    | _ => none
  | .i2l => match st with
    | .int x :: r => some (pc + 1, ls, .long x.toInt64 :: r, h)
    | _ => none
  | .l2i => match st with
    | .long x :: r => some (pc + 1, ls, .int x.toInt32 :: r, h)
    | _ => none
  | .i2b => match st with
    | .int x :: r => some (pc + 1, ls, .int x.toInt8.toInt32 :: r, h)
    | _ => none
  | .dup => match st with
    | v :: r => bif Nat.beq v.category 1 then some (pc + 1, ls, v :: v :: r, h) else none
    | _ => none
  | .dup2 => match st with
    | v :: w :: r => bif Nat.beq v.category 1 && Nat.beq w.category 1 then some (pc + 1, ls, v :: w :: v :: w :: r, h) else none
    | _ => none
  | .ifCond .eq off => rx_br1 (fun x => decide (x = 0)) pc off ls st h
  | .ifCond .ne off => rx_br1 (fun x => !decide (x = 0)) pc off ls st h
  | .ifCond .lt off => rx_br1 (fun x => decide (x < 0)) pc off ls st h
  | .ifCond .ge off => rx_br1 (fun x => decide (0 ≤ x)) pc off ls st h
  | .ifCond .gt off => rx_br1 (fun x => decide (0 < x)) pc off ls st h
  | .ifCond .le off => rx_br1 (fun x => decide (x ≤ 0)) pc off ls st h
  | .if_icmp .eq off => rx_br2 (fun x y => decide (x = y)) pc off ls st h
  | .if_icmp .ne off => rx_br2 (fun x y => !decide (x = y)) pc off ls st h
  | .if_icmp .lt off => rx_br2 (fun x y => decide (x < y)) pc off ls st h
  | .if_icmp .ge off => rx_br2 (fun x y => decide (y ≤ x)) pc off ls st h
  | .if_icmp .gt off => rx_br2 (fun x y => decide (y < x)) pc off ls st h
  | .if_icmp .le off => rx_br2 (fun x y => decide (x ≤ y)) pc off ls st h
  | .if_acmp .eq off => match st with
    | w :: v :: r => match rx_ac v, rx_ac w with
      | some x, some y => some (bif decide (x = y) then rx_to pc off else pc + 3, ls, r, h)
      | _, _ => none
    | _ => none
  | .if_acmp .ne off => match st with
    | w :: v :: r => match rx_ac v, rx_ac w with
      | some x, some y => some (bif decide (x = y) then pc + 3 else rx_to pc off, ls, r, h)
      | _, _ => none
    | _ => none
  | .ifnull off => match st with
    | .null :: r => some (rx_to pc off, ls, r, h)
    | .ref _ :: r => some (pc + 3, ls, r, h)
    | _ => none
  | .ifnonnull off => match st with
    | .null :: r => some (pc + 3, ls, r, h)
    | .ref _ :: r => some (rx_to pc off, ls, r, h)
    | _ => none
  | .goto off => some (rx_to pc off, ls, st, h)
  | .tableswitch d lo hi os => match st with
    | .int x :: r => some (if x.toInt < lo ∨ hi < x.toInt then rx_to pc d else rx_to pc (os.toList.getD (x.toInt - lo).toNat d), ls, r, h)
    | _ => none
  | .lookupswitch d ps => match st with
    | .int x :: r => some (rx_to pc (Op.lookupswitch.offset ps.toList d x.toInt), ls, r, h)
    | _ => none
  | .getfield e => match st with
    | .ref i :: r => bif rx_is h i (e / 64) (e % 64) then
        some (pc + 3, ls, (match rx_kd (rx_ty (e / 64) (e % 64)) with
          | 1 => .long (h.2.2.1 i (e % 64))
          | 2 => va_rf (h.2.2.2 i (e % 64))
          | _ => .int (h.2.1 i (e % 64))) :: r, h) else none
    | _ => none
  | .putfield e => match st with
    | v :: .ref i :: r => bif rx_is h i (e / 64) (e % 64) then
        (match rx_kd (rx_ty (e / 64) (e % 64)), v with
          | 0, .int x => some (pc + 3, ls, r, rx_si h i (e % 64) x)
          | 1, .long x => some (pc + 3, ls, r, rx_sl h i (e % 64) x)
          | 2, .ref x => some (pc + 3, ls, r, rx_sr h i (e % 64) (some x))
          | 2, .null => some (pc + 3, ls, r, rx_sr h i (e % 64) none)
          | 3, .int x => bif decide (x = 0 ∨ x = 1) then some (pc + 3, ls, r, rx_si h i (e % 64) x) else none
          | _, _ => none) else none
    | _ => none
  | .iaload => match st with
    | .int x :: .ref i :: r => bif Nat.beq (rx_kind h i) 14 && rx_in x (rx_len h i) then some (pc + 1, ls, .int (h.2.1 i x.toNatClampNeg) :: r, h) else none
    | _ => none
  | .baload => match st with
    | .int x :: .ref i :: r => bif (Nat.beq (rx_kind h i) 13 || Nat.beq (rx_kind h i) 16) && Nat.blt 0 i && rx_in x (rx_len h i) then some (pc + 1, ls, .int (h.2.1 i x.toNatClampNeg) :: r, h) else none
    | _ => none
  | .laload => match st with
    | .int x :: .ref i :: r => bif Nat.beq (rx_kind h i) 15 && Nat.blt 0 i && rx_in x (rx_len h i) then some (pc + 1, ls, .long (h.2.2.1 i x.toNatClampNeg) :: r, h) else none
    | _ => none
  | .aaload => match st with
    | .int x :: .ref i :: r => bif (Nat.beq (rx_kind h i) 17 || Nat.beq (rx_kind h i) 18) && Nat.blt 0 i && rx_in x (rx_len h i) then some (pc + 1, ls, va_rf (h.2.2.2 i x.toNatClampNeg) :: r, h) else none
    | _ => none
  | .iastore => match st with
    | .int v :: .int x :: .ref i :: r => bif Nat.beq (rx_kind h i) 14 && Nat.blt 0 i && rx_in x (rx_len h i) then some (pc + 1, ls, r, rx_si h i x.toNatClampNeg v) else none
    | _ => none
  | .bastore => match st with
    | .int v :: .int x :: .ref i :: r => bif Nat.blt 0 i && rx_in x (rx_len h i) then
        (bif Nat.beq (rx_kind h i) 13 then some (pc + 1, ls, r, rx_si h i x.toNatClampNeg (vp_nar .byte v))
         else bif Nat.beq (rx_kind h i) 16 then some (pc + 1, ls, r, rx_si h i x.toNatClampNeg (vp_nar .boolean v)) else none) else none
    | _ => none
  | .lastore => match st with
    | .long v :: .int x :: .ref i :: r => bif Nat.beq (rx_kind h i) 15 && Nat.blt 0 i && rx_in x (rx_len h i) then some (pc + 1, ls, r, rx_sl h i x.toNatClampNeg v) else none
    | _ => none
  | .aastore => match st with
    | .ref v :: .int x :: .ref i :: r => bif ((Nat.beq (rx_kind h i) 17 && Nat.beq (rx_kind h v) 0) || (Nat.beq (rx_kind h i) 18 && Nat.beq (rx_kind h v) 7)) && Nat.blt 0 i && Nat.blt 0 v && rx_in x (rx_len h i) then some (pc + 1, ls, r, rx_sr h i x.toNatClampNeg (some v)) else none
    | .null :: .int x :: .ref i :: r => bif (Nat.beq (rx_kind h i) 17 || Nat.beq (rx_kind h i) 18) && Nat.blt 0 i && rx_in x (rx_len h i) then some (pc + 1, ls, r, rx_sr h i x.toNatClampNeg none) else none
    | _ => none
  | .arraylength => match st with
    | .ref i :: r => bif Nat.blt 12 (rx_kind h i) && Nat.blt (rx_kind h i) 19 then some (pc + 1, ls, .int (Int32.ofNat (rx_len h i)) :: r, h) else none
    | _ => none
  | .new c => some (pc + 3, ls, .ref h.1.length :: st, rx_nw h c (rx_tys.getD c []).length)
  | .newarray a => match st with
    | .int x :: r => bif decide (¬ x < 0) && Nat.ble x.toNatClampNeg 1000000 then some (pc + 2, ls, .ref h.1.length :: r, rx_nw h (rx_atag a) x.toNatClampNeg) else none
    | _ => none
  | .anewarray t => match st with
    | .int x :: r => bif decide (¬ x < 0) && Nat.ble x.toNatClampNeg 1000000 then some (pc + 3, ls, .ref h.1.length :: r, rx_nw h t x.toNatClampNeg) else none
    | _ => none
  | _ => none
def rx_find : List (Nat × Instr) → Nat → Option Instr
  | [], _ => none
  | (q, i) :: t, pc => bif Nat.beq q pc then some i else rx_find t pc
def rx_P (m pc : Nat) : Option Instr := rx_find (rx_cs.getD m []) pc
def rx_sl2 (as : List Value) : List Value := as.flatMap (fun v => if v.category = 2 then [v, rx_no] else [v])
def rx_args (maxL : Nat) (as : List Value) : List Value := rx_sl2 as ++ List.replicate (maxL - (rx_sl2 as).length) rx_no
def rx_cat (st : List Value) : Nat := (st.map fun v => v.category).sum
/-- whether a call may be made: the stack below, the receiver -/
def rx_may (j : Nat) (as rest : List Value) (h : rx_H) : Bool := Nat.ble (rx_cat rest) 8 && Nat.ble (rx_sl2 as).length (rx_m j).2.2.1 && (match (rx_m j).2.2.2.2.2.1, as with
  | 0, _ => true
  | _, .ref i :: _ => Nat.beq (rx_kind h i) (rx_m j).2.2.2.2.2.2.1 && Nat.blt 0 i
  | _, _ => false)
def rx_na (j : Nat) : Nat := bif Nat.beq (rx_m j).2.2.2.2.2.1 0 then (rx_m j).2.2.2.2.1 else (rx_m j).2.2.2.2.1 + 1
/-- what an answer of a type must be -/
def rx_rt (r : Option FieldType) (v : Int32) : Bool := match r with
  | some .int => true
  | some .boolean => decide (v = 0 ∨ v = 1)
  | _ => false
def rx_cpy (h : rx_H) (s d sp dp n : Nat) : rx_H :=
  bif Nat.beq (rx_kind h s) 15 then (h.1, h.2.1, rx_row h.2.2.1 d (va_cpy (h.2.2.1 s) (h.2.2.1 d) sp dp n), h.2.2.2)
  else (h.1, rx_row h.2.1 d (va_cpy (h.2.1 s) (h.2.1 d) sp dp n), h.2.2.1, h.2.2.2)
/-- whether System.arraycopy goes through, between arrays of one kind of numbers -/
def rx_cpo (h : rx_H) (s d : Nat) (sp dp n : Int32) : Bool :=
  Nat.blt 0 s && Nat.blt 0 d && Nat.beq (rx_kind h s) (rx_kind h d) && Nat.ble 13 (rx_kind h s) && Nat.ble (rx_kind h s) 16
  && decide (¬ sp < 0) && decide (¬ dp < 0) && decide (¬ n < 0) && Nat.ble (sp.toNatClampNeg + n.toNatClampNeg) (rx_len h s) && Nat.ble (dp.toNatClampNeg + n.toNatClampNeg) (rx_len h d)
  && (Nat.beq (rx_kind h s) 15 || Nat.beq (rx_kind h s) 14 || (List.range n.toNatClampNeg).all (fun i => fits (bif Nat.beq (rx_kind h s) 13 then .byte else .boolean) (.int (h.2.1 s (sp.toNatClampNeg + i)))))
def rx_rk (r : Option FieldType) : Nat := match r with
  | none => 0
  | some .long => 2
  | some (.object _) => 3
  | some _ => 1
/-- a call of method j, whose run is given by 'call' -/
def rx_cl (call : Nat → List Value → rx_H → Option (Option Value × rx_H)) (j pc : Nat) (ls st : List Value) (h : rx_H) : Option ((Option Value × rx_H) ⊕ rx_C) :=
  bif Nat.ble (rx_na j) st.length && rx_may j (st.take (rx_na j)).reverse (st.drop (rx_na j)) h then
    (match call j (st.take (rx_na j)).reverse h with
      | none => none
      | some q => some (.inr (pc + 3, ls, q.1.toList ++ st.drop (rx_na j), q.2))) else none
/-- one step: the method's end, or where it goes on -/
def rx_one (call : Nat → List Value → rx_H → Option (Option Value × rx_H)) (m pc : Nat) (ls st : List Value) (h : rx_H) : Option ((Option Value × rx_H) ⊕ rx_C) := match rx_P m pc with
  | none => none
  | some i => match i with
    | .ireturn => match st with
      | [.int v] => bif rx_rt (rx_m m).2.2.2.1 v then some (.inl (some (.int v), h)) else none
      | _ => none
    | .lreturn => match st with
      | [.long v] => bif Nat.beq (rx_rk (rx_m m).2.2.2.1) 2 then some (.inl (some (.long v), h)) else none
      | _ => none
    | .areturn => match st with
      | [.ref v] => bif Nat.beq (rx_rk (rx_m m).2.2.2.1) 3 then some (.inl (some (.ref v), h)) else none
      | [.null] => bif Nat.beq (rx_rk (rx_m m).2.2.2.1) 3 then some (.inl (some .null, h)) else none
      | _ => none
    | .return_ => match st with
      | [] => bif Nat.beq (rx_rk (rx_m m).2.2.2.1) 0 then some (.inl (none, h)) else none
      | _ => none
    | .invokevirtual j => rx_cl call j pc ls st h
    | .invokespecial j => match j with
      | 0 => match st with
        | .ref _ :: rest => bif Nat.ble (rx_cat rest) 8 then some (.inr (pc + 3, ls, rest, h)) else none
        | _ => none
      | j' + 1 => rx_cl call (j' + 1) pc ls st h
    | .invokestatic j => match j with
      | 0 => match st with
        | .int k :: .int dp :: .ref d :: .int sp :: .ref s :: rest => bif Nat.ble (rx_cat rest) 8 && rx_cpo h s d sp dp k then some (.inr (pc + 3, ls, rest, rx_cpy h s d sp.toNatClampNeg dp.toNatClampNeg k.toNatClampNeg)) else none
        | _ => none
      | 2001 => match st with
        | .int y :: .int x :: rest => bif Nat.ble (rx_cat rest) 8 then some (.inr (pc + 3, ls, .int (if x < y then y else x) :: rest, h)) else none
        | _ => none
      | 2002 => match st with
        | .int y :: .int x :: rest => bif Nat.ble (rx_cat rest) 8 then some (.inr (pc + 3, ls, .int (if y < x then y else x) :: rest, h)) else none
        | _ => none
      | j' + 1 => bif Nat.blt (j' + 1) 2000 then rx_cl call ((j' + 1) % 1000) pc ls st h else none
    | i => match rx_ex i pc ls st h with
      | none => none
      | some c => some (.inr c)
/-- the run: method, place, locals, stack, heap; its answer and the heap behind it -/
def rx_run : Nat → Nat → Nat → List Value → List Value → rx_H → Option (Option Value × rx_H)
  | 0, _, _, _, _, _ => none
  | n + 1, m, pc, ls, st, h => match rx_one (fun j as g => rx_run n j 0 (rx_args (rx_m j).2.2.1 as) [] g) m pc ls st h with
    | none => none
    | some (.inl r) => some r
    | some (.inr c) => rx_run n m c.1 c.2.1 c.2.2.1 c.2.2.2
