/-- a method by its number -/
def rx_m (j : Nat) : rx_MI := rx_ms.getD j (⟨"", "", ""⟩, ⟨#[]⟩, 0, none, 0, 0, 0, 0, 0)
/-! The code lists are what the class files decode to, their links are words of the tables. -/
def rx_tg (pc : Nat) (i : Instr) : Bool := match i with
  | .ifCond _ o => decide (0 ≤ (pc : Int) + o)
  | .if_icmp _ o => decide (0 ≤ (pc : Int) + o)
  | .if_acmp _ o => decide (0 ≤ (pc : Int) + o)
  | .ifnull o => decide (0 ≤ (pc : Int) + o)
  | .ifnonnull o => decide (0 ≤ (pc : Int) + o)
  | .goto o => decide (0 ≤ (pc : Int) + o)
  | .tableswitch d lo hi os => decide (0 ≤ (pc : Int) + d) && os.toList.all (fun o => decide (0 ≤ (pc : Int) + o)) && decide (hi - lo < (os.size : Int))
  | .lookupswitch d ps => decide (0 ≤ (pc : Int) + d) && ps.toList.all (fun q => decide (0 ≤ (pc : Int) + q.2)) && (ps.toList.zip (ps.toList.drop 1)).all (fun (a, next) => a.1 < next.1)
  | _ => true
def rx_ln (i : Instr) : Nat := match i with
  | .iload _ => 2
  | .lload _ => 2
  | .aload _ => 2
  | .istore _ => 2
  | .lstore _ => 2
  | .astore _ => 2
  | .bipush _ => 2
  | .ldc _ => 2
  | .newarray _ => 2
  | .sipush _ => 3
  | .ldc_w _ => 3
  | .ldc2_w _ => 3
  | .iinc _ _ => 3
  | .ifCond _ _ => 3
  | .if_icmp _ _ => 3
  | .if_acmp _ _ => 3
  | .ifnull _ => 3
  | .ifnonnull _ => 3
  | .goto _ => 3
  | .getfield _ => 3
  | .putfield _ => 3
  | .invokevirtual _ => 3
  | .invokespecial _ => 3
  | .invokestatic _ => 3
  | .new _ => 3
  | .anewarray _ => 3
  | _ => 1
def rx_sw (i : Instr) : Bool := match i with
  | .tableswitch _ _ _ _ => true
  | .lookupswitch _ _ => true
  | _ => false
/-- a constructor's class, an instance method's: what its link needs besides is looked at by the method's own row -/
def rx_lk (ct : Nat) (i : Instr) (a : Instr) : Bool := match a with
  | .getfield e => match i with
    | .getfield x => decide ((ct, x, e) ∈ rx_fl)
    | _ => false
  | .putfield e => match i with
    | .putfield x => decide ((ct, x, e) ∈ rx_fl)
    | _ => false
  | .invokevirtual j => match i with
    | .invokevirtual x => decide ((ct, x, j) ∈ rx_kml) && Nat.beq (rx_m j).2.2.2.2.2.1 1
    | _ => false
  | .invokespecial j => match i with
    | .invokespecial x => decide ((ct, x, j) ∈ rx_kml) && (Nat.beq j 0 || Nat.beq (rx_m j).2.2.2.2.2.1 2)
    | _ => false
  | .invokestatic j => match i with
    | .invokestatic x => bif Nat.ble 2000 j then decide ((ct, x, j) ∈ rx_mml) && Nat.ble j 2002 else bif Nat.blt j 1000 then decide ((ct, x, j) ∈ rx_kml) && (Nat.beq j 0 || Nat.beq (rx_m j).2.2.2.2.2.1 0) else decide ((ct, x, j) ∈ rx_nml) && Nat.beq (rx_m (j % 1000)).2.2.2.2.2.1 0
    | _ => false
  | .new c => match i with
    | .new x => decide ((ct, x, c) ∈ rx_ncl)
    | _ => false
  | .anewarray t => match i with
    | .anewarray x => decide ((ct, x, t) ∈ rx_acl)
    | _ => false
  | .ldc v => match i with
    | .ldc x => decide ((ct, x, v) ∈ rx_icl)
    | _ => false
  | .ldc_w v => match i with
    | .ldc_w x => decide ((ct, x, v) ∈ rx_icl)
    | _ => false
  | .ldc2_w v => match i with
    | .ldc2_w x => decide ((ct, x, v) ∈ rx_jcl)
    | _ => false
  | a => decide (i = a)
def rx_chk (ct : Nat) (cc : ByteArray) (q : Nat × Instr) : Bool := match decode cc q.1 with
  | .ok (i, n) => rx_lk ct i q.2 && (rx_sw q.2 || Nat.beq n (rx_ln q.2)) && rx_tg q.1 q.2
  | .error _ => false
/-- the calls of a method leave it room -/
def rx_fit (m : Nat) (q : Nat × Instr) : Bool := match q.2 with
  | .invokevirtual j => Nat.ble ((rx_m j).2.2.2.2.2.2.2.1 + 1) (rx_m m).2.2.2.2.2.2.2.1 && Nat.ble (8 + ((rx_m j).2.2.1 + 11) + (rx_m j).2.2.2.2.2.2.2.2) (rx_m m).2.2.2.2.2.2.2.2 && Nat.blt 0 j && Nat.blt j 246
  | .invokespecial j => bif Nat.beq j 0 then Nat.ble 1 (rx_m m).2.2.2.2.2.2.2.1 && Nat.ble 20 (rx_m m).2.2.2.2.2.2.2.2
      else Nat.ble ((rx_m j).2.2.2.2.2.2.2.1 + 1) (rx_m m).2.2.2.2.2.2.2.1 && Nat.ble (8 + ((rx_m j).2.2.1 + 11) + (rx_m j).2.2.2.2.2.2.2.2) (rx_m m).2.2.2.2.2.2.2.2 && Nat.blt 0 j && Nat.blt j 246
  | .invokestatic j => bif Nat.beq j 0 then Nat.ble 1 (rx_m m).2.2.2.2.2.2.2.1 && Nat.ble 26 (rx_m m).2.2.2.2.2.2.2.2
      else bif Nat.ble 2000 j then Nat.ble 1 (rx_m m).2.2.2.2.2.2.2.1 && Nat.ble 21 (rx_m m).2.2.2.2.2.2.2.2
      else Nat.ble ((rx_m (j % 1000)).2.2.2.2.2.2.2.1 + 1) (rx_m m).2.2.2.2.2.2.2.1 && Nat.ble (8 + ((rx_m (j % 1000)).2.2.1 + 11) + (rx_m (j % 1000)).2.2.2.2.2.2.2.2) (rx_m m).2.2.2.2.2.2.2.2 && Nat.blt 0 (j % 1000) && Nat.blt (j % 1000) 246
  | _ => true
def rx_okj (j : Nat) : Bool := (rx_cs.getD j []).all (fun q => rx_chk (rx_m j).2.2.2.2.2.2.1 (rx_m j).2.1 q && rx_fit j q)
def rx_okq (j : Nat) (q : Nat × Instr) : Bool := rx_chk (rx_m j).2.2.2.2.2.2.1 (rx_m j).2.1 q && rx_fit j q
/-- a slice of a method's code -/
def rx_okp (j a n : Nat) : Bool := (((rx_cs.getD j []).drop a).take n).all (rx_okq j)
theorem rx_okp_end (j a : Nat) (h : (rx_cs.getD j []).length ≤ a) : ((rx_cs.getD j []).drop a).all (rx_okq j) = true := by
  rw [List.drop_eq_nil_of_le h]; rfl
theorem rx_okp_cons {j a n : Nat} (h : rx_okp j a n = true) (g : ((rx_cs.getD j []).drop (a + n)).all (rx_okq j) = true) : ((rx_cs.getD j []).drop a).all (rx_okq j) = true := by
  rw [← List.take_append_drop n ((rx_cs.getD j []).drop a), List.all_append, List.drop_drop]
  rw [Bool.and_eq_true]
  exact ⟨h, g⟩
theorem rx_okp_all {j : Nat} (h : ((rx_cs.getD j []).drop 0).all (rx_okq j) = true) : rx_okj j = true := h
