/-- which links Object.<init> and System.arraycopy have -/
def rx_sp0 (j : Nat) (q : Nat × Instr) : Bool := match q.2 with
  | .invokespecial 0 => (match decode (rx_m j).2.1 q.1 with
    | .ok (.invokespecial x, _) => decide (((rx_m j).2.2.2.2.2.2.1, x) ∈ rx_oil)
    | _ => false)
  | .invokestatic 0 => (match decode (rx_m j).2.1 q.1 with
    | .ok (.invokestatic x, _) => decide (((rx_m j).2.2.2.2.2.2.1, x) ∈ rx_acll)
    | _ => false)
  | _ => true
set_option maxRecDepth 100000 in
theorem rx_sp0_ok : (List.range 246).all (fun j => (rx_cs.getD j []).all (rx_sp0 j)) = true := by decide +kernel
