/-- an entry of the law's code -/
def okLE (e : En) : Bool := (match decode code e.1 with
  | .ok (i, n) => decide (i = e.2.1) && Nat.beq n e.2.2.1
  | _ => false) && (!Nat.beq e.2.2.2.2.1 13) && (match e.2.2.2.2.1 with
  | 15 => Nat.beq e.2.2.1 1 && ((Nat.beq e.2.2.2.2.2.1.1 2000 && Nat.beq e.2.2.2.2.2.1.2.1 2 && decide (e.2.1 = .iaload)) || (Nat.beq e.2.2.2.2.2.1.1 2001 && Nat.beq e.2.2.2.2.2.1.2.1 1 && decide (e.2.1 = .arraylength)))
  | _ => Nat.beq e.1 398 || okB 16 7 e)
theorem m_L_0 : ((m_L.drop 0).take 80).all okLE = true := by decide +kernel
theorem m_L_1 : ((m_L.drop 80).take 80).all okLE = true := by decide +kernel
theorem m_L_2 : ((m_L.drop 160).take 80).all okLE = true := by decide +kernel
