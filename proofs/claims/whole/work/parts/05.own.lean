section E2
def e_own (m : Nat) : Nat := (e_inf m).1
def e_rk (m : Nat) : Nat := (e_inf m).2.1
def e_mL (m : Nat) : Nat := (e_inf m).2.2
def e_hf : List (Nat × Nat × Nat × Nat) → Nat → Nat → Option Nat
  | [], _, _ => none
  | (a, b, h, x) :: r, pc, e => bif (Nat.ble a pc && Nat.blt pc b && Nat.beq x e) then some h else e_hf r pc e
end E2
