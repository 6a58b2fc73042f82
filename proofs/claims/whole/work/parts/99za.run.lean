/-! the constructors run -/
section S99za
def c0 : e_C := (0, [], [], [], (0, 0))
def cOk (ls st : List Value) : Bool := match ls, st with
  | [.ref a, .ref b, .ref c, .ref d, .int i, .null, .null], [] => Nat.beq a 1000000 && Nat.beq b 1 && Nat.beq c 489 && Nat.beq d 538 && decide (i = 0)
  | _, _ => false
def cK0 (v : Option Value) : c_K := fun pc ls st c => bif Nat.beq pc 23 && cOk ls st then some (.inl v, c) else none
def eK0 (v : Option Value) : e_K := fun pc ls st σ => bif Nat.beq pc 23 && cOk ls st then some (.inl v, σ) else none
def cgo (v : Option Value) : e_Y := c_go (c_E 700 20) 325 (cK0 v) 13 0 (e_ent [.ref 1000000] (e_mL 325)) [] c0
def getc (y : e_Y) : e_C := match y with
  | some (_, c) => c
  | none => c0
def chk1 (y : e_Y) : Bool := match y with
  | some (.inl none, c) => Nat.beq c.1 538 && Nat.beq c.2.2.2.2.1 538 && Nat.beq c.2.2.2.2.2 22320
  | _ => false
def chk2 (y : e_Y) : Bool := match y with
  | some (.inl (some (.int i)), _) => decide (i = 7)
  | _ => false
def cfin : e_C := getc (cgo none)
theorem run1 : chk1 (cgo none) = true := by decide +kernel
theorem run2 : chk2 (cgo (some (.int 7))) = true := by decide +kernel
end S99za
