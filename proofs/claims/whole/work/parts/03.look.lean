section E1
def e_look {α : Type} : List (Nat × α) → Nat → Option α
  | [], _ => none
  | (k, v) :: r, n => bif Nat.beq k n then some v else e_look r n
def e_n (n : Int) : Int32 := Int32.ofInt n
end E1
