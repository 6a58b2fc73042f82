section PX
/-- n instructions, but not past a place of hd -/
def e_gs (hd : List Nat) (E : Nat → List Value → e_S → e_X) (m : Nat) (K : e_K) : Nat → e_K
  | 0 => K
  | n + 1 => fun pc ls st σ => bif hd.any (fun h => Nat.beq h pc) then K pc ls st σ else e_stp E m (e_gs hd E m K n) pc ls st σ
theorem e_L_gs (hd : List Nat) (d m : Nat) : ∀ n, e_gs hd (e_E d) m (e_L d m) n = e_L d m
  | 0 => rfl
  | n + 1 => by
    funext pc ls st σ
    show (bif hd.any (fun h => Nat.beq h pc) then e_L d m pc ls st σ else e_stp (e_E d) m (e_gs hd (e_E d) m (e_L d m) n) pc ls st σ) = _
    rw [e_L_gs hd d m n, ← e_L_stp]
    cases hd.any (fun h => Nat.beq h pc) <;> rfl
/-- from a place on, up to the places of hd -/
theorem e_L_to (hd : List Nat) {d m pc : Nat} {ls st : List Value} {σ : e_S} {x : e_X} (n : Nat) (h : e_stp (e_E d) m (e_gs hd (e_E d) m (e_L d m) n) pc ls st σ = x) : e_L d m pc ls st σ = x := by
  rw [e_L_stp, ← h, e_L_gs]
end PX
