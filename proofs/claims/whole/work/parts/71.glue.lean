section S71
theorem hkS_none (sn : Int32) (k : Nat) (hk : k < 1000) (S : e_T) : hkS (e_n (-1)) sn (e_n (-1)) k S = S := by
  unfold hkS
  have h : ¬ e_n (-1) = e_n (k : Nat) := fun h => e_n_neg1 (by omega) h.symm
  rw [if_neg (fun q => h q.1), if_neg h]
theorem rn_mo (B : e_B) (sk sn : Int32) : ∀ (n k : Nat) (S : e_T), k + n < 1000 → itr (rn1 B sk (e_n (-1)) sn (e_n (-1))) n k S = itr (moS B sk) n k S := by
  intro n
  induction n with
  | zero => intro k S _; rfl
  | succ n ih =>
    intro k S hk
    show itr _ n (k + 1) (rn1 B sk (e_n (-1)) sn (e_n (-1)) k S) = itr _ n (k + 1) (moS B sk k S)
    rw [show rn1 B sk (e_n (-1)) sn (e_n (-1)) k S = moS B sk k S from by unfold rn1; rw [hkS_none sn k (by omega)]]
    exact ih (k + 1) _ (by omega)
end S71
