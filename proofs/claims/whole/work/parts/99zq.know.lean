/-! codes and letters -/
section S99zq
theorem lg_eq (x y : Int64) : (lg_cmp x y = 0) ↔ x = y := by
  unfold lg_cmp
  by_cases h : x > y
  · rw [if_pos h]
    refine ⟨fun q => absurd q (by decide), fun q => ?_⟩
    rw [q] at h
    exact absurd h (Int64.lt_irrefl)
  · rw [if_neg h]
    by_cases h2 : x = y
    · rw [if_pos h2]; exact ⟨fun _ => h2, fun _ => rfl⟩
    · rw [if_neg h2]; exact ⟨fun q => absurd q (by decide), fun q => absurd q h2⟩
theorem lsh_n {p v : Nat} (hp : p < 2 ^ 26) (hv : v < 32) : e_lsh (Int64.ofNat p) (e_n 5) ||| Int64.ofNat v = Int64.ofNat (32 * p + v) := by
  have h5 : ((e_n 5).toInt64 &&& 63) = 5 := by decide
  have e1 : (Int64.ofNat p <<< (5 : Int64)).toBitVec = BitVec.ofNat 64 (32 * p) := by
    rw [Int64.toBitVec_shiftLeft]
    apply BitVec.eq_of_toNat_eq
    show ((BitVec.ofNat 64 p) <<< ((5 : Int64).toBitVec.smod 64)).toNat = _
    rw [show ((5 : Int64).toBitVec.smod 64) = (5 : BitVec 64) from by decide, BitVec.shiftLeft_eq', BitVec.toNat_shiftLeft, BitVec.toNat_ofNat, BitVec.toNat_ofNat, Nat.shiftLeft_eq]
    rw [show (5 : BitVec 64).toNat = 5 from rfl]
    omega
  unfold e_lsh
  rw [h5]
  apply Int64.toBitVec.inj
  rw [Int64.toBitVec_or, e1]
  apply BitVec.eq_of_toNat_eq
  show ((BitVec.ofNat 64 (32 * p)) ||| (BitVec.ofNat 64 v)).toNat = (BitVec.ofNat 64 (32 * p + v)).toNat
  rw [BitVec.toNat_or, BitVec.toNat_ofNat, BitVec.toNat_ofNat, BitVec.toNat_ofNat, Nat.mod_eq_of_lt (show 32 * p < 2 ^ 64 by omega), Nat.mod_eq_of_lt (show v < 2 ^ 64 by omega), Nat.mod_eq_of_lt (show 32 * p + v < 2 ^ 64 by omega)]
  exact (Nat.two_pow_add_eq_or_of_lt (i := 5) hv p).symm
end S99zq
