/-! codes and letters -/
section S99zq
theorem lg_eq (x y : Int64) : (lg_cmp x y = 0) ↔ x = y := by
  unfold lg_cmp
  by_cases h : x > y
  · rw [if_pos h]
    refine ⟨fun q => absurd q (by decide), fun q => ?_⟩
    rw [q] at h
    exact absurd h (Int64.lt_irrefl)
  · rw [if_neg h]
    by_cases h2 : x = y
    · rw [if_pos h2]; exact ⟨fun _ => h2, fun _ => rfl⟩
    · rw [if_neg h2]; exact ⟨fun q => absurd q (by decide), fun q => absurd q h2⟩
theorem lsh_n {p v : Nat} (hp : p < 2 ^ 26) (hv : v < 32) : e_lsh (Int64.ofNat p) (e_n 5) ||| Int64.ofNat v = Int64.ofNat (32 * p + v) := by
  have h5 : ((e_n 5).toInt64 &&& 63) = 5 := by decide
  have e1 : (Int64.ofNat p <<< (5 : Int64)).toBitVec = BitVec.ofNat 64 (32 * p) := by
    rw [Int64.toBitVec_shiftLeft]
    apply BitVec.eq_of_toNat_eq
    show ((BitVec.ofNat 64 p) <<< ((5 : Int64).toBitVec.smod 64)).toNat = _
    rw [show ((5 : Int64).toBitVec.smod 64) = (5 : BitVec 64) from by decide, BitVec.shiftLeft_eq', BitVec.toNat_shiftLeft, BitVec.toNat_ofNat, BitVec.toNat_ofNat, Nat.shiftLeft_eq]
    rw [show (5 : BitVec 64).toNat = 5 from rfl]
    omega
  unfold e_lsh
  rw [h5]
  apply Int64.toBitVec.inj
  rw [Int64.toBitVec_or, e1]
  apply BitVec.eq_of_toNat_eq
  show ((BitVec.ofNat 64 (32 * p)) ||| (BitVec.ofNat 64 v)).toNat = (BitVec.ofNat 64 (32 * p + v)).toNat
  rw [BitVec.toNat_or, BitVec.toNat_ofNat, BitVec.toNat_ofNat, BitVec.toNat_ofNat, Nat.mod_eq_of_lt (show 32 * p < 2 ^ 64 by omega), Nat.mod_eq_of_lt (show v < 2 ^ 64 by omega), Nat.mod_eq_of_lt (show 32 * p + v < 2 ^ 64 by omega)]
  exact (Nat.two_pow_add_eq_or_of_lt (i := 5) hv p).symm
theorem isL_n {c : Int32} (h : isL c = true) : ∃ k : Nat, k < 26 ∧ c = e_n ((97 + k : Nat) : Nat) := by
  obtain ⟨h1, h2⟩ := (isL_e c).mp h
  obtain ⟨a, a1, a2, rfl⟩ := e_n_toI c
  rw [e_n_lt (by omega) (by omega) (by omega) (by omega)] at h1 h2
  exact ⟨(a - 97).toNat, by omega, by congr 1; omega⟩
def lv (c : Int32) : Nat := c.toNatClampNeg - 96
theorem lv_all : ∀ k : Fin 26, (e_n ((97 + k.val : Nat) : Nat) - e_n 96).toInt64 = Int64.ofNat (lv (e_n ((97 + k.val : Nat) : Nat))) ∧ lv (e_n ((97 + k.val : Nat) : Nat)) = k.val + 1 := by decide +kernel
def pn (b : Nat → Int32) (s : Nat) : Nat → Nat
  | 0 => 0
  | j + 1 => 32 * pn b s j + lv (b (s + j))
theorem pk_n (b : Nat → Int32) (s : Nat) : ∀ j, j ≤ 6 → (∀ i, i < j → isL (b (s + i)) = true) → pk b s j = Int64.ofNat (pn b s j) ∧ pn b s j < 2 ^ (5 * j)
  | 0, _, _ => ⟨rfl, show 0 < 2 ^ (5 * 0) by decide⟩
  | j + 1, hj, hL => by
    obtain ⟨e1, e2⟩ := pk_n b s j (by omega) (fun i hi => hL i (by omega))
    obtain ⟨k, hk, hc⟩ := isL_n (hL j (by omega))
    obtain ⟨l1, l2⟩ := lv_all ⟨k, hk⟩
    have hlt : pn b s j < 2 ^ 26 := Nat.lt_of_lt_of_le e2 (Nat.pow_le_pow_right (by decide) (by omega))
    have hv : lv (b (s + j)) = k + 1 := by rw [hc]; exact l2
    have hpow : 2 ^ (5 * (j + 1)) = 32 * 2 ^ (5 * j) := by rw [show 5 * (j + 1) = 5 * j + 5 by omega, Nat.pow_add]; omega
    refine ⟨?_, ?_⟩
    · show (if j < 6 then e_lsh (pk b s j) (e_n 5) ||| (b (s + j) - e_n 96).toInt64 else pk b s j) = Int64.ofNat (32 * pn b s j + lv (b (s + j)))
      have hd : (b (s + j) - e_n 96).toInt64 = Int64.ofNat (lv (b (s + j))) := by rw [hc]; exact l1
      rw [if_pos (by omega), e1, hd]
      exact lsh_n hlt (by omega)
    · show 32 * pn b s j + lv (b (s + j)) < _
      rw [hpow]
      omega
end S99zq
