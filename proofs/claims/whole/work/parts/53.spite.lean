section S53
theorem small_bits {x : Int32} {n : Nat} (hn : n ≤ 31) (h : ∀ i, n ≤ i → bt x i = false) : ∃ k : Nat, k < 2 ^ n ∧ x = e_n (k : Nat) := by
  refine ⟨x.toBitVec.toNat, Nat.lt_pow_two_of_testBit _ (fun i hi => h i hi), ?_⟩
  rw [← e_n_of]
  apply Int32.toBitVec.inj
  show x.toBitVec = BitVec.ofNat 32 x.toBitVec.toNat
  rw [BitVec.ofNat_toNat, BitVec.setWidth_eq]
theorem v329_I (I : Nat → Nat → Int32) : v329 I = v329 (fun _ _ => 0) := by
  unfold v329; rfl
theorem v329_I (I : Nat → Nat → Int32) : v329 I = v329 (fun _ _ => 0) := by
  unfold v329; rfl
theorem v329_bc {I : Nat → Nat → Int32} {x : Int32} (h : ∀ i, 9 ≤ i → bt x i = false) : v329 I x = bc x := by
  obtain ⟨k, hk, rfl⟩ := small_bits (n := 9) (by decide) h
  have : ∀ k : Fin 512, v329 (fun _ _ => 0) (e_n (k.val : Nat)) = bc (e_n (k.val : Nat)) := sorry
  rw [v329_I]
  rw [v329_I]
  exact this ⟨k, hk⟩
theorem lm_msk (B : e_B) (M : Nat → Int32) : lm B M = msk (bPe B) (fun p => !decide (M (4 + p) = e_n (-1))) := by
  unfold lm msk
  apply itr_congr
  intro i s hi
  by_cases h : M (4 + i) = e_n (-1) <;> simp [h]
theorem bt_lm {B : e_B} (hp : bPe B ≤ 9) (M : Nat → Int32) (i : Nat) : bt (lm B M) i = (decide (i < bPe B) && !decide (M (4 + i) = e_n (-1))) := by
  rw [lm_msk, bt_msk (by omega)]
theorem bc_cnt (x : Int32) : bc x = e_n (cnt 9 (bt x) : Nat) := by
  have := itr_inv (fun k q => q = e_n (cnt k (bt x) : Nat)) (n := 9) (f := fun i q => q + (e_shr x (e_n (i : Nat)) &&& e_n 1)) (s := e_n 0) rfl (by
    intro k s hk ih
    rw [shr_val x (by omega), ih, cnt_succ]
    unfold tf
    cases bt x k
    · simp [e_n_add]
    · simp [e_n_add])
  exact this
end S53
