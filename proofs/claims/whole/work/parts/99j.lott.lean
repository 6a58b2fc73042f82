/-! the lottery: what it does -/
section S99j
def drS (s : Int32) : Int32 := s * 1103515245 + e_n 12345
def drV (s n : Int32) : Int32 := (e_shr s (e_n 16) &&& e_n 32767) - (e_shr s (e_n 16) &&& e_n 32767) / n * n
theorem drV_n (s : Int32) {n : Nat} (h0 : 0 < n) (hn : n < 1000) : ∃ k, k < n ∧ drV s (e_n (n : Nat)) = e_n (k : Nat) := by
  obtain ⟨v, hv, he⟩ := small_bits (x := e_shr s (e_n 16) &&& e_n 32767) (n := 15) (by decide) (fun i hi => by
    rw [bt_and]
    have : bt (e_n 32767) i = false := by
      have e : (e_n 32767).toBitVec = BitVec.ofNat 32 32767 := by decide
      unfold bt
      rw [e, BitVec.getLsbD_ofNat]
      have : (32767 : Nat).testBit i = false := Nat.testBit_lt_two_pow (Nat.lt_of_lt_of_le (show 32767 < 2 ^ 15 by decide) (Nat.pow_le_pow_right (by decide) hi))
      rw [this, Bool.and_false]
    rw [this, Bool.and_false])
  have hv' : v < 32768 := hv
  refine ⟨v % n, Nat.mod_lt _ h0, ?_⟩
  unfold drV
  rw [he, e_n_div (by omega) (by omega) (by omega) (by omega), e_n_mul, e_n_sub]
  congr 1
  have h1 := Int.emod_add_mul_ediv (v : Int) (n : Int)
  have h2 : ((v % n : Nat) : Int) = (v : Int) % (n : Int) := Int.natCast_emod v n
  rw [h2]
  have h3 := Int.mul_comm (n : Int) ((v : Int) / (n : Int))
  omega
def flM (M : Nat → Int32) : Nat → Int32 := fun j => if j = 0 then e_n 0 else if 4 ≤ j ∧ j < 13 then (if M j = e_n (-1) then e_n (-1) else e_n 0) else M j
theorem flM_o {M : Nat → Int32} {j : Nat} (h0 : j ≠ 0) (h : j < 4 ∨ 13 ≤ j) : flM M j = M j := by
  unfold flM; rw [if_neg h0, if_neg (by omega)]
theorem flM_l {M : Nat → Int32} {p : Nat} (h : p < 9) : flM M (4 + p) = e_n (-1) ↔ M (4 + p) = e_n (-1) := by
  unfold flM; rw [if_neg (by omega), if_pos (by omega)]
  constructor
  · intro q
    by_cases hM : M (4 + p) = e_n (-1)
    · exact hM
    · rw [if_neg hM] at q; exact absurd q (by decide)
  · intro q; rw [if_pos q]
theorem wm_fl {B : e_B} {M : Nat → Int32} (wb : WB B) (wm : WM B M) : WM B (flM M) := by
  have wb4 : bPe B ≤ 9 := wb.2.2.2.1
  obtain ⟨h1, h2, h3, h4, h5, h6, h7⟩ := wm
  refine ⟨⟨0, by decide, rfl, fun p hp => ?_⟩, fun p hp => ?_, fun p hp => ?_, ?_, fun m hm => ?_, ?_, ?_⟩
  · by_cases hM : M (4 + p) = e_n (-1)
    · exact Or.inl ((flM_l (by omega)).mpr hM)
    · right; refine ⟨0, Nat.le_refl _, ?_⟩
      unfold flM; rw [if_neg (by omega), if_pos (by omega), if_neg hM]; rfl
  · rw [flM_o (by omega) (by omega)]; exact h2 p hp
  · rw [flM_o (by omega) (by omega)]; exact h3 p hp
  · rw [flM_o (by omega) (by omega)]; exact h4
  · rw [flM_o (by omega) (by omega)]; exact h5 m hm
  · rw [flM_o (by omega) (by omega)]; exact h6
  · rw [flM_o (by omega) (by omega), flM_o (by omega) (by omega)]; exact h7
def begF (M : Nat → Int32) : e_T := fun c => if c = 0 then flM M else fun _ => e_n 0
/-- a name drawn -/
def nmS (B : e_B) (q : Int32 × e_T) : Int32 × e_T :=
  (drS (drS q.1), if q.2 0 (4 + (drV (drS (drS q.1)) (e_n (bPe B : Nat))).toNatClampNeg) = e_n (-1) ∧ q.2 0 3 = e_n 1 then entS q.2 (drV (drS (drS q.1)) (e_n (bPe B : Nat))).toNatClampNeg (drV (drS q.1) (e_n (bMa B : Nat))) else q.2)
abbrev huC (B : e_B) (M : Nat → Int32) (p : Nat) : Prop := ¬ M (4 + p) = e_n (-1) ∧ ¬ bt (M 1) p = true ∧ ¬ bR B 1 (M (22 + p)).toNatClampNeg = e_n (-1)
/-- one hunted -/
def fd1 (B : e_B) (p : Nat) (q : Int32 × e_T) : Int32 × e_T :=
  if huC B (q.2 0) p then (drS q.1, if drV (drS q.1) (e_n 10) < bR B 1 (q.2 0 (22 + p)).toNatClampNeg then dieS B p q.2 else q.2) else q
def daS (B : e_B) (q : Int32 × e_T) : Int32 × e_T := itr (fd1 B) (bPe B) 0 (nmS B q)
theorem die0 (B : e_B) (p : Nat) (S : e_T) (j : Nat) : dieS B p S 0 j = if j = 1 then S 0 1 ||| e_shl (e_n 1) (e_n (p : Nat)) else if j = 2 then S 0 2 + e_n 1 else if ¬ S 0 (13 + p) < 0 ∧ j = 31 + (S 0 (13 + p)).toNatClampNeg then (if S 0 j < saleS B (S 0) p then e_n 0 else S 0 j - saleS B (S 0) p) else S 0 j := by
  unfold dieS
  by_cases hb : S 0 (13 + p) < 0
  · simp (disch := decide) only [hb, if_true, e_u_na, e_u_at, not_true_eq_false, false_and, if_false]
    by_cases j1 : j = 1
    · subst j1; simp
    · by_cases j2 : j = 2
      · subst j2; simp
      · simp [j1, j2]
  · simp (disch := decide) only [hb, if_false, e_u_na, e_u_at, not_false_eq_true, true_and]
    by_cases j3 : j = 31 + (S 0 (13 + p)).toNatClampNeg
    · have n1 : ¬ j = 1 := by omega
      have n2 : ¬ j = 2 := by omega
      rw [if_pos j3, if_neg n1, if_neg n2, if_pos j3, ← j3]
    · by_cases j1 : j = 1
      · subst j1; simp; omega
      · by_cases j2 : j = 2
        · subst j2; simp; omega
        · simp [j1, j2, j3]
theorem die4 (B : e_B) (p : Nat) (S : e_T) : dieS B p S 4 1 = S 4 1 + tf (saleS B (S 0) p = 0) := by
  unfold dieS
  by_cases hb : S 0 (13 + p) < 0
  · simp (disch := decide) only [hb, if_true, e_u_na, e_u_at, if_true]
  · simp (disch := decide) only [hb, if_false, e_u_na, e_u_at, if_true]
theorem wm_nm {B : e_B} {q : Int32 × e_T} (wb : WB B) (hm : 0 < bMa B) (hp : 0 < bPe B) (wm : WM B (q.2 0)) : WM B ((nmS B q).2 0) := by
  have wb1 : bMa B ≤ 3 := wb.1
  have wb4 : bPe B ≤ 9 := wb.2.2.2.1
  unfold nmS
  dsimp only
  obtain ⟨k, hk, hke⟩ := drV_n (drS (drS q.1)) hp (by omega)
  obtain ⟨m, hmm, hme⟩ := drV_n (drS q.1) hm (by omega)
  split
  · rw [hke, e_n_nat' (by omega)]
    exact wm_ent wb4 wm hk (Or.inr ⟨m, hmm, hme⟩)
  · exact wm
theorem wm_fd {B : e_B} {p : Nat} {q : Int32 × e_T} (wb : WB B) (hp : p < bPe B) (wm : WM B (q.2 0)) : WM B ((fd1 B p q).2 0) := by
  unfold fd1
  split
  · rename_i h
    dsimp only
    split
    · exact (wm_die wb wm hp (by simpa using h.2.1)).1
    · exact wm
  · exact wm
end S99j
