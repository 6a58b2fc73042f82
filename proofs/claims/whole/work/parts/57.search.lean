/-! the class searches -/
section S57
theorem e_n_div {a b : Int} (h1 : 0 ≤ a) (h2 : a < 2147483648) (h3 : 0 < b) (h4 : b < 2147483648) : e_n a / e_n b = e_n (a / b) := by
  have := Int32.ofInt_tdiv (a := a) (b := b) (by rw [Int32.toInt_minValue]; omega) (by rw [show Int32.maxValue.toInt = 2147483647 from rfl]; omega) (by rw [Int32.toInt_minValue]; omega) (by rw [show Int32.maxValue.toInt = 2147483647 from rfl]; omega)
  rw [Int.tdiv_eq_ediv_of_nonneg h1] at this
  exact this.symm
theorem sale_n {B : e_B} {M : Nat → Int32} {p : Nat} (wb : WB B) (wm : WM B M) (hp : p < bPe B) : ∃ v : Nat, v ≤ 99 ∧ saleS B M p = e_n (v : Nat) := by
  obtain ⟨g, hg, hgo⟩ := (wb.2.2.2.2.2.2.2.2.1 p hp).1
  have hs := wm.2.2.2.2.2.2
  have wb4 : bPe B ≤ 9 := wb.2.2.2.1
  have hc := cnt_le (bPe B) (bt (M 1))
  unfold saleS
  rw [hgo, hs]
  generalize cnt (bPe B) (bt (M 1)) = c at hc ⊢
  have h : ∃ s : Nat, s ≤ 9 ∧ (if e_n 9 < e_n (c : Nat) then e_n 9 else e_n (c : Nat)) = e_n (s : Nat) := by
    refine ⟨c, by omega, ?_⟩
    rw [if_neg (by rw [show (e_n 9) = e_n ((9 : Nat) : Nat) from rfl, e_n_ltN (by omega) (by omega)]; omega)]
  obtain ⟨s, hs9, h⟩ := h
  rw [h, e_n_sub, e_n_mul]
  have h0 : 0 ≤ (g : Int) * (10 - s) := Int.mul_nonneg (by omega) (by omega)
  have h1 : (g : Int) * (10 - s) ≤ 99 * 10 := Int.mul_le_mul (by omega) (by omega) (by omega) (by omega)
  rw [e_n_div h0 (by omega) (by omega) (by omega)]
  refine ⟨((g : Int) * (10 - s) / 10).toNat, by omega, ?_⟩
  congr 1
  omega
theorem e_min_9 (x : Int32) : e_min x (e_n 9) = if e_n 9 < x then e_n 9 else x := rfl
theorem debt_n {a v : Nat} (ha : a ≤ 999) (hv : v ≤ 99) : e_max (e_n 0) (e_n (a : Nat) - e_n (v : Nat)) = if e_n (a : Nat) < e_n (v : Nat) then e_n 0 else e_n (a : Nat) - e_n (v : Nat) := by
  unfold e_max
  rw [e_n_sub]
  have h1 := e_n_lt (a := 0) (b := (a : Int) - v) (by omega) (by omega) (by omega) (by omega)
  have h2 := e_n_ltN (a := a) (b := v) (by omega) (by omega)
  by_cases h : a < v
  · rw [if_neg (by rw [h1]; omega), if_pos (by rw [h2]; exact h)]
  · by_cases h3 : a = v
    · subst h3
      rw [if_neg (by rw [h1]; omega), if_neg (by rw [h2]; omega), show (a : Int) - a = 0 by omega]
    · rw [if_pos (by rw [h1]; omega), if_neg (by rw [h2]; omega)]
theorem wm_die {B : e_B} {S : e_T} {p : Nat} (wb : WB B) (wm : WM B (S 0)) (hp : p < bPe B) (hd : bt (S 0 1) p = false) : WM B (dieS B p S 0) ∧ dieS B p S 0 0 = S 0 0 ∧ (∀ j, 3 ≤ j → j < 31 → dieS B p S 0 j = S 0 j) := by
  have wb4 : bPe B ≤ 9 := wb.2.2.2.1
  obtain ⟨v, hv, hsale⟩ := sale_n wb wm hp
  obtain ⟨⟨t, ht, h0, h1⟩, h2, h3, h4, h5, h6, h7⟩ := wm
  have key : ∀ j, dieS B p S 0 j = if j = 1 then S 0 1 ||| e_shl (e_n 1) (e_n (p : Nat)) else if j = 2 then S 0 2 + e_n 1 else if ¬ S 0 (13 + p) < 0 ∧ j = 31 + (S 0 (13 + p)).toNatClampNeg then (if S 0 j < saleS B (S 0) p then e_n 0 else S 0 j - saleS B (S 0) p) else S 0 j := by
    intro j
    unfold dieS
    by_cases hb : S 0 (13 + p) < 0
    · simp (disch := decide) only [hb, if_true, e_u_na, e_u_at, not_true_eq_false, false_and, if_false]
      by_cases j1 : j = 1
      · subst j1; simp
      · by_cases j2 : j = 2
        · subst j2; simp
        · simp [j1, j2]
    · simp (disch := decide) only [hb, if_false, e_u_na, e_u_at, not_false_eq_true, true_and]
      by_cases j3 : j = 31 + (S 0 (13 + p)).toNatClampNeg
      · have n1 : ¬ j = 1 := by omega
        have n2 : ¬ j = 2 := by omega
        rw [if_pos j3, if_neg n1, if_neg n2, if_pos j3, ← j3]
      · by_cases j1 : j = 1
        · subst j1; simp; omega
        · by_cases j2 : j = 2
          · subst j2; simp; omega
          · simp [j1, j2, j3]
  refine ⟨⟨⟨t, ht, ?_, ?_⟩, ?_, ?_, ?_, ?_, ?_, ?_⟩, ?_, ?_⟩
  · rw [key, if_neg (by omega), if_neg (by omega), if_neg (by omega)]; exact h0
  · intro q hq
    rw [key, if_neg (by omega), if_neg (by omega), if_neg (by omega)]; exact h1 q hq
  · intro q hq
    rw [key, if_neg (by omega), if_neg (by omega), if_neg (by omega)]; exact h2 q hq
  · intro q hq
    rw [key, if_neg (by omega), if_neg (by omega), if_neg (by omega)]; exact h3 q hq
  · rw [key, if_neg (by omega), if_neg (by omega), if_neg (by omega)]; exact h4
  · intro m hm
    obtain ⟨a, ha, hdm⟩ := h5 m hm
    rw [key, if_neg (by omega), if_neg (by omega), hsale, hdm]
    split
    · rw [← debt_n ha hv]
      unfold e_max
      rw [e_n_sub]
      have := e_n_lt (a := 0) (b := (a : Int) - v) (by omega) (by omega) (by omega) (by omega)
      split
      · rename_i hq
        rw [this] at hq
        exact ⟨a - v, by omega, by congr 1; omega⟩
      · exact ⟨0, by omega, rfl⟩
    · exact ⟨a, ha, rfl⟩
  · intro i hi
    rw [key, if_pos rfl, bt_or, bt_bit (by omega), h6 i hi]
    simp; omega
  · rw [key, if_neg (by omega), if_pos rfl, h7, e_n_succ]
    congr 2
    symm
    refine cnt_up hp ?_ hd ?_
    · intro i hi hip
      rw [key, if_pos rfl, bt_or, bt_bit (by omega)]; simp [hip]
    · rw [key, if_pos rfl, bt_or, bt_bit (by omega)]; simp
  · rw [key, if_neg (by omega), if_neg (by omega), if_neg (by omega)]
  · intro j j3 j31
    rw [key, if_neg (by omega), if_neg (by omega), if_neg (by omega)]
end S57
