/-! bargain -/
section S99h
theorem bt_fm {B : e_B} (wb : WB B) (m is : Int32) (p : Nat) : bt (fm B m is) p = true ↔ ∃ k, k < bTi B ∧ bR B 7 k = m ∧ bR B 9 k = is ∧ bR B 8 k = e_n (p : Nat) ∧ p < bPe B := by
  have wb4 : bPe B ≤ 9 := wb.2.2.2.1
  have ht := wb.2.2.2.2.2.2.2.2.2.2.1
  unfold fm
  refine itr_inv (fun k s => bt s p = true ↔ ∃ j, j < k ∧ bR B 7 j = m ∧ bR B 9 j = is ∧ bR B 8 j = e_n (p : Nat) ∧ p < bPe B) (n := bTi B) ?_ ?_
  · rw [bt_0]; simp
  · intro k s hk ih
    obtain ⟨-, ⟨q, hq, h8⟩, -⟩ := ht k hk
    rw [bt_or, Bool.or_eq_true, ih]
    constructor
    · rintro (⟨j, hj, h⟩ | h)
      · exact ⟨j, by omega, h⟩
      · by_cases h7 : bR B 7 k = m
        · by_cases h9 : bR B 9 k = is
          · rw [if_pos h7, if_pos h9, h8, bt_bit (by omega)] at h
            have hpq : p = q := by simpa using h
            exact ⟨k, by omega, h7, h9, by rw [h8, hpq], by omega⟩
          · rw [if_pos h7, if_neg h9, bt_0] at h; cases h
        · rw [if_neg h7, bt_0] at h; cases h
    · rintro ⟨j, hj, h7, h9, h88, hp⟩
      by_cases hjk : j = k
      · subst hjk
        right
        rw [if_pos h7, if_pos h9, h88, bt_bit (by omega)]
        simp
      · exact Or.inl ⟨j, by omega, h7, h9, h88, hp⟩
/-- the first friend off the list, from tie i on -/
def frS (B : e_B) (M : Nat → Int32) (m : Nat) : Nat → Nat → Int32
  | 0, _ => e_n (-1)
  | k + 1, i => if bR B 7 i = e_n (m : Nat) ∧ bR B 9 i = e_n 1 ∧ M (4 + (bR B 8 i).toNatClampNeg) = e_n (-1) then bR B 8 i else frS B M m k (i + 1)
theorem frS_n {B : e_B} (wb : WB B) (M : Nat → Int32) (m : Nat) : ∀ k i, i + k = bTi B → frS B M m k i = e_n (-1) ∨ ∃ p, p < bPe B ∧ frS B M m k i = e_n (p : Nat) := by
  intro k
  induction k with
  | zero => intro i _; exact Or.inl rfl
  | succ k ih =>
    intro i hi
    obtain ⟨-, ⟨q, hq, h8⟩, -⟩ := wb.2.2.2.2.2.2.2.2.2.2.1 i (by omega)
    unfold frS
    split
    · exact Or.inr ⟨q, hq, h8⟩
    · exact ih (i + 1) (by omega)
theorem c10h {d b m : Nat} {I : Nat → Nat → Int32} {z : e_Z} {B : e_B} {M : Nat → Int32} (hb : B2 b) (wb : WB B) (hB : BrC I b B) (hm : m < bMa B) : e_E (d + 3) 10 [.ref b, .int (lm B M), .int (e_n (m : Nat))] (mk I z) = some (.inl (some (.int (frS B M m (bTi B) 0))), mk I z) := by
  have wb1 : bMa B ≤ 3 := wb.1
  have wb4 : bPe B ≤ 9 := wb.2.2.2.1
  have wb6 : bTi B ≤ 12 := wb.2.2.2.2.2.1
  have loop : ∀ k i u, i + k = bTi B → e_L (d + 2) 10 2 [.ref b, .int (lm B M), .int (e_n (m : Nat)), .int (e_n (i : Nat)), u] [] (mk I z) = some (.inl (some (.int (frS B M m k i))), mk I z) := by
    intro k
    induction k with
    | zero =>
      intro i u hi
      rw [C10_2 hb, hB.2.2.2.2.2.1, if_neg (by rw [e_n_ltN (by omega) (by omega)]; omega)]; rfl
    | succ k ih =>
      intro i u hi
      have hib : i < bTi B := by omega
      obtain ⟨-, ⟨q, hq, h8⟩, -⟩ := wb.2.2.2.2.2.2.2.2.2.2.1 i hib
      obtain ⟨c1, c2⟩ := hB.2.2.2.2.2.2.2.2.2.2.1 i hib
      have cm := (hB.2.2.2.2.2.2.2.2.2.1 m hm).1
      rw [C10_2 hb, hB.2.2.2.2.2.1, if_pos (by rw [e_n_ltN (by omega) (by omega)]; omega), rd_N (r := b + 18) (by rw [lnb18 hb]; omega), rd_N (r := b + 19) (by rw [lnb19 hb]; omega), rd_N (r := b + 13) (by rw [lnb13 hb]; omega), c1, c2, cm, h8, e_n_succ]
      unfold frS
      by_cases h7 : bR B 7 i = e_n (m : Nat)
      · rw [if_pos h7]
        have hiff : bt (fm B (e_n (m : Nat)) (e_n 1)) q = true ↔ bR B 9 i = e_n 1 := by
          rw [bt_fm wb]
          constructor
          · rintro ⟨k', hk', g7, g9, g8, -⟩
            by_cases hki : k' = i
            · rw [← hki]; exact g9
            · exfalso
              have hu := wb.2.2.2.2.2.2.2.2.2.2.2.2.2.2.2.2
              rcases Nat.lt_or_gt_of_ne hki with h | h
              · exact hu i k' hib h ⟨by rw [h7, g7], by rw [h8, g8]⟩
              · exact hu k' i hk' h ⟨by rw [h7, g7], by rw [h8, g8]⟩
          · intro h9
            exact ⟨i, hib, h7, h9, h8, hq⟩
        by_cases h9 : bR B 9 i = e_n 1
        · rw [if_neg (fun h => by rw [and_bit _ (by omega), hiff.mpr h9] at h; cases h)]
          have hl : bt (lm B M) q = (decide (q < bPe B) && !decide (M (4 + q) = e_n (-1))) := bt_lm wb4 M q
          by_cases hM : M (4 + q) = e_n (-1)
          · rw [if_pos (by rw [and_bit _ (by omega), hl, hM]; simp), if_pos ⟨h7, h9, by rw [h8, e_n_nat' (by omega)]; exact hM⟩, h8]
          · rw [if_neg (fun h => by rw [and_bit _ (by omega), hl] at h; simp [hq, hM] at h), if_neg (fun h => hM (by have := h.2.2; rw [h8, e_n_nat' (by omega)] at this; exact this))]
            exact ih (i + 1) _ (by omega)
        · rw [if_pos (by rw [and_bit _ (by omega)]; cases hh : bt (fm B (e_n (m : Nat)) (e_n 1)) q with | true => exact absurd (hiff.mp hh) h9 | false => rfl), if_neg (fun h => h9 h.2.1)]
          exact ih (i + 1) _ (by omega)
      · rw [if_neg h7, if_neg (fun h => h7 h.1)]
        exact ih (i + 1) _ (by omega)
  exact e_E_ret (d := d + 2) ((C10_0 hb).trans (loop (bTi B) 0 .null (by omega)))
theorem c284h {d m : Nat} {K : Nat → Nat → Int32} {z : e_Z} {B : e_B} {M : Nat → Int32} (wb : WB B) (hB : RB K B) (hM : K 515 = M) : e_E (d + 1) 284 [.ref 489, .int (e_n (m : Nat))] (mk K z) = some (.inl (some (.int (frS B M m (bTi B) 0))), mk K z) := by
  have wb4 : bPe B ≤ 9 := wb.2.2.2.1
  have wb6 : bTi B ≤ 12 := wb.2.2.2.2.2.1
  obtain ⟨-, -, -, -, -, ht, -, -, -, -, hk, -⟩ := hB
  have loop : ∀ k i, i + k = bTi B → e_L d 284 2 [.ref 489, .int (e_n (m : Nat)), .int (e_n (i : Nat))] [] (mk K z) = some (.inl (some (.int (frS B M m k i))), mk K z) := by
    intro k
    induction k with
    | zero =>
      intro i hi
      have hn : ¬ e_n (i : Nat) < K 489 6 := by rw [ht, e_n_ltN (by omega) (by omega)]; omega
      rw [C284_2 (fun h => absurd h hn) (fun h => absurd h hn), if_neg hn]; rfl
    | succ k ih =>
      intro i hi
      have hib : i < bTi B := by omega
      obtain ⟨-, ⟨q, hq, h8⟩, -⟩ := wb.2.2.2.2.2.2.2.2.2.2.1 i hib
      obtain ⟨k7, k8, k9⟩ := hk i hib
      have hin : (e_n (i : Nat)).toNatClampNeg = i := e_n_nat' (by omega)
      have e4 : (e_n 4 + e_n (q : Nat)).toNatClampNeg = 4 + q := ix (a := 4) (by omega)
      rw [C284_2 (fun _ => InR_n (by omega) (by omega) (by omega)) (fun _ _ _ => by rw [hin, k8, h8]; exact ixI (a := 4) (by omega) (by decide)), if_pos (by rw [ht, e_n_ltN (by omega) (by omega)]; omega), hin, k7, k8, k9, h8, e4, hM, e_n_succ]
      unfold frS
      rw [h8, e_n_nat' (show q < 2147483648 by omega)]
      by_cases h7 : bR B 7 i = e_n (m : Nat)
      · rw [if_pos h7]
        by_cases h9 : bR B 9 i = e_n 1
        · rw [if_pos h9]
          by_cases h4 : M (4 + q) = e_n (-1)
          · rw [if_pos h4, if_pos ⟨h7, h9, h4⟩]
          · rw [if_neg h4, if_neg (fun h => h4 h.2.2)]
            exact ih (i + 1) (by omega)
        · rw [if_neg h9, if_neg (fun h => h9 h.2.1)]
          exact ih (i + 1) (by omega)
      · rw [if_neg h7, if_neg (fun h => h7 h.1)]
        exact ih (i + 1) (by omega)
  exact e_E_ret (C284_0.trans (loop (bTi B) 0 (by omega)))
/-- what the other's friend is worth -/
def pzS (B : e_B) (m : Nat) (f : Int32) : Int32 := if f = e_n (-1) then e_n 0 else if fm B (e_n (m : Nat)) (e_n 0) &&& e_shl (e_n 1) f = 0 then e_n 0 else e_n 5
theorem pzS_c (B : e_B) (m : Nat) (f : Int32) : pzS B m f = e_n 0 ∨ pzS B m f = e_n 5 := by
  unfold pzS
  split
  · exact Or.inl rfl
  · split
    · exact Or.inl rfl
    · exact Or.inr rfl
theorem c285h {d m n c o : Nat} {K : Nat → Nat → Int32} {z : e_Z} {B : e_B} {M : Nat → Int32} (wb : WB B) (hB : RB K B) (hM : K 515 = M) (hc : c < 2) (ho : o < 2) (hf : o = 1 → ¬ frS B M n (bTi B) 0 = e_n (-1)) :
    e_E (d + 2) 285 [.ref 489, .int (e_n (m : Nat)), .int (e_n (n : Nat)), .int (e_n (c : Nat)), .int (e_n (o : Nat))] (mk K z) = some (.inl (some (.int (v161 (fun _ _ => 0) (e_n (c : Nat)) (e_n (o : Nat)) (pzS B m (frS B M n (bTi B) 0))))), mk K z) := by
  have wb6 : bTi B ≤ 12 := wb.2.2.2.2.2.1
  have wb4 : bPe B ≤ 9 := wb.2.2.2.1
  refine e_E_ret (d := d + 1) ?_
  show e_L (d + 1) 285 0 [.ref 489, .int (e_n (m : Nat)), .int (e_n (n : Nat)), .int (e_n (c : Nat)), .int (e_n (o : Nat)), .null, .null] [] (mk K z) = _
  rw [C285_0, c284h wb hB hM, e_rI_i, C285_5]
  have hcc : c = 0 ∨ c = 1 := by omega
  have hoo : o = 0 ∨ o = 1 := by omega
  rcases hoo with rfl | rfl
  · rw [if_neg (by decide)]
    have hp := pzS_c B m (frS B M n (bTi B) 0)
    generalize pzS B m (frS B M n (bTi B) 0) = p at hp
    rcases hcc with rfl | rfl <;> rcases hp with rfl | rfl <;> rfl
  · have hf1 := hf rfl
    rw [if_pos (by decide), c226h wb6 hB, e_rI_i, C285_32]
    obtain ⟨p, hp, hfr⟩ := (frS_n wb M n (bTi B) 0 (by omega)).resolve_left hf1
    rw [hfr]
    have s1 := shr_bit (fm B (e_n (m : Nat)) (e_n 0)) (show p < 32 by omega)
    have s2 := and_bit (fm B (e_n (m : Nat)) (e_n 0)) (show p < 32 by omega)
    by_cases hb : bt (fm B (e_n (m : Nat)) (e_n 0)) p = true
    · have hz : pzS B m (e_n (p : Nat)) = e_n 5 := by unfold pzS; rw [if_neg (e_n_neg1 (by omega)), if_neg (fun h => by rw [s2, hb] at h; cases h)]
      have h1 : e_shr (fm B (e_n (m : Nat)) (e_n 0)) (e_n (p : Nat)) &&& e_n 1 = e_n 1 := s1.mpr hb
      rw [hz, h1]
      rcases hcc with rfl | rfl <;> rfl
    · have h0 : bt (fm B (e_n (m : Nat)) (e_n 0)) p = false := by simpa using hb
      have hz : pzS B m (e_n (p : Nat)) = e_n 0 := by unfold pzS; rw [if_neg (e_n_neg1 (by omega)), if_pos (s2.mpr h0)]
      have h1 : ¬ e_shr (fm B (e_n (m : Nat)) (e_n 0)) (e_n (p : Nat)) &&& e_n 1 = e_n 1 := fun h => hb (s1.mp h)
      rw [hz]
      simp only [if_neg h1]
      rcases hcc with rfl | rfl <;> rfl
end S99h
