/-! surest: face to face -/
section S99b
theorem pow9 {r : Nat} (h : r ≤ 9) : 10 ^ r ≤ 1000000000 := by
  have : 10 ^ r ≤ 10 ^ 9 := Nat.pow_le_pow_right (by decide) h
  exact this
theorem e_max_n {a b : Nat} (ha : a < 2147483648) (hb : b < 2147483648) : e_max (e_n (a : Nat)) (e_n (b : Nat)) = e_n ((max a b : Nat) : Nat) := by
  unfold e_max
  by_cases h : a < b
  · rw [if_pos (by rw [e_n_ltN (by omega) (by omega)]; exact h), Nat.max_eq_right (by omega)]
  · rw [if_neg (by rw [e_n_ltN (by omega) (by omega)]; exact h), Nat.max_eq_left (by omega)]
/-- the best step, in the class -/
theorem c38h {d D a : Nat} {I : Nat → Nat → Int32} {z : e_Z} {b : Nat} {B : e_B} {K : Nat → Nat} (hb : B2 b) (wb : WB B) (hB : BrC I b B) (ha : a < bPl B) (hK : ∀ c, c < bPl B → I (b + 7) c = e_n (K c : Nat)) (hK2 : ∀ c, c < bPl B → K c < 2147483648) : e_E (d + 4) 38 [.ref (b + 1), .int (e_n (a : Nat)), .int (e_n (D : Nat))] (mk I z) = some (.inl (some (.int (e_n (mx (bPl B) (fun c => if edS B D a c then K c else 0) : Nat)))), mk I z) := by
  have wb2 : bPl B ≤ 8 := wb.2.1
  have k8 : ∀ c, c < bPl B → rd I (b + 7) (e_n (c : Nat)) = e_n (K c : Nat) := fun c hc => by rw [rd_N (by rw [lnb7 hb]; omega)]; exact hK c hc
  have d8 : rd I (b + 2) (e_n (a : Nat)) = bR B 1 a := by rw [rd_N (by rw [lnb2 hb]; omega)]; exact hB.2.2.2.2.2.2.1 a ha
  refine e_E_ret (d := d + 3) ((C38_0 hb).trans ?_)
  rw [d8, k8 a ha]
  by_cases hs : bR B 1 a = e_n (-1)
  · rw [if_pos hs]
    have : mx (bPl B) (fun c => if edS B D a c then K c else 0) = K a := mx_is (fun c hc h => by
      unfold edS at h
      rw [decide_eq_true hs] at h
      simp at h
      rw [h]; exact Nat.le_refl _) ⟨a, ha, by unfold edS; simp, rfl⟩
    rw [this]
  · rw [if_neg hs, v32h hb wb hB]
    generalize hO : byS B (e_shl (e_n 1) (e_n (a : Nat))) (e_n (D : Nat)) (e_n (-1)) = O
    have loop : ∀ k c (q : Nat), c + k = bPl B → (∀ x, x < c → edS B D a x = true → K x ≤ q) → K a ≤ q → q < 2147483648 → (∃ x, x < bPl B ∧ edS B D a x = true ∧ q = K x) → e_L (d + 3) 38 34 [.ref (b + 1), .int (e_n (a : Nat)), .int (e_n (D : Nat)), .int (e_n (q : Nat)), .int O, .int (e_n (c : Nat))] [] (mk I z) = some (.inl (some (.int (e_n (mx (bPl B) (fun c => if edS B D a c then K c else 0) : Nat)))), mk I z) := by
      intro k
      induction k with
      | zero =>
        intro c q hc h1 h2 h3 h4
        rw [C38_34 hb, hB.2.1, if_neg (by rw [e_n_ltN (by omega) (by omega)]; omega), mx_is (fun x hx he => h1 x (by omega) he) h4]
      | succ k ih =>
        intro c q hc h1 h2 h3 h4
        have hcb : c < bPl B := by omega
        rw [C38_34 hb, hB.2.1, if_pos (by rw [e_n_ltN (by omega) (by omega)]; omega), k8 c hcb, e_n_succ]
        by_cases hbt : bt O c = true
        · have hed : edS B D a c = true := by unfold edS; rw [hO, hbt, decide_eq_false hs]; simp
          rw [if_neg (fun h => by rw [and_bit _ (by omega), hbt] at h; cases h), e_max_n h3 (hK2 c hcb)]
          refine ih (c + 1) (max q (K c)) (by omega) (fun x hx he => ?_) (Nat.le_trans h2 (Nat.le_max_left _ _)) (Nat.max_lt.mpr ⟨h3, hK2 c hcb⟩) ?_
          · by_cases hxc : x = c
            · rw [hxc]; exact Nat.le_max_right _ _
            · exact Nat.le_trans (h1 x (by omega) he) (Nat.le_max_left _ _)
          · rcases Nat.le_total q (K c) with h | h
            · exact ⟨c, hcb, hed, Nat.max_eq_right h⟩
            · rw [Nat.max_eq_left h]; exact h4
        · have hbf : bt O c = false := by simpa using hbt
          rw [if_pos (by rw [and_bit _ (by omega)]; exact hbf)]
          refine ih (c + 1) q (by omega) (fun x hx he => ?_) h2 h3 h4
          by_cases hxc : x = c
          · subst hxc
            unfold edS at he
            rw [hO, hbf] at he
            simp at he
            rw [← he]; exact h2
          · exact h1 x (by omega) he
    exact loop (bPl B) 0 (K a) (by omega) (fun x hx => absurd hx (Nat.not_lt_zero x)) (Nat.le_refl _) (hK2 a ha) ⟨a, ha, by unfold edS; simp, rfl⟩
/-- the best chance, in the class -/
theorem c36h {d t N pl : Nat} {I : Nat → Nat → Int32} {z : e_Z} {b : Nat} {B : e_B} {W : Int32} (hb : B2 b) (wb : WB B) (hB : BrC I b B) (ht : t ≤ 60) (hN1 : 1 ≤ N) (hN9 : N ≤ 9) (hpl : pl < bPl B) : ∃ I', e_E (d + 5) 36 [.ref (b + 1), .int (e_n (pl : Nat)), .int (e_n (t : Nat)), .int (e_n (N : Nat)), .int W] (mk I z) = some (.inl (some (.int (e_n (GS B W N t pl : Nat)))), mk I' z) ∧ ∀ r, r ≠ b + 6 → r ≠ b + 7 → I' r = I r := by
  have wb2 : bPl B ≤ 8 := wb.2.1
  have hbl := B2_le hb
  have pg : ∀ r D a, r ≤ 9 → GS B W r D a ≤ 1000000000 := fun r D a hr => Nat.le_trans (GS_le r D a) (pow9 hr)
  -- a day's keeping
  have lk : ∀ (g : Nat → Nat) (D : Nat), (∀ a, g a ≤ 100000000) → ∀ k c (K : Nat → Nat → Int32), c + k = bPl B → (∀ r, r ≠ b + 6 → r ≠ b + 7 → K r = I r) → (∀ a, a < bPl B → K (b + 6) a = e_n (g a : Nat)) → (∀ a, a < c → K (b + 7) a = e_n ((wtS B W D a * g a : Nat) : Nat)) → ∃ K', e_L (d + 4) 36 24 [.ref (b + 1), .int (e_n (pl : Nat)), .int (e_n (t : Nat)), .int (e_n (N : Nat)), .int W, .int (e_n (D : Nat)), .int (e_n (c : Nat))] [] (mk K z) = e_L (d + 4) 36 71 [.ref (b + 1), .int (e_n (pl : Nat)), .int (e_n (t : Nat)), .int (e_n (N : Nat)), .int W, .int (e_n (D : Nat)), .int (e_n 0)] [] (mk K' z) ∧ (∀ r, r ≠ b + 6 → r ≠ b + 7 → K' r = I r) ∧ (∀ a, a < bPl B → K' (b + 7) a = e_n ((wtS B W D a * g a : Nat) : Nat)) := by
    intro g D hg k
    induction k with
    | zero =>
      intro c K hc hr h6 h7
      refine ⟨K, ?_, hr, fun a ha => h7 a (by omega)⟩
      rw [C36_24 hb, hr (b + 1) (by omega) (by omega), hB.2.1, if_neg (by rw [e_n_ltN (by omega) (by omega)]; omega)]
    | succ k ih =>
      intro c K hc hr h6 h7
      have hcb : c < bPl B := by omega
      have hv : v37 K b (e_n (c : Nat)) W (e_n (D : Nat)) = e_n (wtS B W D c : Nat) := by
        unfold v37
        rw [rd_N (by rw [lnb2 hb]; omega), hr (b + 2) (by omega) (by omega), hB.2.2.2.2.2.2.1 c hcb]
        exact wt_n wb hcb
      obtain ⟨K', e1, e2, e3⟩ := ih (c + 1) (e_u K (b + 7) c (e_n ((wtS B W D c * g c : Nat) : Nat))) (by omega) (fun r h1 h2 => by rw [e_u_na h2]; exact hr r h1 h2) (fun a ha => by rw [e_u_na (by omega)]; exact h6 a ha) (fun a ha => by
        rw [e_u_at]
        by_cases hac : a = c
        · rw [if_pos hac, hac]
        · rw [if_neg hac]; exact h7 a (by omega))
      refine ⟨K', ?_, e2, e3⟩
      rw [C36_24 hb, hr (b + 1) (by omega) (by omega), hB.2.1, if_pos (by rw [e_n_ltN (by omega) (by omega)]; omega), rd_N (by rw [lnb6 hb]; omega), h6 c hcb, hv, e_n_mul, show (g c : Int) * (wtS B W D c : Nat) = ((wtS B W D c * g c : Nat) : Int) by rw [Int.natCast_mul, Int.mul_comm], wr_N (by rw [lnb7 hb]; omega), e_n_succ]
      exact e1
  -- a day's best
  have lb : ∀ (kk : Nat → Nat) (D : Nat), (∀ a, kk a < 2147483648) → ∀ k c (K : Nat → Nat → Int32), c + k = bPl B → (∀ r, r ≠ b + 6 → r ≠ b + 7 → K r = I r) → (∀ a, a < bPl B → K (b + 7) a = e_n (kk a : Nat)) → (∀ a, a < c → K (b + 6) a = e_n (mx (bPl B) (fun x => if edS B D a x then kk x else 0) : Nat)) → ∃ K', e_L (d + 4) 36 71 [.ref (b + 1), .int (e_n (pl : Nat)), .int (e_n (t : Nat)), .int (e_n (N : Nat)), .int W, .int (e_n (D : Nat)), .int (e_n (c : Nat))] [] (mk K z) = e_L (d + 4) 36 15 [.ref (b + 1), .int (e_n (pl : Nat)), .int (e_n (t : Nat)), .int (e_n (N : Nat)), .int W, .int (e_n (D : Nat) + e_n (-1)), .int (e_n (bPl B : Nat))] [] (mk K' z) ∧ (∀ r, r ≠ b + 6 → r ≠ b + 7 → K' r = I r) ∧ (∀ a, a < bPl B → K' (b + 6) a = e_n (mx (bPl B) (fun x => if edS B D a x then kk x else 0) : Nat)) := by
    intro kk D hkk k
    induction k with
    | zero =>
      intro c K hc hr h7 h6
      refine ⟨K, ?_, hr, fun a ha => h6 a (by omega)⟩
      rw [C36_71 hb, hr (b + 1) (by omega) (by omega), hB.2.1, if_neg (by rw [e_n_ltN (by omega) (by omega)]; omega), show c = bPl B by omega]
    | succ k ih =>
      intro c K hc hr h7 h6
      have hcb : c < bPl B := by omega
      have hBK : BrC K b B := BrC_fr (fun k k1 k2 k3 k4 k5 => hr _ (by omega) (by omega)) hB
      obtain ⟨K', e1, e2, e3⟩ := ih (c + 1) (e_u K (b + 6) c (e_n (mx (bPl B) (fun x => if edS B D c x then kk x else 0) : Nat))) (by omega) (fun r h1 h2 => by rw [e_u_na h1]; exact hr r h1 h2) (fun a ha => by rw [e_u_na (by omega)]; exact h7 a ha) (fun a ha => by
        rw [e_u_at]
        by_cases hac : a = c
        · rw [if_pos hac, hac]
        · rw [if_neg hac]; exact h6 a (by omega))
      refine ⟨K', ?_, e2, e3⟩
      rw [C36_71 hb, hr (b + 1) (by omega) (by omega), hB.2.1, if_pos (by rw [e_n_ltN (by omega) (by omega)]; omega), c38h (d := d) hb wb hBK hcb h7 (fun a _ => hkk a), e_rI_i, C36_94 hb, wr_N (by rw [lnb6 hb]; omega), e_n_succ]
      exact e1
  -- from the last day back; r of the days are done
  have main : ∀ m r (K : Nat → Nat → Int32) (u6 : Value), r + m = N → (∀ r, r ≠ b + 6 → r ≠ b + 7 → K r = I r) → (∀ a, a < bPl B → K (b + 6) a = e_n (GS B W r (t + m) a : Nat)) → ∃ K', e_L (d + 4) 36 15 [.ref (b + 1), .int (e_n (pl : Nat)), .int (e_n (t : Nat)), .int (e_n (N : Nat)), .int W, .int (e_n ((t : Int) + m - 1)), u6] [] (mk K z) = some (.inl (some (.int (e_n (GS B W N t pl : Nat)))), mk K' z) ∧ (∀ r, r ≠ b + 6 → r ≠ b + 7 → K' r = I r) := by
    intro m
    induction m with
    | zero =>
      intro r K u6 hr hK h6
      have : r = N := by omega
      subst this
      refine ⟨K, ?_, hK⟩
      rw [C36_15 hb, if_pos (by rw [e_n_lt (by omega) (by omega) (by omega) (by omega)]; omega), rd_N (by rw [lnb6 hb]; omega), h6 pl hpl]
      rfl
    | succ m ih =>
      intro r K u6 hr hK h6
      have hD : (t : Int) + ((m + 1 : Nat) : Nat) - 1 = ((t + m : Nat) : Int) := by omega
      have hg : ∀ a, GS B W r (t + (m + 1)) a ≤ 100000000 := fun a => by
        have h1 := GS_le (B := B) (W := W) r (t + (m + 1)) a
        have h2 : 10 ^ r ≤ 10 ^ 8 := Nat.pow_le_pow_right (by decide) (by omega)
        exact Nat.le_trans h1 h2
      obtain ⟨K1, e1, e2, e3⟩ := lk (fun a => GS B W r (t + (m + 1)) a) (t + m) hg (bPl B) 0 K (by omega) hK h6 (fun a ha => absurd ha (Nat.not_lt_zero a))
      obtain ⟨K2, f1, f2, f3⟩ := lb (fun a => wtS B W (t + m) a * GS B W r (t + (m + 1)) a) (t + m) (fun a => by
        have h1 := Nat.mul_le_mul (wt_le (B := B) (W := W) (D := t + m) (b := a)) (hg a)
        exact Nat.lt_of_le_of_lt h1 (by decide)) (bPl B) 0 K1 (by omega) e2 e3 (fun a ha => absurd ha (Nat.not_lt_zero a))
      obtain ⟨K3, g1, g2⟩ := ih (r + 1) K2 (.int (e_n (bPl B : Nat))) (by omega) f2 (fun a ha => by rw [f3 a ha]; rfl)
      refine ⟨K3, ?_, g2⟩
      rw [C36_15 hb, hD, if_neg (by rw [e_n_ltN (by omega) (by omega)]; omega), show (e_n 0) = e_n ((0 : Nat) : Nat) from rfl, e1, show (e_n 0) = e_n ((0 : Nat) : Nat) from rfl, f1, e_n_add, show ((t + m : Nat) : Int) + -1 = (t : Int) + (m : Nat) - 1 by omega]
      exact g1
  obtain ⟨K', e1, e2⟩ := main N 0 (upR I (b + 6) (fun j => if j < ln (b + 6) then e_n 1 else I (b + 6) j)) .null (by omega) (fun r h1 _ => upR_ne h1) (fun a ha => by rw [upR_same, lnb6 hb, if_pos (by omega)]; rfl)
  refine ⟨K', e_E_ret (d := d + 4) ((C36_0 hb).trans ?_), e2⟩
  rw [e_n_add, e_n_sub]
  exact e1
end S99b
