/-! roll -/
section S99g
def gsS (B : e_B) (x : Int32) : Int32 := itr (fun i q => q + (if bt x i = true then bR B 5 i else e_n 0)) (bPe B) 0 (e_n 0)
theorem v9h {I : Nat → Nat → Int32} {b : Nat} {B : e_B} {x : Int32} (hb : B2 b) (wb : WB B) (hB : BrC I b B) : v9 I b x = gsS B x := by
  have wb4 : bPe B ≤ 9 := wb.2.2.2.1
  unfold v9 gsS
  rw [hB.2.2.2.1, e_n_nat' (by omega)]
  apply itr_congr
  intro p s hp
  rw [rd_N (by rw [lnb15 hb]; omega), (hB.2.2.2.2.2.2.2.2.1 p hp).1]
  by_cases h : bt x p = true
  · rw [if_neg (fun q => by rw [and_bit _ (by omega), h] at q; cases q), if_pos h]
  · rw [if_pos (by rw [and_bit _ (by omega)]; simpa using h), if_neg h]
def ro1 (B : e_B) (D x : Int32) (i : Nat) (q : Int32) : Int32 := if e_n (i : Nat) &&& (D ^^^ e_n (-1)) = 0 then (if q = e_n (-1) ∨ bc (e_n (i : Nat)) < bc q then (if gsS B (e_n (i : Nat)) = x then e_n (i : Nat) else q) else q) else q
theorem bt9 {k : Nat} (h : k < 512) : ∀ i, 9 ≤ i → bt (e_n (k : Nat)) i = false := by
  intro i hi
  have e : (e_n (k : Nat)).toBitVec = BitVec.ofNat 32 k := by rw [← e_n_of]; rfl
  unfold bt
  rw [e, BitVec.getLsbD_ofNat]
  have : k.testBit i = false := Nat.testBit_lt_two_pow (Nat.lt_of_lt_of_le h (show 2 ^ 9 ≤ 2 ^ i from Nat.pow_le_pow_right (by decide) hi))
  rw [this, Bool.and_false]
theorem sub_le {i n : Nat} (hi : i < 512) (hn : n < 512) (h : e_n (i : Nat) &&& (e_n (n : Nat) ^^^ e_n (-1)) = 0) : i ≤ n := by
  have e : ∀ k : Nat, (e_n (k : Nat)).toBitVec = BitVec.ofNat 32 k := fun k => by rw [← e_n_of]; rfl
  have hb : ∀ j, j < 32 → (i.testBit j = true → n.testBit j = true) := by
    intro j hj h1
    have h2 : bt (e_n (i : Nat) &&& (e_n (n : Nat) ^^^ e_n (-1))) j = false := by rw [h]; exact bt_0 j
    rw [bt_and, bt_not _ hj] at h2
    unfold bt at h2
    rw [e, e, BitVec.getLsbD_ofNat, BitVec.getLsbD_ofNat, h1] at h2
    simpa [hj] using h2
  have h3 : i ||| n = n := by
    apply Nat.eq_of_testBit_eq
    intro j
    rw [Nat.testBit_or]
    by_cases hj : j < 32
    · by_cases h1 : i.testBit j = true
      · rw [hb j hj h1]; simp
      · simp [h1]
    · have : i.testBit j = false := Nat.testBit_lt_two_pow (Nat.lt_of_lt_of_le hi (show 2 ^ 9 ≤ 2 ^ j from Nat.pow_le_pow_right (by decide) (by omega)))
      rw [this]; simp
  calc i ≤ i ||| n := Nat.left_le_or
    _ = n := h3
theorem itr_tail {α : Type} {f : Nat → α → α} {n m : Nat} (h : ∀ j q, n ≤ j → j < m → f j q = q) (s : α) : ∀ k, n + k ≤ m → itr f (n + k) 0 s = itr f n 0 s := by
  intro k
  induction k with
  | zero => intro _; rfl
  | succ k ih => intro hk; rw [show n + (k + 1) = (n + k) + 1 by omega, itr_succ, h _ _ (by omega) (by omega), ih (by omega)]
theorem F158 {d : Nat} {I : Nat → Nat → Int32} {z : e_Z} {B : e_B} (H : Rel I z B) {x : Int32} : Face d (e_n 1) I z 158 283 [.int x] := by
  have wb := rel_wb H
  have wb4 : bPe B ≤ 9 := wb.2.2.2.1
  have hb := B2_bd z.2.1.1
  have hB := rel_bc H
  by_cases hm : x < 0 ∨ e_n 999 < x
  · refine throw_q H ?_ ?_
    · refine (e_E_11 (d := d + 9) (y := 158) rfl).trans ?_
      show e_L (d + 9) 158 0 [.ref 1, .int x, .null, .null, .null] [] (mk I z) = _
      rw [C158_0, if_pos hm]; rfl
    · intro J z2 HJ
      refine ⟨e_n 0, e_E_ret (d := d + 9) ?_⟩
      show e_L (d + 9) 283 0 [.ref 489, .int x, .null, .null, .null, .null] [] (mk J z2) = _
      rw [C283_0, right_n K0 (fun q => hm.elim q.1 q.2) (by decide), e_rI_i, C283_18, if_pos (by decide)]
  have hdead : I 51 2 = I 515 1 := (rel_mc H).2.2.1
  obtain ⟨n, hn, hD⟩ := small_bits (x := I 515 1) (n := 9) (by decide) (fun i hi => (rel_wm H).2.2.2.2.2.1 i (by omega))
  have hn' : n < 512 := hn
  have tail : ∀ k s, n + 1 + k ≤ 512 → itr (ro1 B (e_n (n : Nat)) x) (n + 1 + k) 0 s = itr (ro1 B (e_n (n : Nat)) x) (n + 1) 0 s := fun k s hk => by
    refine itr_tail (fun j q hj hj2 => ?_) s k hk
    unfold ro1
    rw [if_neg (fun h => by have := sub_le hj2 hn' h; omega)]
  refine face_rd H (r := .inl (itr (ro1 B (e_n (n : Nat)) x) 512 0 (e_n (-1)))) (I1 := I) (zs_rf z) rfl (e_E_ret (d := d + 9) ?_) (fun _ _ => rfl) ?_
  · show e_L (d + 9) 158 0 [.ref 1, .int x, .null, .null, .null] [] (mk I z) = _
    have loop : ∀ k i q u, i + k = 512 → (∀ j, 9 ≤ j → ¬ q = e_n (-1) → bt q j = false) → e_L (d + 9) 158 26 [.ref 1, .int x, .int q, .int (e_n (i : Nat)), u] [] (mk I z) = some (.inl (some (.int (itr (ro1 B (e_n (n : Nat)) x) k i q))), mk I z) := by
      intro k
      induction k with
      | zero =>
        intro i q u hi hq
        have : i = 512 := by omega
        subst this
        rw [C158_26, if_neg (by decide)]; rfl
      | succ k ih =>
        intro i q u hi hq
        have hlt : e_n (i : Nat) < e_shl (e_n 1) (e_n 9) := by rw [show e_shl (e_n 1) (e_n 9) = e_n ((512 : Nat) : Nat) from by decide, e_n_ltN (by omega) (by omega)]; omega
        have hi9 := bt9 (k := i) (by omega)
        have key : ∀ c u, (c = (q = e_n (-1) ∨ bc (e_n (i : Nat)) < bc q)) → e_L (d + 9) 158 26 [.ref 1, .int x, .int (itr (ro1 B (e_n (n : Nat)) x) 1 i q), .int (e_n ((i + 1 : Nat) : Nat)), u] [] (mk I z) = some (.inl (some (.int (itr (ro1 B (e_n (n : Nat)) x) (k + 1) i q))), mk I z) := by
          intro c u hc
          refine ih (i + 1) _ u (by omega) ?_
          intro j hj hne
          show bt (ro1 B (e_n (n : Nat)) x i q) j = false
          have hne' : ¬ ro1 B (e_n (n : Nat)) x i q = e_n (-1) := hne
          unfold ro1 at hne' ⊢
          split at hne' <;> rename_i h1
          · rw [if_pos h1]
            split at hne' <;> rename_i h2
            · rw [if_pos h2]
              split at hne' <;> rename_i h3
              · rw [if_pos h3]; exact hi9 j hj
              · rw [if_neg h3]; exact hq j hj hne'
            · rw [if_neg h2]; exact hq j hj hne'
          · rw [if_neg h1]; exact hq j hj hne'
        rw [C158_26, if_pos hlt]
        by_cases hq1 : q = e_n (-1)
        · rw [if_pos hq1, hdead, hD, v9h hb wb hB, e_n_succ]
          have : (if e_n (i : Nat) &&& (e_n (n : Nat) ^^^ e_n (-1)) = 0 then if gsS B (e_n (i : Nat)) = x then e_n (i : Nat) else q else q) = ro1 B (e_n (n : Nat)) x i q := by
            unfold ro1
            simp only [hq1, true_or, if_true]
          rw [this]
          exact key _ (.int (e_n 1)) rfl
        · rw [if_neg hq1, c329, e_rI_i, v329_bc hi9, C158_44, c329, e_rI_i, v329_bc (fun j hj => hq j hj hq1), C158_48, hdead, hD, v9h hb wb hB, e_n_succ]
          have : (if e_n (i : Nat) &&& (e_n (n : Nat) ^^^ e_n (-1)) = 0 then if bc (e_n (i : Nat)) < bc q then if gsS B (e_n (i : Nat)) = x then e_n (i : Nat) else q else q else q) = ro1 B (e_n (n : Nat)) x i q := by
            unfold ro1
            simp only [hq1, false_or]
          rw [this]
          exact key _ _ rfl
    rw [C158_0, if_neg hm]
    exact loop 512 0 (e_n (-1)) .null (by decide) (fun j hj h => absurd rfl h)
  · intro J z2 HJ hq
    have rb := RB_0 (v := e_n 0) (rel_rb HJ)
    have hdJ : e_u J 489 0 (e_n 0) 515 1 = e_n (n : Nat) := by rw [K515 (by decide), hq 515 (by decide), hD]
    have hpe : e_u J 489 0 (e_n 0) 489 4 = e_n (bPe B : Nat) := rb.2.2.2.1
    have hgo : ∀ p, p < bPe B → e_u J 489 0 (e_n 0) 494 p = bR B 5 p := fun p hp => (rb.2.2.2.2.2.2.2.2.2.1 p hp).1
    have hG0 : e_u J 489 0 (e_n 0) 489 0 = e_n 0 := e_u_same
    have hGJ : RfE J (e_u J 489 0 (e_n 0)) := RfE_0
    have hr : e_E (d + 9 + 1) 177 [.ref 489, .int (tf (¬ x < e_n 0 ∧ ¬ e_n 999 < x)), .int (e_n 1)] (mk (e_u J 489 0 (e_n 0)) z2) = _ := right_y K0 ⟨fun h => hm (Or.inl h), fun h => hm (Or.inr h)⟩
    refine ⟨e_u J 489 0 (e_n 0), itr (ro1 B (e_n (n : Nat)) x) 512 0 (e_n (-1)), e_E_ret (d := d + 9) ?_, hGJ, hG0, rfl⟩
    show e_L (d + 9) 283 0 [.ref 489, .int x, .null, .null, .null, .null] [] (mk J z2) = _
    rw [C283_0, right_y K0 ⟨fun h => hm (Or.inl h), fun h => hm (Or.inr h)⟩, e_rI_i, C283_18, if_neg (by decide)]
    generalize e_u J 489 0 (e_n 0) = G at rb hdJ hpe hgo hG0 hGJ
    have inner : ∀ (q : Int32) (i : Nat), i < 512 → ∀ k p (s : Int32), p + k = bPe B → e_L (d + 9) 283 75 [.ref 489, .int x, .int q, .int (e_n (i : Nat)), .int s, .int (e_n (p : Nat))] [] (mk G z2) = e_L (d + 9) 283 27 [.ref 489, .int x, .int (if itr (fun j q => q + (if bt (e_n (i : Nat)) j = true then bR B 5 j else e_n 0)) k p s = x then e_n (i : Nat) else q), .int (e_n ((i + 1 : Nat) : Nat)), .int (itr (fun j q => q + (if bt (e_n (i : Nat)) j = true then bR B 5 j else e_n 0)) k p s), .int (e_n (bPe B : Nat))] [] (mk G z2) := by
      intro q i hi k
      induction k with
      | zero =>
        intro p s hp
        have : p = bPe B := by omega
        subst this
        rw [C283_75 (fun h => absurd h (by rw [hpe, e_n_ltN (by omega) (by omega)]; omega)), hpe, if_neg (by rw [e_n_ltN (by omega) (by omega)]; omega), e_n_succ]
        rfl
      | succ k ih =>
        intro p s hp
        have hv : (if e_shr (e_n (i : Nat)) (e_n (p : Nat)) &&& e_n 1 = e_n 1 then G 494 p else e_n 0) = (if bt (e_n (i : Nat)) p = true then bR B 5 p else e_n 0) := by
          rw [hgo p (by omega)]
          have := shr_bit (e_n (i : Nat)) (show p < 32 by omega)
          by_cases h : bt (e_n (i : Nat)) p = true
          · rw [if_pos (this.mpr h), if_pos h]
          · rw [if_neg (fun q => h (this.mp q)), if_neg h]
        rw [C283_75 (fun _ _ => InR_n (by omega) (by omega) (by omega)), if_pos (by rw [hpe, e_n_ltN (by omega) (by omega)]; omega), e_n_nat' (by omega), hv, e_n_succ]
        exact ih (p + 1) _ (by omega)
    have loop : ∀ k i q u5 u6, i + k = n + 1 → e_L (d + 9) 283 27 [.ref 489, .int x, .int q, .int (e_n (i : Nat)), u5, u6] [] (mk G z2) = some (.inl (some (.int (itr (ro1 B (e_n (n : Nat)) x) k i q))), mk G z2) := by
      intro k
      induction k with
      | zero =>
        intro i q u5 u6 hi
        have : i = n + 1 := by omega
        subst this
        rw [C283_27, hdJ, if_pos (by rw [e_n_ltN (by omega) (by omega)]; omega)]; rfl
      | succ k ih =>
        intro i q u5 u6 hi
        rw [C283_27, hdJ, if_neg (by rw [e_n_ltN (by omega) (by omega)]; omega), v181_bc, v181_bc, e_n_succ]
        rw [show itr (ro1 B (e_n (n : Nat)) x) (k + 1) i q = itr (ro1 B (e_n (n : Nat)) x) k (i + 1) (ro1 B (e_n (n : Nat)) x i q) from rfl]
        by_cases h1 : e_n (i : Nat) &&& (e_n (n : Nat) ^^^ e_n (-1)) = 0
        · rw [if_pos h1]
          by_cases h2 : q = e_n (-1) ∨ bc (e_n (i : Nat)) < bc q
          · have e1 : ro1 B (e_n (n : Nat)) x i q = if gsS B (e_n (i : Nat)) = x then e_n (i : Nat) else q := by unfold ro1; rw [if_pos h1, if_pos h2]
            have e2 : e_L (d + 9) 283 75 [.ref 489, .int x, .int q, .int (e_n (i : Nat)), .int (e_n 0), .int (e_n 0)] [] (mk G z2) = _ := inner q i (by omega) (bPe B) 0 (e_n 0) (by omega)
            have e3 := e2.trans (ih (i + 1) _ _ _ (by omega))
            rw [e1]
            by_cases h3 : q = e_n (-1)
            · rw [if_pos h3]; exact e3
            · rw [if_neg h3, if_pos (h2.resolve_left h3)]; exact e3
          · have e1 : ro1 B (e_n (n : Nat)) x i q = q := by unfold ro1; rw [if_pos h1, if_neg h2]
            rw [e1, if_neg (fun h => h2 (Or.inl h)), if_neg (fun h => h2 (Or.inr h))]
            exact ih (i + 1) q u5 u6 (by omega)
        · have e1 : ro1 B (e_n (n : Nat)) x i q = q := by unfold ro1; rw [if_neg h1]
          rw [e1, if_neg h1]
          exact ih (i + 1) q u5 u6 (by omega)
    have := loop (n + 1) 0 (e_n (-1)) .null .null (by omega)
    have e5 := tail (511 - n) (e_n (-1)) (by omega)
    rw [show n + 1 + (511 - n) = 512 by omega] at e5
    rw [e5]
    exact this
end S99g
