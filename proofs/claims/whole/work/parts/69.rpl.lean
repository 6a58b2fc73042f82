section S69
theorem RF_idle {I : Nat → Nat → Int32} {r T : Nat} {S : e_T} {v : Int32} (hF : RF I r S T) : RF I r (e_u S 4 2 v) T := by
  obtain ⟨f1, f2, f3, f4, f5, f6, f7⟩ := hF
  refine ⟨?_, ?_, ?_, ?_, ?_, ?_, ?_⟩
  · rw [e_u_na (by decide)]; exact f1
  · rw [e_u_ne (by decide)]; exact f2
  · rw [e_u_ne (by decide)]; exact f3
  · rw [e_u_ne (by decide), e_u_na (by decide)]; exact f4
  · rw [e_u_na (by decide)]; exact f5
  · rw [e_u_na (by decide)]; exact f6
  · rw [e_u_na (by decide), e_u_na (by decide), e_u_na (by decide)]; exact f7
/-- a row's day moves on, its trace grows -/
theorem ws_day {B : e_B} {f S' : e_T} {t : Nat} (ws : WS B f) (ht : t < 60) (hd : f 0 0 = e_n (t : Nat)) (h0 : S' 0 0 = e_n ((t + 1 : Nat) : Nat)) (hj : ∀ j, j ≠ 0 → S' 0 j = f 0 j) (h4 : S' 4 0 = f 4 0) : WS B S' := by
  obtain ⟨⟨⟨u, hu, q0, q1⟩, q2, q3, q4, q5, q6, q7⟩, k, hk, hkc⟩ := ws
  have hut : u = t := by
    rw [hd, e_n_inj (by omega) (by omega) (by omega) (by omega)] at q0; omega
  refine ⟨⟨⟨t + 1, by omega, h0, ?_⟩, ?_, ?_, ?_, ?_, ?_, ?_⟩, k, by rw [h4]; exact hk, ?_⟩
  · intro p hp
    rw [hj _ (by omega)]
    rcases q1 p hp with h | ⟨x, hx, h⟩
    · exact Or.inl h
    · exact Or.inr ⟨x, by omega, h⟩
  · intro p hp; rw [hj _ (by omega)]; exact q2 p hp
  · intro p hp; rw [hj _ (by omega)]; exact q3 p hp
  · rw [hj _ (by omega)]; exact q4
  · intro p hp; rw [hj _ (by omega)]; exact q5 p hp
  · intro p hp; rw [hj _ (by omega)]; exact q6 p hp
  · rw [hj _ (by omega), hj _ (by omega)]; exact q7
  · rw [cnt_congr (g := fun q => decide (f 0 (4 + q) = e_n (-1))) (fun i hi => by rw [hj _ (by omega)])]; exact hkc
theorem pl_step {d r k t f0 m0 : Nat} {tr : Bool} {I : Nat → Nat → Int32} {z : e_Z} {B : e_B} {S : e_T} {sk : Int32} {u5 u6 : Value} (hr : R2 r) (wb : WB B) (hB : RB I B) (hF : RF I r S (if tr then k else 0)) (ws : WS B S) (hs : I 489 61 = sk) (htr : if tr then k < 30 else 30 ≤ k) (hk : k < f0 + m0) (hfm : f0 + m0 < 1000) (ht : t < 60) (hd : S 0 0 = e_n (t : Nat)) :
    ∃ I' y5 y6, e_L (d + 5) 237 3 [.ref 489, .ref r, .int (e_n (f0 : Nat)), .int (e_n (m0 : Nat)), .int (e_n (k : Nat)), u5, u6] [] (mk I z) = e_L (d + 5) 237 3 [.ref 489, .ref r, .int (e_n (f0 : Nat)), .int (e_n (m0 : Nat)), .int (e_n ((k + 1 : Nat) : Nat)), y5, y6] [] (mk I' z) ∧ RF I' r (moS B sk k S) (if tr then k + 1 else 0) ∧ WS B (moS B sk k S) ∧ moS B sk k S 0 0 = e_n ((t + 1 : Nat) : Nat) ∧ (∀ s, s ≠ r → s ≠ 489 → s ≠ 517 → s ≠ 518 → s ≠ 519 → s ≠ 520 → s ≠ 521 → s ≠ 522 → s ≠ 523 → s ≠ 524 → I' s = I s) ∧ (∀ j, j ≠ 60 → j ≠ 62 → I' 489 j = I 489 j) := by
  have wb4 : bPe B ≤ 9 := wb.2.2.2.1
  have hr2 : r ≠ 489 ∧ r ≠ 517 ∧ r ≠ 518 ∧ r ≠ 519 ∧ r ≠ 520 ∧ r ≠ 521 ∧ r ≠ 522 ∧ r ≠ 523 ∧ r ≠ 524 := by rcases hr with rfl | rfl <;> decide
  have hr10 : ¬ (490 ≤ r ∧ r ≤ 499) := by rcases hr with rfl | rfl <;> decide
  obtain ⟨r1, r2, r3, r4, r5, r6, r7, r8, r9⟩ := hr2
  have n1 := Ne.symm r1
  have n4 := Ne.symm r4
  have n5 := Ne.symm r5
  have n6 := Ne.symm r6
  have n7 := Ne.symm r7
  have n8 := Ne.symm r8
  have n9 := Ne.symm r9
  obtain ⟨I1, a1, a2, a3, a4, a5, a6⟩ := c233h (d := d) (z := z) hr wb hB hF ws hs
  generalize hw : wrS B sk S = w at a1 a2 a3 a4
  have hS1 : RF I1 r (if w.1 = e_n 0 ∧ S 4 2 = e_n (-1) then e_u w.2 4 2 (S 0 0) else w.2) (if tr then k else 0) ∧ WS B (if w.1 = e_n 0 ∧ S 4 2 = e_n (-1) then e_u w.2 4 2 (S 0 0) else w.2) ∧ (if w.1 = e_n 0 ∧ S 4 2 = e_n (-1) then e_u w.2 4 2 (S 0 0) else w.2) 0 0 = S 0 0 := by
    split
    · exact ⟨RF_idle a2, WS_idle _ a3, by rw [e_u_na (by decide)]; exact a4.2.1⟩
    · exact ⟨a2, a3, a4.2.1⟩
  generalize hS1e : (if w.1 = e_n 0 ∧ S 4 2 = e_n (-1) then e_u w.2 4 2 (S 0 0) else w.2) = S1 at hS1
  obtain ⟨b1, b2, b3⟩ := hS1
  have hB1 : RB I1 B := RB_fr (fun j _ _ => a6 j (by omega)) (fun q q1 q2 => a5 q (by omega) (by omega) (by omega) (by omega) (by omega)) hB
  obtain ⟨I2, c1, c2, c3, c4, c5, c6⟩ := c234h (d := d + 1) (z := z) hr wb hB1 b1 b2
  generalize hf : fnS B S1 = f at c1 c2 c3 c4
  have hday : f.2 0 0 = e_n (t : Nat) := by rw [c4.1, b3, hd]
  obtain ⟨f1, f2, f3, f4, f5, f6, f7⟩ := id c2
  have hkk : (e_n (k : Nat)).toNatClampNeg = k := e_n_nat' (by omega)
  have hlt : e_n (k : Nat) < e_n (f0 : Nat) + e_n (m0 : Nat) := by
    rw [e_n_add, show ((f0 : Nat) : Int) + (m0 : Nat) = ((f0 + m0 : Nat) : Int) by omega, e_n_ltN (by omega) (by omega)]; exact hk
  have h30 : (e_n (k : Nat) < e_n 30) = (k < 30) := by rw [show (e_n 30) = e_n ((30 : Nat) : Nat) from rfl, e_n_ltN (by omega) (by omega)]
  rw [C237_3 hr, if_pos hlt, a1, e_rI_i, C237_16 hr, c1, e_rI_i]
  cases tr with
  | true =>
    simp only [if_true] at htr c2 f7 ⊢
    have hmo : moS B sk k S = e_u (e_u (e_u (e_u f.2 5 k w.1) 6 k f.1) 7 k (lm B (f.2 0))) 0 0 (e_u (e_u (e_u f.2 5 k w.1) 6 k f.1) 7 k (lm B (f.2 0)) 0 0 + e_n 1) := by
      unfold moS
      simp only [hw, hS1e, hf, if_pos htr]
    have q0 : moS B sk k S 0 0 = e_n ((t + 1 : Nat) : Nat) := by rw [hmo, e_u_same, e_u_na (by decide), e_u_na (by decide), e_u_na (by decide), hday, e_n_succ]
    have qj : ∀ j, j ≠ 0 → moS B sk k S 0 j = f.2 0 j := fun j hj => by rw [hmo, e_u_ne hj, e_u_na (by decide), e_u_na (by decide), e_u_na (by decide)]
    have q4 : moS B sk k S 4 = f.2 4 := by rw [hmo, e_u_na (by decide), e_u_na (by decide), e_u_na (by decide), e_u_na (by decide)]
    rw [C237_23 hr (fun _ => InR_n (by omega) (by omega) (by omega)), if_pos (by rw [h30]; exact htr), hkk]
    rw [c223h (B := B) (M := f.2 0) hr wb4 (by rw [e_u_na (by decide), e_u_na (by decide), c6 4 (by decide), a6 4 (by decide)]; exact hB.2.2.2.1) (fun j hj => by rw [e_u_na r8, e_u_na r9]; exact f1 j hj), e_rI_i, C237_61 hr (InR_n (by omega) (by omega) (by omega)), hkk, e_n_succ]
    simp (disch := first | decide | assumption) only [e_u_na, f1 0 (by decide), hday, e_n_succ]
    refine ⟨_, _, _, rfl, ⟨?_, ?_, ?_, ?_, ?_, ?_, ?_⟩, ws_day c3 ht hday q0 qj (by rw [q4]), q0, ?_, ?_⟩
    · intro j hj
      rw [e_u_at]
      by_cases hj0 : j = 0
      · subst hj0; rw [if_pos rfl, q0]
      · rw [if_neg hj0, qj j hj0]; simp (disch := first | decide | assumption) only [e_u_na]; exact f1 j hj
    · rw [q4]; simp (disch := first | decide | assumption) only [e_u_na]; exact f2
    · rw [q4]; simp (disch := first | decide | assumption) only [e_u_na]; exact f3
    · rw [q4, hmo]; simp (disch := first | decide | assumption) only [e_u_na]; exact f4
    · rw [hmo]; simp (disch := first | decide | assumption) only [e_u_na]; exact f5
    · rw [hmo]; simp (disch := first | decide | assumption) only [e_u_na]; exact f6
    · intro j hj
      rw [hmo]; simp (disch := first | decide | assumption) only [e_u_na, e_u_at]
      by_cases hjk : j = k
      · simp only [hjk, if_true]; exact ⟨trivial, trivial, trivial⟩
      · simp only [hjk, if_false]; exact f7 j (by omega)
    · intro s s1 s2 s3 s4 s5 s6 s7 s8 s9 s10
      simp (disch := first | decide | assumption) only [e_u_na]
      rw [c5 s s1 s2 s5 s7, a5 s s1 s2 s3 s4 s6]
    · intro j j60 j62
      simp (disch := first | decide | assumption) only [e_u_na]
      rw [c6 j j60, a6 j j62]
  | false =>
    simp only [Bool.false_eq_true, if_false] at htr c2 f7 ⊢
    have hmo : moS B sk k S = e_u f.2 0 0 (f.2 0 0 + e_n 1) := by
      unfold moS
      simp only [hw, hS1e, hf, if_neg (show ¬ k < 30 by omega)]
    have q0 : moS B sk k S 0 0 = e_n ((t + 1 : Nat) : Nat) := by rw [hmo, e_u_same, hday, e_n_succ]
    have qj : ∀ j, j ≠ 0 → moS B sk k S 0 j = f.2 0 j := fun j hj => by rw [hmo, e_u_ne hj]
    have q4 : moS B sk k S 4 = f.2 4 := by rw [hmo, e_u_na (by decide)]
    rw [C237_23 hr (fun h => absurd h (by rw [h30]; omega)), if_neg (by rw [h30]; omega), e_n_succ, f1 0 (by decide), hday, e_n_succ]
    refine ⟨_, _, _, rfl, ⟨?_, ?_, ?_, ?_, ?_, ?_, ?_⟩, ws_day c3 ht hday q0 qj (by rw [q4]), q0, ?_, ?_⟩
    · intro j hj
      rw [e_u_at]
      by_cases hj0 : j = 0
      · subst hj0; rw [if_pos rfl, q0]
      · rw [if_neg hj0, qj j hj0]; exact f1 j hj
    · rw [q4, e_u_na n1]; exact f2
    · rw [q4, e_u_na n1]; exact f3
    · rw [q4, hmo, e_u_na n5, e_u_na (by decide)]; exact f4
    · rw [hmo, e_u_na n6, e_u_na (by decide)]; exact f5
    · rw [hmo, e_u_na n4, e_u_na (by decide)]; exact f6
    · intro j hj; omega
    · intro s s1 s2 s3 s4 s5 s6 s7 s8 s9 s10
      rw [e_u_na s1, c5 s s1 s2 s5 s7, a5 s s1 s2 s3 s4 s6]
    · intro j j60 j62
      rw [e_u_na n1, c6 j j60, a6 j j62]
end S69
