section S58
theorem wr_neg {I : Nat → Nat → Int32} {r : Nat} {i v : Int32} (h : i < 0) : wr I r i v = I := by
  unfold wr; rw [if_pos (Or.inl h)]
theorem sr_step {d p T : Nat} {I : Nat → Nat → Int32} {z : e_Z} {B : e_B} {S : e_T} {n : Int32} {u3 u4 : Value} (wb : WB B) (wm : WM B (S 0)) (hB : BrC I (bd z.2.1.2.2.1) B) (hF : FC I B S T) (hp : p < bPe B) :
    ∃ I' u3' u4', e_L (d + 3) 17 4 [.ref 470, .int n, .int (e_n (p : Nat)), u3, u4] [] (mk I z) = e_L (d + 3) 17 4 [.ref 470, .int (fn1 B p (n, S)).1, .int (e_n ((p + 1 : Nat) : Nat)), u3', u4'] [] (mk I' z) ∧ FC I' B (fn1 B p (n, S)).2 T ∧ (∀ r, r ≠ 471 → r ≠ 475 → r ≠ 477 → r ≠ 478 → I' r = I r) := by
  have hb := B2_bd z.2.1.2.2.1
  have hbl := B2_le hb
  have wb4 : bPe B ≤ 9 := wb.2.2.2.1
  have wb1 : bMa B ≤ 3 := wb.1
  have wb2 : bPl B ≤ 8 := wb.2.1
  obtain ⟨⟨t, ht, h0, h1⟩, h2, h3, h4, h5, h6, h7⟩ := id wm
  obtain ⟨f1, f2, f3, f4, f5, f6, f7, f8⟩ := hF
  obtain ⟨m0, m1, m2, m3, m4, m5, m6, m7⟩ := id f1
  obtain ⟨a, ha, hat⟩ := h2 p hp
  have hpe : I (bd z.2.1.2.2.1) 6 = e_n (bPe B : Nat) := hB.2.2.2.1
  have hlt : e_n (p : Nat) < e_n (bPe B : Nat) := by rw [e_n_ltN (by omega) (by omega)]; exact hp
  have g1 : rd I 474 (e_n (p : Nat)) = S 0 (22 + p) := by rw [rd_N (r := 474) (Nat.lt_of_lt_of_le hp (Nat.le_trans wb4 (by decide)))]; exact (m5 p hp).2.2
  have g2 : rd I 472 (e_n (p : Nat)) = S 0 (4 + p) := by rw [rd_N (r := 472) (Nat.lt_of_lt_of_le hp (Nat.le_trans wb4 (by decide)))]; exact (m5 p hp).1
  have g3 : rd I 473 (e_n (p : Nat)) = S 0 (13 + p) := by rw [rd_N (r := 473) (Nat.lt_of_lt_of_le hp (Nat.le_trans wb4 (by decide)))]; exact (m5 p hp).2.1
  have g4 : rd I (bd z.2.1.2.2.1 + 2) (S 0 (22 + p)) = bR B 1 (S 0 (22 + p)).toNatClampNeg := by
    rw [hat, rd_N (by rw [lnb2 hb]; omega), e_n_nat' (by omega)]; exact hB.2.2.2.2.2.2.1 a ha
  have hdead : (S 0 1 &&& e_shl (e_n 1) (e_n (p : Nat)) = 0) = (bt (S 0 1) p = false) := and_bit _ (by omega)
  have hday : ¬ S 0 (4 + p) = e_n (-1) → ¬ S 0 0 < S 0 (4 + p) := by
    intro hne
    rcases h1 p hp with h | ⟨u, hu, h⟩
    · exact absurd h hne
    · rw [h, h0, e_n_ltN (by omega) (by omega)]; omega
  rw [C17_4, hpe, if_pos hlt, g1, g2, g3, g4, m0, m2]
  simp only [hdead, e_n_succ]
  by_cases hfc : fndC B (S 0) p
  · obtain ⟨c1, c2, c3, c4⟩ := id hfc
    rw [if_pos ⟨c3, c1, hday c1, c4⟩, if_pos (by simpa using c2)]
    have hfn : fn1 B p (n, S) = (n + e_n 1, e_u (dieS B p S) 2 p (S 0 0)) := by unfold fn1; rw [if_pos hfc]
    obtain ⟨v, hv, hsale⟩ := sale_n wb wm hp
    have hsl : rd I (bd z.2.1.2.2.1 + 15) (e_n (p : Nat)) * (e_n 10 - e_min (I 471 3) (e_n 9)) / e_n 10 = saleS B (S 0) p := by
      rw [rd_N (by rw [lnb15 hb]; omega), (hB.2.2.2.2.2.2.2.2.1 p hp).1, e_min_9, m3]; rfl
    have g3' : rd I (471 + 2) (e_n (p : Nat)) = S 0 (13 + p) := g3
    rw [c57 hb M3_471, e_rI_i, C17_113, hsl, g3', m2, m3, hfn, e_n_succ]
    simp (disch := decide) only [wr_na, e_u_na, e_u_ne, m0]
    rw [wr_N (r := 477) (k := p) (Nat.lt_of_lt_of_le hp (Nat.le_trans wb4 (by decide)))]
    have hd2 := wm_die wb wm hp (by simpa using c2)
    rcases (show S 0 (13 + p) < 0 ∨ ∃ m : Nat, m < bMa B ∧ S 0 (13 + p) = e_n (m : Nat) from by
      rcases h3 p hp with h | h | h
      · rw [h]; exact Or.inl (by decide)
      · rw [h]; exact Or.inl (by decide)
      · exact Or.inr h) with hneg | ⟨m, hm, hby⟩
    · rw [wr_neg hneg, wr_neg hneg]
      have hdie : dieS B p S = e_u (e_u (e_u S 0 1 (S 0 1 ||| e_shl (e_n 1) (e_n (p : Nat)))) 0 2 (S 0 2 + e_n 1)) 4 1 (S 4 1 + tf (saleS B (S 0) p = 0)) := by unfold dieS; rw [if_pos hneg]
      have hr0 : ∀ j, e_u (dieS B p S) 2 p (S 0 0) 0 j = if j = 2 then S 0 2 + e_n 1 else if j = 1 then S 0 1 ||| e_shl (e_n 1) (e_n (p : Nat)) else S 0 j := by
        intro j; rw [hdie]; simp (disch := decide) only [e_u_na, e_u_at]
      have q0 : e_u (dieS B p S) 2 p (S 0 0) 0 0 = S 0 0 := by rw [hr0]; rfl
      have q1 : e_u (dieS B p S) 2 p (S 0 0) 0 1 = S 0 1 ||| e_shl (e_n 1) (e_n (p : Nat)) := by rw [hr0]; rfl
      have q2 : e_u (dieS B p S) 2 p (S 0 0) 0 2 = S 0 2 + e_n 1 := by rw [hr0]; rfl
      have qj : ∀ j, 3 ≤ j → j < 31 → e_u (dieS B p S) 2 p (S 0 0) 0 j = S 0 j := fun j _ _ => by rw [hr0, if_neg (by omega), if_neg (by omega)]
      have qd : ∀ j, e_u (dieS B p S) 2 p (S 0 0) 0 (31 + j) = S 0 (31 + j) := fun j => by rw [hr0, if_neg (by omega), if_neg (by omega)]
      have hlm : lm B (e_u (dieS B p S) 2 p (S 0 0) 0) = lm B (S 0) := by
        unfold lm; apply itr_congr; intro i s hi; rw [qj (4 + i) (by omega) (by omega)]
      refine ⟨_, _, _, rfl, ⟨⟨?_, ?_, ?_, ?_, ?_, ?_, ?_, ?_⟩, ?_, ?_, ?_, ?_, ?_, ?_, ?_⟩, ?_⟩
      · rw [q0]; simp (disch := decide) only [e_u_na, e_u_ne]; exact m0
      · rw [hlm]; simp (disch := decide) only [e_u_na, e_u_ne]; exact m1
      · rw [q1]; simp (disch := decide) only [e_u_na, e_u_ne, e_u_same]
      · rw [q2]; simp (disch := decide) only [e_u_na, e_u_same]
      · rw [qj 3 (by omega) (by omega)]; simp (disch := decide) only [e_u_na, e_u_ne]; exact m4
      · intro j hj
        rw [qj (4 + j) (by omega) (by omega), qj (13 + j) (by omega) (by omega), qj (22 + j) (by omega) (by omega)]
        simp (disch := decide) only [e_u_na]; exact m5 j hj
      · simp (disch := decide) only [e_u_na]; exact m6
      · intro j hj
        rw [qd]; simp (disch := decide) only [e_u_na]; exact m7 j hj
      · simp (disch := decide) only [e_u_na]; exact f2
      · rw [hdie]; simp (disch := decide) only [e_u_na, e_u_ne]; exact f3
      · rw [hdie]; simp (disch := decide) only [e_u_na, e_u_ne]; exact f4
      · rw [hdie]; simp (disch := decide) only [e_u_na, e_u_ne]; exact f5
      · intro j hj
        rw [hdie]; simp (disch := decide) only [e_u_na, e_u_at]; rw [f6 j hj]
      · rw [hdie]; simp (disch := decide) only [e_u_na]; exact f7
      · rw [hdie]; simp (disch := decide) only [e_u_na]; exact f8
      · intro r r1 r2 r3 r4
        rw [e_u_na r3, e_u_na r1, e_u_na r1]
    · have hmn : ¬ S 0 (13 + p) < 0 := by rw [hby, show (0 : Int32) = e_n ((0 : Nat) : Nat) from rfl, e_n_ltN (by omega) (by omega)]; omega
      obtain ⟨dv, hdv, hde⟩ := h5 m hm
      have hmk : (e_n (m : Nat)).toNatClampNeg = m := e_n_nat' (by omega)
      have hm3 : m < 3 := by omega
      have g5 : rd I (471 + 4) (e_n (m : Nat)) = e_n (dv : Nat) := by rw [rd_N (by rw [lna4 M3_471]; exact hm3), m7 m hm, hde]
      have g6 : rd I 478 (e_n (m : Nat)) = S 3 m := by rw [rd_N (r := 478) (Nat.lt_of_lt_of_le hm3 (by decide))]; exact f7 m hm
      rw [hby, wr_N (r := 478) (k := m) (Nat.lt_of_lt_of_le hm3 (by decide)), wr_N (r := 471 + 4) (k := m) (by rw [lna4 M3_471]; exact hm3), g5, g6, hsale, debt_n hdv hv]
      generalize hnd : (if e_n (dv : Nat) < e_n (v : Nat) then e_n 0 else e_n (dv : Nat) - e_n (v : Nat)) = nd
      have hdie : dieS B p S = e_u (e_u (e_u (e_u (e_u S 0 1 (S 0 1 ||| e_shl (e_n 1) (e_n (p : Nat)))) 0 2 (S 0 2 + e_n 1)) 4 1 (S 4 1 + tf (e_n (v : Nat) = 0))) 3 m (S 3 m + e_n (v : Nat))) 0 (31 + m) nd := by
        unfold dieS; rw [if_neg hmn, hby, hmk, hsale, hde, hnd]
      have hr0 : ∀ j, e_u (dieS B p S) 2 p (S 0 0) 0 j = if j = 31 + m then nd else if j = 2 then S 0 2 + e_n 1 else if j = 1 then S 0 1 ||| e_shl (e_n 1) (e_n (p : Nat)) else S 0 j := by
        intro j; rw [hdie]; simp (disch := decide) only [e_u_na, e_u_at]
      have q0 : e_u (dieS B p S) 2 p (S 0 0) 0 0 = S 0 0 := by rw [hr0, if_neg (by omega)]; rfl
      have q1 : e_u (dieS B p S) 2 p (S 0 0) 0 1 = S 0 1 ||| e_shl (e_n 1) (e_n (p : Nat)) := by rw [hr0, if_neg (by omega)]; rfl
      have q2 : e_u (dieS B p S) 2 p (S 0 0) 0 2 = S 0 2 + e_n 1 := by rw [hr0, if_neg (by omega)]; rfl
      have qj : ∀ j, 3 ≤ j → j < 31 → e_u (dieS B p S) 2 p (S 0 0) 0 j = S 0 j := fun j _ _ => by rw [hr0, if_neg (by omega), if_neg (by omega), if_neg (by omega)]
      have qd : ∀ j, e_u (dieS B p S) 2 p (S 0 0) 0 (31 + j) = if j = m then nd else S 0 (31 + j) := fun j => by
        rw [hr0]
        by_cases hjm : j = m
        · rw [if_pos (by omega), if_pos hjm]
        · rw [if_neg (by omega), if_neg (by omega), if_neg (by omega), if_neg hjm]
      have hlm : lm B (e_u (dieS B p S) 2 p (S 0 0) 0) = lm B (S 0) := by
        unfold lm; apply itr_congr; intro i s hi; rw [qj (4 + i) (by omega) (by omega)]
      refine ⟨_, _, _, rfl, ⟨⟨?_, ?_, ?_, ?_, ?_, ?_, ?_, ?_⟩, ?_, ?_, ?_, ?_, ?_, ?_, ?_⟩, ?_⟩
      · rw [q0]; simp (disch := decide) only [e_u_na, e_u_ne]; exact m0
      · rw [hlm]; simp (disch := decide) only [e_u_na, e_u_ne]; exact m1
      · rw [q1]; simp (disch := decide) only [e_u_na, e_u_ne, e_u_same]
      · rw [q2]; simp (disch := decide) only [e_u_na, e_u_same]
      · rw [qj 3 (by omega) (by omega)]; simp (disch := decide) only [e_u_na, e_u_ne]; exact m4
      · intro j hj
        rw [qj (4 + j) (by omega) (by omega), qj (13 + j) (by omega) (by omega), qj (22 + j) (by omega) (by omega)]
        simp (disch := decide) only [e_u_na]; exact m5 j hj
      · simp (disch := decide) only [e_u_na]; exact m6
      · intro j hj
        rw [qd]; simp (disch := decide) only [e_u_na, e_u_at]; rw [m7 j hj]
      · simp (disch := decide) only [e_u_na]; exact f2
      · rw [hdie]; simp (disch := decide) only [e_u_na, e_u_ne]; exact f3
      · rw [hdie]; simp (disch := decide) only [e_u_na, e_u_ne]; exact f4
      · rw [hdie]; simp (disch := decide) only [e_u_na, e_u_ne]; exact f5
      · intro j hj
        rw [hdie]; simp (disch := decide) only [e_u_na, e_u_at]; rw [f6 j hj]
      · intro j hj
        rw [hdie]; simp (disch := decide) only [e_u_na, e_u_at]; rw [f7 j hj]
      · rw [hdie]; simp (disch := decide) only [e_u_na]; exact f8
      · intro r r1 r2 r3 r4
        rw [e_u_na r3, e_u_na r4, e_u_na r2, e_u_na r1, e_u_na r1]
  · have hfn : fn1 B p (n, S) = (n, S) := by unfold fn1; rw [if_neg hfc]
    rw [hfn]
    have hF : FC I B S T := ⟨f1, f2, f3, f4, f5, f6, f7, f8⟩
    split
    · rename_i hq
      rw [if_neg (fun hd => hfc ⟨hq.2.1, by rw [hd]; simp, hq.1, hq.2.2.2⟩)]
      exact ⟨I, _, _, rfl, hF, fun _ _ _ _ _ => rfl⟩
    · exact ⟨I, _, _, rfl, hF, fun _ _ _ _ _ => rfl⟩
end S58
