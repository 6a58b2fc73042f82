/-! feed -/
section S99q
def byt (x : Int32) (s : Int32) : Int32 := e_shr x s &&& e_n 255
def fdR (R : Nat → Int32) (n : Nat) (x : Int32) : Nat → Int32 := fun j => if j = n + 3 then byt x (e_n 0) else if j = n + 2 then byt x (e_n 8) else if j = n + 1 then byt x (e_n 16) else if j = n then byt x (e_n 24) else R j
theorem fdR_cg {R R' : Nat → Int32} {n : Nat} {x : Int32} (h : ∀ k, k < n → R k = R' k) : ∀ k, k < n + 4 → fdR R n x k = fdR R' n x k := by
  intro k hk
  unfold fdR
  by_cases h3 : k = n + 3
  · rw [if_pos h3, if_pos h3]
  · by_cases h2 : k = n + 2
    · rw [if_neg h3, if_neg h3, if_pos h2, if_pos h2]
    · by_cases h1 : k = n + 1
      · rw [if_neg h3, if_neg h3, if_neg h2, if_neg h2, if_pos h1, if_pos h1]
      · by_cases h0 : k = n
        · rw [if_neg h3, if_neg h3, if_neg h2, if_neg h2, if_neg h1, if_neg h1, if_pos h0, if_pos h0]
        · rw [if_neg h3, if_neg h3, if_neg h2, if_neg h2, if_neg h1, if_neg h1, if_neg h0, if_neg h0]; exact h k (by omega)
theorem c117h {d n : Nat} {I : Nat → Nat → Int32} {z : e_Z} {x : Int32} (hn : n + 4 ≤ 700) (h : I 1 1 = e_n (n : Nat)) : ∃ I', e_E (d + 2) 117 [.ref 1, .int x] (mk I z) = some (.inl none, mk I' z) ∧ I' 1 1 = e_n ((n + 4 : Nat) : Nat) ∧ (∀ j, I' 2 j = fdR (I 2) n x j) ∧ (∀ r, r ≠ 1 → r ≠ 2 → I' r = I r) ∧ ∀ j, j ≠ 1 → I' 1 j = I 1 j := by
  have step : ∀ (s : Int32) (k : Nat) (K : Nat → Nat → Int32), ¬ s < 0 → k < 700 → K 1 1 = e_n (k : Nat) → e_L (d + 1) 117 3 [.ref 1, .int x, .int s] [] (mk K z) = e_L (d + 1) 117 3 [.ref 1, .int x, .int (s + e_n (-8))] [] (mk (e_u (e_u K 2 k (byt x s)) 1 1 (e_n ((k + 1 : Nat) : Nat))) z) := by
    intro s k K hs hk h1
    rw [C117_3, if_neg hs, h1, wr_N (r := 2) (k := k) hk, e_n_succ]; rfl
  refine ⟨e_u (e_u (e_u (e_u (e_u (e_u (e_u (e_u I 2 n (byt x (e_n 24))) 1 1 (e_n ((n + 1 : Nat) : Nat))) 2 (n + 1) (byt x (e_n 16))) 1 1 (e_n ((n + 2 : Nat) : Nat))) 2 (n + 2) (byt x (e_n 8))) 1 1 (e_n ((n + 3 : Nat) : Nat))) 2 (n + 3) (byt x (e_n 0))) 1 1 (e_n ((n + 4 : Nat) : Nat)), e_E_ret (d := d + 1) ?_, ?_, ?_, ?_, ?_⟩
  · show e_L (d + 1) 117 0 [.ref 1, .int x, .null] [] (mk I z) = _
    rw [C117_0, step (e_n 24) n I (by decide) (by omega) h, show (e_n 24 + e_n (-8)) = e_n 16 from by decide, step (e_n 16) (n + 1) _ (by decide) (by omega) e_u_same, show (e_n 16 + e_n (-8)) = e_n 8 from by decide, step (e_n 8) (n + 2) _ (by decide) (by omega) e_u_same, show (e_n 8 + e_n (-8)) = e_n 0 from by decide, step (e_n 0) (n + 3) _ (by decide) (by omega) e_u_same, C117_3, if_pos (by decide)]
  · exact e_u_same
  · intro j
    simp (disch := decide) only [e_u_na, e_u_at]
    rfl
  · intro r h1 h2
    simp (disch := assumption) only [e_u_na]
  · intro j hj
    simp (disch := first | decide | assumption) only [e_u_na, e_u_ne]
theorem c183h {d n : Nat} {I : Nat → Nat → Int32} {z : e_Z} {x : Int32} (hn : n + 4 ≤ 700) (h : I 489 19 = e_n (n : Nat)) : ∃ I', e_E (d + 1) 183 [.ref 489, .int x] (mk I z) = some (.inl none, mk I' z) ∧ I' 489 19 = e_n ((n + 4 : Nat) : Nat) ∧ (∀ j, I' 500 j = fdR (I 500) n x j) ∧ (∀ r, r ≠ 489 → r ≠ 500 → I' r = I r) ∧ ∀ j, j ≠ 19 → I' 489 j = I 489 j := by
  have step : ∀ (s : Int32) (k : Nat) (K : Nat → Nat → Int32), ¬ s < 0 → k < 700 → K 489 19 = e_n (k : Nat) → e_L d 183 3 [.ref 489, .int x, .int s] [] (mk K z) = e_L d 183 3 [.ref 489, .int x, .int (s + e_n (-8))] [] (mk (e_u (e_u K 500 k (byt x s)) 489 19 (e_n ((k + 1 : Nat) : Nat))) z) := by
    intro s k K hs hk h1
    rw [C183_3 (fun _ => by rw [h1]; exact InR_n (by omega) (by omega) (by omega)), if_neg hs, h1, e_n_nat' (by omega), e_n_succ]; rfl
  refine ⟨e_u (e_u (e_u (e_u (e_u (e_u (e_u (e_u I 500 n (byt x (e_n 24))) 489 19 (e_n ((n + 1 : Nat) : Nat))) 500 (n + 1) (byt x (e_n 16))) 489 19 (e_n ((n + 2 : Nat) : Nat))) 500 (n + 2) (byt x (e_n 8))) 489 19 (e_n ((n + 3 : Nat) : Nat))) 500 (n + 3) (byt x (e_n 0))) 489 19 (e_n ((n + 4 : Nat) : Nat)), e_E_ret (d := d) ?_, ?_, ?_, ?_, ?_⟩
  · show e_L d 183 0 [.ref 489, .int x, .null] [] (mk I z) = _
    rw [C183_0, step (e_n 24) n I (by decide) (by omega) h, show (e_n 24 + e_n (-8)) = e_n 16 from by decide, step (e_n 16) (n + 1) _ (by decide) (by omega) e_u_same, show (e_n 16 + e_n (-8)) = e_n 8 from by decide, step (e_n 8) (n + 2) _ (by decide) (by omega) e_u_same, show (e_n 8 + e_n (-8)) = e_n 0 from by decide, step (e_n 0) (n + 3) _ (by decide) (by omega) e_u_same, C183_3 (fun h => absurd (by decide) h), if_pos (by decide)]
  · exact e_u_same
  · intro j
    simp (disch := decide) only [e_u_na, e_u_at]
    rfl
  · intro r h1 h2
    simp (disch := assumption) only [e_u_na]
  · intro j hj
    simp (disch := first | decide | assumption) only [e_u_na, e_u_ne]
theorem F116 {d : Nat} {c1 : Int32} {I : Nat → Nat → Int32} {z : e_Z} {B : e_B} (H : Rel I z B) {a b c e f : Int32} : Face d c1 I z 116 182 [.int a, .int b, .int c, .int e, .int f] := by
  have hbc := bd_cases z
  obtain ⟨n, hn, h1, h19, hsame⟩ := H.2.2.2.2.2.1
  by_cases hbig : 700 < n + 20
  · refine face_rd H (r := .inl (e_n (-1))) (I1 := I) (zs_rf z) rfl (e_E_ret (d := d + 9) ?_) (fun _ _ => rfl) ?_
    · show e_L (d + 9) 116 0 [.ref 1, .int a, .int b, .int c, .int e, .int f] [] (mk I z) = _
      rw [C116_0, h1, e_n_add, show ((n : Int) + 20) = ((n + 20 : Nat) : Int) by omega, if_pos (by rw [show (e_n 700) = e_n ((700 : Nat) : Nat) from rfl, e_n_ltN (by omega) (by omega)]; omega)]
    · intro J z2 HJ hq
      obtain ⟨n', hn', h1', h19', -⟩ := HJ.2.2.2.2.2.1
      have hJ19 : J 489 19 = e_n (n : Nat) := by rw [hq 489 (by decide)]; exact h19
      refine ⟨e_u J 489 0 (e_n 0), e_n (-1), e_E_ret (d := d + 9) ?_, RfE_0, K0, rfl⟩
      show e_L (d + 9) 182 0 [.ref 489, .int a, .int b, .int c, .int e, .int f] [] (mk J z2) = _
      rw [C182_0, hJ19, e_n_add, show ((n : Int) + 20) = ((n + 20 : Nat) : Int) by omega, if_pos (by rw [show (e_n 700) = e_n ((700 : Nat) : Nat) from rfl, e_n_ltN (by omega) (by omega)]; omega)]
  · obtain ⟨I1, a1, b1, r1, f1, g1⟩ := c117h (d := d + 7) (z := z) (x := a) (n := n) (by omega) h1
    obtain ⟨I2, a2, b2, r2, f2, g2⟩ := c117h (d := d + 7) (z := z) (x := b) (n := n + 4) (by omega) b1
    obtain ⟨I3, a3, b3, r3, f3, g3⟩ := c117h (d := d + 7) (z := z) (x := c) (n := n + 4 + 4) (by omega) b2
    obtain ⟨I4, a4, b4, r4, f4, g4⟩ := c117h (d := d + 7) (z := z) (x := e) (n := n + 4 + 4 + 4) (by omega) b3
    obtain ⟨I5, a5, b5, r5, f5, g5⟩ := c117h (d := d + 7) (z := z) (x := f) (n := n + 4 + 4 + 4 + 4) (by omega) b4
    have hno : ¬ e_n 700 < e_n (n : Nat) + e_n 20 := by
      rw [e_n_add, show ((n : Int) + 20) = ((n + 20 : Nat) : Int) by omega, show (e_n 700) = e_n ((700 : Nat) : Nat) from rfl, e_n_ltN (by omega) (by omega)]; omega
    have fr : ∀ r, r ≠ 1 → r ≠ 2 → I5 r = I r := fun r q1 q2 => by rw [f5 r q1 q2, f4 r q1 q2, f3 r q1 q2, f2 r q1 q2, f1 r q1 q2]
    have fj : ∀ j, j ≠ 1 → I5 1 j = I 1 j := fun j q => by rw [g5 j q, g4 j q, g3 j q, g2 j q, g1 j q]
    refine ⟨.inl (e_n ((n + 20 : Nat) : Nat)), I5, z, zs_rf z, e_E_ret (d := d + 9) ?_, fun z2 hz2 => ?_⟩
    · show e_L (d + 9) 116 0 [.ref 1, .int a, .int b, .int c, .int e, .int f] [] (mk I z) = _
      rw [C116_0, h1, if_neg hno, a1, e_rV_n, C116_20, a2, e_rV_n, C116_25, a3, e_rV_n, C116_30, a4, e_rV_n, C116_36, a5, e_rV_n, C116_42, b5]
    · have k0 : e_u I5 489 0 (e_n 0) 489 19 = e_n (n : Nat) := by rw [e_u_ne (by decide), fr 489 (by decide) (by decide)]; exact h19
      obtain ⟨J1, c1', d1, s1, p1, q1⟩ := c183h (d := d + 8) (z := z2) (x := a) (n := n) (by omega) k0
      obtain ⟨J2, c2', d2, s2, p2, q2⟩ := c183h (d := d + 8) (z := z2) (x := b) (n := n + 4) (by omega) d1
      obtain ⟨J3, c3', d3, s3, p3, q3⟩ := c183h (d := d + 8) (z := z2) (x := c) (n := n + 4 + 4) (by omega) d2
      obtain ⟨J4, c4', d4, s4, p4, q4⟩ := c183h (d := d + 8) (z := z2) (x := e) (n := n + 4 + 4 + 4) (by omega) d3
      obtain ⟨J5, c5', d5, s5, p5, q5⟩ := c183h (d := d + 8) (z := z2) (x := f) (n := n + 4 + 4 + 4 + 4) (by omega) d4
      have frJ : ∀ r, r ≠ 489 → r ≠ 500 → J5 r = I5 r := fun r u1 u2 => by rw [p5 r u1 u2, p4 r u1 u2, p3 r u1 u2, p2 r u1 u2, p1 r u1 u2, e_u_na u1]
      have fjJ : ∀ j, j ≠ 19 → j ≠ 0 → J5 489 j = I 489 j := fun j u1 u2 => by rw [q5 j u1, q4 j u1, q3 j u1, q2 j u1, q1 j u1, e_u_ne u2, fr 489 (by decide) (by decide)]
      have h00 : J5 489 0 = e_n 0 := by rw [q5 0 (by decide), q4 0 (by decide), q3 0 (by decide), q2 0 (by decide), q1 0 (by decide), e_u_same]
      have e500 : e_u I5 489 0 (e_n 0) 500 = I 500 := by rw [e_u_na (by decide), fr 500 (by decide) (by decide)]
      have eqv : ∀ k, k < n + 4 + 4 + 4 + 4 + 4 → J5 2 k = J5 500 k := by
        have w1 : ∀ k, k < n + 4 → I1 2 k = J1 500 k := fun k hk => by rw [r1, s1, e500]; exact fdR_cg hsame k hk
        have w2 : ∀ k, k < n + 4 + 4 → I2 2 k = J2 500 k := fun k hk => by rw [r2, s2]; exact fdR_cg w1 k hk
        have w3 : ∀ k, k < n + 4 + 4 + 4 → I3 2 k = J3 500 k := fun k hk => by rw [r3, s3]; exact fdR_cg w2 k hk
        have w4 : ∀ k, k < n + 4 + 4 + 4 + 4 → I4 2 k = J4 500 k := fun k hk => by rw [r4, s4]; exact fdR_cg w3 k hk
        intro k hk
        rw [frJ 2 (by decide) (by decide), r5, s5]; exact fdR_cg w4 k hk
      have fr2 : ∀ r, r ≠ 1 → r ≠ 2 → r ≠ 489 → r ≠ 500 → J5 r = I r := fun r u1 u2 u3 u4 => by rw [frJ r u3 u4, fr r u1 u2]
      refine ⟨J5, B, e_n ((n + 20 : Nat) : Nat), e_E_ret (d := d + 9) ?_, ?_, h00, rfl⟩
      · show e_L (d + 9) 182 0 [.ref 489, .int a, .int b, .int c, .int e, .int f] [] (mk I5 z2) = _
        have h19' : I5 489 19 = e_n (n : Nat) := by rw [fr 489 (by decide) (by decide)]; exact h19
        rw [C182_0, h19', if_neg hno, c1', e_rV_n, C182_25, c2', e_rV_n, C182_30, c3', e_rV_n, C182_35, c4', e_rV_n, C182_41, c5', e_rV_n, C182_47, d5]
      · have hzz : z2.2.1.1 = z.2.1.1 := by rw [hz2]
        obtain ⟨a1, a2, a3, a4, a5, a6, a7, a8, a9, a10, a11⟩ := H
        have x1 : ∀ j, j ≠ 1 → J5 1 j = I 1 j := fun j hj => by rw [frJ 1 (by decide) (by decide)]; exact fj j hj
        have y : ∀ j, j ≠ 19 → j ≠ 0 → J5 489 j = I 489 j := fjJ
        refine ⟨a1, ?_, RB_fr (fun k _ _ => y k (by omega) (by omega)) (fun q q1 q2 => fr2 q (by omega) (by omega) (by omega) (by omega)) a3, by rw [y 61 (by decide) (by decide)]; exact a4, by rw [y 69 (by decide) (by decide)]; exact a5, ⟨n + 20, by omega, ?_, d5, eqv⟩, by rw [x1 2 (by decide), y 21 (by decide) (by decide)]; exact a7, by rw [fr2 3 (by decide) (by decide) (by decide) (by decide), fr2 501 (by decide) (by decide) (by decide) (by decide)]; exact a8, ?_, ?_, ?_⟩
        · rw [hzz]
          exact BrC_fr (fun k k1 k2 k3 k4 k5 => fr2 _ (by omega) (by omega) (by omega) (by omega)) a2
        · rw [frJ 1 (by decide) (by decide)]; exact b5
        · rw [y 56 (by decide) (by decide), y 76 (by decide) (by decide)]
          exact StR_fr (fun r r1 r2 => fr2 r (by omega) (by omega) (by omega) (by omega)) (fr2 515 (by decide) (by decide) (by decide) (by decide)) (fr2 516 (by decide) (by decide) (by decide) (by decide)) (fr2 532 (by decide) (by decide) (by decide) (by decide)) a9
        · rw [x1 9 (by decide), y 81 (by decide) (by decide), fr2 260 (by decide) (by decide) (by decide) (by decide)]; exact a10
        · rw [y 81 (by decide) (by decide), y 82 (by decide) (by decide), y 83 (by decide) (by decide)]
          rcases a11 with q | ⟨q, r⟩
          · exact Or.inl q
          · exact Or.inr ⟨q, StR_fr (fun r r1 r2 => fr2 r (by omega) (by omega) (by omega) (by omega)) (fr2 535 (by decide) (by decide) (by decide) (by decide)) (fr2 536 (by decide) (by decide) (by decide) (by decide)) (fr2 537 (by decide) (by decide) (by decide) (by decide)) r⟩
end S99q
