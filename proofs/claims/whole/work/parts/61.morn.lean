section S61
def cb2 (x1 : Int32) (I : Nat → Nat → Int32) : Nat → Nat → Int32 := if I 470 9 = x1 then if I 470 8 = e_n (-1) then e_u I 470 8 (I 471 0) else I else I
theorem wrS_sum {d T : Nat} {I : Nat → Nat → Int32} {z : e_Z} {B : e_B} {S : e_T} {sk x1 : Int32} (wb : WB B) (hB : BrC I (bd z.2.1.2.2.1) B) (hF : FC I B S T) (ws : WS B S) (hs : I 470 2 = sk) :
    ∃ I', e_L (d + 4) 14 11 [.ref 470, .int x1, .int (e_n 0)] [] (mk I z) = (e_rI (e_E (d + 4) 17 [.ref 470] (mk (cb2 x1 I') z)) (fun v σ => e_L (d + 4) 14 82 [.ref 470, .int x1, .int (if S 0 3 = e_n 1 then e_n (bMa B : Nat) else e_n 0)] [.int v, .int (cb2 x1 I' 470 7), .ref 479] σ) (e_H (e_L (d + 4) 14) 14 79 [.ref 470, .int x1, .int (if S 0 3 = e_n 1 then e_n (bMa B : Nat) else e_n 0)])) ∧ FC I' B (wrS B sk S).2 T ∧ WS B (wrS B sk S).2 ∧ keepW S (wrS B sk S).2 ∧ (∃ c : Nat, c ≤ 3 ∧ (wrS B sk S).1 = e_n (c : Nat) ∧ (wrS B sk S).2 4 0 = S 4 0 + e_n (c : Nat)) ∧ (∀ r, r ≠ bd z.2.1.2.2.1 + 10 → r ≠ bd z.2.1.2.2.1 + 11 → r ≠ 470 → r ≠ 471 → r ≠ 472 → r ≠ 473 → r ≠ 476 → I' r = I r) ∧ (∀ k, k ≠ 9 → I' 470 k = I 470 k) := by
  have hb := B2_bd z.2.1.2.2.1
  have hbl := B2_le hb
  have wb1 : bMa B ≤ 3 := wb.1
  by_cases ho : S 0 3 = e_n 1
  · obtain ⟨I1, h1, h2, h3, h4, ⟨c, hc, h5, h6⟩, h7, h8⟩ := wr_loop (d := d) (z := z) (T := T) (x1 := x1) wb (bMa B) 0 (e_n 0, S) I (by omega) hB hF ws hs ho
    have hw : wrS B sk S = itr (wr1 B sk) (bMa B) 0 (e_n 0, S) := by unfold wrS; rw [if_pos ho]
    rw [hw, if_pos ho]
    refine ⟨I1, ?_, h2, h3, h4, ⟨c, by omega, by rw [h5, e_n_add]; congr 1; omega, h6⟩, h7, h8⟩
    have hma : I1 (bd z.2.1.2.2.1) 2 = e_n (bMa B : Nat) := by rw [h7 _ (by omega) (by omega) (by omega) (by omega) (by omega) (by omega) (by omega)]; exact hB.1
    rw [show e_L (d + 4) 14 11 [.ref 470, .int x1, .int (e_n 0)] [] (mk I z) = _ from h1, C14_11, hma, if_neg (by rw [e_n_ltN (by omega) (by omega)]; omega)]
    rfl
  · have ho0 : S 0 3 = e_n 0 := ws.1.2.2.2.1.resolve_right ho
    have hw : wrS B sk S = (e_n 0, S) := by unfold wrS; rw [if_neg ho]
    rw [hw, if_neg ho]
    refine ⟨I, ?_, hF, ws, ⟨rfl, rfl, fun _ _ _ _ => rfl, fun _ _ => rfl⟩, ⟨0, by omega, rfl, by simp; rfl⟩, fun _ _ _ _ _ _ _ _ => rfl, fun _ _ => rfl⟩
    have h4 : I 471 4 = 0 := by rw [hF.1.2.2.2.2.1, ho0]; rfl
    rw [C14_11]
    split
    · first
        | rfl
        | (rw [if_pos h4]; rfl)
    · rfl
theorem FC_idle {I : Nat → Nat → Int32} {B : e_B} {S : e_T} {T : Nat} (v : Int32) (hF : FC I B S T) : FC (e_u I 470 8 v) B (e_u S 4 2 v) T := by
  obtain ⟨f1, f2, f3, f4, f5, f6, f7, f8⟩ := hF
  refine ⟨?_, ?_, ?_, ?_, ?_, ?_, ?_, ?_⟩
  · rw [e_u_na (show (0 : Nat) ≠ 4 by decide)]
    exact MoC_fr (fun k hk => e_u_na (by omega)) f1
  · rw [e_u_ne (by decide)]; exact f2
  · rw [e_u_same, e_u_same]
  · rw [e_u_ne (by decide), e_u_ne (by decide)]; exact f4
  · rw [e_u_ne (show (0 : Nat) ≠ 2 by decide)]
    intro j hj
    rw [e_u_na (show (476 : Nat) ≠ 470 by decide), e_u_na (show (1 : Nat) ≠ 4 by decide)]; exact f5 j hj
  · rw [e_u_na (by decide), e_u_na (by decide)]; exact f6
  · rw [e_u_na (by decide), e_u_na (by decide)]; exact f7
  · rw [e_u_na (by decide), e_u_na (by decide), e_u_na (by decide), e_u_na (by decide)]; exact f8
theorem WS_idle {B : e_B} {S : e_T} (v : Int32) (ws : WS B S) : WS B (e_u S 4 2 v) := by
  obtain ⟨wm, k, hk, hk9⟩ := ws
  have h0 : e_u S 4 2 v 0 = S 0 := e_u_na (by decide)
  exact ⟨by rw [h0]; exact wm, k, by rw [e_u_ne (by decide)]; exact hk, by rw [h0]; exact hk9⟩
/-- one morning -/
theorem c14h {d T t : Nat} {I : Nat → Nat → Int32} {z : e_Z} {B : e_B} {S : e_T} {sk cl sn sm : Int32} (wb : WB B) (hB : BrC I (bd z.2.1.2.2.1) B) (hF : FC I B S T) (ws : WS B S) (hT : T < 30) (ht : t < 60) (hday : S 0 0 = e_n (t : Nat)) (h2 : I 470 2 = sk) (h3 : I 470 3 = cl) (h4 : I 470 4 = sn) (h5 : I 470 5 = sm) (hp : sm = e_n (T : Nat) → ∃ p, p < bPe B ∧ sn = e_n (p : Nat)) :
    ∃ I', e_E (d + 5) 14 [.ref 470] (mk I z) = some (.inl none, mk I' z) ∧ FC I' B (moS B sk T (hkS cl sn sm T S)) (T + 1) ∧ WS B (moS B sk T (hkS cl sn sm T S)) ∧ moS B sk T (hkS cl sn sm T S) 0 0 = e_n ((t + 1 : Nat) : Nat) ∧ (∀ r, r ≠ bd z.2.1.2.2.1 + 10 → r ≠ bd z.2.1.2.2.1 + 11 → (r < 470 ∨ 480 < r) → I' r = I r) ∧ I' 470 2 = sk ∧ I' 470 3 = cl ∧ I' 470 4 = sn ∧ I' 470 5 = sm ∧ I' 470 6 = (if sm = e_n (T : Nat) ∧ S 0 (4 + sn.toNatClampNeg) = e_n (-1) then e_n 1 else I 470 6) ∧ I' 470 1 = I 470 1 := by
  have hb := B2_bd z.2.1.2.2.1
  have hbl := B2_le hb
  obtain ⟨a1, a2, a3, a4, a5, a6⟩ := cbh wb hF ws h3 h4 h5 hp
  generalize hS0 : hkS cl sn sm T S = S0 at a1 a2 a6
  have hB1 : BrC (cb I) (bd z.2.1.2.2.1) B := BrC_fr (fun k _ _ _ _ _ => a3 _ (by omega) (by omega) (by omega) (by omega)) hB
  obtain ⟨I2, b1, b2, b3, b4, ⟨c, hc, b5, b6⟩, b7, b8⟩ := wrS_sum (d := d) (z := z) (sk := sk) (x1 := cb I 470 9) wb hB1 a1 a2 (by rw [a4 2 (by decide)]; exact h2)
  generalize hw : wrS B sk S0 = w at b2 b3 b4 b5 b6
  have hx1 : cb I 470 9 = S0 4 0 := a1.2.2.2.1
  obtain ⟨wm0, k0, hk0, hk9⟩ := id a2
  have hcz : (I2 470 9 = cb I 470 9) = (w.1 = e_n 0) := by
    rw [hx1, b2.2.2.2.1, b6, b5, hk0, e_n_add, e_n_inj (by omega) (by omega) (by omega) (by omega), e_n_inj (by omega) (by omega) (by omega) (by omega)]
    apply propext; omega
  have hS1 : FC (cb2 (cb I 470 9) I2) B (if w.1 = e_n 0 ∧ S0 4 2 = e_n (-1) then e_u w.2 4 2 (S0 0 0) else w.2) T ∧ WS B (if w.1 = e_n 0 ∧ S0 4 2 = e_n (-1) then e_u w.2 4 2 (S0 0 0) else w.2) ∧ (∀ r, r ≠ 470 → cb2 (cb I 470 9) I2 r = I2 r) ∧ (∀ k, k ≠ 8 → cb2 (cb I 470 9) I2 470 k = I2 470 k) := by
    unfold cb2
    have hi8 : I2 470 8 = S0 4 2 := by rw [b2.2.2.1]; exact b4.2.2.2 2 (by decide)
    have hi0 : I2 471 0 = S0 0 0 := by rw [b2.1.1]; exact b4.2.1
    simp only [hcz, hi8, hi0]
    by_cases q1 : w.1 = e_n 0
    · by_cases q2 : S0 4 2 = e_n (-1)
      · rw [if_pos q1, if_pos q2, if_pos ⟨q1, q2⟩]
        exact ⟨FC_idle _ b2, WS_idle _ b3, fun r hr => e_u_na hr, fun k hk => e_u_ne hk⟩
      · rw [if_pos q1, if_neg q2, if_neg (fun h => q2 h.2)]
        exact ⟨b2, b3, fun _ _ => rfl, fun _ _ => rfl⟩
    · rw [if_neg q1, if_neg (fun h => q1 h.1)]
      exact ⟨b2, b3, fun _ _ => rfl, fun _ _ => rfl⟩
  have hS1d : (if w.1 = e_n 0 ∧ S0 4 2 = e_n (-1) then e_u w.2 4 2 (S0 0 0) else w.2) 0 = w.2 0 := by
    split
    · rw [e_u_na (by decide)]
    · rfl
  generalize hS1e : (if w.1 = e_n 0 ∧ S0 4 2 = e_n (-1) then e_u w.2 4 2 (S0 0 0) else w.2) = S1 at hS1 hS1d
  obtain ⟨d1, d2, d3, d4⟩ := hS1
  have hB2 : BrC (cb2 (cb I 470 9) I2) (bd z.2.1.2.2.1) B := BrC_fr (fun k _ _ _ q10 q11 => by rw [d3 _ (by omega), b7 _ (by omega) (by omega) (by omega) (by omega) (by omega) (by omega) (by omega)]) hB1
  obtain ⟨I3, e1, e2, e3, e4, e5⟩ := c17h (d := d) (z := z) (T := T) wb hB2 d1 d2
  generalize hf : fnS B S1 = f at e1 e2 e3 e4
  have hmo : moS B sk T S0 = e_u (e_u (e_u (e_u f.2 5 T w.1) 6 T f.1) 7 T (lm B (f.2 0))) 0 0 (e_u (e_u (e_u f.2 5 T w.1) 6 T f.1) 7 T (lm B (f.2 0)) 0 0 + e_n 1) := by
    unfold moS
    simp only [hw, hS1e, hf, if_pos hT]
  have hday3 : f.2 0 0 = e_n (t : Nat) := by rw [e4.1, hS1d, b4.2.1, a6, hday]
  have g7 : I3 470 7 = e_n (T : Nat) := e2.2.1
  have g7' : cb2 (cb I 470 9) I2 470 7 = e_n (T : Nat) := d1.2.1
  obtain ⟨f1, f2, f3, f4, f5, f6, f7, f8⟩ := id e2
  obtain ⟨m0, m1, m2, m3, m4, m5, m6, m7⟩ := f1
  have r0 : ∀ j, moS B sk T S0 0 j = if j = 0 then f.2 0 0 + e_n 1 else f.2 0 j := by
    intro j; rw [hmo]; simp (disch := decide) only [e_u_na, e_u_at]
  have rj : ∀ j, j ≠ 0 → moS B sk T S0 0 j = f.2 0 j := fun j hj => by rw [r0, if_neg hj]
  have rr : ∀ r, r ≠ 0 → r ≠ 5 → r ≠ 6 → r ≠ 7 → moS B sk T S0 r = f.2 r := by
    intro r q0 q5 q6 q7; rw [hmo, e_u_na q0, e_u_na q7, e_u_na q6, e_u_na q5]
  have hlm : lm B (moS B sk T S0 0) = lm B (f.2 0) := by
    unfold lm; apply itr_congr; intro i s hi; rw [rj _ (by omega)]
  suffices h : ∃ I', e_L (d + 4) 14 0 [.ref 470, .null, .null] [] (mk I z) = some (.inl none, mk I' z) ∧ FC I' B (moS B sk T S0) (T + 1) ∧ WS B (moS B sk T S0) ∧ moS B sk T S0 0 0 = e_n ((t + 1 : Nat) : Nat) ∧ (∀ r, r ≠ bd z.2.1.2.2.1 + 10 → r ≠ bd z.2.1.2.2.1 + 11 → (r < 470 ∨ 480 < r) → I' r = I r) ∧ (∀ k, k ≠ 6 → k ≠ 7 → k ≠ 8 → k ≠ 9 → I' 470 k = I 470 k) ∧ I' 470 6 = cb I 470 6 by
    obtain ⟨I', x1, x2, x3, x4, x5, x6, x7⟩ := h
    exact ⟨I', e_E_ret (d := d + 4) x1, x2, x3, x4, x5, by rw [x6 2 (by decide) (by decide) (by decide) (by decide)]; exact h2, by rw [x6 3 (by decide) (by decide) (by decide) (by decide)]; exact h3, by rw [x6 4 (by decide) (by decide) (by decide) (by decide)]; exact h4, by rw [x6 5 (by decide) (by decide) (by decide) (by decide)]; exact h5, by rw [x7, a5], x6 1 (by decide) (by decide) (by decide) (by decide)⟩
  have k470 : ∀ k, k ≠ 8 → k ≠ 9 → k ≠ 6 → I3 470 k = I 470 k := fun k q8 q9 q6 => by rw [e5 470 (by decide) (by decide) (by decide) (by decide), d4 k q8, b8 k q9, a4 k q6]
  rw [C14_0', b1, e1, e_rI_i, C14_82, g7', g7, wr_N (r := 479) (k := T) (Nat.lt_of_lt_of_le hT (by decide)), wr_N (r := 480) (k := T) (Nat.lt_of_lt_of_le hT (by decide)), e_n_succ, m0, m1]
  have t5 : moS B sk T S0 5 = fun j => if j = T then w.1 else f.2 5 j := by rw [hmo, e_u_na (by decide), e_u_na (by decide), e_u_na (by decide)]; rfl
  have t6 : ∀ j, moS B sk T S0 6 j = if j = T then f.1 else f.2 6 j := by intro j; rw [hmo, e_u_na (by decide), e_u_na (by decide), e_u_at, e_u_na (by decide)]
  have t7 : ∀ j, moS B sk T S0 7 j = if j = T then lm B (f.2 0) else f.2 7 j := by intro j; rw [hmo, e_u_na (by decide), e_u_at, e_u_na (by decide), e_u_na (by decide)]
  refine ⟨_, rfl, ⟨⟨?_, ?_, ?_, ?_, ?_, ?_, ?_, ?_⟩, ?_, ?_, ?_, ?_, ?_, ?_, ?_⟩, ?_, ?_, ?_, ?_, ?_⟩
  · rw [r0, if_pos rfl, e_u_same]
  · rw [hlm]; simp (disch := decide) only [e_u_na, e_u_ne]; exact m1
  · rw [rj 1 (by decide)]; simp (disch := decide) only [e_u_na, e_u_ne]; exact m2
  · rw [rj 2 (by decide)]; simp (disch := decide) only [e_u_na, e_u_ne]; exact m3
  · rw [rj 3 (by decide)]; simp (disch := decide) only [e_u_na, e_u_ne]; exact m4
  · intro j hj
    rw [rj (4 + j) (by omega), rj (13 + j) (by omega), rj (22 + j) (by omega)]
    simp (disch := decide) only [e_u_na]; exact m5 j hj
  · simp (disch := decide) only [e_u_na]; exact m6
  · intro j hj
    rw [rj (31 + j) (by omega)]
    simp (disch := decide) only [e_u_na]; exact m7 j hj
  · simp (disch := decide) only [e_u_na, e_u_same]
  · rw [rr 4 (by decide) (by decide) (by decide) (by decide)]; simp (disch := decide) only [e_u_na, e_u_ne]; exact f3
  · rw [rr 4 (by decide) (by decide) (by decide) (by decide)]; simp (disch := decide) only [e_u_na, e_u_ne]; exact f4
  · rw [rr 4 (by decide) (by decide) (by decide) (by decide), rr 1 (by decide) (by decide) (by decide) (by decide)]; simp (disch := decide) only [e_u_na]; exact f5
  · rw [rr 2 (by decide) (by decide) (by decide) (by decide)]; simp (disch := decide) only [e_u_na]; exact f6
  · rw [rr 3 (by decide) (by decide) (by decide) (by decide)]; simp (disch := decide) only [e_u_na]; exact f7
  · intro j hj hj3
    rw [t6, t7]
    simp (disch := decide) only [e_u_na, e_u_at]
    by_cases hjT : j = T
    · rw [if_pos hjT, if_pos hjT, if_pos hjT, if_pos hjT]; exact ⟨rfl, rfl⟩
    · rw [if_neg hjT, if_neg hjT, if_neg hjT, if_neg hjT]; exact f8 j (by omega) hj3
  · obtain ⟨⟨⟨u, hu, q0, q1⟩, q2, q3, q4, q5, q6, q7⟩, k, hk, hkc⟩ := e3
    have hut : u = t := by
      rw [hday3, e_n_inj (by omega) (by omega) (by omega) (by omega)] at q0; omega
    refine ⟨⟨⟨t + 1, by omega, by rw [r0, if_pos rfl, hday3, e_n_succ], ?_⟩, ?_, ?_, ?_, ?_, ?_, ?_⟩, k, ?_, ?_⟩
    · intro p hp
      rw [rj _ (by omega)]
      rcases q1 p hp with h | ⟨x, hx, h⟩
      · exact Or.inl h
      · exact Or.inr ⟨x, by omega, h⟩
    · intro p hp; rw [rj _ (by omega)]; exact q2 p hp
    · intro p hp; rw [rj _ (by omega)]; exact q3 p hp
    · rw [rj _ (by omega)]; exact q4
    · intro p hp; rw [rj _ (by omega)]; exact q5 p hp
    · intro p hp; rw [rj _ (by omega)]; exact q6 p hp
    · rw [rj _ (by omega), rj _ (by omega)]; exact q7
    · rw [rr 4 (by decide) (by decide) (by decide) (by decide)]; exact hk
    · rw [cnt_congr (g := fun q => decide (f.2 0 (4 + q) = e_n (-1))) (fun i hi => by rw [rj _ (by omega)])]; exact hkc
  · rw [r0, if_pos rfl, hday3, e_n_succ]
  · intro r q10 q11 hr
    rw [e_u_na (by omega), e_u_na (by omega), e_u_na (by omega), e_u_na (by omega), e5 r (by omega) (by omega) (by omega) (by omega), d3 r (by omega), b7 r q10 q11 (by omega) (by omega) (by omega) (by omega) (by omega), a3 r (by omega) (by omega) (by omega) (by omega)]
  · intro k q6 q7 q8 q9
    rw [e_u_na (by decide), e_u_ne q7, e_u_na (by decide), e_u_na (by decide)]; exact k470 k q8 q9 q6
  · rw [e_u_na (by decide), e_u_ne (by decide), e_u_na (by decide), e_u_na (by decide), e5 470 (by decide) (by decide) (by decide) (by decide), d4 6 (by decide), b8 6 (by decide)]
end S61
