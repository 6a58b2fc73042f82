section S60
/-- what comes between: a closing, a name put in by the scribe -/
def hkS (cl sn sm : Int32) (T : Nat) (S : e_T) : e_T :=
  if sm = e_n (T : Nat) ∧ S 0 (4 + sn.toNatClampNeg) = e_n (-1) then entS (if cl = e_n (T : Nat) then e_u S 0 3 (e_n 0) else S) sn.toNatClampNeg (e_n (-2))
  else (if cl = e_n (T : Nat) then e_u S 0 3 (e_n 0) else S)
def cb1 (I : Nat → Nat → Int32) : Nat → Nat → Int32 := if I 470 3 = I 470 7 then e_u I 471 4 (e_n 0) else I
def cb (I : Nat → Nat → Int32) : Nat → Nat → Int32 := if cb1 I 470 5 = cb1 I 470 7 then if (cb1 I 471 1) &&& (e_shl (e_n 1) (cb1 I 470 4)) = 0 then e_u (wr (wr (e_u (cb1 I) 471 1 ((cb1 I 471 1) ||| (e_shl (e_n 1) (cb1 I 470 4)))) (471 + 1) (cb1 I 470 4) (cb1 I 471 0)) (471 + 2) (cb1 I 470 4) (e_n (-2))) 470 6 (e_n 1) else cb1 I else cb1 I
theorem C14_0' {d : Nat} {I : Nat → Nat → Int32} {z : e_Z} : e_L (d + 4) 14 0 [.ref 470, .null, .null] [] (mk I z) = e_L (d + 4) 14 11 [.ref 470, .int (cb I 470 9), .int (e_n 0)] [] (mk (cb I) z) := C14_0
theorem wm_open {B : e_B} {S : e_T} (h : WM B (S 0)) : WM B (e_u S 0 3 (e_n 0) 0) := by
  obtain ⟨⟨t, ht, h0, h1⟩, h2, h3, h4, h5, h6, h7⟩ := h
  have key : ∀ j, e_u S 0 3 (e_n 0) 0 j = if j = 3 then e_n 0 else S 0 j := fun j => e_u_at
  refine ⟨⟨t, ht, ?_, ?_⟩, ?_, ?_, ?_, ?_, ?_, ?_⟩
  · rw [key, if_neg (by omega)]; exact h0
  · intro q hq; rw [key, if_neg (by omega)]; exact h1 q hq
  · intro q hq; rw [key, if_neg (by omega)]; exact h2 q hq
  · intro q hq; rw [key, if_neg (by omega)]; exact h3 q hq
  · rw [key, if_pos rfl]; exact Or.inl rfl
  · intro q hq; rw [key, if_neg (by omega)]; exact h5 q hq
  · intro q hq; rw [key, if_neg (by omega)]; exact h6 q hq
  · rw [key, key, if_neg (by omega), if_neg (by omega)]; exact h7
theorem cb1h {I : Nat → Nat → Int32} {B : e_B} {S : e_T} {T : Nat} {cl : Int32} (hF : FC I B S T) (ws : WS B S) (h3 : I 470 3 = cl) :
    FC (cb1 I) B (if cl = e_n (T : Nat) then e_u S 0 3 (e_n 0) else S) T ∧ WS B (if cl = e_n (T : Nat) then e_u S 0 3 (e_n 0) else S) ∧ (∀ r, r ≠ 471 → cb1 I r = I r) ∧ (∀ j, j ≠ 3 → (if cl = e_n (T : Nat) then e_u S 0 3 (e_n 0) else S) 0 j = S 0 j) ∧ (∀ r, r ≠ 0 → (if cl = e_n (T : Nat) then e_u S 0 3 (e_n 0) else S) r = S r) := by
  obtain ⟨f1, f2, f3, f4, f5, f6, f7, f8⟩ := id hF
  unfold cb1
  rw [h3, f2]
  by_cases hc : cl = e_n (T : Nat)
  · rw [if_pos hc, if_pos hc]
    have key : ∀ j, e_u S 0 3 (e_n 0) 0 j = if j = 3 then e_n 0 else S 0 j := fun j => e_u_at
    have hlm : lm B (e_u S 0 3 (e_n 0) 0) = lm B (S 0) := by
      unfold lm; apply itr_congr; intro i s hi; rw [e_u_ne (show 4 + i ≠ 3 by omega)]
    obtain ⟨m0, m1, m2, m3, m4, m5, m6, m7⟩ := f1
    refine ⟨⟨⟨?_, ?_, ?_, ?_, ?_, ?_, ?_, ?_⟩, ?_, ?_, ?_, ?_, ?_, ?_, ?_⟩, ⟨wm_open ws.1, ?_⟩, fun r hr => e_u_na hr, fun j hj => by rw [key, if_neg hj], fun r hr => e_u_na hr⟩
    · rw [key]; simp (disch := decide) only [e_u_ne]; exact m0
    · rw [hlm]; simp (disch := decide) only [e_u_ne]; exact m1
    · rw [key]; simp (disch := decide) only [e_u_ne]; exact m2
    · rw [key]; simp (disch := decide) only [e_u_ne]; exact m3
    · rw [key, if_pos rfl, e_u_same]
    · intro j hj
      rw [key, key, key, if_neg (by omega), if_neg (by omega), if_neg (by omega)]
      simp (disch := decide) only [e_u_na]; exact m5 j hj
    · simp (disch := decide) only [e_u_na]; exact m6
    · intro j hj; rw [key, if_neg (by omega)]; simp (disch := decide) only [e_u_na]; exact m7 j hj
    · simp (disch := decide) only [e_u_na]; exact f2
    · simp (disch := decide) only [e_u_na]; exact f3
    · simp (disch := decide) only [e_u_na]; exact f4
    · simp (disch := decide) only [e_u_na]; exact f5
    · simp (disch := decide) only [e_u_na]; exact f6
    · simp (disch := decide) only [e_u_na]; exact f7
    · simp (disch := decide) only [e_u_na]; exact f8
    · obtain ⟨-, k, hk, hk9⟩ := ws
      refine ⟨k, by rw [e_u_na (by decide)]; exact hk, ?_⟩
      rw [cnt_congr (g := fun q => decide (S 0 (4 + q) = e_n (-1))) (fun i hi => by rw [e_u_ne (show 4 + i ≠ 3 by omega)])]
      exact hk9
  · rw [if_neg hc, if_neg hc]
    exact ⟨hF, ws, fun _ _ => rfl, fun _ _ => rfl, fun _ _ => rfl⟩
theorem cbh {I : Nat → Nat → Int32} {B : e_B} {S : e_T} {T : Nat} {cl sn sm : Int32} (wb : WB B) (hF : FC I B S T) (ws : WS B S) (h3 : I 470 3 = cl) (h4 : I 470 4 = sn) (h5 : I 470 5 = sm) (hp : sm = e_n (T : Nat) → ∃ p, p < bPe B ∧ sn = e_n (p : Nat)) :
    FC (cb I) B (hkS cl sn sm T S) T ∧ WS B (hkS cl sn sm T S) ∧ (∀ r, r ≠ 470 → r ≠ 471 → r ≠ 472 → r ≠ 473 → cb I r = I r) ∧ (∀ k, k ≠ 6 → cb I 470 k = I 470 k) ∧ cb I 470 6 = (if sm = e_n (T : Nat) ∧ S 0 (4 + sn.toNatClampNeg) = e_n (-1) then e_n 1 else I 470 6) ∧ hkS cl sn sm T S 0 0 = S 0 0 := by
  have wb4 : bPe B ≤ 9 := wb.2.2.2.1
  obtain ⟨c1, c2, c3, c4, c5⟩ := cb1h hF ws h3
  generalize hS1 : (if cl = e_n (T : Nat) then e_u S 0 3 (e_n 0) else S) = S1 at c1 c2 c4 c5
  have e3 : cb1 I 470 = I 470 := c3 470 (by decide)
  unfold cb hkS
  rw [hS1, e3, h4, h5]
  rw [hF.2.1]
  by_cases hs : sm = e_n (T : Nat)
  · obtain ⟨p, hpp, hsn⟩ := hp hs
    have hpn : (e_n (p : Nat)).toNatClampNeg = p := e_n_nat' (by omega)
    have hbit : (lm B (S1 0) &&& e_shl (e_n 1) (e_n (p : Nat)) = 0) = (S 0 (4 + p) = e_n (-1)) := by
      rw [and_bit _ (by omega), bt_lm wb4, c4 (4 + p) (by omega)]
      have : decide (p < bPe B) = true := by simp; omega
      rw [this]
      by_cases hq : S 0 (4 + p) = e_n (-1) <;> simp [hq]
    rw [if_pos hs, hsn, c1.1.2.1]
    simp only [hbit, hpn, hs, true_and]
    by_cases hu : S 0 (4 + p) = e_n (-1)
    · rw [if_pos hu, if_pos hu, if_pos hu]
      obtain ⟨f1, f2, f3, f4, f5, f6, f7, f8⟩ := c1
      obtain ⟨m0, m1, m2, m3, m4, m5, m6, m7⟩ := f1
      have hu1 : S1 0 (4 + p) = e_n (-1) := by rw [c4 _ (by omega)]; exact hu
      obtain ⟨⟨t, ht, hday, -⟩, -⟩ := c2.1
      have hl : lm B (entS S1 p (e_n (-2)) 0) = lm B (S1 0) ||| e_shl (e_n 1) (e_n (p : Nat)) := lm_ent wb4 hpp (by rw [ent0, if_neg (by omega), if_pos rfl, hday]; exact e_n_neg1 (by omega)) (fun j hj hjp => by rw [ent0, if_neg (by omega), if_neg (by omega)])
      have es : ∀ j, j < 4 → entS S1 p (e_n (-2)) 0 j = S1 0 j := fun j hj => by rw [ent0, if_neg (by omega), if_neg (by omega)]
      rw [wr_N (r := 471 + 1) (k := p) (by rw [lna1 M3_471]; omega), wr_N (r := 471 + 2) (k := p) (by rw [lna2 M3_471]; omega), m0]
      refine ⟨⟨⟨?_, ?_, ?_, ?_, ?_, ?_, ?_, ?_⟩, ?_, ?_, ?_, ?_, ?_, ?_, ?_⟩, ⟨wm_ent wb4 c2.1 hpp (Or.inl rfl), ?_⟩, ?_, ?_, ?_, ?_⟩
      · rw [es 0 (by decide)]; simp (disch := decide) only [e_u_na, e_u_ne]; exact m0
      · rw [hl]; simp (disch := decide) only [e_u_na, e_u_same]
      · rw [es 1 (by decide)]; simp (disch := decide) only [e_u_na, e_u_ne]; exact m2
      · rw [es 2 (by decide)]; simp (disch := decide) only [e_u_na, e_u_ne]; exact m3
      · rw [es 3 (by decide)]; simp (disch := decide) only [e_u_na, e_u_ne]; exact m4
      · intro j hj
        rw [ent0, ent0, ent0, if_neg (show ¬ 4 + j = 13 + p by omega), if_neg (show ¬ 13 + j = 4 + p by omega), if_neg (show ¬ 22 + j = 13 + p by omega), if_neg (show ¬ 22 + j = 4 + p by omega)]
        simp (disch := decide) only [e_u_na, e_u_at]
        refine ⟨?_, ?_, (m5 j hj).2.2⟩
        · by_cases hjp : j = p
          · rw [if_pos hjp, if_pos (by omega)]
          · rw [if_neg hjp, if_neg (by omega)]; exact (m5 j hj).1
        · by_cases hjp : j = p
          · rw [if_pos hjp, if_pos (by omega)]
          · rw [if_neg hjp, if_neg (by omega)]; exact (m5 j hj).2.1
      · intro j hj hj9
        simp (disch := decide) only [e_u_na, e_u_at]
        rw [if_neg (by omega)]; exact m6 j hj hj9
      · intro j hj
        rw [ent0, if_neg (by omega), if_neg (by omega)]
        simp (disch := decide) only [e_u_na]; exact m7 j hj
      · simp (disch := decide) only [e_u_na, e_u_ne]; exact f2
      · rw [entr _ _ _ (by decide)]; simp (disch := decide) only [e_u_na, e_u_ne]; exact f3
      · rw [entr _ _ _ (by decide)]; simp (disch := decide) only [e_u_na, e_u_ne]; exact f4
      · rw [entr _ _ _ (by decide), entr _ _ _ (by decide)]; simp (disch := decide) only [e_u_na]; exact f5
      · rw [entr _ _ _ (by decide)]; simp (disch := decide) only [e_u_na]; exact f6
      · rw [entr _ _ _ (by decide)]; simp (disch := decide) only [e_u_na]; exact f7
      · rw [entr _ _ _ (by decide), entr _ _ _ (by decide)]; simp (disch := decide) only [e_u_na]; exact f8
      · obtain ⟨wm1, k, hk, hk9⟩ := c2
        have := un_ent (v := e_n (-2)) wb4 wm1 hpp hu1
        exact ⟨k, by rw [entr _ _ _ (by decide)]; exact hk, by omega⟩
      · intro r r1 r2 r3 r4
        rw [e_u_na r1, e_u_na r4, e_u_na r3, e_u_na r2, c3 r r2]
      · intro j hj
        rw [e_u_ne hj]; simp (disch := decide) only [e_u_na]; rw [e3]
      · rw [e_u_same]
      · rw [es 0 (by decide), c4 0 (by decide)]
    · rw [if_neg hu, if_neg hu, if_neg hu]
      exact ⟨c1, c2, fun r _ r2 _ _ => c3 r r2, fun k _ => by rw [e3], by rw [e3], c4 0 (by decide)⟩
  · rw [if_neg hs, if_neg (fun h => hs h.1), if_neg (fun h => hs h.1)]
    exact ⟨c1, c2, fun r _ r2 _ _ => c3 r r2, fun k _ => by rw [e3], by rw [e3], c4 0 (by decide)⟩
end S60
