/-! the forecast of the class: a morning -/
section S55
def FC (I : Nat → Nat → Int32) (B : e_B) (S : e_T) (T : Nat) : Prop :=
  MoC I 471 B (S 0) ∧ I 470 7 = e_n (T : Nat) ∧ I 470 8 = S 4 2 ∧ I 470 9 = S 4 0
  ∧ (∀ j, j < (S 4 0).toNatClampNeg → I 476 j = S 1 j) ∧ (∀ p, p < bPe B → I 477 p = S 2 p) ∧ (∀ m, m < bMa B → I 478 m = S 3 m)
  ∧ (∀ k, k < T → k < 30 → I 479 k = S 6 k ∧ I 480 k = S 7 k)
def WS (B : e_B) (S : e_T) : Prop := WM B (S 0) ∧ ∃ k : Nat, S 4 0 = e_n (k : Nat) ∧ k + cnt (bPe B) (fun p => decide (S 0 (4 + p) = e_n (-1))) ≤ 9
theorem ent0 (S : e_T) (c : Nat) (v : Int32) (j : Nat) : entS S c v 0 j = if j = 13 + c then v else if j = 4 + c then S 0 0 else S 0 j := by
  unfold entS
  rw [e_u_at]
  by_cases h : j = 13 + c
  · rw [if_pos h, if_pos h]
  · rw [if_neg h, if_neg h, e_u_at]
theorem entr (S : e_T) (c : Nat) (v : Int32) {r : Nat} (h : r ≠ 0) : entS S c v r = S r := by
  unfold entS; rw [e_u_na h, e_u_na h]
theorem lm_ent {B : e_B} (wb4 : bPe B ≤ 9) {M M' : Nat → Int32} {p : Nat} (hp : p < bPe B) (h0 : ¬ M' (4 + p) = e_n (-1)) (h : ∀ j, j < bPe B → j ≠ p → M' (4 + j) = M (4 + j)) : lm B M' = lm B M ||| e_shl (e_n 1) (e_n (p : Nat)) := by
  apply bt_ext
  intro i hi
  rw [bt_or, bt_bit (by omega), bt_lm wb4, bt_lm wb4]
  by_cases hip : i = p
  · subst hip; simp [h0, hp]
  · by_cases hl : i < bPe B
    · rw [h i hl hip]; simp [hip]
    · simp [hl, hip]
theorem e_n_neg1 {k : Nat} (h : k < 2147483648) : ¬ e_n (k : Nat) = e_n (-1) := by
  rw [e_n_inj (by omega) (by omega) (by decide) (by decide)]; omega
theorem c16h {d m T : Nat} {I : Nat → Nat → Int32} {z : e_Z} {B : e_B} {S : e_T} {sk n : Int32} (wb : WB B) (ws : WS B S) (hm : m < bMa B) (hB : BrC I (bd z.2.1.2.2.1) B) (hF : FC I B S T) (hs : I 470 2 = sk) :
    ∃ I', e_E (d + 4) 16 [.ref 470, .int (e_n (m : Nat))] (mk I z) = some (.inl none, mk I' z) ∧ FC I' B (wr1 B sk m (n, S)).2 T ∧ (∀ r, r ≠ bd z.2.1.2.2.1 + 10 → r ≠ bd z.2.1.2.2.1 + 11 → r ≠ 470 → r ≠ 471 → r ≠ 472 → r ≠ 473 → r ≠ 476 → I' r = I r) ∧ (∀ k, k ≠ 9 → I' 470 k = I 470 k) := by
  have hb := B2_bd z.2.1.2.2.1
  have hbl := B2_le hb
  have wb4 : bPe B ≤ 9 := wb.2.2.2.1
  have wb1 : bMa B ≤ 3 := wb.1
  obtain ⟨⟨⟨t, ht, hday, -⟩, -⟩, k, hk, hk9⟩ := ws
  obtain ⟨f1, f2, f3, f4, f5, f6, f7, f8⟩ := hF
  obtain ⟨I1, u1, h1, hA⟩ := lw_loop (d := d) (z := z) wb hm hB f1 hs (bPe B) 0 (e_n (-1), e_n 0) I .null (by omega) (fun _ _ _ => rfl)
  have hA' : ∀ r, 44 ≤ r → I1 r = I r := fun r hr => hA r (by omega) (by omega)
  suffices h : ∃ I', e_L (d + 3) 16 0 [.ref 470, .int (e_n (m : Nat)), .null, .null, .null, .null] [] (mk I z) = some (.inl none, mk I' z) ∧ FC I' B (wr1 B sk m (n, S)).2 T ∧ (∀ r, r ≠ bd z.2.1.2.2.1 + 10 → r ≠ bd z.2.1.2.2.1 + 11 → r ≠ 470 → r ≠ 471 → r ≠ 472 → r ≠ 473 → r ≠ 476 → I' r = I r) ∧ (∀ k, k ≠ 9 → I' 470 k = I 470 k) by
    obtain ⟨I', h1, h2⟩ := h
    exact ⟨I', e_E_ret (d := d + 3) h1, h2⟩
  rw [C16_0]
  have hpe : I1 (bd z.2.1.2.2.1) 6 = e_n (bPe B : Nat) := by rw [hA _ (by omega) (by omega)]; exact hB.2.2.2.1
  rw [show e_L (d + 3) 16 7 [.ref 470, .int (e_n (m : Nat)), .int (e_n (-1)), .int (e_n 0), .int (e_n 0), .null] [] (mk I z) = _ from h1, C16_7, hpe, if_neg (by rw [e_n_ltN (by omega) (by omega)]; omega)]
  rw [show (itr (fun p q => if e_n (p : Nat) = sk then q else if (S 0) (4 + p) = e_n (-1) then (if q.2 < grS B (S 0) m p then (e_n (p : Nat), grS B (S 0) m p) else q) else q) (bPe B) 0 (e_n (-1), e_n 0)) = chS B sk (S 0) m from rfl]
  have f1' : MoC I1 471 B (S 0) := MoC_fr (fun k _ => hA' _ (by omega)) f1
  rcases chS_sp B sk (S 0) m with hc | ⟨p, hp, hc, hM, -⟩
  · refine ⟨I1, by rw [if_pos hc], ?_, fun r r1 r2 _ _ _ _ _ => hA r r1 r2, fun k _ => by rw [hA' 470 (by omega)]⟩
    have : (wr1 B sk m (n, S)).2 = S := by unfold wr1; simp only [hc, if_true]
    rw [this]
    refine ⟨f1', ?_, ?_, ?_, ?_, ?_, ?_, ?_⟩
    · rw [hA' 470 (by omega)]; exact f2
    · rw [hA' 470 (by omega)]; exact f3
    · rw [hA' 470 (by omega)]; exact f4
    · rw [hA' 476 (by omega)]; exact f5
    · rw [hA' 477 (by omega)]; exact f6
    · rw [hA' 478 (by omega)]; exact f7
    · rw [hA' 479 (by omega), hA' 480 (by omega)]; exact f8
  · have hkl : k < 9 := by
      have : 0 < cnt (bPe B) (fun p => decide (S 0 (4 + p) = e_n (-1))) := by
        have h2 := cnt_up (n := bPe B) (p := p) (f := fun i => decide (S 0 (4 + i) = e_n (-1)) && !decide (i = p)) (g := fun i => decide (S 0 (4 + i) = e_n (-1))) hp (fun i _ hi => by simp [hi]) (by simp) (by simp [hM])
        omega
      omega
    have hcn : ¬ e_n (p : Nat) = e_n (-1) := e_n_neg1 (by omega)
    have hkn : (S 4 0).toNatClampNeg = k := by rw [hk]; exact e_n_nat' (by omega)
    have hpn : (e_n (p : Nat)).toNatClampNeg = p := e_n_nat' (by omega)
    obtain ⟨m0, m1, m2, m3, m4, m5, m6, m7⟩ := f1'
    have g4 : I1 470 9 = e_n (k : Nat) := by rw [hA' 470 (by omega), f4, hk]
    have hS : (wr1 B sk m (n, S)).2 = e_u (e_u (entS S p (e_n (m : Nat))) 1 k (e_n (p : Nat))) 4 0 (S 4 0 + e_n 1) := by
      unfold wr1
      simp only [hc, hcn, if_false, hpn, hkn]
    rw [hc, if_neg hcn, hS]
    simp (disch := decide) only [wr_na, e_u_na, g4]
    rw [wr_N (r := 471 + 1) (k := p) (by rw [lna1 M3_471]; omega), wr_N (r := 471 + 2) (k := p) (by rw [lna2 M3_471]; omega), wr_N (r := 476) (k := k) (Nat.lt_of_lt_of_le hkl (by decide)), m0, m1]
    have hr0 : (e_u (e_u (entS S p (e_n (m : Nat))) 1 k (e_n (p : Nat))) 4 0 (S 4 0 + e_n 1)) 0 = entS S p (e_n (m : Nat)) 0 := by rw [e_u_na (by decide), e_u_na (by decide)]
    have hl : lm B (entS S p (e_n (m : Nat)) 0) = lm B (S 0) ||| e_shl (e_n 1) (e_n (p : Nat)) := lm_ent wb4 hp (by rw [ent0, if_neg (by omega), if_pos rfl, hday]; exact e_n_neg1 (by omega)) (fun j hj hjp => by rw [ent0, if_neg (by omega), if_neg (by omega)])
    have e0 : entS S p (e_n (m : Nat)) 0 0 = S 0 0 := by rw [ent0, if_neg (by omega), if_neg (by omega)]
    have e1 : entS S p (e_n (m : Nat)) 0 1 = S 0 1 := by rw [ent0, if_neg (by omega), if_neg (by omega)]
    have e2 : entS S p (e_n (m : Nat)) 0 2 = S 0 2 := by rw [ent0, if_neg (by omega), if_neg (by omega)]
    have e3 : entS S p (e_n (m : Nat)) 0 3 = S 0 3 := by rw [ent0, if_neg (by omega), if_neg (by omega)]
    refine ⟨_, rfl, ⟨⟨?_, ?_, ?_, ?_, ?_, ?_, ?_, ?_⟩, ?_, ?_, ?_, ?_, ?_, ?_, ?_⟩, ?_, ?_⟩
    · rw [hr0, e0]; simp (disch := decide) only [e_u_na, e_u_at]; simpa using m0
    · rw [hr0, hl]; simp (disch := decide) only [e_u_na, e_u_at]; simp
    · rw [hr0, e1]; simp (disch := decide) only [e_u_na, e_u_at]; simpa using m2
    · rw [hr0, e2]; simp (disch := decide) only [e_u_na, e_u_at]; simpa using m3
    · rw [hr0, e3]; simp (disch := decide) only [e_u_na, e_u_at]; simpa using m4
    · intro j hj
      rw [hr0, ent0, ent0, ent0, if_neg (show ¬ 4 + j = 13 + p by omega), if_neg (show ¬ 13 + j = 4 + p by omega), if_neg (show ¬ 22 + j = 13 + p by omega), if_neg (show ¬ 22 + j = 4 + p by omega)]
      simp (disch := decide) only [e_u_na, e_u_at]
      refine ⟨?_, ?_, ?_⟩
      · by_cases hjp : j = p
        · rw [if_pos hjp, if_pos (by omega)]
        · rw [if_neg hjp, if_neg (by omega)]; exact (m5 j hj).1
      · by_cases hjp : j = p
        · rw [if_pos hjp, if_pos (by omega)]
        · rw [if_neg hjp, if_neg (by omega)]; exact (m5 j hj).2.1
      · exact (m5 j hj).2.2
    · intro j hj hj9
      simp (disch := decide) only [e_u_na, e_u_at]
      rw [if_neg (by omega)]; exact m6 j hj hj9
    · intro j hj
      rw [hr0, ent0, if_neg (by omega), if_neg (by omega)]
      simp (disch := decide) only [e_u_na]
      exact m7 j hj
    · simp (disch := decide) only [e_u_na, e_u_at]; simp; rw [hA' 470 (by omega)]; exact f2
    · simp (disch := decide) only [e_u_na, e_u_at]; simp; rw [hA' 470 (by omega), entr _ _ _ (by decide)]; exact f3
    · simp (disch := decide) only [e_u_na, e_u_at]; simp; rw [hk]
    · intro j hj
      simp (disch := decide) only [e_u_na, e_u_at] at hj ⊢
      simp only [if_true, hk, e_n_succ] at hj
      rw [e_n_nat' (by omega)] at hj
      by_cases hjk : j = k
      · rw [if_pos hjk, if_pos hjk]
      · rw [if_neg hjk, if_neg hjk, hA' 476 (by omega), entr _ _ _ (by decide)]
        exact f5 j (by omega)
    · intro j hj
      simp (disch := decide) only [e_u_na, e_u_at]
      rw [hA' 477 (by omega), entr _ _ _ (by decide)]; exact f6 j hj
    · intro j hj
      simp (disch := decide) only [e_u_na, e_u_at]
      rw [hA' 478 (by omega), entr _ _ _ (by decide)]; exact f7 j hj
    · intro j hj hj3
      simp (disch := decide) only [e_u_na, e_u_at]
      rw [hA' 479 (by omega), hA' 480 (by omega), entr _ _ _ (by decide), entr _ _ _ (by decide)]; exact f8 j hj hj3
    · intro r r1 r2 r3 r4 r5 r6 r7
      rw [e_u_na r3, e_u_na r7, e_u_na r6, e_u_na r5, e_u_na r4]; exact hA r r1 r2
    · intro j hj
      simp (disch := decide) only [e_u_na, e_u_at]
      rw [if_neg hj, hA' 470 (by omega)]
end S55
