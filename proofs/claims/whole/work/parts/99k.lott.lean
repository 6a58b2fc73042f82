/-! the lottery: the class -/
section S99k
def LC (I : Nat → Nat → Int32) (B : e_B) (q : Int32 × e_T) : Prop := I 484 1 = lm B (q.2 0) ∧ I 484 2 = q.2 0 1 ∧ I 484 3 = q.2 0 2 ∧ I 484 4 = q.2 0 3 ∧ (∀ p, p < bPe B → I 486 p = q.2 0 (13 + p) ∧ I 487 p = q.2 0 (22 + p)) ∧ (∀ m, m < bMa B → I 488 m = q.2 0 (31 + m)) ∧ I 483 2 = q.1 ∧ I 483 1 = q.2 4 1
theorem aw_msk (B : e_B) (M : Nat → Int32) : aw B M = msk (bPe B) (fun p => decide (bR B 1 (M (22 + p)).toNatClampNeg = e_n (-1))) := by
  unfold aw msk
  apply itr_congr
  intro i s hi
  by_cases h : bR B 1 (M (22 + i)).toNatClampNeg = e_n (-1) <;> simp [h]
theorem c42h {d n : Nat} {I : Nat → Nat → Int32} {z : e_Z} (h0 : 0 < n) (hn : n < 1000) : e_E (d + 1) 42 [.ref 483, .int (e_n (n : Nat))] (mk I z) = some (.inl (some (.int (drV (drS (I 483 2)) (e_n (n : Nat))))), mk (e_u I 483 2 (drS (I 483 2))) z) := by
  have hpos : (0 : Int32) < e_n (n : Nat) := by rw [show (0 : Int32) = e_n ((0 : Nat) : Nat) from rfl, e_n_ltN (by omega) (by omega)]; exact h0
  have hv : v42 I (e_n (n : Nat)) = drV (drS (I 483 2)) (e_n (n : Nat)) := by unfold v42; rw [if_pos hpos]; rfl
  rw [c42 (fun _ h => by rw [h] at hpos; exact absurd hpos (by decide)), hv]
  rfl
theorem c43h {d b : Nat} {I : Nat → Nat → Int32} {z : e_Z} {B : e_B} {q : Int32 × e_T} (hb : B2 b) (wb : WB B) (hB : BrC I b B) (hm : 0 < bMa B) (hp : 0 < bPe B) (wm : WM B (q.2 0)) (h : LC I B q) : ∃ I', e_E (d + 3) 43 [.ref 483, .ref b] (mk I z) = some (.inl none, mk I' z) ∧ LC I' B (nmS B q) ∧ ∀ r, (r < 483 ∨ 488 < r) → I' r = I r := by
  have wb1 : bMa B ≤ 3 := wb.1
  have wb4 : bPe B ≤ 9 := wb.2.2.2.1
  have hbl := B2_le hb
  obtain ⟨l1, l2, l3, l4, l5, l6, l7, l8⟩ := h
  obtain ⟨m, hmm, hme⟩ := drV_n (drS q.1) hm (by omega)
  obtain ⟨k, hk, hke⟩ := drV_n (drS (drS q.1)) hp (by omega)
  have hma : I b 2 = e_n (bMa B : Nat) := hB.1
  have hpe : I b 6 = e_n (bPe B : Nat) := hB.2.2.2.1
  have e1 : e_E (d + 3) 43 [.ref 483, .ref b] (mk I z) = some (.inl none, mk (if I 484 4 = 0 then e_u (e_u I 483 2 (drS q.1)) 483 2 (drS (drS q.1)) else if lm B (q.2 0) &&& e_shl (e_n 1) (e_n (k : Nat)) = 0 then wr (wr (e_u (e_u (e_u I 483 2 (drS q.1)) 483 2 (drS (drS q.1))) 484 1 (lm B (q.2 0) ||| e_shl (e_n 1) (e_n (k : Nat)))) 485 (e_n (k : Nat)) (I 484 0)) 486 (e_n (k : Nat)) (e_n (m : Nat)) else e_u (e_u I 483 2 (drS q.1)) 483 2 (drS (drS q.1))) z) := by
    refine e_E_ret (d := d + 2) ?_
    show e_L (d + 2) 43 0 [.ref 483, .ref b, .null, .null] [] (mk I z) = _
    rw [C43_0 hb, hma, c42h hm (by omega), e_rI_i, C43_8 hb, e_u_na (show b ≠ 483 by omega), hpe, c42h hp (by omega), e_rI_i, C43_17 hb, l7, e_u_same, hme, hke]
    simp (disch := decide) only [e_u_na, l1]
  rw [e1]
  unfold nmS
  rw [hke, hme, e_n_nat' (show k < 2147483648 by omega)]
  have hl : bt (lm B (q.2 0)) k = (decide (k < bPe B) && !decide (q.2 0 (4 + k) = e_n (-1))) := bt_lm wb4 _ k
  have hc : (lm B (q.2 0) &&& e_shl (e_n 1) (e_n (k : Nat)) = 0) ↔ q.2 0 (4 + k) = e_n (-1) := by
    rw [and_bit _ (by omega), hl]; simp [hk]
  by_cases h4 : q.2 0 3 = e_n 1
  · rw [if_neg (show ¬ I 484 4 = 0 from fun q => by rw [l4, h4] at q; exact absurd q (by decide))]
    by_cases hM : q.2 0 (4 + k) = e_n (-1)
    · rw [if_pos (hc.mpr hM), if_pos ⟨hM, h4⟩]
      obtain ⟨t, ht, h0, -⟩ := wm.1
      have hlm : lm B (entS q.2 k (e_n (m : Nat)) 0) = lm B (q.2 0) ||| e_shl (e_n 1) (e_n (k : Nat)) := lm_ent wb4 hk (by rw [ent0, if_neg (by omega), if_pos rfl, h0]; exact e_n_neg1 (by omega)) (fun j hj hjk => by rw [ent0, if_neg (by omega), if_neg (by omega)])
      refine ⟨_, rfl, ⟨?_, ?_, ?_, ?_, ?_, ?_, ?_, ?_⟩, ?_⟩
      · dsimp only; rw [hlm]; simp (disch := decide) only [wr_na, e_u_na, e_u_same]
      · dsimp only; rw [ent0, if_neg (by omega), if_neg (by omega)]; simp (disch := decide) only [wr_na, e_u_na, e_u_ne]; exact l2
      · dsimp only; rw [ent0, if_neg (by omega), if_neg (by omega)]; simp (disch := decide) only [wr_na, e_u_na, e_u_ne]; exact l3
      · dsimp only; rw [ent0, if_neg (by omega), if_neg (by omega)]; simp (disch := decide) only [wr_na, e_u_na, e_u_ne]; exact l4
      · intro p hpp
        dsimp only
        rw [ent0, ent0, wr_N (r := 486) (Nat.lt_of_lt_of_le hk (Nat.le_trans wb4 (by decide))), e_u_at]
        simp (disch := decide) only [wr_na, e_u_na]
        refine ⟨?_, ?_⟩
        · by_cases hpk : p = k
          · rw [if_pos hpk, if_pos (by omega)]
          · rw [if_neg hpk, if_neg (by omega), if_neg (by omega)]; exact (l5 p hpp).1
        · rw [if_neg (by omega), if_neg (by omega)]; exact (l5 p hpp).2
      · intro m' hm'
        dsimp only
        rw [ent0, if_neg (by omega), if_neg (by omega)]; simp (disch := decide) only [wr_na, e_u_na]; exact l6 m' hm'
      · dsimp only; simp (disch := decide) only [wr_na, e_u_na, e_u_same]
      · dsimp only
        rw [entr _ _ _ (show 4 ≠ 0 by decide)]; simp (disch := decide) only [wr_na, e_u_na, e_u_ne]; exact l8
      · intro r hr
        rw [wr_na (by omega), wr_na (by omega), e_u_na (by omega), e_u_na (by omega), e_u_na (by omega)]
    · rw [if_neg (fun h => hM (hc.mp h)), if_neg (fun h => hM h.1)]
      refine ⟨_, rfl, ⟨?_, ?_, ?_, ?_, ?_, ?_, ?_, ?_⟩, fun r hr => by rw [e_u_na (by omega), e_u_na (by omega)]⟩ <;> first | (simp (disch := decide) only [e_u_na, e_u_ne, e_u_same]; assumption) | (simp (disch := decide) only [e_u_na, e_u_ne, e_u_same])
  · have h40 : I 484 4 = 0 := by rw [l4]; exact (wm.2.2.2.1.resolve_right h4)
    rw [if_pos h40, if_neg (fun h => h4 h.2)]
    refine ⟨_, rfl, ⟨?_, ?_, ?_, ?_, ?_, ?_, ?_, ?_⟩, fun r hr => by rw [e_u_na (by omega), e_u_na (by omega)]⟩ <;> first | (simp (disch := decide) only [e_u_na, e_u_ne, e_u_same]; assumption) | (simp (disch := decide) only [e_u_na, e_u_ne, e_u_same])
end S99k
