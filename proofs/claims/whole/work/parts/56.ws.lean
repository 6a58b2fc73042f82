/-! what mornings keep -/
section S56
theorem wm_ent {B : e_B} {S : e_T} {p : Nat} {v : Int32} (wb4 : bPe B ≤ 9) (h : WM B (S 0)) (hp : p < bPe B) (hv : v = e_n (-2) ∨ ∃ m : Nat, m < bMa B ∧ v = e_n (m : Nat)) : WM B (entS S p v 0) := by
  obtain ⟨⟨t, ht, h0, h1⟩, h2, h3, h4, h5, h6, h7⟩ := h
  refine ⟨⟨t, ht, ?_, ?_⟩, ?_, ?_, ?_, ?_, ?_, ?_⟩
  · rw [ent0, if_neg (by omega), if_neg (by omega)]; exact h0
  · intro q hq
    rw [ent0, if_neg (by omega)]
    by_cases hqp : q = p
    · rw [if_pos (by omega)]; exact Or.inr ⟨t, Nat.le_refl _, h0⟩
    · rw [if_neg (by omega)]; exact h1 q hq
  · intro q hq
    rw [ent0, if_neg (by omega), if_neg (by omega)]; exact h2 q hq
  · intro q hq
    rw [ent0]
    by_cases hqp : q = p
    · rw [if_pos (by omega)]; exact Or.inr hv
    · rw [if_neg (by omega), if_neg (by omega)]; exact h3 q hq
  · rw [ent0, if_neg (by omega), if_neg (by omega)]; exact h4
  · intro m hm
    rw [ent0, if_neg (by omega), if_neg (by omega)]; exact h5 m hm
  · intro i hi
    rw [ent0, if_neg (by omega), if_neg (by omega)]; exact h6 i hi
  · rw [ent0, if_neg (by omega), if_neg (by omega), ent0, if_neg (by omega), if_neg (by omega)]; exact h7
theorem un_ent {B : e_B} {S : e_T} {p : Nat} {v : Int32} (wb4 : bPe B ≤ 9) (h : WM B (S 0)) (hp : p < bPe B) (hM : S 0 (4 + p) = e_n (-1)) : cnt (bPe B) (fun q => decide (S 0 (4 + q) = e_n (-1))) = cnt (bPe B) (fun q => decide (entS S p v 0 (4 + q) = e_n (-1))) + 1 := by
  obtain ⟨⟨t, ht, h0, -⟩, -⟩ := h
  refine cnt_up hp ?_ ?_ ?_
  · intro i hi hip
    rw [ent0, if_neg (by omega), if_neg (by omega)]
  · rw [ent0, if_neg (by omega), if_pos rfl, h0]
    simp [e_n_neg1 (show t < 2147483648 by omega)]
  · simp [hM]
theorem ws_wr1 {B : e_B} {S : e_T} {sk n : Int32} {m : Nat} (wb : WB B) (ws : WS B S) (hm : m < bMa B) : WS B (wr1 B sk m (n, S)).2 ∧ (wr1 B sk m (n, S)).2 0 3 = S 0 3 ∧ (wr1 B sk m (n, S)).2 0 0 = S 0 0 ∧ (∀ r, r ≠ 0 → r ≠ 1 → r ≠ 4 → (wr1 B sk m (n, S)).2 r = S r) ∧ (∀ k, k ≠ 0 → (wr1 B sk m (n, S)).2 4 k = S 4 k) ∧ (((wr1 B sk m (n, S)).1 = n ∧ (wr1 B sk m (n, S)).2 4 0 = S 4 0) ∨ ((wr1 B sk m (n, S)).1 = n + e_n 1 ∧ (wr1 B sk m (n, S)).2 4 0 = S 4 0 + e_n 1)) := by
  have wb4 : bPe B ≤ 9 := wb.2.2.2.1
  rcases chS_sp B sk (S 0) m with hc | ⟨p, hp, hc, hM, -⟩
  · have : wr1 B sk m (n, S) = (n, S) := by unfold wr1; simp only [hc, if_true]
    rw [this]
    exact ⟨ws, rfl, rfl, fun _ _ _ _ => rfl, fun _ _ => rfl, Or.inl ⟨rfl, rfl⟩⟩
  · obtain ⟨wm, k, hk, hk9⟩ := ws
    have hcn : ¬ e_n (p : Nat) = e_n (-1) := e_n_neg1 (by omega)
    have hpn : (e_n (p : Nat)).toNatClampNeg = p := e_n_nat' (by omega)
    have hS : wr1 B sk m (n, S) = (n + e_n 1, e_u (e_u (entS S p (e_n (m : Nat))) 1 (S 4 0).toNatClampNeg (e_n (p : Nat))) 4 0 (S 4 0 + e_n 1)) := by
      unfold wr1
      simp only [hc, hcn, if_false, hpn]
    rw [hS]
    have hr0 : ∀ j, e_u (e_u (entS S p (e_n (m : Nat))) 1 (S 4 0).toNatClampNeg (e_n (p : Nat))) 4 0 (S 4 0 + e_n 1) 0 j = entS S p (e_n (m : Nat)) 0 j := fun j => by rw [e_u_na (by decide), e_u_na (by decide)]
    have hr0' : e_u (e_u (entS S p (e_n (m : Nat))) 1 (S 4 0).toNatClampNeg (e_n (p : Nat))) 4 0 (S 4 0 + e_n 1) 0 = entS S p (e_n (m : Nat)) 0 := funext hr0
    refine ⟨⟨?_, k + 1, ?_, ?_⟩, ?_, ?_, ?_, ?_, Or.inr ⟨rfl, ?_⟩⟩
    · simp only [hr0']; exact wm_ent wb4 wm hp (Or.inr ⟨m, hm, rfl⟩)
    · simp only [e_u_same, hk, e_n_succ]
    · have := un_ent (v := e_n (m : Nat)) wb4 wm hp hM
      simp only [hr0']
      omega
    · simp only [hr0']; rw [ent0, if_neg (by omega), if_neg (by omega)]
    · simp only [hr0']; rw [ent0, if_neg (by omega), if_neg (by omega)]
    · intro r r0 r1 r4
      show e_u (e_u (entS S p (e_n (m : Nat))) 1 (S 4 0).toNatClampNeg (e_n (p : Nat))) 4 0 (S 4 0 + e_n 1) r = S r
      rw [e_u_na r4, e_u_na r1, entr _ _ _ r0]
    · intro j hj
      simp only [e_u_at, if_neg hj]
      rw [e_u_na (by decide), entr _ _ _ (by decide)]
    · simp only [e_u_same]
end S56
