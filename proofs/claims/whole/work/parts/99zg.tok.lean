/-! the reference's next token -/
section S99zg
theorem tkK_n (b : Nat → Int32) (n s : Nat) : tkK b n s ≤ 4 := by
  unfold tkK
  split
  · omega
  · split
    · omega
    · split
      · omega
      · split <;> omega
theorem tkE_n {b : Nat → Int32} {n s : Nat} (h : s ≤ n) : s ≤ tkE b n s ∧ tkE b n s ≤ n := by
  unfold tkE
  split
  · omega
  · split
    · exact rn_le _ _ _ _ _ h
    · split
      · exact rn_le _ _ _ _ _ h
      · omega
theorem skB_n {b : Nat → Int32} {n i : Nat} (h : i ≤ n) : i ≤ skB b n i ∧ skB b n i ≤ n := rn_le _ _ _ _ _ h
theorem c187h {d n i : Nat} {b : Nat → Int32} {J : Nat → Nat → Int32} {z : e_Z} (hn : n ≤ 700) (hi : i ≤ n) (h23 : J 489 23 = e_n (n : Nat)) (h24 : J 489 24 = e_n (i : Nat)) (hb : ∀ k, k < n → J 500 k = b k) :
    ∃ J' z', e_E (d + 2) 187 [.ref 489] (mk J z) = some (.inl none, mk J' z') ∧ TF J J' ∧ LF z z' ∧ J' 489 24 = e_n (tkE b n (skB b n i) : Nat) ∧ J' 489 25 = e_n (tkK b n (skB b n i) : Nat) ∧ J' 489 26 = e_n (skB b n i : Nat) ∧ J' 489 27 = e_n ((tkE b n (skB b n i) - skB b n i : Nat) : Nat)
      ∧ (tkK b n (skB b n i) = 2 → J' 489 28 = nv b (skB b n i) (tkE b n (skB b n i) - skB b n i)) ∧ (skB b n i < n → J' 489 29 = b (skB b n i)) ∧ (tkK b n (skB b n i) = 1 → z'.1 489 30 = pk b (skB b n i) (tkE b n (skB b n i) - skB b n i)) := by
  obtain ⟨J1, a1, a2, a3, a4, a5⟩ := c187s (d := d) (z := z) hn (n - i) i J rfl hi h23 h24 hb
  have hs : rn isB b n (n - i) i = skB b n i := rfl
  rw [hs] at a1 a3 a4
  obtain ⟨hs1, hs2⟩ := skB_n (b := b) hi
  generalize skB b n i = s at a1 a3 a4 hs1 hs2
  have b23 : J1 489 23 = e_n (n : Nat) := by rw [a2.2 23 (by omega)]; exact h23
  have bb : ∀ k, k < n → J1 500 k = b k := fun k hk => by rw [a2.1 500 (by decide)]; exact hb k hk
  suffices hx : ∃ J' z', e_L (d + 1) 187 76 [.ref 489, .null] [.int (if s < n then b s else e_n 0)] (mk J1 (e_u z.1 489 30 (Int64.ofNat 0), z.2)) = some (.inl none, mk J' z') ∧ TF J1 J' ∧ LF (e_u z.1 489 30 (Int64.ofNat 0), z.2) z' ∧ J' 489 24 = e_n (tkE b n s : Nat) ∧ J' 489 25 = e_n (tkK b n s : Nat) ∧ J' 489 26 = e_n (s : Nat) ∧ J' 489 27 = e_n ((tkE b n s - s : Nat) : Nat) ∧ (tkK b n s = 2 → J' 489 28 = nv b s (tkE b n s - s)) ∧ (s < n → J' 489 29 = b s) ∧ (tkK b n s = 1 → z'.1 489 30 = pk b s (tkE b n s - s)) by
    obtain ⟨J', z', q1, q2, q3, q4⟩ := hx
    exact ⟨J', z', e_E_ret (d := d + 1) (a1.trans q1), TF_tr a2 q2, LF_tr LF_u q3, q4⟩
  by_cases hsn : s < n
  · rw [if_pos hsn, C187_76, a3, b23, if_pos (by rw [e_n_ltN (by omega) (by omega)]; exact hsn)]
    have hle : ¬ n ≤ s := by omega
    have u29 : ∀ k, k ≠ 29 → e_u J1 489 29 (b s) 489 k = J1 489 k := fun k hk => e_u_ne hk
    by_cases hL : isL (b s) = true
    · have eK : tkK b n s = 1 := by unfold tkK; rw [if_neg hle, if_pos hL]
      have eE : tkE b n s = rn isL b n (n - s) s := by unfold tkE; rw [if_neg hle, if_pos hL]
      rw [if_pos ((isL_e _).mp hL), eK, eE]
      obtain ⟨J', z', q1, q2, q3, q4, q5, q6, q7, q8, q9, q10⟩ := c187w (d := d) (b := b) (s := s) (x1 := b s) hn (n - s) 0 (e_u J1 489 29 (b s)) (e_u z.1 489 30 (Int64.ofNat 0), z.2) rfl (by omega) (by rw [u29 23 (by decide)]; exact b23) (by rw [u29 24 (by decide)]; exact a3) (by rw [u29 26 (by decide)]; exact a4) ((uj_same (J := z.1) (a := 489) (k := 30))) (fun k hk => by rw [e_u_na (by decide)]; exact bb k hk)
      exact ⟨J', z', q1, TF_tr (TF_u (by omega)) q2, q3, q4, q5, q6, q7, fun h => absurd h (by decide), fun _ => by rw [q9, e_u_same], fun _ => q10⟩
    · rw [if_neg (fun h => hL ((isL_e _).mpr h))]
      by_cases hD : isD (b s) = true
      · have eK : tkK b n s = 2 := by unfold tkK; rw [if_neg hle, if_neg hL, if_pos hD]
        have eE : tkE b n s = rn isD b n (n - s) s := by unfold tkE; rw [if_neg hle, if_neg hL, if_pos hD]
        rw [if_pos ((isD_e _).mp hD), eK, eE]
        obtain ⟨J', q1, q2, q4, q5, q6, q7, q8, q9⟩ := c187d (d := d) (b := b) (s := s) (x1 := b s) hn (n - s) 0 (e_u J1 489 29 (b s)) (e_u z.1 489 30 (Int64.ofNat 0), z.2) rfl (by omega) (by rw [u29 23 (by decide)]; exact b23) (by rw [u29 24 (by decide)]; exact a3) (by rw [u29 26 (by decide)]; exact a4) (by rw [u29 28 (by decide)]; exact a5) (fun k hk => by rw [e_u_na (by decide)]; exact bb k hk)
        exact ⟨J', _, q1, TF_tr (TF_u (by omega)) q2, LF_rf _, q4, q5, q6, q7, fun _ => q8, fun _ => by rw [q9, e_u_same], fun h => absurd h (by decide)⟩
      · rw [if_neg (fun h => hD ((isD_e _).mpr h))]
        have eE : tkE b n s = s + 1 := by unfold tkE; rw [if_neg hle, if_neg hL, if_neg hD]
        have eK : tkK b n s = if isS (b s) = true then 3 else 4 := by unfold tkK; rw [if_neg hle, if_neg hL, if_neg hD]
        have hk : (if b s = e_n 59 then e_n 3 else if b s = e_n 40 then e_n 3 else if b s = e_n 41 then e_n 3 else if b s = e_n 43 then e_n 3 else if b s = e_n 45 then e_n 3 else if b s = e_n 42 then e_n 3 else if b s = e_n 47 then e_n 3 else if b s = e_n 60 then e_n 3 else if b s = e_n 61 then e_n 3 else e_n 4) = e_n ((if isS (b s) = true then 3 else 4 : Nat) : Nat) := by
          unfold isS
          simp only [decide_eq_true_eq]
          by_cases h1 : b s = e_n 59
          · rw [if_pos h1, if_pos (Or.inl h1)]; rfl
          · by_cases h2 : b s = e_n 40
            · rw [if_neg h1, if_pos h2, if_pos (Or.inr (Or.inl h2))]; rfl
            · by_cases h3 : b s = e_n 41
              · rw [if_neg h1, if_neg h2, if_pos h3, if_pos (Or.inr (Or.inr (Or.inl h3)))]; rfl
              · by_cases h4 : b s = e_n 43
                · rw [if_neg h1, if_neg h2, if_neg h3, if_pos h4, if_pos (Or.inr (Or.inr (Or.inr (Or.inl h4))))]; rfl
                · by_cases h5 : b s = e_n 45
                  · rw [if_neg h1, if_neg h2, if_neg h3, if_neg h4, if_pos h5, if_pos (Or.inr (Or.inr (Or.inr (Or.inr (Or.inl h5)))))]; rfl
                  · by_cases h6 : b s = e_n 42
                    · rw [if_neg h1, if_neg h2, if_neg h3, if_neg h4, if_neg h5, if_pos h6, if_pos (Or.inr (Or.inr (Or.inr (Or.inr (Or.inr (Or.inl h6))))))]; rfl
                    · by_cases h7 : b s = e_n 47
                      · rw [if_neg h1, if_neg h2, if_neg h3, if_neg h4, if_neg h5, if_neg h6, if_pos h7, if_pos (Or.inr (Or.inr (Or.inr (Or.inr (Or.inr (Or.inr (Or.inl h7)))))))]; rfl
                      · by_cases h8 : b s = e_n 60
                        · rw [if_neg h1, if_neg h2, if_neg h3, if_neg h4, if_neg h5, if_neg h6, if_neg h7, if_pos h8, if_pos (Or.inr (Or.inr (Or.inr (Or.inr (Or.inr (Or.inr (Or.inr (Or.inl h8))))))))]; rfl
                        · by_cases h9 : b s = e_n 61
                          · rw [if_neg h1, if_neg h2, if_neg h3, if_neg h4, if_neg h5, if_neg h6, if_neg h7, if_neg h8, if_pos h9, if_pos (Or.inr (Or.inr (Or.inr (Or.inr (Or.inr (Or.inr (Or.inr (Or.inr h9))))))))]; rfl
                          · rw [if_neg h1, if_neg h2, if_neg h3, if_neg h4, if_neg h5, if_neg h6, if_neg h7, if_neg h8, if_neg h9, if_neg (fun h => by
                              rcases h with h | h | h | h | h | h | h | h | h
                              · exact h1 h
                              · exact h2 h
                              · exact h3 h
                              · exact h4 h
                              · exact h5 h
                              · exact h6 h
                              · exact h7 h
                              · exact h8 h
                              · exact h9 h)]; rfl
        rw [hk, eK, eE, e_n_succ, a4]
        refine ⟨_, _, rfl, TF_tr (TF_u (by omega)) (TF_tr (TF_u (by omega)) (TF_tr (TF_u (by omega)) (TF_u (by omega)))), LF_rf _, ?_, ?_, ?_, ?_, ?_, ?_, ?_⟩
        · rw [e_u_ne (by decide), e_u_ne (by decide), e_u_same]
        · rw [e_u_ne (by decide), e_u_same]
        · rw [e_u_ne (by decide), e_u_ne (by decide), e_u_ne (by decide), e_u_ne (by decide)]; exact a4
        · rw [e_u_same, e_n_sub]; congr 1; omega
        · intro h
          exfalso
          split at h <;> cases h
        · intro _
          rw [e_u_ne (by decide), e_u_ne (by decide), e_u_ne (by decide), e_u_same]
        · intro h
          exfalso
          split at h <;> cases h
  · have hle : n ≤ s := by omega
    have hsn' : s = n := by omega
    have eK : tkK b n s = 0 := by unfold tkK; rw [if_pos hle]
    have eE : tkE b n s = s := by unfold tkE; rw [if_pos hle]
    rw [if_neg hsn, C187_76, a3, b23, if_neg (by rw [e_n_ltN (by omega) (by omega)]; exact hsn), eK, eE, a4]
    refine ⟨_, _, rfl, TF_tr (TF_u (by omega)) (TF_tr (TF_u (by omega)) (TF_u (by omega))), LF_rf _, ?_, ?_, ?_, ?_, fun h => absurd h (by decide), fun h => absurd h hsn, fun h => absurd h (by decide)⟩
    · rw [e_u_ne (by decide), e_u_ne (by decide), e_u_ne (by decide)]; exact a3
    · rw [e_u_ne (by decide), e_u_same]; rfl
    · rw [e_u_ne (by decide), e_u_ne (by decide), e_u_ne (by decide)]; exact a4
    · rw [e_u_same, e_n_sub]; congr 1; omega
end S99zg
