/-! the forecast of the class: one master writes -/
section S54
def AG (b : Nat) (I0 I : Nat → Nat → Int32) : Prop := ∀ r, r ≠ b + 10 → r ≠ b + 11 → I r = I0 r
theorem chS_sp (B : e_B) (sk : Int32) (M : Nat → Int32) (m : Nat) : (chS B sk M m).1 = e_n (-1) ∨ ∃ p, p < bPe B ∧ (chS B sk M m).1 = e_n (p : Nat) ∧ M (4 + p) = e_n (-1) ∧ ¬ e_n (p : Nat) = sk := by
  have := itr_inv (fun k (q : Int32 × Int32) => q.1 = e_n (-1) ∨ ∃ p, p < k ∧ q.1 = e_n (p : Nat) ∧ M (4 + p) = e_n (-1) ∧ ¬ e_n (p : Nat) = sk) (n := bPe B) (f := fun p q => if e_n (p : Nat) = sk then q else if M (4 + p) = e_n (-1) then (if q.2 < grS B M m p then (e_n (p : Nat), grS B M m p) else q) else q) (s := (e_n (-1), e_n 0)) (Or.inl rfl) (by
    intro k q hk ih
    have ih2 : q.1 = e_n (-1) ∨ ∃ p, p < k + 1 ∧ q.1 = e_n (p : Nat) ∧ M (4 + p) = e_n (-1) ∧ ¬ e_n (p : Nat) = sk := by
      rcases ih with h | ⟨p, h1, h2⟩
      · exact Or.inl h
      · exact Or.inr ⟨p, by omega, h2⟩
    by_cases h1 : e_n (k : Nat) = sk
    · simp only [h1, if_true]; exact ih2
    · simp only [h1, if_false]
      by_cases h2 : M (4 + k) = e_n (-1)
      · simp only [h2, if_true]
        by_cases h3 : q.2 < grS B M m k
        · simp only [h3, if_true]; exact Or.inr ⟨k, by omega, rfl, h2, h1⟩
        · simp only [h3, if_false]; exact ih2
      · simp only [h2, if_false]; exact ih2)
  exact this
theorem lw_loop {d m : Nat} {z : e_Z} {B : e_B} {M : Nat → Int32} {sk : Int32} {I0 : Nat → Nat → Int32} (wb : WB B) (hm : m < bMa B) (hB : BrC I0 (bd z.2.1.2.2.1) B) (hM : MoC I0 471 B M) (hs : I0 470 2 = sk) :
    ∀ (k p : Nat) (q : Int32 × Int32) (I : Nat → Nat → Int32) (u : Value), p + k = bPe B → AG (bd z.2.1.2.2.1) I0 I → ∃ I' u', e_L (d + 3) 16 7 [.ref 470, .int (e_n (m : Nat)), .int q.1, .int q.2, .int (e_n (p : Nat)), u] [] (mk I z) = e_L (d + 3) 16 7 [.ref 470, .int (e_n (m : Nat)), .int (itr (fun p q => if e_n (p : Nat) = sk then q else if M (4 + p) = e_n (-1) then (if q.2 < grS B M m p then (e_n (p : Nat), grS B M m p) else q) else q) k p q).1, .int (itr (fun p q => if e_n (p : Nat) = sk then q else if M (4 + p) = e_n (-1) then (if q.2 < grS B M m p then (e_n (p : Nat), grS B M m p) else q) else q) k p q).2, .int (e_n (bPe B : Nat)), u'] [] (mk I' z) ∧ AG (bd z.2.1.2.2.1) I0 I' := by
  have hb := B2_bd z.2.1.2.2.1
  have hbl := B2_le hb
  have wb4 : bPe B ≤ 9 := wb.2.2.2.1
  intro k
  induction k with
  | zero =>
    intro p q I u hp hA
    exact ⟨I, u, by rw [show p = bPe B by omega]; rfl, hA⟩
  | succ k ih =>
    intro p q I u hp hA
    have hpe : I (bd z.2.1.2.2.1) 6 = e_n (bPe B : Nat) := by rw [hA _ (by omega) (by omega)]; exact hB.2.2.2.1
    have hli : I 471 1 = lm B M := by rw [hA _ (by omega) (by omega)]; exact hM.2.1
    have hsk : I 470 2 = sk := by rw [hA _ (by omega) (by omega)]; exact hs
    have hB1 : BrC I (bd z.2.1.2.2.1) B := BrC_fr (fun k _ _ _ h1 h2 => hA _ (by omega) (by omega)) hB
    have hM1 : MoC I 471 B M := MoC_fr (fun k _ => hA _ (by omega) (by omega)) hM
    have hbit : (lm B M &&& e_shl (e_n 1) (e_n (p : Nat)) = 0) = (M (4 + p) = e_n (-1)) := by
      rw [and_bit _ (by omega), bt_lm wb4]
      have : decide (p < bPe B) = true := by simp; omega
      rw [this]
      by_cases hq : M (4 + p) = e_n (-1) <;> simp [hq]
    have hlt : e_n (p : Nat) < e_n (bPe B : Nat) := by rw [e_n_ltN (by omega) (by omega)]; omega
    rw [C16_7, hpe, if_pos hlt, hli, hsk]
    simp only [hbit, e_n_succ]
    rw [show itr (fun p q => if e_n (p : Nat) = sk then q else if M (4 + p) = e_n (-1) then (if q.2 < grS B M m p then (e_n (p : Nat), grS B M m p) else q) else q) (k + 1) p q = itr (fun p q => if e_n (p : Nat) = sk then q else if M (4 + p) = e_n (-1) then (if q.2 < grS B M m p then (e_n (p : Nat), grS B M m p) else q) else q) k (p + 1) (if e_n (p : Nat) = sk then q else if M (4 + p) = e_n (-1) then (if q.2 < grS B M m p then (e_n (p : Nat), grS B M m p) else q) else q) from rfl]
    by_cases h1 : M (4 + p) = e_n (-1)
    · by_cases h2 : e_n (p : Nat) = sk
      · rw [if_pos h1, if_pos h2, if_pos h2]
        exact ih (p + 1) q I u (by omega) hA
      · rw [if_pos h1, if_neg h2, if_neg h2, if_pos h1]
        obtain ⟨I1, h3, h4⟩ := c55h (d := d) (z := z) hb M3_471 hB1 hM1 wb hm (show p < bPe B by omega)
        rw [h3, e_rI_i, C16_57, e_n_succ]
        have hA1 : AG (bd z.2.1.2.2.1) I0 I1 := fun r h10 h11 => by rw [h4 r h10 h11, hA r h10 h11]
        by_cases h5 : q.2 < grS B M m p
        · rw [if_pos h5, if_pos h5, if_pos h5]
          exact ih (p + 1) (e_n (p : Nat), grS B M m p) I1 _ (by omega) hA1
        · rw [if_neg h5, if_neg h5, if_neg h5]
          exact ih (p + 1) q I1 _ (by omega) hA1
    · rw [if_neg h1]
      by_cases h2 : e_n (p : Nat) = sk
      · rw [if_pos h2]
        exact ih (p + 1) q I u (by omega) hA
      · rw [if_neg h2, if_neg h1]
        exact ih (p + 1) q I u (by omega) hA
end S54
