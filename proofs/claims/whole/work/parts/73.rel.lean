/-! between two calls: the class's cells and the reference's -/
section S73
/-- a story (t: 50 or 260) and the reference's rows for it: now, the rows ahead of acts, what is seen; how many of each -/
def StR (I : Nat → Nat → Int32) (B : e_B) (t rn rh rs : Nat) (ca cs : Int32) : Prop :=
  MoC I (t + 1) B (I rn) ∧ WM B (I rn)
  ∧ (∃ o n : Nat, o < 40 ∧ n ≤ 40 ∧ I t 2 = e_n (o : Nat) ∧ I t 3 = e_n (n : Nat) ∧ ca = e_n (n : Nat) ∧ ∀ k, k < n → MoC I (t + 10 + 5 * ((o + k) % 40)) B (fun j => I rh (34 * k + j)) ∧ WM B (fun j => I rh (34 * k + j)))
  ∧ (∃ n : Nat, n ≤ 8 ∧ I t 4 = e_n (n : Nat) ∧ cs = e_n (n : Nat) ∧ ∀ k, k < n → (I (t + 7) k = I rs (3 * k) ∧ ∃ p : Nat, p < bPe B ∧ I rs (3 * k) = e_n (p : Nat)) ∧ (I (t + 8) k = I rs (3 * k + 1) ∧ ∃ i : Nat, i < 30 ∧ I rs (3 * k + 1) = e_n (i : Nat)) ∧ I (t + 9) k = I rs (3 * k + 2) ∧ (I rs (3 * k + 2) = e_n 0 ∨ I rs (3 * k + 2) = e_n 1))
def Rel (I : Nat → Nat → Int32) (z : e_Z) (B : e_B) : Prop :=
  WB B ∧ BrC I (bd z.2.1.1) B ∧ RB I B ∧ I 489 61 = e_n (-1) ∧ I 489 69 = e_n (-1)
  ∧ (∃ n : Nat, n ≤ 700 ∧ I 1 1 = e_n (n : Nat) ∧ I 489 19 = e_n (n : Nat) ∧ ∀ k, k < n → I 2 k = I 500 k)
  ∧ I 1 2 = I 489 21 ∧ (∀ k, k < 3 → I 3 k = I 501 k)
  ∧ StR I B 50 515 516 532 (I 489 56) (I 489 76)
  ∧ I 1 9 = I 489 81 ∧ (I 489 81 = e_n 0 ∨ (I 489 81 = e_n 1 ∧ StR I B 260 535 536 537 (I 489 82) (I 489 83)))
/-- what calls of the class may leave anew without a trace in Rel: the rule's rows, the land's scratch rows, the forecast, inquiry, lottery, reader, tokens, the other board -/
def ScrC (z : e_Z) (r : Nat) : Prop := r = bd z.2.1.1 + 6 ∨ r = bd z.2.1.1 + 7 ∨ r = bd z.2.1.1 + 10 ∨ r = bd z.2.1.1 + 11 ∨ (bd (!z.2.1.1) ≤ r ∧ r < bd (!z.2.1.1) + 20) ∨ (44 ≤ r ∧ r < 50) ∨ (470 ≤ r ∧ r < 489)
theorem StR_fr {I I' : Nat → Nat → Int32} {B : e_B} {t rn rh rs : Nat} {ca cs : Int32} (h : ∀ r, t ≤ r → r < t + 210 → I' r = I r) (h1 : I' rn = I rn) (h2 : I' rh = I rh) (h3 : I' rs = I rs) (H : StR I B t rn rh rs ca cs) : StR I' B t rn rh rs ca cs := by
  obtain ⟨a1, a2, ⟨o, n, a3, a4, a5, a6, a7, a8⟩, n2, a9, a10, a11, a12⟩ := H
  have h0 : I' t = I t := h t (by omega) (by omega)
  refine ⟨MoC_fr (fun k hk => h _ (by omega) (by omega)) (by rw [h1]; exact a1), by rw [h1]; exact a2, ⟨o, n, a3, a4, by rw [h0]; exact a5, by rw [h0]; exact a6, a7, fun k hk => ?_⟩, n2, a9, by rw [h0]; exact a10, a11, fun k hk => ?_⟩
  · rw [h2]
    exact ⟨MoC_fr (fun j hj => h _ (by omega) (by omega)) (a8 k hk).1, (a8 k hk).2⟩
  · rw [h3, h (t + 7) (by omega) (by omega), h (t + 8) (by omega) (by omega), h (t + 9) (by omega) (by omega)]
    exact a12 k hk
end S73
