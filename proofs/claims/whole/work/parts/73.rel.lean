/-! between two calls: the class's cells and the reference's -/
section S73
/-- a story (t: 50 or 260) and the reference's rows for it: now, the rows ahead of acts, what is seen; how many of each -/
def StR (I : Nat → Nat → Int32) (B : e_B) (t rn rh rs : Nat) (ca cs : Int32) : Prop :=
  MoC I (t + 1) B (I rn) ∧ WM B (I rn)
  ∧ (∃ o n : Nat, o < 40 ∧ n ≤ 40 ∧ I t 2 = e_n (o : Nat) ∧ I t 3 = e_n (n : Nat) ∧ ca = e_n (n : Nat) ∧ ∀ k, k < n → MoC I (t + 10 + 5 * ((o + k) % 40)) B (fun j => I rh (34 * k + j)) ∧ WM B (fun j => I rh (34 * k + j)))
  ∧ (∃ n : Nat, n ≤ 8 ∧ I t 4 = e_n (n : Nat) ∧ cs = e_n (n : Nat) ∧ ∀ k, k < n → (I (t + 7) k = I rs (3 * k) ∧ ∃ p : Nat, p < bPe B ∧ I rs (3 * k) = e_n (p : Nat)) ∧ (I (t + 8) k = I rs (3 * k + 1) ∧ ∃ i : Nat, i < 30 ∧ I rs (3 * k + 1) = e_n (i : Nat)) ∧ I (t + 9) k = I rs (3 * k + 2) ∧ (I rs (3 * k + 2) = e_n 0 ∨ I rs (3 * k + 2) = e_n 1))
def Rel (I : Nat → Nat → Int32) (z : e_Z) (B : e_B) : Prop :=
  WB B ∧ BrC I (bd z.2.1.1) B ∧ RB I B ∧ I 489 61 = e_n (-1) ∧ I 489 69 = e_n (-1)
  ∧ (∃ n : Nat, n ≤ 700 ∧ I 1 1 = e_n (n : Nat) ∧ I 489 19 = e_n (n : Nat) ∧ ∀ k, k < n → I 2 k = I 500 k)
  ∧ I 1 2 = I 489 21 ∧ (∀ k, k < 3 → I 3 k = I 501 k)
  ∧ StR I B 50 515 516 532 (I 489 56) (I 489 76)
  ∧ (I 1 9 = I 489 81 ∧ I 260 2 = e_n 0) ∧ (I 489 81 = e_n 0 ∨ (I 489 81 = e_n 1 ∧ StR I B 260 535 536 537 (I 489 82) (I 489 83)))
/-- what calls of the class may leave anew without a trace in Rel: the rule's rows, the land's scratch rows, the forecast, inquiry, lottery, reader, tokens, the other board -/
def ScrC (z : e_Z) (r : Nat) : Prop := r = bd z.2.1.1 + 6 ∨ r = bd z.2.1.1 + 7 ∨ r = bd z.2.1.1 + 10 ∨ r = bd z.2.1.1 + 11 ∨ (bd (!z.2.1.1) ≤ r ∧ r < bd (!z.2.1.1) + 20) ∨ (44 ≤ r ∧ r < 50) ∨ (470 ≤ r ∧ r < 489)
theorem StR_fr {I I' : Nat → Nat → Int32} {B : e_B} {t rn rh rs : Nat} {ca cs : Int32} (h : ∀ r, t ≤ r → r < t + 210 → I' r = I r) (h1 : I' rn = I rn) (h2 : I' rh = I rh) (h3 : I' rs = I rs) (H : StR I B t rn rh rs ca cs) : StR I' B t rn rh rs ca cs := by
  obtain ⟨a1, a2, ⟨o, n, a3, a4, a5, a6, a7, a8⟩, n2, a9, a10, a11, a12⟩ := H
  have h0 : I' t = I t := h t (by omega) (by omega)
  refine ⟨MoC_fr (fun k hk => h _ (by omega) (by omega)) (by rw [h1]; exact a1), by rw [h1]; exact a2, ⟨o, n, a3, a4, by rw [h0]; exact a5, by rw [h0]; exact a6, a7, fun k hk => ?_⟩, n2, a9, by rw [h0]; exact a10, a11, fun k hk => ?_⟩
  · rw [h2]
    exact ⟨MoC_fr (fun j hj => h _ (by omega) (by omega)) (a8 k hk).1, (a8 k hk).2⟩
  · rw [h3, h (t + 7) (by omega) (by omega), h (t + 8) (by omega) (by omega), h (t + 9) (by omega) (by omega)]
    exact a12 k hk
theorem bd_cases (z : e_Z) : (bd z.2.1.1 = 4 ∧ bd (!z.2.1.1) = 24) ∨ (bd z.2.1.1 = 24 ∧ bd (!z.2.1.1) = 4) := by
  cases z.2.1.1
  · exact Or.inl ⟨rfl, rfl⟩
  · exact Or.inr ⟨rfl, rfl⟩
/-- Rel stays where only the class's scratch rows are written -/
theorem Rel_c {I I' : Nat → Nat → Int32} {z z' : e_Z} {B : e_B} (hz : z'.2.1.1 = z.2.1.1) (h : ∀ r, ¬ ScrC z r → I' r = I r) (H : Rel I z B) : Rel I' z' B := by
  obtain ⟨a1, a2, a3, a4, a5, a6, a7, a8, a9, a10, a11⟩ := H
  have hb := bd_cases z
  have hh : ∀ r, 50 ≤ r → (r < 470 ∨ 489 ≤ r) → I' r = I r := fun r h1 h2 => h r (by unfold ScrC; omega)
  have h1 : I' 1 = I 1 := h 1 (by unfold ScrC; omega)
  have h2 : I' 2 = I 2 := h 2 (by unfold ScrC; omega)
  have h3 : I' 3 = I 3 := h 3 (by unfold ScrC; omega)
  refine ⟨a1, ?_, RB_fr (fun k _ _ => by rw [hh 489 (by omega) (by omega)]) (fun q _ _ => hh q (by omega) (by omega)) a3, by rw [hh 489 (by omega) (by omega)]; exact a4, by rw [hh 489 (by omega) (by omega)]; exact a5, ?_, ?_, ?_, ?_, ?_, ?_⟩
  · rw [hz]
    exact BrC_fr (fun k k1 k2 k3 k4 k5 => h _ (by unfold ScrC; omega)) a2
  · rw [h1, h2, hh 489 (by omega) (by omega), hh 500 (by omega) (by omega)]; exact a6
  · rw [h1, hh 489 (by omega) (by omega)]; exact a7
  · rw [h3, hh 501 (by omega) (by omega)]; exact a8
  · rw [hh 489 (by omega) (by omega)]
    exact StR_fr (fun r r1 r2 => hh r (by omega) (by omega)) (hh 515 (by omega) (by omega)) (hh 516 (by omega) (by omega)) (hh 532 (by omega) (by omega)) a9
  · rw [h1, hh 489 (by omega) (by omega), hh 260 (by omega) (by omega)]; exact a10
  · rw [hh 489 (by omega) (by omega)]
    rcases a11 with q | ⟨q, r⟩
    · exact Or.inl q
    · exact Or.inr ⟨q, StR_fr (fun r r1 r2 => hh r (by omega) (by omega)) (hh 535 (by omega) (by omega)) (hh 536 (by omega) (by omega)) (hh 537 (by omega) (by omega)) r⟩
/-- what calls of the reference may leave anew: its scratch fields and rows -/
def ScrR (r : Nat) : Prop := r = 517 ∨ r = 518 ∨ (519 ≤ r ∧ r ≤ 531) ∨ r = 533 ∨ r = 534 ∨ (502 ≤ r ∧ r ≤ 514)
def ScrF (j : Nat) : Prop := j = 0 ∨ j = 20 ∨ (23 ≤ j ∧ j ≤ 40) ∨ j = 60 ∨ j = 62 ∨ j = 79
theorem Rel_r {I I' : Nat → Nat → Int32} {z z' : e_Z} {B : e_B} (hz : z'.2.1.1 = z.2.1.1) (h : ∀ r, r ≠ 489 → ¬ ScrR r → I' r = I r) (hf : ∀ j, ¬ ScrF j → I' 489 j = I 489 j) (H : Rel I z B) : Rel I' z' B := by
  obtain ⟨a1, a2, a3, a4, a5, a6, a7, a8, a9, a10, a11⟩ := H
  have hb := bd_cases z
  have hh : ∀ r, r < 489 → I' r = I r := fun r h1 => h r (by omega) (by unfold ScrR; omega)
  have e : ∀ j, ¬ ScrF j → I' 489 j = I 489 j := hf
  refine ⟨a1, ?_, RB_fr (fun k _ _ => e k (by unfold ScrF; omega)) (fun q q1 q2 => h q (by omega) (by unfold ScrR; omega)) a3, by rw [e 61 (by unfold ScrF; omega)]; exact a4, by rw [e 69 (by unfold ScrF; omega)]; exact a5, ?_, ?_, ?_, ?_, ?_, ?_⟩
  · rw [hz]
    exact BrC_fr (fun k k1 k2 k3 k4 k5 => hh _ (by omega)) a2
  · rw [hh 1 (by omega), hh 2 (by omega), e 19 (by unfold ScrF; omega), h 500 (by omega) (by unfold ScrR; omega)]; exact a6
  · rw [hh 1 (by omega), e 21 (by unfold ScrF; omega)]; exact a7
  · rw [hh 3 (by omega), h 501 (by omega) (by unfold ScrR; omega)]; exact a8
  · rw [e 56 (by unfold ScrF; omega), e 76 (by unfold ScrF; omega)]
    exact StR_fr (fun r r1 r2 => hh r (by omega)) (h 515 (by omega) (by unfold ScrR; omega)) (h 516 (by omega) (by unfold ScrR; omega)) (h 532 (by omega) (by unfold ScrR; omega)) a9
  · rw [hh 1 (by omega), e 81 (by unfold ScrF; omega), hh 260 (by omega)]; exact a10
  · rw [e 81 (by unfold ScrF; omega), e 82 (by unfold ScrF; omega), e 83 (by unfold ScrF; omega)]
    rcases a11 with q | ⟨q, r⟩
    · exact Or.inl q
    · exact Or.inr ⟨q, StR_fr (fun r r1 r2 => hh r (by omega)) (h 535 (by omega) (by unfold ScrR; omega)) (h 536 (by omega) (by unfold ScrR; omega)) (h 537 (by omega) (by unfold ScrR; omega)) r⟩
end S73
