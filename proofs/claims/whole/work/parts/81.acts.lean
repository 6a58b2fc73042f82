/-! acts: what stays between calls -/
section S81
def SeR (I : Nat → Nat → Int32) (B : e_B) (t rs : Nat) (cs : Int32) : Prop :=
  ∃ n : Nat, n ≤ 8 ∧ I t 4 = e_n (n : Nat) ∧ cs = e_n (n : Nat) ∧ ∀ k, k < n → (I (t + 7) k = I rs (3 * k) ∧ ∃ p : Nat, p < bPe B ∧ I rs (3 * k) = e_n (p : Nat)) ∧ (I (t + 8) k = I rs (3 * k + 1) ∧ ∃ i : Nat, i < 30 ∧ I rs (3 * k + 1) = e_n (i : Nat)) ∧ I (t + 9) k = I rs (3 * k + 2) ∧ (I rs (3 * k + 2) = e_n 0 ∨ I rs (3 * k + 2) = e_n 1)
theorem StR_mk {I : Nat → Nat → Int32} {B : e_B} {t rn rh rs n : Nat} {ca cs : Int32} {M : Nat → Int32} {A : Nat → Nat → Int32} (wb : WB B) (h1 : CSt I t B M n A) (hn : n ≤ 40) (wm : WM B M) (wa : ∀ k, k < n → WM B (A k)) (r1 : ∀ j, j < 34 → I rn j = M j) (r2 : ca = e_n (n : Nat)) (r3 : ∀ k, k < n → ∀ j, j < 34 → I rh (34 * k + j) = A k j) (hs : SeR I B t rs cs) : StR I B t rn rh rs ca cs := by
  obtain ⟨a1, o, ho, a2, a3, a4⟩ := h1
  exact ⟨MoC_cg wb (fun j hj => (r1 j hj).symm) a1, WM_cg wb (fun j hj => (r1 j hj).symm) wm, ⟨o, n, ho, hn, a2, a3, r2, fun k hk => ⟨MoC_cg wb (fun j hj => (r3 k hk j hj).symm) (a4 k hk), WM_cg wb (fun j hj => (r3 k hk j hj).symm) (wa k hk)⟩⟩, hs⟩
theorem StR_cs {I : Nat → Nat → Int32} {B : e_B} {t rn rh rs : Nat} {ca cs : Int32} (H : StR I B t rn rh rs ca cs) : ∃ n, n ≤ 40 ∧ ca = e_n (n : Nat) ∧ CSt I t B (I rn) n (fun k j => I rh (34 * k + j)) ∧ ∀ k, k < n → WM B (fun j => I rh (34 * k + j)) := by
  obtain ⟨a1, a2, ⟨o, n, a3, a4, a5, a6, a7, a8⟩, a9⟩ := H
  exact ⟨n, a4, a7, ⟨a1, o, a3, a5, a6, fun k hk => (a8 k hk).1⟩, fun k hk => (a8 k hk).2⟩
theorem rel_cs {I : Nat → Nat → Int32} {z : e_Z} {B : e_B} (H : Rel I z B) : ∃ n, n ≤ 40 ∧ I 489 56 = e_n (n : Nat) ∧ CSt I 50 B (I 515) n (fun k j => I 516 (34 * k + j)) ∧ ∀ k, k < n → WM B (fun j => I 516 (34 * k + j)) := StR_cs (rel_st H)
theorem rel_se {I : Nat → Nat → Int32} {z : e_Z} {B : e_B} (H : Rel I z B) : SeR I B 50 532 (I 489 76) := (rel_st H).2.2.2
theorem SeR_fr {I I' : Nat → Nat → Int32} {B : e_B} {t rs : Nat} {cs : Int32} (h4 : I' t 4 = I t 4) (h7 : I' (t + 7) = I (t + 7)) (h8 : I' (t + 8) = I (t + 8)) (h9 : I' (t + 9) = I (t + 9)) (hr : I' rs = I rs) (H : SeR I B t rs cs) : SeR I' B t rs cs := by
  unfold SeR at *
  rw [h4, h7, h8, h9, hr]; exact H
/-- what stays, but for now, acts, what is seen, the status -/
theorem Rel_up {I I2 : Nat → Nat → Int32} {z z2 : e_Z} {B : e_B} (H : Rel I z B) (hz : z2.2.1.1 = z.2.1.1)
    (hfr : ∀ r, r ≠ 489 → r ≠ 3 → r ≠ 501 → ¬ ScrR r → ¬ ScrC z r → (r < 50 ∨ 260 ≤ r) → r ≠ 515 → r ≠ 516 → r ≠ 532 → I2 r = I r)
    (hf : ∀ j, ¬ ScrF j → j ≠ 56 → j ≠ 76 → I2 489 j = I 489 j) (hst : ∀ k, k < 3 → I2 3 k = I2 501 k)
    (hS : StR I2 B 50 515 516 532 (I2 489 56) (I2 489 76)) : Rel I2 z2 B := by
  obtain ⟨a1, a2, a3, a4, a5, a6, a7, a8, a9, a10, a11⟩ := H
  have hb := bd_cases z
  have hq : ∀ r, r < 489 → r ≠ 3 → ¬ ScrC z r → (r < 50 ∨ 260 ≤ r) → I2 r = I r := fun r h1 h2 h3 h4 => hfr r (by omega) h2 (by omega) (by unfold ScrR; omega) h3 h4 (by omega) (by omega) (by omega)
  have hr : ∀ r, 489 < r → r ≠ 501 → ¬ ScrR r → r ≠ 515 → r ≠ 516 → r ≠ 532 → I2 r = I r := fun r h1 h2 h3 h4 h5 h6 => hfr r (by omega) (by omega) h2 h3 (by unfold ScrC; omega) (by omega) h4 h5 h6
  have e : ∀ j, ¬ ScrF j → j ≠ 56 → j ≠ 76 → I2 489 j = I 489 j := hf
  refine ⟨a1, ?_, RB_fr (fun k _ _ => e k (by unfold ScrF; omega) (by omega) (by omega)) (fun q q1 q2 => hr q (by omega) (by omega) (by unfold ScrR; omega) (by omega) (by omega) (by omega)) a3, by rw [e 61 (by unfold ScrF; omega) (by omega) (by omega)]; exact a4, by rw [e 69 (by unfold ScrF; omega) (by omega) (by omega)]; exact a5, ?_, ?_, hst, hS, ?_, ?_⟩
  · rw [hz]
    exact BrC_fr (fun k k1 k2 k3 k4 k5 => hq _ (by omega) (by omega) (by unfold ScrC; omega) (by omega)) a2
  · rw [hq 1 (by omega) (by omega) (by unfold ScrC; omega) (by omega), hq 2 (by omega) (by omega) (by unfold ScrC; omega) (by omega), e 19 (by unfold ScrF; omega) (by omega) (by omega), hr 500 (by omega) (by omega) (by unfold ScrR; omega) (by omega) (by omega) (by omega)]; exact a6
  · rw [hq 1 (by omega) (by omega) (by unfold ScrC; omega) (by omega), e 21 (by unfold ScrF; omega) (by omega) (by omega)]; exact a7
  · rw [hq 1 (by omega) (by omega) (by unfold ScrC; omega) (by omega), e 81 (by unfold ScrF; omega) (by omega) (by omega), hq 260 (by omega) (by omega) (by unfold ScrC; omega) (by omega)]; exact a10
  · rw [e 81 (by unfold ScrF; omega) (by omega) (by omega), e 82 (by unfold ScrF; omega) (by omega) (by omega), e 83 (by unfold ScrF; omega) (by omega) (by omega)]
    rcases a11 with q | ⟨q, r⟩
    · exact Or.inl q
    · exact Or.inr ⟨q, StR_fr (fun r r1 r2 => hq r (by omega) (by omega) (by unfold ScrC; omega) (by omega)) (hr 535 (by omega) (by omega) (by unfold ScrR; omega) (by omega) (by omega) (by omega)) (hr 536 (by omega) (by omega) (by unfold ScrR; omega) (by omega) (by omega) (by omega)) (hr 537 (by omega) (by omega) (by unfold ScrR; omega) (by omega) (by omega) (by omega)) r⟩
theorem act_end {I I1 I2 : Nat → Nat → Int32} {z z2 : e_Z} {B : e_B} {M : Nat → Int32} {n : Nat} {A : Nat → Nat → Int32} (H : Rel I z B) (hz : z2.2.1.1 = z.2.1.1)
    (c1 : CSt I1 50 B M n A) (c2 : ∀ r, r ≠ 50 → ¬ (51 ≤ r ∧ r ≤ 55) → ¬ (60 ≤ r ∧ r < 260) → ¬ ScrC z r → I1 r = I r) (c3 : I1 50 4 = I 50 4)
    (hn : n ≤ 40) (wm : WM B M) (wa : ∀ k, k < n → WM B (A k))
    (r1 : ∀ j, j < 34 → I2 515 j = M j) (r2 : I2 489 56 = e_n (n : Nat)) (r3 : ∀ k, k < n → ∀ j, j < 34 → I2 516 (34 * k + j) = A k j)
    (r4 : ∀ r, r ≠ 489 → r ≠ 515 → r ≠ 516 → ¬ ScrR r → I2 r = I1 r) (r5 : ∀ j, j ≠ 56 → ¬ ScrF j → I2 489 j = I1 489 j) : Rel I2 z2 B := by
  have hb := bd_cases z
  have q : ∀ r, r < 489 → I2 r = I1 r := fun r h => r4 r (by omega) (by omega) (by omega) (by unfold ScrR; omega)
  refine Rel_up H hz ?_ ?_ ?_ ?_
  · intro r h1 h2 h3 h4 h5 h6 h7 h8 h9
    rw [r4 r h1 h7 h8 h4, c2 r (by omega) (by omega) (by omega) h5]
  · intro j h1 h2 h3
    rw [r5 j h2 h1, c2 489 (by omega) (by omega) (by omega) (by unfold ScrC; omega)]
  · intro k hk
    rw [q 3 (by omega), c2 3 (by omega) (by omega) (by omega) (by unfold ScrC; omega), r4 501 (by omega) (by omega) (by omega) (by unfold ScrR; omega), c2 501 (by omega) (by omega) (by omega) (by unfold ScrC; omega)]
    exact H.2.2.2.2.2.2.2.1 k hk
  · refine StR_mk (rel_wb H) ?_ hn wm wa r1 r2 r3 ?_
    · obtain ⟨a1, o, ho, a2, a3, a4⟩ := c1
      have h0 := q 50 (by omega)
      refine ⟨MoC_fr (fun k hk => q _ (by omega)) a1, o, ho, by rw [h0]; exact a2, by rw [h0]; exact a3, fun k hk => MoC_fr (fun j hj => q _ ?_) (a4 k hk)⟩
      have := Nat.mod_lt (o + k) (show 0 < 40 by decide)
      omega
    · rw [r5 76 (by omega) (by unfold ScrF; omega), c2 489 (by omega) (by omega) (by omega) (by unfold ScrC; omega)]
      have c57 : I1 57 = I 57 := c2 57 (by omega) (by omega) (by omega) (by unfold ScrC; omega)
      have c58 : I1 58 = I 58 := c2 58 (by omega) (by omega) (by omega) (by unfold ScrC; omega)
      have c59 : I1 59 = I 59 := c2 59 (by omega) (by omega) (by omega) (by unfold ScrC; omega)
      have c532 : I2 532 = I 532 := by rw [r4 532 (by omega) (by omega) (by omega) (by unfold ScrR; omega), c2 532 (by omega) (by omega) (by omega) (by unfold ScrC; omega)]
      exact SeR_fr (by rw [q 50 (by omega)]; exact c3) ((q 57 (by omega)).trans c57) ((q 58 (by omega)).trans c58) ((q 59 (by omega)).trans c59) c532 (rel_se H)
/-- a call refused -/
theorem ref_end {I I2 : Nat → Nat → Int32} {z z2 : e_Z} {B : e_B} {k : Nat} (H : Rel I z B) (hz : z2.2.1.1 = z.2.1.1) (hk : k < 3)
    (h3 : I2 3 = e_u I 3 k (I 3 k + e_n 1) 3) (h5 : I2 501 = e_u I 501 k (I 501 k + e_n 1) 501) (hr : ∀ r, r ≠ 489 → r ≠ 3 → r ≠ 501 → I2 r = I r) (hf : ∀ j, ¬ ScrF j → I2 489 j = I 489 j) : Rel I2 z2 B := by
  refine Rel_up H hz (fun r h1 h2 h4 _ _ _ _ _ _ => hr r h1 h2 h4) (fun j h1 _ _ => hf j h1) ?_ ?_
  · intro j hj
    rw [h3, h5, e_u_at, e_u_at, H.2.2.2.2.2.2.2.1 j hj, H.2.2.2.2.2.2.2.1 k hk]
  · rw [hf 56 (by unfold ScrF; omega), hf 76 (by unfold ScrF; omega)]
    exact StR_fr (fun r _ _ => hr r (by omega) (by omega) (by omega)) (hr 515 (by omega) (by omega) (by omega)) (hr 516 (by omega) (by omega) (by omega)) (hr 532 (by omega) (by omega) (by omega)) (rel_st H)
theorem wm_kA {B : e_B} {n : Nat} {M : Nat → Int32} {A : Nat → Nat → Int32} (wm : WM B M) (wa : ∀ k, k < n → WM B (A k)) (hn : n ≤ 40) : ∀ k, k < kn n → WM B (kA n M A k) := by
  intro k hk
  unfold kn at hk
  unfold kA
  by_cases h : n < 40
  · rw [if_pos h]
    by_cases h2 : k < n
    · rw [if_pos h2]; exact wa k h2
    · rw [if_neg h2]; exact wm
  · rw [if_neg h]
    by_cases h2 : k < 39
    · rw [if_pos h2]; exact wa (k + 1) (by omega)
    · rw [if_neg h2]; exact wm
theorem kn_le {n : Nat} : n ≤ 40 → kn n ≤ 40 := by intro h; unfold kn; split <;> omega
theorem lbit {B : e_B} {M : Nat → Int32} {p : Nat} (wb4 : bPe B ≤ 9) (hp : p < bPe B) : (lm B M &&& e_shl (e_n 1) (e_n (p : Nat)) = 0) = (M (4 + p) = e_n (-1)) := by
  rw [and_bit _ (by omega), bt_lm wb4]
  have : decide (p < bPe B) = true := by simp; omega
  rw [this]
  by_cases hq : M (4 + p) = e_n (-1) <;> simp [hq]
theorem wr3 {I : Nat → Nat → Int32} {k : Nat} (hk : k < 3) : wr I 3 (e_n (k : Nat)) (rd I 3 (e_n (k : Nat)) + e_n 1) = e_u I 3 k (I 3 k + e_n 1) := by
  rw [rd_N (r := 3) hk, wr_N (r := 3) hk]
end S81
