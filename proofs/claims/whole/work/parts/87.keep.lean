/-! what mornings keep, plainly -/
section S87
theorem wr1_k {B : e_B} {sk : Int32} {m : Nat} {q : Int32 × e_T} (wb4 : bPe B ≤ 9) : (∀ r, r ≠ 0 → r ≠ 1 → r ≠ 4 → (wr1 B sk m q).2 r = q.2 r) ∧ (∀ k, k ≠ 0 → (wr1 B sk m q).2 4 k = q.2 4 k) ∧ (∀ j, (j < 4 ∨ 22 ≤ j) → (wr1 B sk m q).2 0 j = q.2 0 j) ∧ (∀ p, p < 9 → ¬ q.2 0 (4 + p) = e_n (-1) → (wr1 B sk m q).2 0 (4 + p) = q.2 0 (4 + p) ∧ (wr1 B sk m q).2 0 (13 + p) = q.2 0 (13 + p)) := by
  unfold wr1
  split
  · exact ⟨fun _ _ _ _ => rfl, fun _ _ => rfl, fun _ _ => rfl, fun _ _ _ => ⟨rfl, rfl⟩⟩
  · rename_i hc
    obtain ⟨c, hcb, hce, hcm, -⟩ := (chS_sp B sk (q.2 0) m).resolve_left hc
    rw [hce, e_n_nat' (by omega)]
    dsimp only
    refine ⟨fun r r0 r1 r4 => ?_, fun k hk => ?_, fun j hj => ?_, fun p hp h => ?_⟩
    · rw [e_u_na r4, e_u_na r1, entr _ _ _ r0]
    · rw [e_u_ne hk, e_u_na (by decide), entr _ _ _ (by decide)]
    · rw [e_u_na (by decide), e_u_na (by decide), ent0, if_neg (by omega), if_neg (by omega)]
    · have hpc : p ≠ c := fun e => h (by rw [e]; exact hcm)
      rw [e_u_na (by decide), e_u_na (by decide), ent0, ent0, if_neg (by omega), if_neg (by omega), if_neg (by omega), if_neg (by omega)]
      exact ⟨rfl, rfl⟩
theorem wrS_k {B : e_B} {sk : Int32} {S : e_T} (wb4 : bPe B ≤ 9) : (∀ r, r ≠ 0 → r ≠ 1 → r ≠ 4 → (wrS B sk S).2 r = S r) ∧ (∀ k, k ≠ 0 → (wrS B sk S).2 4 k = S 4 k) ∧ (∀ j, (j < 4 ∨ 22 ≤ j) → (wrS B sk S).2 0 j = S 0 j) ∧ (∀ p, p < 9 → ¬ S 0 (4 + p) = e_n (-1) → (wrS B sk S).2 0 (4 + p) = S 0 (4 + p) ∧ (wrS B sk S).2 0 (13 + p) = S 0 (13 + p)) := by
  unfold wrS
  split
  · refine itr_inv (fun _ q => (∀ r, r ≠ 0 → r ≠ 1 → r ≠ 4 → q.2 r = S r) ∧ (∀ k, k ≠ 0 → q.2 4 k = S 4 k) ∧ (∀ j, (j < 4 ∨ 22 ≤ j) → q.2 0 j = S 0 j) ∧ (∀ p, p < 9 → ¬ S 0 (4 + p) = e_n (-1) → q.2 0 (4 + p) = S 0 (4 + p) ∧ q.2 0 (13 + p) = S 0 (13 + p))) (n := bMa B) (f := wr1 B sk) (s := (e_n 0, S)) ⟨fun _ _ _ _ => rfl, fun _ _ => rfl, fun _ _ => rfl, fun _ _ _ => ⟨rfl, rfl⟩⟩ ?_
    rintro i q hi ⟨a1, a2, a3, a4⟩
    obtain ⟨b1, b2, b3, b4⟩ := wr1_k (sk := sk) (m := i) (q := q) wb4
    refine ⟨fun r r0 r1 r4 => (b1 r r0 r1 r4).trans (a1 r r0 r1 r4), fun k hk => (b2 k hk).trans (a2 k hk), fun j hj => (b3 j hj).trans (a3 j hj), fun p hp h => ?_⟩
    have h1 := a4 p hp h
    have h2 := b4 p hp (by rw [h1.1]; exact h)
    exact ⟨h2.1.trans h1.1, h2.2.trans h1.2⟩
  · exact ⟨fun _ _ _ _ => rfl, fun _ _ => rfl, fun _ _ => rfl, fun _ _ _ => ⟨rfl, rfl⟩⟩
theorem die_k {B : e_B} {p : Nat} {S : e_T} : (∀ r, r ≠ 0 → r ≠ 3 → r ≠ 4 → dieS B p S r = S r) ∧ (∀ k, k ≠ 1 → dieS B p S 4 k = S 4 k) ∧ (∀ j, (j = 0 ∨ (3 ≤ j ∧ j < 31)) → dieS B p S 0 j = S 0 j) := by
  unfold dieS
  by_cases hb : S 0 (13 + p) < 0
  · simp only [hb, if_true]
    refine ⟨fun r r0 r3 r4 => ?_, fun k hk => ?_, fun j hj => ?_⟩
    · rw [e_u_na r4, e_u_na r0, e_u_na r0]
    · rw [e_u_ne hk, e_u_na (by decide), e_u_na (by decide)]
    · rw [e_u_na (by decide), e_u_ne (by omega), e_u_ne (by omega)]
  · simp only [hb, if_false]
    refine ⟨fun r r0 r3 r4 => ?_, fun k hk => ?_, fun j hj => ?_⟩
    · rw [e_u_na r0, e_u_na r3, e_u_na r4, e_u_na r0, e_u_na r0]
    · rw [e_u_na (by decide), e_u_na (by decide), e_u_ne hk, e_u_na (by decide), e_u_na (by decide)]
    · rw [e_u_ne (by omega), e_u_na (by decide), e_u_na (by decide), e_u_ne (by omega), e_u_ne (by omega)]
theorem fn1_k {B : e_B} {p : Nat} {q : Int32 × e_T} : (∀ r, r ≠ 0 → r ≠ 2 → r ≠ 3 → r ≠ 4 → (fn1 B p q).2 r = q.2 r) ∧ (∀ k, k ≠ 1 → (fn1 B p q).2 4 k = q.2 4 k) ∧ (∀ j, (j = 0 ∨ (3 ≤ j ∧ j < 31)) → (fn1 B p q).2 0 j = q.2 0 j) := by
  unfold fn1
  split
  · obtain ⟨a, b, c⟩ := die_k (B := B) (p := p) (S := q.2)
    dsimp only
    refine ⟨fun r r0 r2 r3 r4 => ?_, fun k hk => ?_, fun j hj => ?_⟩
    · rw [e_u_na r2]; exact a r r0 r3 r4
    · rw [e_u_na (by decide)]; exact b k hk
    · rw [e_u_na (by decide)]; exact c j hj
  · exact ⟨fun _ _ _ _ _ => rfl, fun _ _ => rfl, fun _ _ => rfl⟩
theorem fnS_k {B : e_B} {S : e_T} : (∀ r, r ≠ 0 → r ≠ 2 → r ≠ 3 → r ≠ 4 → (fnS B S).2 r = S r) ∧ (∀ k, k ≠ 1 → (fnS B S).2 4 k = S 4 k) ∧ (∀ j, (j = 0 ∨ (3 ≤ j ∧ j < 31)) → (fnS B S).2 0 j = S 0 j) := by
  unfold fnS
  refine itr_inv (fun _ q => (∀ r, r ≠ 0 → r ≠ 2 → r ≠ 3 → r ≠ 4 → q.2 r = S r) ∧ (∀ k, k ≠ 1 → q.2 4 k = S 4 k) ∧ (∀ j, (j = 0 ∨ (3 ≤ j ∧ j < 31)) → q.2 0 j = S 0 j)) (n := bPe B) (f := fn1 B) (s := (e_n 0, S)) ⟨fun _ _ _ _ _ => rfl, fun _ _ => rfl, fun _ _ => rfl⟩ ?_
  rintro i q hi ⟨a1, a2, a3⟩
  obtain ⟨b1, b2, b3⟩ := fn1_k (B := B) (p := i) (q := q)
  exact ⟨fun r r0 r2 r3 r4 => (b1 r r0 r2 r3 r4).trans (a1 r r0 r2 r3 r4), fun k hk => (b2 k hk).trans (a2 k hk), fun j hj => (b3 j hj).trans (a3 j hj)⟩
/-- a morning, field by field -/
theorem moS_k {B : e_B} {sk : Int32} {k : Nat} {S : e_T} (wb4 : bPe B ≤ 9) (hk : k < 30) :
    (∀ i, moS B sk k S 5 i = if i = k then (wrS B sk S).1 else S 5 i) ∧ (∀ i, i ≠ k → moS B sk k S 6 i = S 6 i ∧ moS B sk k S 7 i = S 7 i) ∧ moS B sk k S 7 k = lm B (moS B sk k S 0)
    ∧ moS B sk k S 4 2 = (if (wrS B sk S).1 = e_n 0 ∧ S 4 2 = e_n (-1) then S 0 0 else S 4 2) ∧ moS B sk k S 0 0 = S 0 0 + e_n 1
    ∧ (∀ p, p < 9 → ¬ S 0 (4 + p) = e_n (-1) → moS B sk k S 0 (4 + p) = S 0 (4 + p) ∧ moS B sk k S 0 (13 + p) = S 0 (13 + p)) := by
  obtain ⟨a1, a2, a3, a4⟩ := wrS_k (sk := sk) (S := S) wb4
  generalize hS1 : (if (wrS B sk S).1 = e_n 0 ∧ S 4 2 = e_n (-1) then e_u (wrS B sk S).2 4 2 (S 0 0) else (wrS B sk S).2) = S1
  have s0 : S1 0 = (wrS B sk S).2 0 := by rw [← hS1]; exact idle_0 (T := S)
  have sr : ∀ r, r ≠ 4 → S1 r = (wrS B sk S).2 r := by
    intro r hr; rw [← hS1]; split
    · exact e_u_na hr
    · rfl
  have s42 : S1 4 2 = (if (wrS B sk S).1 = e_n 0 ∧ S 4 2 = e_n (-1) then S 0 0 else S 4 2) := by
    rw [← hS1]
    split
    · rw [e_u_same]
    · exact a2 2 (by decide)
  obtain ⟨b1, b2, b3⟩ := fnS_k (B := B) (S := S1)
  have hmo : moS B sk k S = e_u (e_u (e_u (e_u (fnS B S1).2 5 k (wrS B sk S).1) 6 k (fnS B S1).1) 7 k (lm B ((fnS B S1).2 0))) 0 0 (e_u (e_u (e_u (fnS B S1).2 5 k (wrS B sk S).1) 6 k (fnS B S1).1) 7 k (lm B ((fnS B S1).2 0)) 0 0 + e_n 1) := by
    unfold moS
    simp only [hS1, if_pos hk]
  have r0 : ∀ j, moS B sk k S 0 j = if j = 0 then (fnS B S1).2 0 0 + e_n 1 else (fnS B S1).2 0 j := by
    intro j; rw [hmo]; simp (disch := decide) only [e_u_na, e_u_at]
  refine ⟨fun i => ?_, fun i hi => ⟨?_, ?_⟩, ?_, ?_, ?_, fun p hp h => ?_⟩
  · rw [hmo]
    simp (disch := decide) only [e_u_na, e_u_at]
    rw [b1 5 (by decide) (by decide) (by decide) (by decide), sr 5 (by decide), a1 5 (by decide) (by decide) (by decide)]
  · rw [hmo]
    simp (disch := decide) only [e_u_na, e_u_at]
    rw [if_neg hi, b1 6 (by decide) (by decide) (by decide) (by decide), sr 6 (by decide), a1 6 (by decide) (by decide) (by decide)]
  · rw [hmo]
    simp (disch := decide) only [e_u_na, e_u_at]
    rw [if_neg hi, b1 7 (by decide) (by decide) (by decide) (by decide), sr 7 (by decide), a1 7 (by decide) (by decide) (by decide)]
  · have : lm B (moS B sk k S 0) = lm B ((fnS B S1).2 0) := by
      unfold lm; apply itr_congr; intro i s hi; rw [r0, if_neg (show ¬ 4 + i = 0 by omega)]
    rw [this, hmo]
    simp (disch := decide) only [e_u_na, e_u_at]
    rw [if_pos trivial]
  · rw [hmo]
    simp (disch := decide) only [e_u_na]
    rw [b2 2 (by decide), s42]
  · rw [r0, if_pos rfl, b3 0 (by omega), s0, a3 0 (by omega)]
  · rw [r0, r0, if_neg (by omega), if_neg (by omega), b3 _ (by omega), b3 _ (by omega), s0]
    exact a4 p hp h
/-- who is written stays as written -/
theorem itr_since {B : e_B} {sk : Int32} (wb4 : bPe B ≤ 9) {p : Nat} (hp : p < 9) : ∀ (n k : Nat) (S : e_T), k + n ≤ 30 → ¬ S 0 (4 + p) = e_n (-1) → itr (moS B sk) n k S 0 (4 + p) = S 0 (4 + p) ∧ itr (moS B sk) n k S 0 (13 + p) = S 0 (13 + p) := by
  intro n
  induction n with
  | zero => intro k S _ _; exact ⟨rfl, rfl⟩
  | succ n ih =>
    intro k S hk h
    have h1 := (moS_k (sk := sk) (S := S) wb4 (show k < 30 by omega)).2.2.2.2.2 p hp h
    have h2 := ih (k + 1) (moS B sk k S) (by omega) (by rw [h1.1]; exact h)
    exact ⟨h2.1.trans h1.1, h2.2.trans h1.2⟩
end S87
