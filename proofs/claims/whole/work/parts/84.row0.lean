/-! a morning changes now by now alone -/
section S84
theorem ent_0 {S S' : e_T} {c : Nat} {v : Int32} (h : S 0 = S' 0) : entS S c v 0 = entS S' c v 0 := by
  funext j; rw [ent0, ent0, h]
theorem wr1_0 {B : e_B} {sk n n' : Int32} {m : Nat} {S S' : e_T} (h : S 0 = S' 0) : (wr1 B sk m (n, S)).2 0 = (wr1 B sk m (n', S')).2 0 := by
  unfold wr1
  simp only [h]
  split
  · exact h
  · dsimp only
    rw [e_u_na (by decide), e_u_na (by decide), e_u_na (by decide), e_u_na (by decide)]
    exact ent_0 h
theorem itr_wr0 {B : e_B} {sk : Int32} : ∀ (k m : Nat) (q q' : Int32 × e_T), q.2 0 = q'.2 0 → (itr (wr1 B sk) k m q).2 0 = (itr (wr1 B sk) k m q').2 0 := by
  intro k
  induction k with
  | zero => intro m q q' h; exact h
  | succ k ih => intro m q q' h; exact ih (m + 1) _ _ (wr1_0 (n := q.1) (n' := q'.1) h)
theorem wrS_0 {B : e_B} {sk : Int32} {S S' : e_T} (h : S 0 = S' 0) : (wrS B sk S).2 0 = (wrS B sk S').2 0 := by
  unfold wrS
  rw [h]
  split
  · exact itr_wr0 _ _ _ _ h
  · exact h
theorem die_0 {B : e_B} {p : Nat} {S S' : e_T} (h : S 0 = S' 0) : dieS B p S 0 = dieS B p S' 0 := by
  unfold dieS
  simp only [h]
  split
  · funext j
    simp (disch := decide) only [e_u_na, e_u_at, h]
  · funext j
    simp (disch := decide) only [e_u_na, e_u_at, h]
theorem fn1_0 {B : e_B} {n n' : Int32} {p : Nat} {S S' : e_T} (h : S 0 = S' 0) : (fn1 B p (n, S)).2 0 = (fn1 B p (n', S')).2 0 := by
  unfold fn1
  simp only [h]
  split
  · dsimp only
    rw [e_u_na (by decide), e_u_na (by decide)]
    exact die_0 h
  · exact h
theorem itr_fn0 {B : e_B} : ∀ (k p : Nat) (q q' : Int32 × e_T), q.2 0 = q'.2 0 → (itr (fn1 B) k p q).2 0 = (itr (fn1 B) k p q').2 0 := by
  intro k
  induction k with
  | zero => intro p q q' h; exact h
  | succ k ih => intro p q q' h; exact ih (p + 1) _ _ (fn1_0 (n := q.1) (n' := q'.1) h)
/-- the row that a morning leaves -/
def mo0 (B : e_B) (sk : Int32) (S : e_T) : Nat → Int32 := fun j => if j = 0 then (fnS B (wrS B sk S).2).2 0 0 + e_n 1 else (fnS B (wrS B sk S).2).2 0 j
theorem idle_0 {S T : e_T} {c : Prop} [Decidable c] {v : Int32} : (if c then e_u S 4 2 v else S) 0 = S 0 := by
  split
  · exact e_u_na (by decide)
  · rfl
theorem moS_0 {B : e_B} {sk : Int32} {k : Nat} {S : e_T} : moS B sk k S 0 = mo0 B sk S := by
  unfold moS mo0
  have h1 : (fnS B (if (wrS B sk S).1 = e_n 0 ∧ S 4 2 = e_n (-1) then e_u (wrS B sk S).2 4 2 (S 0 0) else (wrS B sk S).2)).2 0 = (fnS B (wrS B sk S).2).2 0 := itr_fn0 _ _ _ _ (idle_0 (T := S))
  funext j
  by_cases hk : k < 30
  · simp (disch := decide) only [hk, if_true, e_u_na, e_u_at, h1]
  · simp (disch := decide) only [hk, if_false, e_u_na, e_u_at, h1]
theorem mo0_0 {B : e_B} {sk : Int32} {S S' : e_T} (h : S 0 = S' 0) : mo0 B sk S = mo0 B sk S' := by
  have h1 : (fnS B (wrS B sk S).2).2 0 = (fnS B (wrS B sk S').2).2 0 := itr_fn0 _ _ _ _ (wrS_0 h)
  unfold mo0
  rw [h1]
theorem itr_mo0 {B : e_B} {sk : Int32} : ∀ (n k k' : Nat) (S S' : e_T), S 0 = S' 0 → itr (moS B sk) n k S 0 = itr (moS B sk) n k' S' 0 := by
  intro n
  induction n with
  | zero => intro k k' S S' h; exact h
  | succ n ih =>
    intro k k' S S' h
    exact ih (k + 1) (k' + 1) _ _ (by rw [moS_0, moS_0, mo0_0 h])
end S84
