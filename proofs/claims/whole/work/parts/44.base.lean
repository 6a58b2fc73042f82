section C44
theorem kdb2 {b : Nat} (hb : B2 b) : kd (b + 2) = 20 := by rcases hb with rfl | rfl <;> rfl
theorem kdb3 {b : Nat} (hb : B2 b) : kd (b + 3) = 20 := by rcases hb with rfl | rfl <;> rfl
theorem kdb4 {b : Nat} (hb : B2 b) : kd (b + 4) = 20 := by rcases hb with rfl | rfl <;> rfl
theorem kdb5 {b : Nat} (hb : B2 b) : kd (b + 5) = 20 := by rcases hb with rfl | rfl <;> rfl
theorem kdb6 {b : Nat} (hb : B2 b) : kd (b + 6) = 20 := by rcases hb with rfl | rfl <;> rfl
theorem kdb7 {b : Nat} (hb : B2 b) : kd (b + 7) = 20 := by rcases hb with rfl | rfl <;> rfl
theorem kdb9 {b : Nat} (hb : B2 b) : kd (b + 9) = 20 := by rcases hb with rfl | rfl <;> rfl
theorem kdb10 {b : Nat} (hb : B2 b) : kd (b + 10) = 20 := by rcases hb with rfl | rfl <;> rfl
theorem kdb11 {b : Nat} (hb : B2 b) : kd (b + 11) = 20 := by rcases hb with rfl | rfl <;> rfl
theorem kdb12 {b : Nat} (hb : B2 b) : kd (b + 12) = 20 := by rcases hb with rfl | rfl <;> rfl
theorem kdb13 {b : Nat} (hb : B2 b) : kd (b + 13) = 20 := by rcases hb with rfl | rfl <;> rfl
theorem kdb14 {b : Nat} (hb : B2 b) : kd (b + 14) = 20 := by rcases hb with rfl | rfl <;> rfl
theorem kdb15 {b : Nat} (hb : B2 b) : kd (b + 15) = 20 := by rcases hb with rfl | rfl <;> rfl
theorem kdb16 {b : Nat} (hb : B2 b) : kd (b + 16) = 20 := by rcases hb with rfl | rfl <;> rfl
theorem kdb17 {b : Nat} (hb : B2 b) : kd (b + 17) = 20 := by rcases hb with rfl | rfl <;> rfl
theorem kdb18 {b : Nat} (hb : B2 b) : kd (b + 18) = 20 := by rcases hb with rfl | rfl <;> rfl
theorem kdb19 {b : Nat} (hb : B2 b) : kd (b + 19) = 20 := by rcases hb with rfl | rfl <;> rfl
theorem kda1 {a : Nat} (ha : M3 a) : kd (a + 1) = 20 := by rcases ha with rfl | rfl | rfl <;> rfl
theorem kda2 {a : Nat} (ha : M3 a) : kd (a + 2) = 20 := by rcases ha with rfl | rfl | rfl <;> rfl
theorem kda3 {a : Nat} (ha : M3 a) : kd (a + 3) = 20 := by rcases ha with rfl | rfl | rfl <;> rfl
theorem kda4 {a : Nat} (ha : M3 a) : kd (a + 4) = 20 := by rcases ha with rfl | rfl | rfl <;> rfl
theorem kdt7 {t : Nat} (ht : T2 t) : kd (t + 7) = 20 := by rcases ht with rfl | rfl <;> rfl
theorem kdt8 {t : Nat} (ht : T2 t) : kd (t + 8) = 20 := by rcases ht with rfl | rfl <;> rfl
theorem kdt9 {t : Nat} (ht : T2 t) : kd (t + 9) = 20 := by rcases ht with rfl | rfl <;> rfl
theorem lnr {r : Nat} (hr : R2 r) : ln r = 34 := by rcases hr with rfl | rfl <;> rfl
theorem kdr {r : Nat} (hr : R2 r) : kd r = 20 := by rcases hr with rfl | rfl <;> rfl
theorem kd_txa (z : e_Z) : kd (txa z) = 20 := by rcases z with ⟨J, ⟨s, rb, fb, _ | _⟩, cs, X⟩ <;> rfl
/-- f i, f (i + 1) .., n times -/
def itr {α : Type} (f : Nat → α → α) : Nat → Nat → α → α
  | 0, _, s => s
  | n + 1, i, s => itr f n (i + 1) (f i s)
theorem itr_succ {α : Type} (f : Nat → α → α) : ∀ n i s, itr f (n + 1) i s = f (i + n) (itr f n i s)
  | 0, _, _ => rfl
  | n + 1, i, s => by
    show itr f (n + 1) (i + 1) (f i s) = _
    rw [itr_succ f n (i + 1) (f i s), show i + 1 + n = i + (n + 1) by omega]; rfl
theorem loopI {α : Type} (X : Int32 → α → e_X) (n : Nat) (hn : n < 2147483648) (f : Nat → α → α) (step : ∀ i a, i < n → X (e_n (i : Nat)) a = X (e_n (i : Nat) + e_n 1) (f i a)) (a : α) : X (e_n 0) a = X (e_n (n : Nat)) (itr f n 0 a) := by
  have h : ∀ k i a, i + k = n → X (e_n (i : Nat)) a = X (e_n (n : Nat)) (itr f k i a) := by
    intro k
    induction k with
    | zero => intro i a hi; rw [show i = n by omega]; rfl
    | succ k ih =>
      intro i a hi
      rw [step i a (by omega), e_n_add]
      exact ih (i + 1) (f i a) (by omega)
  exact h n 0 a (by omega)
theorem lt_b {B : Int32} {i : Nat} (h : i < B.toNatClampNeg) : e_n (i : Nat) < B := by
  have h2 := Int32.toNatClampNeg_lt B
  rw [Int32.lt_iff_toInt_lt, e_n_toInt (by omega) (by omega)]
  rw [← Int32.toNat_toInt] at h
  omega
theorem nlt_b (B : Int32) : ¬ e_n (B.toNatClampNeg : Nat) < B := by
  have h2 := Int32.toNatClampNeg_lt B
  rw [Int32.lt_iff_toInt_lt, e_n_toInt (by omega) (by omega)]
  rw [← Int32.toNat_toInt]
  omega
theorem lt_k {k : Nat} {i : Nat} (h : i < k) (hk : k < 2147483648) : e_n (i : Nat) < e_n (k : Nat) := by
  rw [e_n_lt (by omega) (by omega) (by omega) (by omega)]; omega
theorem em1 (p : Prop) : (¬ p ∨ p) = True := eq_true (Decidable.byCases (dec := Classical.propDecidable p) (fun h => Or.inr h) (fun h => Or.inl h))
theorem em2 (p : Prop) : (p ∨ ¬ p) = True := eq_true (Classical.em p)
theorem en_20 : (e_n 2 = (0 : Int32)) = False := by decide
theorem en_a0 : (e_n 10 = (0 : Int32)) = False := by decide
theorem emT {p q : Prop} (a : (p = True) → q) (b : (p = False) → q) : q := (Classical.em p).elim (fun h => a (eq_true h)) (fun h => b (eq_false h))
theorem wr_na {I : Nat → Nat → Int32} {r b : Nat} {i v : Int32} (h : b ≠ r) : wr I r i v b = I b := by
  unfold wr
  split
  · rfl
  · exact e_u_na h
theorem rd_u {I : Nat → Nat → Int32} {a k r : Nat} {i v : Int32} (h : r ≠ a) : rd (e_u I a k v) r i = rd I r i := by
  unfold rd; rw [e_u_na h]
theorem rd_w {I : Nat → Nat → Int32} {a r : Nat} {i j v : Int32} (h : r ≠ a) : rd (wr I a j v) r i = rd I r i := by
  unfold rd; rw [wr_na h]
theorem rd_R {I : Nat → Nat → Int32} {a r : Nat} {i : Int32} {f : Nat → Int32} (h : r ≠ a) : rd (upR I a f) r i = rd I r i := by
  unfold rd; rw [upR_ne h]
theorem nlt_k {k : Nat} (hk : k < 2147483648) : ¬ e_n (k : Nat) < e_n (k : Nat) := by
  rw [e_n_lt (by omega) (by omega) (by omega) (by omega)]; omega
end C44
