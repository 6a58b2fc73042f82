/-! surest: the best over all ways to go, from behind and from before -/
section S99a
def mx (n : Nat) (f : Nat → Nat) : Nat := itr (fun a q => max q (f a)) n 0 0
theorem mx_succ (n : Nat) (f : Nat → Nat) : mx (n + 1) f = max (mx n f) (f n) := by unfold mx; rw [itr_succ, Nat.zero_add]
theorem mx_ge {n : Nat} {f : Nat → Nat} : ∀ a, a < n → f a ≤ mx n f := by
  induction n with
  | zero => intro a h; omega
  | succ n ih =>
    intro a h
    rw [mx_succ]
    by_cases han : a = n
    · rw [han]; exact Nat.le_max_right _ _
    · exact Nat.le_trans (ih a (by omega)) (Nat.le_max_left _ _)
theorem mx_le {n : Nat} {f : Nat → Nat} {u : Nat} (h : ∀ a, a < n → f a ≤ u) : mx n f ≤ u := by
  induction n with
  | zero => exact Nat.zero_le _
  | succ n ih =>
    rw [mx_succ]
    exact Nat.max_le.mpr ⟨ih (fun a ha => h a (by omega)), h n (by omega)⟩
theorem mx_cg {n : Nat} {f g : Nat → Nat} (h : ∀ a, a < n → f a = g a) : mx n f = mx n g := by
  unfold mx; exact itr_congr (fun i s hi => by rw [h i hi])
theorem mx_mul (c n : Nat) (f : Nat → Nat) : c * mx n f = mx n (fun a => c * f a) := by
  induction n with
  | zero => exact Nat.mul_zero c
  | succ n ih => rw [mx_succ, mx_succ, ← Nat.mul_max_mul_left, ih]
theorem mx_mulr (c n : Nat) (f : Nat → Nat) : mx n f * c = mx n (fun a => f a * c) := by
  rw [Nat.mul_comm, mx_mul]; exact mx_cg (fun a _ => Nat.mul_comm _ _)
theorem mx_swap (n m : Nat) (f : Nat → Nat → Nat) : mx n (fun a => mx m (fun b => f a b)) = mx m (fun b => mx n (fun a => f a b)) := by
  apply Nat.le_antisymm
  · exact mx_le (fun a ha => mx_le (fun b hb => Nat.le_trans (mx_ge (f := fun a => f a b) a ha) (mx_ge (f := fun b => mx n (fun a => f a b)) b hb)))
  · exact mx_le (fun b hb => mx_le (fun a ha => Nat.le_trans (mx_ge (f := fun b => f a b) b hb) (mx_ge (f := fun a => mx m (fun b => f a b)) a ha)))
theorem mx_is {n u : Nat} {c : Nat → Bool} {F : Nat → Nat} (h1 : ∀ a, a < n → c a = true → F a ≤ u) (h2 : ∃ a, a < n ∧ c a = true ∧ u = F a) : mx n (fun a => if c a then F a else 0) = u := by
  apply Nat.le_antisymm
  · refine mx_le (fun a ha => ?_)
    by_cases hc : c a = true
    · rw [if_pos hc]; exact h1 a ha hc
    · rw [if_neg hc]; exact Nat.zero_le _
  · obtain ⟨a, ha, hc, hu⟩ := h2
    have := mx_ge (f := fun a => if c a then F a else 0) a ha
    rw [if_pos hc] at this
    rw [hu]; exact this
/-- one comes from a to b in a day -/
def edS (B : e_B) (D a b : Nat) : Bool := decide (a = b) || (!decide (bR B 1 a = e_n (-1)) && bt (byS B (e_shl (e_n 1) (e_n (a : Nat))) (e_n (D : Nat)) (e_n (-1))) b)
def wtS (B : e_B) (W : Int32) (D b : Nat) : Nat := if bR B 1 b = e_n (-1) then 10 else if W = e_n (-1) then 10 else if e_n (D : Nat) < W then 10 else 10 - (bR B 1 b).toNatClampNeg
def GS (B : e_B) (W : Int32) : Nat → Nat → Nat → Nat
  | 0, _, _ => 1
  | r + 1, D, a => mx (bPl B) (fun b => if edS B D a b then wtS B W D b * GS B W r (D + 1) b else 0)
def FS (B : e_B) (W : Int32) (t pl : Nat) : Nat → Nat → Nat
  | 0, b => if b = pl then 1 else 0
  | k + 1, b => mx (bPl B) (fun a => if edS B (t + k) a b then FS B W t pl k a else 0) * wtS B W (t + k) b
theorem wt_le {B : e_B} {W : Int32} {D b : Nat} : wtS B W D b ≤ 10 := by
  unfold wtS
  split
  · omega
  · split
    · omega
    · split <;> omega
theorem GS_le {B : e_B} {W : Int32} : ∀ r D a, GS B W r D a ≤ 10 ^ r
  | 0, _, _ => Nat.le_refl _
  | r + 1, D, a => by
    unfold GS
    refine mx_le (fun b _ => ?_)
    split
    · rw [Nat.pow_succ, Nat.mul_comm]
      exact Nat.mul_le_mul (GS_le r (D + 1) b) wt_le
    · exact Nat.zero_le _
theorem FS_le {B : e_B} {W : Int32} {t pl : Nat} : ∀ k b, FS B W t pl k b ≤ 10 ^ k
  | 0, b => by unfold FS; split <;> simp
  | k + 1, b => by
    unfold FS
    rw [Nat.pow_succ]
    refine Nat.mul_le_mul (mx_le (fun a _ => ?_)) wt_le
    split
    · exact FS_le k a
    · exact Nat.zero_le _
theorem FG {B : e_B} {W : Int32} {t pl : Nat} (hpl : pl < bPl B) (N : Nat) : mx (bPl B) (fun a => FS B W t pl N a) = GS B W N t pl := by
  have key : ∀ k, k ≤ N → mx (bPl B) (fun a => FS B W t pl k a * GS B W (N - k) (t + k) a) = GS B W N t pl := by
    intro k
    induction k with
    | zero =>
      intro _
      have : mx (bPl B) (fun a => FS B W t pl 0 a * GS B W (N - 0) (t + 0) a) = mx (bPl B) (fun a => if decide (a = pl) then GS B W N t a else 0) := by
        refine mx_cg (fun a _ => ?_)
        show (if a = pl then 1 else 0) * GS B W N t a = _
        by_cases h : a = pl
        · rw [if_pos h, if_pos (decide_eq_true h), Nat.one_mul]
        · rw [if_neg h, if_neg (by simpa using h), Nat.zero_mul]
      rw [this]
      exact mx_is (fun a _ h => by rw [of_decide_eq_true h]; exact Nat.le_refl _) ⟨pl, hpl, decide_eq_true rfl, rfl⟩
    | succ k ih =>
      intro hk
      rw [← ih (by omega)]
      obtain ⟨r, hr⟩ : ∃ r, N - k = r + 1 := ⟨N - k - 1, by omega⟩
      rw [hr, show N - (k + 1) = r by omega]
      have h1 : mx (bPl B) (fun a => FS B W t pl k a * GS B W (r + 1) (t + k) a) = mx (bPl B) (fun a => mx (bPl B) (fun b => FS B W t pl k a * (if edS B (t + k) a b then wtS B W (t + k) b * GS B W r (t + k + 1) b else 0))) := mx_cg (fun a _ => mx_mul _ _ _)
      have h2 : mx (bPl B) (fun b => FS B W t pl (k + 1) b * GS B W r (t + (k + 1)) b) = mx (bPl B) (fun b => mx (bPl B) (fun a => (if edS B (t + k) a b then FS B W t pl k a else 0) * wtS B W (t + k) b * GS B W r (t + (k + 1)) b)) := by
        refine mx_cg (fun b _ => ?_)
        show mx (bPl B) _ * wtS B W (t + k) b * _ = _
        rw [mx_mulr, mx_mulr]
      rw [h1, h2, mx_swap]
      refine mx_cg (fun a _ => mx_cg (fun b _ => ?_))
      rw [show t + (k + 1) = t + k + 1 by omega]
      split
      · rw [Nat.mul_assoc]
      · simp
  have := key N (Nat.le_refl _)
  rw [← this]
  refine mx_cg (fun a _ => ?_)
  rw [Nat.sub_self]
  show FS B W t pl N a = FS B W t pl N a * 1
  rw [Nat.mul_one]
theorem wt_n {B : e_B} {W : Int32} {D b : Nat} (wb : WB B) (hb : b < bPl B) : (if bR B 1 b = e_n (-1) then e_n 10 else if W = e_n (-1) then e_n 10 else if e_n (D : Nat) < W then e_n 10 else e_n 10 - bR B 1 b) = e_n (wtS B W D b : Nat) := by
  unfold wtS
  by_cases h1 : bR B 1 b = e_n (-1)
  · rw [if_pos h1, if_pos h1]; rfl
  · rw [if_neg h1, if_neg h1]
    by_cases h2 : W = e_n (-1)
    · rw [if_pos h2, if_pos h2]; rfl
    · rw [if_neg h2, if_neg h2]
      by_cases h3 : e_n (D : Nat) < W
      · rw [if_pos h3, if_pos h3]; rfl
      · rw [if_neg h3, if_neg h3]
        obtain ⟨v, hv, hvo⟩ := (wb.2.2.2.2.2.2.1 b hb).resolve_left h1
        rw [hvo, e_n_nat' (by omega), e_n_sub]; congr 1; omega
end S99a
