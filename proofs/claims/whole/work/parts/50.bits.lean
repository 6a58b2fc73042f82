/-! bits of an int; how many; loops -/
section S50
def bt (x : Int32) (i : Nat) : Bool := x.toBitVec.getLsbD i
theorem bt_ext {x y : Int32} (h : ∀ i, i < 32 → bt x i = bt y i) : x = y := Int32.toBitVec.inj (BitVec.eq_of_getLsbD_eq h)
theorem bt_big {x : Int32} {i : Nat} (h : 32 ≤ i) : bt x i = false := BitVec.getLsbD_of_ge _ _ h
theorem bt_or (x y : Int32) (i : Nat) : bt (x ||| y) i = (bt x i || bt y i) := by
  unfold bt; rw [Int32.toBitVec_or, BitVec.getLsbD_or]
theorem bt_and (x y : Int32) (i : Nat) : bt (x &&& y) i = (bt x i && bt y i) := by
  unfold bt; rw [Int32.toBitVec_and, BitVec.getLsbD_and]
theorem bt_xor (x y : Int32) (i : Nat) : bt (x ^^^ y) i = (bt x i ^^ bt y i) := by
  unfold bt; rw [Int32.toBitVec_xor, BitVec.getLsbD_xor]
theorem bt_0 (i : Nat) : bt (e_n 0) i = false := by
  unfold bt; rw [show (e_n 0).toBitVec = 0#32 from rfl, BitVec.getLsbD_zero]
theorem bt_m1 {i : Nat} (h : i < 32) : bt (e_n (-1)) i = true := by
  unfold bt; rw [show (e_n (-1)).toBitVec = BitVec.allOnes 32 from rfl, BitVec.getLsbD_allOnes]; simp [h]
theorem bt_not (x : Int32) {i : Nat} (h : i < 32) : bt (x ^^^ e_n (-1)) i = !bt x i := by
  rw [bt_xor, bt_m1 h]; simp
theorem shl_bv {i : Nat} (h : i < 32) : (e_shl (e_n 1) (e_n (i : Nat))).toBitVec = BitVec.twoPow 32 i := by
  have : ∀ k : Fin 32, (e_shl (e_n 1) (e_n (k.val : Nat))).toBitVec = BitVec.twoPow 32 k.val := by decide +kernel
  exact this ⟨i, h⟩
theorem bt_bit {i : Nat} (h : i < 32) (j : Nat) : bt (e_shl (e_n 1) (e_n (i : Nat))) j = decide (j = i) := by
  unfold bt
  rw [shl_bv h, BitVec.getLsbD_twoPow]
  by_cases hj : i = j <;> simp [hj, h] <;> omega
theorem and_bit (x : Int32) {i : Nat} (h : i < 32) : (x &&& e_shl (e_n 1) (e_n (i : Nat)) = 0) = (bt x i = false) := by
  apply propext
  constructor
  · intro hx
    have := congrArg (fun q => bt q i) hx
    simp only [bt_and, bt_bit h, decide_true, Bool.and_true] at this
    rw [this]; exact bt_0 i
  · intro hx
    apply bt_ext
    intro j hj
    rw [bt_and, bt_bit h, show (0 : Int32) = e_n 0 from rfl, bt_0]
    by_cases hji : j = i
    · subst hji; simp [hx]
    · simp [hji]
theorem bt_1 (j : Nat) : bt (e_n 1) j = decide (j = 0) := bt_bit (i := 0) (by decide) j
theorem shr_val (x : Int32) {i : Nat} (h : i < 32) : e_shr x (e_n (i : Nat)) &&& e_n 1 = tf (bt x i = true) := by
  have hs : ∀ k : Fin 32, (e_n (k.val : Nat) &&& 31) = e_n (k.val : Nat) ∧ ((e_n (k.val : Nat)).toBitVec.smod 32 : BitVec 32).toNat = k.val := by decide +kernel
  have hb : bt (e_shr x (e_n (i : Nat))) 0 = bt x i := by
    unfold bt e_shr
    rw [(hs ⟨i, h⟩).1, Int32.toBitVec_shiftRight]
    have := (hs ⟨i, h⟩).2
    simp only at this
    rw [BitVec.sshiftRight', this, BitVec.getLsbD_sshiftRight]
    simp [h]
  apply bt_ext
  intro j hj
  rw [bt_and, bt_1]
  unfold tf
  by_cases hj0 : j = 0
  · subst hj0
    rw [hb]
    cases bt x i <;> simp [bt_1, bt_0]
  · cases bt x i <;> simp [hj0, bt_1, bt_0]
theorem shr_bit (x : Int32) {i : Nat} (h : i < 32) : (e_shr x (e_n (i : Nat)) &&& e_n 1 = e_n 1) = (bt x i = true) := by
  rw [shr_val x h]
  unfold tf
  cases bt x i <;> decide
/-- a fold, from the left -/
theorem itr_inv {α : Type} {f : Nat → α → α} (P : Nat → α → Prop) {n : Nat} {s : α} (h0 : P 0 s) (hs : ∀ i s, i < n → P i s → P (i + 1) (f i s)) : P n (itr f n 0 s) := by
  have key : ∀ k, k ≤ n → P k (itr f k 0 s) := by
    intro k
    induction k with
    | zero => intro _; exact h0
    | succ k ih =>
      intro hk
      rw [itr_succ, Nat.zero_add]
      exact hs k _ (by omega) (ih (by omega))
  exact key n (Nat.le_refl _)
theorem itr_congr {α : Type} {f g : Nat → α → α} {n : Nat} {s : α} (h : ∀ i s, i < n → f i s = g i s) : itr f n 0 s = itr g n 0 s := by
  have key : ∀ k, k ≤ n → itr f k 0 s = itr g k 0 s := by
    intro k
    induction k with
    | zero => intro _; rfl
    | succ k ih =>
      intro hk
      rw [itr_succ, itr_succ, ih (by omega), Nat.zero_add, h k _ (by omega)]
  exact key n (Nat.le_refl _)
/-- the set of those below n for which f, as bits -/
def msk (n : Nat) (f : Nat → Bool) : Int32 := itr (fun p q => q ||| (if f p then e_shl (e_n 1) (e_n (p : Nat)) else e_n 0)) n 0 (e_n 0)
theorem bt_msk {n : Nat} (hn : n ≤ 32) (f : Nat → Bool) (i : Nat) : bt (msk n f) i = (decide (i < n) && f i) := by
  have := itr_inv (fun k q => bt q i = (decide (i < k) && f i)) (n := n) (f := fun p q => q ||| (if f p then e_shl (e_n 1) (e_n (p : Nat)) else e_n 0)) (s := e_n 0) (by simp [bt_0]) (by
    intro k s hk ih
    rw [bt_or, ih]
    by_cases hi : i = k
    · subst hi
      cases hf : f i
      · simp [bt_0]
      · simp [bt_bit (show i < 32 by omega)]
    · have : decide (i < k + 1) = decide (i < k) := by
        rw [decide_eq_decide]; omega
      rw [this]
      cases hf : f k
      · simp [bt_0]
      · simp [bt_bit (show k < 32 by omega), hi])
  exact this
def cnt (n : Nat) (f : Nat → Bool) : Nat := itr (fun p q => if f p then q + 1 else q) n 0 0
theorem cnt_succ (n : Nat) (f : Nat → Bool) : cnt (n + 1) f = if f n then cnt n f + 1 else cnt n f := by
  unfold cnt; rw [itr_succ, Nat.zero_add]
theorem cnt_le (n : Nat) (f : Nat → Bool) : cnt n f ≤ n := by
  induction n with
  | zero => exact Nat.le_refl _
  | succ n ih => rw [cnt_succ]; split <;> omega
theorem cnt_congr {n : Nat} {f g : Nat → Bool} (h : ∀ i, i < n → f i = g i) : cnt n f = cnt n g := by
  unfold cnt; exact itr_congr (fun i s hi => by rw [h i hi])
theorem cnt_up {n p : Nat} {f g : Nat → Bool} (hp : p < n) (h : ∀ i, i < n → i ≠ p → g i = f i) (h0 : f p = false) (h1 : g p = true) : cnt n g = cnt n f + 1 := by
  induction n with
  | zero => omega
  | succ n ih =>
    rw [cnt_succ, cnt_succ]
    by_cases hpn : p = n
    · subst hpn
      rw [h0, h1, cnt_congr (f := g) (g := f) (fun i hi => h i (by omega) (by omega))]; rfl
    · rw [ih (by omega) (fun i hi hne => h i (by omega) hne), h n (by omega) (fun q => hpn q.symm)]
      split <;> rfl
end S50
