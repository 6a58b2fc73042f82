/-! a machine over lists, in which the constructors run; the picture follows it -/
section S99y
/-- how many cells; their kinds and lengths, the newest first; ints; references; cells and slots made -/
abbrev e_C : Type := Nat × List (Nat × Nat) × List ((Nat × Nat) × Int32) × List ((Nat × Nat) × Nat) × (Nat × Nat)
def lk {α : Type} (d : α) : List ((Nat × Nat) × α) → Nat → Nat → α
  | [], _, _ => d
  | (q, v) :: r, x, y => bif (Nat.beq x q.1 && Nat.beq y q.2) then v else lk d r x y
def cS (c : e_C) (a : Nat) : Nat × Nat := bif Nat.ble a c.1 then c.2.1.getD (c.1 - a) (0, 0) else (0, 0)
def cK (c : e_C) (a : Nat) : Nat := bif (Nat.ble 1 a && Nat.ble a c.1) then (cS c a).1 else 0
def cI (c : e_C) : Nat → Nat → Int32 := lk 0 c.2.2.1
def cF (c : e_C) : Nat → Nat → Nat := lk 0 c.2.2.2.1
def cpI (c : e_C) (a k : Nat) (v : Int32) : e_C := (c.1, c.2.1, ((a, k), v) :: c.2.2.1, c.2.2.2)
def cpF (c : e_C) (a k v : Nat) : e_C := (c.1, c.2.1, c.2.2.1, ((a, k), v) :: c.2.2.2.1, c.2.2.2.2)
def cN (c : e_C) (kd len n : Nat) : e_C := (c.1 + 1, (kd, len) :: c.2.1, c.2.2.1, c.2.2.2.1, (c.2.2.2.2.1 + 1, c.2.2.2.2.2 + n))
abbrev e_Y : Type := Option (e_O × e_C)
abbrev c_K : Type := Nat → List Value → List Value → e_C → e_Y
def c_ret (o : e_Y) (K : List Value → e_C → e_Y) (r : List Value) : e_Y := match o with
  | some (.inl none, c') => K r c'
  | _ => none
def c_inv (E : Nat → List Value → e_C → e_Y) (y rc np rk : Nat) (st : List Value) (c : e_C) (K : List Value → e_C → e_Y) : e_Y :=
  match e_args st np with
  | none => none
  | some (as, rest) => match rk with
    | 0 => (match rc with
      | 0 => c_ret (E y as c) K rest
      | _ => (match rest with
        | .ref o :: r => if rc = 41 ∨ rc = 42 then none else if cK c o = rc then c_ret (E y (.ref o :: as) c) K r else none
        | _ => none))
    | _ => none
def c_call (E : Nat → List Value → e_C → e_Y) (m : Nat) (K : c_K) (pc len : Nat) (ls st : List Value) (c : e_C) (idx : Nat) : e_Y :=
  match e_look (e_mr (e_own m)) idx with
  | none => none
  | some (y, rc, np, rk) => bif Nat.beq y 9000 then e_g9 st (match st with | .ref a :: r => (if a = 0 then none else K (pc + len) ls r c) | _ => none)
    else bif Nat.beq y 9002 then none
    else bif Nat.beq y 9003 then e_g9 st (match st with | .int b :: .int a :: r => K (pc + len) ls (.int (e_min a b) :: r) c | _ => none)
    else bif Nat.beq y 9004 then none
    else bif Nat.beq y 9001 then e_g9 st (match st with
      | .int n :: .int dp :: .ref b :: .int sp :: .ref a :: r => if cK c a = 20 ∧ cK c b = 20 ∧ sp = 0 ∧ dp = 0 ∧ ¬ n < 0 ∧ n.toNatClampNeg ≤ (cS c a).2 ∧ n.toNatClampNeg ≤ (cS c b).2 ∧ (List.range n.toNatClampNeg).all (fun j => decide (cI c a j = cI c b j)) = true then K (pc + len) ls r c else none
      | _ => none)
    else c_inv E y rc np rk st c (fun st c => K (pc + len) ls st c)
def c_mem (E : Nat → List Value → e_C → e_Y) (m : Nat) (K : c_K) (pc len tgt : Nat) (ls st : List Value) (c : e_C) (i : Instr) : e_Y := match i with
  | .goto _ => K tgt ls st c
  | .getfield idx => match e_look (e_fr (e_own m)) idx with
    | some (q, k, ty) => (match ty, st with
      | 3, .ref a :: r => if cK c a = q then K (pc + len) ls (.ref (cF c a k) :: r) c else none
      | 0, .ref a :: r => if cK c a = q then K (pc + len) ls (.int (cI c a k) :: r) c else none
      | _, _ => none)
    | none => none
  | .putfield idx => match e_look (e_fr (e_own m)) idx with
    | some (q, k, ty) => (match ty, st with
      | 3, .ref v :: .ref a :: r => if cK c a = q ∧ ¬ q = 0 then K (pc + len) ls r (cpF c a k v) else none
      | 1, .int v :: .ref a :: r => if (cK c a = q ∧ (v = 0 ∨ v = 1)) ∧ ¬ q = 0 then K (pc + len) ls r (cpI c a k v) else none
      | 0, .int v :: .ref a :: r => if cK c a = q ∧ ¬ q = 0 then K (pc + len) ls r (cpI c a k v) else none
      | _, _ => none)
    | none => none
  | .arraylength => match st with | .ref a :: r => if 20 ≤ cK c a then K (pc + len) ls (.int (Int32.ofNat (cS c a).2) :: r) c else none | _ => none
  | .iastore => match st with | .int v :: .int i :: .ref a :: r => if cK c a = 20 then (if i < 0 ∨ (cS c a).2 ≤ i.toNatClampNeg then none else K (pc + len) ls r (cpI c a i.toNatClampNeg v)) else none | _ => none
  | .aastore => match st with | .ref v :: .int i :: .ref a :: r => if cK c a = 23 ∧ cK c v = 6 then (if i < 0 ∨ (cS c a).2 ≤ i.toNatClampNeg then none else K (pc + len) ls r (cpF c a i.toNatClampNeg v)) else none | _ => none
  | .newarray t => match t, st with
    | .int, .int n :: r => if n < 0 ∨ 100000 < n.toNatClampNeg ∨ 900000 < c.1 then none else K (pc + len) ls (.ref (c.1 + 1) :: r) (cN c 20 n.toNatClampNeg n.toNatClampNeg)
    | .boolean, .int n :: r => if n < 0 ∨ 100000 < n.toNatClampNeg ∨ 900000 < c.1 then none else K (pc + len) ls (.ref (c.1 + 1) :: r) (cN c 21 n.toNatClampNeg n.toNatClampNeg)
    | .long, .int n :: r => if n < 0 ∨ 100000 < n.toNatClampNeg ∨ 900000 < c.1 then none else K (pc + len) ls (.ref (c.1 + 1) :: r) (cN c 22 n.toNatClampNeg n.toNatClampNeg)
    | _, _ => none
  | .anewarray _ => match st with | .int n :: r => if n < 0 ∨ 100000 < n.toNatClampNeg ∨ 900000 < c.1 then none else K (pc + len) ls (.ref (c.1 + 1) :: r) (cN c 23 n.toNatClampNeg n.toNatClampNeg) | _ => none
  | .new idx => match e_look (e_tht (e_own m)) idx with
    | some _ => none
    | none => match e_look (e_nwt (e_own m)) idx with
      | some (q, n) => if 900000 < c.1 then none else K (pc + len) ls (.ref (c.1 + 1) :: st) (cN c q 0 n)
      | none => none
  | .invokevirtual idx => c_call E m K pc len ls st c idx
  | .invokespecial idx => c_call E m K pc len ls st c idx
  | .invokestatic idx => c_call E m K pc len ls st c idx
  | .return_ => match e_rk m, st with | 0, [] => some (.inl none, c) | _, _ => none
  | _ => none
def c_stp (E : Nat → List Value → e_C → e_Y) (m : Nat) (K : c_K) : c_K := fun pc ls st c => match e_fetch m pc with
  | none => none
  | some (i, len, tgt) => match e_pure i st with
    | some st' => K (pc + len) ls st' c
    | none => match e_loc i ls st with
      | some (ls', st') => K (pc + len) ls' st' c
      | none => match e_br i st with
        | some (b, st') => if b = true then K tgt ls st' c else K (pc + len) ls st' c
        | none => c_mem E m K pc len tgt ls st c i
def c_run (E : Nat → List Value → e_C → e_Y) (m : Nat) : Nat → c_K
  | 0 => fun _ _ _ _ => none
  | n + 1 => c_stp E m (c_run E m n)
def c_go (E : Nat → List Value → e_C → e_Y) (m : Nat) (K : c_K) : Nat → c_K
  | 0 => K
  | n + 1 => c_stp E m (c_go E m K n)
/-- methods, n instructions long at most, calls at most d deep -/
def c_E (n : Nat) : Nat → Nat → List Value → e_C → e_Y
  | 0 => fun _ _ _ => none
  | d + 1 => fun y as c => match c_run (c_E n d) y n 0 (e_ent as (e_mL y)) [] c with
    | some (.inl v, c') => some (.inl v, c')
    | _ => none
def Rs (X : Nat × (Nat → Int32)) (c : e_C) (σ : e_S) : Prop :=
  σ.1 = c.1 ∧ (∀ a, σ.2.1 a = cS c a) ∧ (∀ a k, σ.2.2.1 a k = cI c a k) ∧ (∀ a k, σ.2.2.2.1 a k = 0) ∧ (∀ a k, σ.2.2.2.2.1 a k = cF c a k) ∧ σ.2.2.2.2.2.1 = c.2.2.2.2 ∧ σ.2.2.2.2.2.2 = X ∧ ∀ a k, c.1 < a → cI c a k = 0 ∧ cF c a k = 0
def Sm (X : Nat × (Nat → Int32)) (x : e_Y) (x' : e_X) : Prop := ∀ r, x = some r → ∃ σ', x' = some (r.1, σ') ∧ Rs X r.2 σ'
theorem rs_k {X : Nat × (Nat → Int32)} {c : e_C} {σ : e_S} (h : Rs X c σ) (a : Nat) : e_k σ a = cK c a := by
  unfold e_k cK
  rw [h.1, h.2.1]
  by_cases h1 : 1 ≤ a ∧ a ≤ c.1
  · rw [if_pos h1, show (Nat.ble 1 a && Nat.ble a c.1) = true from by simp [Nat.ble_eq, h1.1, h1.2]]; rfl
  · rw [if_neg h1]
    have : (Nat.ble 1 a && Nat.ble a c.1) = false := by
      cases hh : (Nat.ble 1 a && Nat.ble a c.1) with
      | false => rfl
      | true =>
        rw [Bool.and_eq_true, Nat.ble_eq, Nat.ble_eq] at hh
        exact absurd hh h1
    rw [this]; rfl
theorem lk_c {α : Type} (d : α) (a k : Nat) (v : α) (l : List ((Nat × Nat) × α)) (x y : Nat) : lk d (((a, k), v) :: l) x y = if x = a then (if y = k then v else lk d l x y) else lk d l x y := by
  show (bif (Nat.beq x a && Nat.beq y k) then v else lk d l x y) = _
  by_cases h1 : x = a
  · by_cases h2 : y = k
    · rw [if_pos h1, if_pos h2, h1, h2, Nat.beq_refl, Nat.beq_refl]; rfl
    · rw [if_pos h1, if_neg h2, show Nat.beq y k = false from by rw [← Bool.not_eq_true, Nat.beq_eq]; exact h2, Bool.and_false]; rfl
  · rw [if_neg h1, show Nat.beq x a = false from by rw [← Bool.not_eq_true, Nat.beq_eq]; exact h1, Bool.false_and]; rfl
theorem cK_le {c : e_C} {a : Nat} (h : ¬ cK c a = 0) : a ≤ c.1 := by
  apply Decidable.byContradiction
  intro hn
  apply h
  unfold cK
  have : Nat.ble a c.1 = false := by rw [← Bool.not_eq_true, Nat.ble_eq]; exact hn
  rw [this, Bool.and_false]; rfl
theorem rs_I {X : Nat × (Nat → Int32)} {c : e_C} {σ : e_S} (h : Rs X c σ) {a : Nat} (ha : ¬ cK c a = 0) (k : Nat) (v : Int32) : Rs X (cpI c a k v) (e_uI σ a k v) := by
  obtain ⟨h1, h2, h3, h4, h5, h6, h7, h8⟩ := h
  have hle := cK_le ha
  refine ⟨h1, h2, ?_, h4, h5, h6, h7, ?_⟩
  · intro x y
    show e_u σ.2.2.1 a k v x y = lk 0 (((a, k), v) :: c.2.2.1) x y
    rw [lk_c]
    unfold e_u
    by_cases hx : x = a
    · rw [if_pos hx, if_pos hx]
      by_cases hy : y = k
      · rw [if_pos hy, if_pos hy]
      · rw [if_neg hy, if_neg hy, hx]; exact h3 a y
    · rw [if_neg hx, if_neg hx]; exact h3 x y
  · intro x y hx
    have hx' : c.1 < x := hx
    refine ⟨?_, (h8 x y hx').2⟩
    show lk 0 (((a, k), v) :: c.2.2.1) x y = 0
    rw [lk_c, if_neg (by omega)]; exact (h8 x y hx').1
theorem rs_F {X : Nat × (Nat → Int32)} {c : e_C} {σ : e_S} (h : Rs X c σ) {a : Nat} (ha : ¬ cK c a = 0) (k v : Nat) : Rs X (cpF c a k v) (e_uF σ a k v) := by
  obtain ⟨h1, h2, h3, h4, h5, h6, h7, h8⟩ := h
  have hle := cK_le ha
  refine ⟨h1, h2, h3, h4, ?_, h6, h7, ?_⟩
  · intro x y
    show e_u σ.2.2.2.2.1 a k v x y = lk 0 (((a, k), v) :: c.2.2.2.1) x y
    rw [lk_c]
    unfold e_u
    by_cases hx : x = a
    · rw [if_pos hx, if_pos hx]
      by_cases hy : y = k
      · rw [if_pos hy, if_pos hy]
      · rw [if_neg hy, if_neg hy, hx]; exact h5 a y
    · rw [if_neg hx, if_neg hx]; exact h5 x y
  · intro x y hx
    have hx' : c.1 < x := hx
    refine ⟨(h8 x y hx').1, ?_⟩
    show lk 0 (((a, k), v) :: c.2.2.2.1) x y = 0
    rw [lk_c, if_neg (by omega)]; exact (h8 x y hx').2
theorem rs_N {X : Nat × (Nat → Int32)} {c : e_C} {σ : e_S} (h : Rs X c σ) (kd len n : Nat) : Rs X (cN c kd len n) (e_new σ kd len n) := by
  obtain ⟨h1, h2, h3, h4, h5, h6, h7, h8⟩ := h
  refine ⟨by show σ.1 + 1 = c.1 + 1; rw [h1], ?_, ?_, ?_, ?_, by show (σ.2.2.2.2.2.1.1 + 1, σ.2.2.2.2.2.1.2 + n) = _; rw [h6]; rfl, h7, ?_⟩
  · intro a
    show (if a = σ.1 + 1 then (kd, len) else σ.2.1 a) = (bif Nat.ble a (c.1 + 1) then ((kd, len) :: c.2.1).getD (c.1 + 1 - a) (0, 0) else (0, 0))
    rw [h1, h2]
    unfold cS
    by_cases ha : a = c.1 + 1
    · rw [if_pos ha, ha, Nat.ble_self_eq_true, Nat.sub_self]; rfl
    · rw [if_neg ha]
      by_cases hle : a ≤ c.1
      · rw [show Nat.ble a c.1 = true from by rw [Nat.ble_eq]; exact hle, show Nat.ble a (c.1 + 1) = true from by rw [Nat.ble_eq]; omega, show c.1 + 1 - a = (c.1 - a) + 1 by omega]; rfl
      · rw [show Nat.ble a c.1 = false from by rw [← Bool.not_eq_true, Nat.ble_eq]; exact hle, show Nat.ble a (c.1 + 1) = false from by rw [← Bool.not_eq_true, Nat.ble_eq]; omega]; rfl
  · intro a k
    show e_z σ.2.2.1 (σ.1 + 1) 0 a k = cI c a k
    unfold e_z
    by_cases ha : a = σ.1 + 1
    · rw [if_pos ha]; exact ((h8 a k (by omega)).1).symm
    · rw [if_neg ha]; exact h3 a k
  · intro a k
    show e_z σ.2.2.2.1 (σ.1 + 1) 0 a k = 0
    unfold e_z
    by_cases ha : a = σ.1 + 1
    · rw [if_pos ha]
    · rw [if_neg ha]; exact h4 a k
  · intro a k
    show e_z σ.2.2.2.2.1 (σ.1 + 1) 0 a k = cF c a k
    unfold e_z
    by_cases ha : a = σ.1 + 1
    · rw [if_pos ha]; exact ((h8 a k (by omega)).2).symm
    · rw [if_neg ha]; exact h5 a k
  · intro a k ha
    have ha' : c.1 + 1 < a := ha
    exact h8 a k (by omega)
end S99y
