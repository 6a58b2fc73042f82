/-! THE PICTURE: a small machine over numbered cells, in which this claim's methods run; part 06 shows that the JVM follows it. -/
section EV
/-- how many cells; a cell's kind and length; what cells hold as ints, longs, references (0: null); cells and slots made so far; the script -/
abbrev e_S : Type := Nat × (Nat → Nat × Nat) × (Nat → Nat → Int32) × (Nat → Nat → Int64) × (Nat → Nat → Nat) × (Nat × Nat) × (Nat × (Nat → Int32))
abbrev e_O : Type := Sum (Option Value) Nat
abbrev e_X : Type := Option (e_O × e_S)
def e_k (σ : e_S) (a : Nat) : Nat := if 1 ≤ a ∧ a ≤ σ.1 then (σ.2.1 a).1 else 0
def e_l (σ : e_S) (a : Nat) : Nat := (σ.2.1 a).2
def e_I (σ : e_S) (a k : Nat) : Int32 := σ.2.2.1 a k
def e_J (σ : e_S) (a k : Nat) : Int64 := σ.2.2.2.1 a k
def e_F (σ : e_S) (a k : Nat) : Nat := σ.2.2.2.2.1 a k
def e_c (σ : e_S) : Nat := σ.2.2.2.2.2.1.1
def e_s (σ : e_S) : Nat := σ.2.2.2.2.2.1.2
def e_xl (σ : e_S) : Nat := σ.2.2.2.2.2.2.1
def e_xs (σ : e_S) : Nat → Int32 := σ.2.2.2.2.2.2.2
def e_u {α : Type} (f : Nat → Nat → α) (a k : Nat) (v : α) : Nat → Nat → α := fun b => if b = a then (fun j => if j = k then v else f a j) else f b
def e_uI (σ : e_S) (a k : Nat) (v : Int32) : e_S := (σ.1, σ.2.1, e_u σ.2.2.1 a k v, σ.2.2.2)
def e_uJ (σ : e_S) (a k : Nat) (v : Int64) : e_S := (σ.1, σ.2.1, σ.2.2.1, e_u σ.2.2.2.1 a k v, σ.2.2.2.2)
def e_uF (σ : e_S) (a k : Nat) (v : Nat) : e_S := (σ.1, σ.2.1, σ.2.2.1, σ.2.2.2.1, e_u σ.2.2.2.2.1 a k v, σ.2.2.2.2.2)
/-- a stretch of ints of the cell a anew -/
def e_uR (σ : e_S) (a : Nat) (f : Nat → Int32) : e_S := (σ.1, σ.2.1, (fun b => if b = a then f else σ.2.2.1 b), σ.2.2.2)
def e_z {α : Type} (f : Nat → Nat → α) (a : Nat) (v : α) : Nat → Nat → α := fun b => if b = a then (fun _ => v) else f b
def e_new (σ : e_S) (kd len n : Nat) : e_S :=
  (σ.1 + 1, (fun b => if b = σ.1 + 1 then (kd, len) else σ.2.1 b), e_z σ.2.2.1 (σ.1 + 1) 0, e_z σ.2.2.2.1 (σ.1 + 1) 0, e_z σ.2.2.2.2.1 (σ.1 + 1) 0, (σ.2.2.2.2.2.1.1 + 1, σ.2.2.2.2.2.1.2 + n), σ.2.2.2.2.2.2)
def e_exc (σ : e_S) : e_S := (σ.1, σ.2.1, σ.2.2.1, σ.2.2.2.1, σ.2.2.2.2.1, (σ.2.2.2.2.2.1.1 + 1, σ.2.2.2.2.2.1.2 + 6), σ.2.2.2.2.2.2)
/-- cells that nobody writes: the script; what is behind 1000000 of the class's own constants -/
abbrev e_SC : Nat := 1000000
-- fields
def e_gI {α : Type} (σ : e_S) (c k a : Nat) (K : Int32 → Option α) : Option α := if e_k σ a = c then K (e_I σ a k) else none
def e_gJ {α : Type} (σ : e_S) (c k a : Nat) (K : Int64 → Option α) : Option α := if e_k σ a = c then K (e_J σ a k) else none
def e_gF {α : Type} (σ : e_S) (c k a : Nat) (K : Nat → Option α) : Option α := if e_k σ a = c then K (e_F σ a k) else none
def e_pI {α : Type} (σ : e_S) (c k a : Nat) (v : Int32) (K : e_S → Option α) : Option α := if e_k σ a = c then K (e_uI σ a k v) else none
def e_pZ {α : Type} (σ : e_S) (c k a : Nat) (v : Int32) (K : e_S → Option α) : Option α := if e_k σ a = c ∧ (v = 0 ∨ v = 1) then K (e_uI σ a k v) else none
def e_pJ {α : Type} (σ : e_S) (c k a : Nat) (v : Int64) (K : e_S → Option α) : Option α := if e_k σ a = c then K (e_uJ σ a k v) else none
def e_pF {α : Type} (σ : e_S) (c k a v : Nat) (K : e_S → Option α) : Option α := if e_k σ a = c then K (e_uF σ a k v) else none
-- arrays: 20 ints, 21 booleans, 22 longs, 23 moments
/-- the constants' cells: 1000000 the script, 1000001 the switch map, 1000002 the row of words, 1000100 + k a word, 1000200 + k its text, 1000300 + k that text's bytes -/
def e_txt : List (List Int32) := [[109, 97, 115, 116, 101, 114], [112, 108, 97, 99, 101], [115, 101, 97], [119, 97, 121], [112, 101, 114, 115, 111, 110], [119, 114, 105, 116, 101, 115], [111, 114], [97, 110, 100], [110, 111, 116], [102, 111, 101], [102, 114, 105, 101, 110, 100], [107, 105, 110], [103, 111, 111, 100, 115], [100, 101, 98, 116], [108, 105, 115, 116, 101, 100], [100, 97, 121], [115, 97, 108, 101, 115]]
def e_wv : List Int32 := [0, 0, 0, 0, 0, 0, 0, 0, 0, (-3), (-4), (-5), (-1), (-2), (-6), (-7), (-8)]
def e_sm : List Int32 := [1, 2, 3, 4, 5, 9, 0, 0, 0, 8, 7, 6, 0, 0, 0, 0, 0]
def e_sl (σ : e_S) (a : Nat) : Option Nat := if a = e_SC then some (e_xl σ) else if a = 1000001 then some e_sm.length else if a = 1000002 then some 17 else if 1000300 ≤ a ∧ a < 1000317 then some ((e_txt.getD (a - 1000300) []).length) else none
/-- what the ints of a constant array are: its length, its row -/
def e_sa (σ : e_S) (a : Nat) : Option (Nat × (Nat → Int32)) := if a = e_SC then some (e_xl σ, e_xs σ) else if a = 1000001 then some (e_sm.length, fun j => e_sm.getD j 0) else none
def e_al {α : Type} (σ : e_S) (a : Nat) (K : Int32 → Option α) : Option α := if 20 ≤ e_k σ a then K (Int32.ofNat (e_l σ a)) else (e_sl σ a).bind (fun n => K (Int32.ofNat n))
def e_ia {α : Type} (σ : e_S) (a : Nat) (i : Int32) (K : Int32 → Option α) : Option α :=
  if e_k σ a = 20 then (if i < 0 ∨ e_l σ a ≤ i.toNatClampNeg then none else K (e_I σ a i.toNatClampNeg))
  else (e_sa σ a).bind (fun q => if i < 0 ∨ q.1 ≤ i.toNatClampNeg then none else K (q.2 i.toNatClampNeg))
def e_za {α : Type} (σ : e_S) (a : Nat) (i : Int32) (K : Int32 → Option α) : Option α :=
  if e_k σ a = 21 then (if i < 0 ∨ e_l σ a ≤ i.toNatClampNeg then none else K (e_I σ a i.toNatClampNeg))
  else if 1000300 ≤ a ∧ a < 1000317 then (if i < 0 ∨ (e_txt.getD (a - 1000300) []).length ≤ i.toNatClampNeg then none else K ((e_txt.getD (a - 1000300) []).getD i.toNatClampNeg 0)) else none
def e_ja {α : Type} (σ : e_S) (a : Nat) (i : Int32) (K : Int64 → Option α) : Option α := if e_k σ a = 22 then (if i < 0 ∨ e_l σ a ≤ i.toNatClampNeg then none else K (e_J σ a i.toNatClampNeg)) else none
def e_qa {α : Type} (σ : e_S) (a : Nat) (i : Int32) (K : Nat → Option α) : Option α :=
  if e_k σ a = 23 then (if i < 0 ∨ e_l σ a ≤ i.toNatClampNeg then none else K (e_F σ a i.toNatClampNeg))
  else if a = 1000002 then (if i < 0 ∨ 17 ≤ i.toNatClampNeg then none else K (1000100 + i.toNatClampNeg)) else none
def e_is {α : Type} (σ : e_S) (a : Nat) (i v : Int32) (K : e_S → Option α) : Option α := if e_k σ a = 20 then (if i < 0 ∨ e_l σ a ≤ i.toNatClampNeg then none else K (e_uI σ a i.toNatClampNeg v)) else none
def e_zs {α : Type} (σ : e_S) (a : Nat) (i v : Int32) (K : e_S → Option α) : Option α := if e_k σ a = 21 then (if i < 0 ∨ e_l σ a ≤ i.toNatClampNeg then none else K (e_uI σ a i.toNatClampNeg (v &&& 1))) else none
def e_js {α : Type} (σ : e_S) (a : Nat) (i : Int32) (v : Int64) (K : e_S → Option α) : Option α := if e_k σ a = 22 then (if i < 0 ∨ e_l σ a ≤ i.toNatClampNeg then none else K (e_uJ σ a i.toNatClampNeg v)) else none
def e_qs {α : Type} (σ : e_S) (a : Nat) (i : Int32) (v : Nat) (K : e_S → Option α) : Option α := if e_k σ a = 23 ∧ e_k σ v = 6 then (if i < 0 ∨ e_l σ a ≤ i.toNatClampNeg then none else K (e_uF σ a i.toNatClampNeg v)) else none
def e_na {α : Type} (σ : e_S) (kd : Nat) (n : Int32) (K : Nat → e_S → Option α) : Option α := if n < 0 ∨ 100000 < n.toNatClampNeg ∨ 900000 < σ.1 then none else K (σ.1 + 1) (e_new σ kd n.toNatClampNeg n.toNatClampNeg)
/-- System.arraycopy of ints from place 0 to place 0 -/
def e_cp {α : Type} (σ : e_S) (a : Nat) (sp : Int32) (b : Nat) (dp n : Int32) (K : e_S → Option α) : Option α :=
  if e_k σ a = 20 ∧ e_k σ b = 20 ∧ ¬ sp < 0 ∧ ¬ dp < 0 ∧ ¬ n < 0 ∧ sp.toNatClampNeg + n.toNatClampNeg ≤ e_l σ a ∧ dp.toNatClampNeg + n.toNatClampNeg ≤ e_l σ b
  then K (e_uR σ b (va_cpy (e_I σ a) (e_I σ b) sp.toNatClampNeg dp.toNatClampNeg n.toNatClampNeg)) else none
-- what a call answers
def e_okr (σ : e_S) (c a : Nat) : Bool := match c with
  | 41 => decide (1000200 ≤ a ∧ a < 1000217)
  | 42 => decide (1000100 ≤ a ∧ a < 1000117)
  | _ => decide (e_k σ a = c)
def e_ck {α : Type} (σ : e_S) (c a : Nat) (x : Option α) : Option α := if e_okr σ c a = true then x else none
def e_rI (o : e_X) (K : Int32 → e_S → e_X) (H : Nat → e_S → e_X) : e_X := match o with
  | some (.inl (some (.int v)), σ) => K v σ
  | some (.inr e, σ) => H e σ
  | _ => none
def e_rJ (o : e_X) (K : Int64 → e_S → e_X) (H : Nat → e_S → e_X) : e_X := match o with
  | some (.inl (some (.long v)), σ) => K v σ
  | some (.inr e, σ) => H e σ
  | _ => none
def e_rF (o : e_X) (K : Nat → e_S → e_X) (H : Nat → e_S → e_X) : e_X := match o with
  | some (.inl (some (.ref v)), σ) => K v σ
  | some (.inr e, σ) => H e σ
  | _ => none
def e_rV (o : e_X) (K : e_S → e_X) (H : Nat → e_S → e_X) : e_X := match o with
  | some (.inl none, σ) => K σ
  | some (.inr e, σ) => H e σ
  | _ => none
def e_div {α : Type} (x y : Int32) (K : Int32 → Option α) : Option α := if y = 0 then none else K (x / y)
def e_rem {α : Type} (x y : Int32) (K : Int32 → Option α) : Option α := if y = 0 then none else K (x - x / y * y)
/-- two of the words (or null), compared -/
def e_ac {α : Type} (x y : Nat) (K : Bool → Option α) : Option α := if (x = 0 ∨ (1000100 ≤ x ∧ x < 1000117)) ∧ (y = 0 ∨ (1000100 ≤ y ∧ y < 1000117)) then K (decide (x = y)) else none
-- tables
def e_sel : List (Int32 × Nat) → Nat → Int32 → Nat
  | [], d, _ => d
  | (v, t) :: r, d, x => if x = v then t else e_sel r d x
-- instructions that only move the stack
def e_ii (st : List Value) (f : Int32 → Int32 → Int32) : Option (List Value) := match st with
  | .int y :: .int x :: r => some (.int (f x y) :: r)
  | _ => none
def e_shl (x y : Int32) : Int32 := x <<< (y &&& 31)
def e_shr (x y : Int32) : Int32 := x >>> (y &&& 31)
def e_ush (x y : Int32) : Int32 := (x.toUInt32 >>> (y.toUInt32 &&& Int32.toUInt32 31)).toInt32
def e_i2c (x : Int32) : Int32 := (x.toUInt32 % 65536).toInt32
def e_lsh (x : Int64) (y : Int32) : Int64 := x <<< (y.toInt64 &&& 63)
def e_pure (i : Instr) (st : List Value) : Option (List Value) := match i with
  | .iconst n => some (.int (e_n n) :: st)
  | .bipush n => some (.int (e_n n) :: st)
  | .sipush n => some (.int (e_n n) :: st)
  | .lconst n => some (.long (Int64.ofNat (n : Nat)) :: st)
  | .aconst_null => some (.ref 0 :: st)
  | .iadd => e_ii st (fun x y => x + y)
  | .isub => e_ii st (fun x y => x - y)
  | .imul => e_ii st (fun x y => x * y)
  | .iand => e_ii st (fun x y => x &&& y)
  | .ior => e_ii st (fun x y => x ||| y)
  | .ixor => e_ii st (fun x y => x ^^^ y)
  | .ishl => e_ii st e_shl
  | .ishr => e_ii st e_shr
  | .iushr => e_ii st e_ush
  | .i2l => match st with | .int x :: r => some (.long x.toInt64 :: r) | _ => none
  | .i2c => match st with | .int x :: r => some (.int (e_i2c x) :: r) | _ => none
  | .lsub => match st with | .long y :: .long x :: r => some (.long (x - y) :: r) | _ => none
  | .lor => match st with | .long y :: .long x :: r => some (.long (x ||| y) :: r) | _ => none
  | .lshl => match st with | .int y :: .long x :: r => some (.long (e_lsh x y) :: r) | _ => none
  | .lcmp => match st with | .long y :: .long x :: r => some (.int (lg_cmp x y) :: r) | _ => none
  | .pop => match st with | .int _ :: r => some r | .ref _ :: r => some r | _ => none
  | .dup => match st with | .int x :: r => some (.int x :: .int x :: r) | .ref x :: r => some (.ref x :: .ref x :: r) | _ => none
  | .dup_x1 => match st with | .int x :: .ref y :: r => some (.int x :: .ref y :: .int x :: r) | _ => none
  | .dup2 => match st with | .int x :: .ref y :: r => some (.int x :: .ref y :: .int x :: .ref y :: r) | _ => none
  | _ => none
-- locals (null: nothing that one may read)
def e_ilo (ls st : List Value) (n : Nat) : Option (List Value × List Value) := match ls[n]? with | some (.int x) => some (ls, .int x :: st) | _ => none
def e_llo (ls st : List Value) (n : Nat) : Option (List Value × List Value) := match ls[n]? with | some (.long x) => some (ls, .long x :: st) | _ => none
def e_alo (ls st : List Value) (n : Nat) : Option (List Value × List Value) := match ls[n]? with | some (.ref x) => some (ls, .ref x :: st) | _ => none
/-- no long reaches into place n from the one ahead -/
def e_cl (ls : List Value) (n : Nat) : Bool := match n with
  | 0 => true
  | k + 1 => match ls[k]? with | some (.long _) => false | _ => true
def e_sto (ls : List Value) (n : Nat) (v : Value) (r : List Value) : Option (List Value × List Value) := bif (Nat.blt n ls.length && e_cl ls n) then some (ls.set n v, r) else none
def e_sto2 (ls : List Value) (n : Nat) (v : Value) (r : List Value) : Option (List Value × List Value) := bif (Nat.blt (n + 1) ls.length && e_cl ls n) then some ((ls.set n v).set (n + 1) .null, r) else none
def e_loc (i : Instr) (ls st : List Value) : Option (List Value × List Value) := match i with
  | .iload n => e_ilo ls st n
  | .iload_n n => e_ilo ls st n
  | .lload n => e_llo ls st n
  | .lload_n n => e_llo ls st n
  | .aload n => e_alo ls st n
  | .aload_n n => e_alo ls st n
  | .istore n => match st with | .int x :: r => e_sto ls n (.int x) r | _ => none
  | .istore_n n => match st with | .int x :: r => e_sto ls n (.int x) r | _ => none
  | .astore n => match st with | .ref x :: r => e_sto ls n (.ref x) r | .null :: r => e_sto ls n .null r | _ => none
  | .astore_n n => match st with | .ref x :: r => e_sto ls n (.ref x) r | .null :: r => e_sto ls n .null r | _ => none
  | .lstore n => match st with | .long x :: r => e_sto2 ls n (.long x) r | _ => none
  | .lstore_n n => match st with | .long x :: r => e_sto2 ls n (.long x) r | _ => none
  | .iinc n c => match ls[n]? with | some (.int x) => some (ls.set n (.int (x + e_n c)), st) | _ => none
  | _ => none
-- branches
def e_cc (c : ClassFile.Cond) (x y : Int32) : Bool := match c with
  | .eq => decide (x = y)
  | .ne => decide (¬ x = y)
  | .lt => decide (x < y)
  | .ge => decide (y ≤ x)
  | .gt => decide (y < x)
  | .le => decide (x ≤ y)
def e_br (i : Instr) (st : List Value) : Option (Bool × List Value) := match i with
  | .ifCond c _ => match st with | .int x :: r => some (e_cc c x 0, r) | _ => none
  | .if_icmp c _ => match st with | .int y :: .int x :: r => some (e_cc c x y, r) | _ => none
  | .ifnull _ => match st with | .ref x :: r => some (decide (x = 0), r) | _ => none
  | .ifnonnull _ => match st with | .ref x :: r => some (decide (¬ x = 0), r) | _ => none
  | _ => none
-- what stands in the tables of part 04
/-- the rest of the machine: what reads or writes cells, calls, ends; fr, mr, th, sw: fields, methods, throws, switches by their pool numbers (pc for switches) -/
def e_args (st : List Value) (np : Nat) : Option (List Value × List Value) := bif (Nat.ble np st.length && Nat.ble (((st.drop np).map fun v => v.category).sum) 8 && Nat.beq (((st.take np).map fun v => v.category).sum) np) then some ((st.take np).reverse, st.drop np) else none
def e_res (rk : Nat) (o : e_X) (K : List Value → e_S → e_X) (rest : List Value) (H : Nat → e_S → e_X) : e_X := match rk with
  | 0 => e_rV o (fun σ => K rest σ) H
  | 2 => e_rJ o (fun v σ => K (.long v :: rest) σ) H
  | 3 => e_rF o (fun v σ => K (.ref v :: rest) σ) H
  | _ => e_rI o (fun v σ => K (.int v :: rest) σ) H
/-- a call: y the method, rc its receiver's kind (0: none), np how many it takes, rk what it answers -/
def e_inv (E : Nat → List Value → e_S → e_X) (y rc np rk : Nat) (st : List Value) (σ : e_S) (K : List Value → e_S → e_X) (H : Nat → e_S → e_X) : e_X :=
  match e_args st np with
  | none => none
  | some (as, rest) => match rc with
    | 0 => e_res rk (E y as σ) K rest H
    | _ => match rest with
      | .ref o :: r => e_ck σ rc o (e_res rk (E y (.ref o :: as) σ) K r H)
      | _ => none
/-- fields of the constants: 40 a word (0 text, 1 value), 41 a text (0 bytes, 1 coder), 42 an enum's constant (0 ordinal) -/
def e_gsI {α : Type} (c k a : Nat) (K : Int32 → Option α) : Option α :=
  if c = 40 ∧ k = 1 ∧ 1000100 ≤ a ∧ a < 1000117 then K (e_wv.getD (a - 1000100) 0)
  else if c = 41 ∧ k = 1 ∧ 1000200 ≤ a ∧ a < 1000217 then K 0
  else if c = 42 ∧ k = 0 ∧ 1000100 ≤ a ∧ a < 1000117 then K (Int32.ofNat (a - 1000100)) else none
def e_gsF {α : Type} (c k a : Nat) (K : Nat → Option α) : Option α :=
  if c = 40 ∧ k = 0 ∧ 1000100 ≤ a ∧ a < 1000117 then K (a + 100)
  else if c = 41 ∧ k = 0 ∧ 1000200 ≤ a ∧ a < 1000217 then K (a + 100) else none
def e_get (σ : e_S) (c k ty : Nat) (st : List Value) (K : List Value → e_X) : e_X := match st with
  | .ref a :: r => (match ty with
    | 2 => e_gJ σ c k a (fun x => K (.long x :: r))
    | 3 => e_gF σ c k a (fun x => K (.ref x :: r))
    | 7 => e_gsF c k a (fun x => K (.ref x :: r))
    | 8 => e_gsI c k a (fun x => K (.int x :: r))
    | _ => e_gI σ c k a (fun x => K (.int x :: r)))
  | _ => none
def e_put (σ : e_S) (c k ty : Nat) (st : List Value) (K : List Value → e_S → e_X) : e_X := match ty, st with
  | 2, .long v :: .ref a :: r => e_pJ σ c k a v (fun σ => K r σ)
  | 3, .ref v :: .ref a :: r => e_pF σ c k a v (fun σ => K r σ)
  | 1, .int v :: .ref a :: r => e_pZ σ c k a v (fun σ => K r σ)
  | 0, .int v :: .ref a :: r => e_pI σ c k a v (fun σ => K r σ)
  | _, _ => none
/-- new: an object of kind c with n fields -/
def e_nw (σ : e_S) (c n : Nat) (K : Nat → e_S → e_X) : e_X := if 900000 < σ.1 then none else K (σ.1 + 1) (e_new σ c 0 n)
/-- a method's ends: rk what it answers (0 nothing, 1 an int, 2 a long, 3 a reference, 4 a boolean, 5 a char, 6 a byte) -/
def e_end (rk : Nat) (i : Instr) (st : List Value) (σ : e_S) : e_X := match i, rk, st with
  | .return_, 0, [] => some (.inl none, σ)
  | .ireturn, 1, [.int v] => some (.inl (some (.int v)), σ)
  | .ireturn, 4, [.int v] => if v = 0 ∨ v = 1 then some (.inl (some (.int v)), σ) else none
  | .ireturn, 5, [.int v] => if vp_nar .char v = v then some (.inl (some (.int v)), σ) else none
  | .ireturn, 6, [.int v] => if vp_nar .byte v = v then some (.inl (some (.int v)), σ) else none
  | .lreturn, 2, [.long v] => some (.inl (some (.long v)), σ)
  | .areturn, 3, [.ref v] => some (.inl (some (.ref v)), σ)
  | _, _, _ => none
end EV
