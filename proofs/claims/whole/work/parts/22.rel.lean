section ER
/-- a number that names a cell -/
def e_ok (N a : Nat) : Prop := (1 ≤ a ∧ a ≤ N) ∨ 1000000 ≤ a
/-- the picture's value, the machine's; null: some reference or none -/
def e_VR (N : Nat) (ad : Nat → Nat) : Value → Value → Prop
  | .int x, w => w = .int x
  | .long x, w => w = .long x
  | .null, w => w = .null ∨ ∃ q, w = .ref q
  | .ref a, w => (a = 0 ∧ w = .null) ∨ (e_ok N a ∧ w = .ref (ad a))
  | _, _ => False
def e_SR (N : Nat) (ad : Nat → Nat) : List Value → List Value → Prop
  | [], [] => True
  | v :: vs, w :: ws => e_VR N ad v w ∧ e_SR N ad vs ws
  | _, _ => False
def e_LR (N : Nat) (ad : Nat → Nat) (ls : List Value) (LS : Array Slot) (nL : Nat) : Prop :=
  ls.length = nL ∧ ∃ lv : List (Nat × Value), lv_has LS nL lv ∧ ∀ (i : Nat) (v : Value), ls[i]? = some v → v ≠ .null → ∃ w, e_VR N ad v w ∧ (i, w) ∈ lv
theorem e_SR_cons {N : Nat} {ad : Nat → Nat} {v : Value} {vs ST : List Value} (h : e_SR N ad (v :: vs) ST) : ∃ w ws, ST = w :: ws ∧ e_VR N ad v w ∧ e_SR N ad vs ws := by
  cases ST with
  | nil => exact h.elim
  | cons w ws => exact ⟨w, ws, rfl, h.1, h.2⟩
theorem e_SR_nil {N : Nat} {ad : Nat → Nat} {ST : List Value} (h : e_SR N ad [] ST) : ST = [] := by
  cases ST with
  | nil => rfl
  | cons w ws => exact h.elim
theorem e_SR_int {N : Nat} {ad : Nat → Nat} {x : Int32} {vs ST : List Value} (h : e_SR N ad (.int x :: vs) ST) : ∃ ws, ST = .int x :: ws ∧ e_SR N ad vs ws := by
  obtain ⟨w, ws, rfl, h1, h2⟩ := e_SR_cons h
  exact ⟨ws, by rw [show w = .int x from h1], h2⟩
theorem e_SR_long {N : Nat} {ad : Nat → Nat} {x : Int64} {vs ST : List Value} (h : e_SR N ad (.long x :: vs) ST) : ∃ ws, ST = .long x :: ws ∧ e_SR N ad vs ws := by
  obtain ⟨w, ws, rfl, h1, h2⟩ := e_SR_cons h
  exact ⟨ws, by rw [show w = .long x from h1], h2⟩
theorem e_SR_ref {N : Nat} {ad : Nat → Nat} {a : Nat} {vs ST : List Value} (h : e_SR N ad (.ref a :: vs) ST) : ∃ w ws, ST = w :: ws ∧ ((a = 0 ∧ w = .null) ∨ (e_ok N a ∧ w = .ref (ad a))) ∧ e_SR N ad vs ws := e_SR_cons h
theorem e_SR_refv {N : Nat} {ad : Nat → Nat} {a : Nat} {vs ST : List Value} (ha : a ≠ 0) (h : e_SR N ad (.ref a :: vs) ST) : ∃ ws, ST = .ref (ad a) :: ws ∧ e_ok N a ∧ e_SR N ad vs ws := by
  obtain ⟨w, ws, rfl, h1, h2⟩ := e_SR_ref h
  rcases h1 with ⟨h0, -⟩ | ⟨h0, rfl⟩
  · exact absurd h0 ha
  · exact ⟨ws, rfl, h0, h2⟩
theorem e_ok_ne {N a : Nat} (h : e_ok N a) : a ≠ 0 := by unfold e_ok at h; omega
theorem e_VR_cat {N : Nat} {ad : Nat → Nat} {v w : Value} (h : e_VR N ad v w) : w.category = v.category := by
  cases v with
  | int x => rw [show w = .int x from h]
  | long x => rw [show w = .long x from h]
  | null => rcases (show w = .null ∨ ∃ q, w = .ref q from h) with rfl | ⟨q, rfl⟩ <;> rfl
  | ref a => rcases (show (a = 0 ∧ w = .null) ∨ (e_ok N a ∧ w = .ref (ad a)) from h) with ⟨-, rfl⟩ | ⟨-, rfl⟩ <;> rfl
  | float x => exact h.elim
  | double x => exact h.elim
  | retAddr x => exact h.elim
theorem e_SR_cat {N : Nat} {ad : Nat → Nat} : ∀ {vs ws : List Value}, e_SR N ad vs ws → (ws.map fun v => v.category).sum = (vs.map fun v => v.category).sum
  | [], [], _ => rfl
  | v :: vs, w :: ws, h => by
    simp only [List.map_cons, List.sum_cons]
    rw [e_VR_cat h.1, e_SR_cat h.2]
  | [], _ :: _, h => h.elim
  | _ :: _, [], h => h.elim
theorem e_SR_len {N : Nat} {ad : Nat → Nat} : ∀ {vs ws : List Value}, e_SR N ad vs ws → ws.length = vs.length
  | [], [], _ => rfl
  | v :: vs, w :: ws, h => by simp [e_SR_len h.2]
  | [], _ :: _, h => h.elim
  | _ :: _, [], h => h.elim
theorem e_SR_app {N : Nat} {ad : Nat → Nat} : ∀ {v1 v2 w1 w2 : List Value}, e_SR N ad v1 w1 → e_SR N ad v2 w2 → e_SR N ad (v1 ++ v2) (w1 ++ w2)
  | [], _, [], _, _, h => h
  | v :: vs, _, w :: ws, _, h, h2 => ⟨h.1, e_SR_app h.2 h2⟩
  | [], _, _ :: _, _, h, _ => h.elim
  | _ :: _, _, [], _, h, _ => h.elim
theorem e_SR_rev {N : Nat} {ad : Nat → Nat} : ∀ {vs ws : List Value}, e_SR N ad vs ws → e_SR N ad vs.reverse ws.reverse
  | [], [], _ => True.intro
  | v :: vs, w :: ws, h => by
    simp only [List.reverse_cons]
    exact e_SR_app (e_SR_rev h.2) ⟨h.1, True.intro⟩
  | [], _ :: _, h => h.elim
  | _ :: _, [], h => h.elim
theorem e_SR_take {N : Nat} {ad : Nat → Nat} : ∀ (n : Nat) {vs ws : List Value}, e_SR N ad vs ws → e_SR N ad (vs.take n) (ws.take n)
  | 0, _, _, _ => by simp [e_SR]
  | n + 1, [], [], _ => by simp [e_SR]
  | n + 1, v :: vs, w :: ws, h => ⟨h.1, e_SR_take n h.2⟩
  | n + 1, [], _ :: _, h => h.elim
  | n + 1, _ :: _, [], h => h.elim
theorem e_SR_drop {N : Nat} {ad : Nat → Nat} : ∀ (n : Nat) {vs ws : List Value}, e_SR N ad vs ws → e_SR N ad (vs.drop n) (ws.drop n)
  | 0, _, _, h => h
  | n + 1, [], [], _ => True.intro
  | n + 1, v :: vs, w :: ws, h => e_SR_drop n h.2
  | n + 1, [], _ :: _, h => h.elim
  | n + 1, _ :: _, [], h => h.elim
/-- other numbers for cells, more of them -/
theorem e_ok_up {N N' a : Nat} (hN : N ≤ N') (h : e_ok N a) : e_ok N' a := by unfold e_ok at *; omega
theorem e_VR_up {N N' : Nat} {ad ad' : Nat → Nat} (hN : N ≤ N') (ha : ∀ a, e_ok N a → ad' a = ad a) {v w : Value} (h : e_VR N ad v w) : e_VR N' ad' v w := by
  cases v with
  | ref a =>
    rcases (show (a = 0 ∧ w = .null) ∨ (e_ok N a ∧ w = .ref (ad a)) from h) with h1 | ⟨h1, rfl⟩
    · exact Or.inl h1
    · exact Or.inr ⟨e_ok_up hN h1, by rw [ha a h1]⟩
  | _ => exact h
theorem e_SR_up {N N' : Nat} {ad ad' : Nat → Nat} (hN : N ≤ N') (ha : ∀ a, e_ok N a → ad' a = ad a) : ∀ {vs ws : List Value}, e_SR N ad vs ws → e_SR N' ad' vs ws
  | [], [], _ => True.intro
  | v :: vs, w :: ws, h => ⟨e_VR_up hN ha h.1, e_SR_up hN ha h.2⟩
  | [], _ :: _, h => h.elim
  | _ :: _, [], h => h.elim
theorem e_LR_up {N N' : Nat} {ad ad' : Nat → Nat} (hN : N ≤ N') (ha : ∀ a, e_ok N a → ad' a = ad a) {ls : List Value} {LS : Array Slot} {nL : Nat} (h : e_LR N ad ls LS nL) : e_LR N' ad' ls LS nL := by
  obtain ⟨h1, lv, h2, h3⟩ := h
  refine ⟨h1, lv, h2, fun i v hv hn => ?_⟩
  obtain ⟨w, hw, hm⟩ := h3 i v hv hn
  exact ⟨w, e_VR_up hN ha hw, hm⟩
theorem e_LR_at {N : Nat} {ad : Nat → Nat} {ls : List Value} {LS : Array Slot} {nL i : Nat} {v : Value} (h : e_LR N ad ls LS nL) (hv : ls[i]? = some v) (hn : v ≠ .null) : ∃ w, e_VR N ad v w ∧ LS[i]? = some (.val w) := by
  obtain ⟨h1, lv, h2, h3⟩ := h
  obtain ⟨w, hw, hm⟩ := h3 i v hv hn
  exact ⟨w, hw, h2.2.2 (i, w) hm⟩
theorem e_LR_st1 {N : Nat} {ad : Nat → Nat} {ls : List Value} {LS' : Array Slot} {nL n : Nat} {v w : Value} {lv : List (Nat × Value)} (hl : ls.length = nL) (h3 : ∀ (i : Nat) (v : Value), ls[i]? = some v → v ≠ .null → ∃ w, e_VR N ad v w ∧ (i, w) ∈ lv)
    (hcl : e_cl ls n = true) (hv : v ≠ .null → e_VR N ad v w) (h : lv_has LS' nL ((n, w) :: lv.filter (fun q => !(q.1 == n) && !(q.1 + 1 == n && q.2.category == 2)))) : e_LR N ad (ls.set n v) LS' nL := by
  refine ⟨by rw [List.length_set]; exact hl, _, h, fun i u hu hn => ?_⟩
  by_cases hi : i = n
  · subst hi
    have hlt : i < ls.length := by
      rcases Nat.lt_or_ge i ls.length with q | q
      · exact q
      · rw [List.getElem?_eq_none (by simpa using q)] at hu; cases hu
    rw [List.getElem?_set_self hlt] at hu
    cases hu
    exact ⟨w, hv hn, List.mem_cons_self⟩
  · rw [List.getElem?_set_ne (fun q => hi q.symm)] at hu
    obtain ⟨w2, h4, h5⟩ := h3 i u hu hn
    refine ⟨w2, h4, List.mem_cons_of_mem _ (List.mem_filter.mpr ⟨h5, ?_⟩)⟩
    have e1 : (i == n) = false := by simpa using hi
    have e2 : (i + 1 == n && w2.category == 2) = false := by
      by_cases hj : i + 1 = n
      · subst hj
        have : w2.category ≠ 2 := by
          rw [e_VR_cat h4]
          intro h6
          cases u with
          | long x => simp [e_cl, hu] at hcl
          | _ => first | exact h4.elim | (simp [Value.category] at h6)
        simp [this]
      · simp [hj]
    simp only [e1, e2]
    rfl
theorem e_LR_st2 {N : Nat} {ad : Nat → Nat} {ls : List Value} {LS' : Array Slot} {nL n : Nat} {v w : Value} {lv : List (Nat × Value)} (hl : ls.length = nL) (h3 : ∀ (i : Nat) (v : Value), ls[i]? = some v → v ≠ .null → ∃ w, e_VR N ad v w ∧ (i, w) ∈ lv)
    (hcl : e_cl ls n = true) (hv : v ≠ .null → e_VR N ad v w) (h : lv_has LS' nL ((n, w) :: lv.filter (fun q => !(q.1 == n) && (!(q.1 == n + 1) && !(q.1 + 1 == n && q.2.category == 2))))) : e_LR N ad ((ls.set n v).set (n + 1) .null) LS' nL := by
  refine ⟨by rw [List.length_set, List.length_set]; exact hl, _, h, fun i u hu hn => ?_⟩
  by_cases hi1 : i = n + 1
  · subst hi1
    exfalso
    by_cases hlt : n + 1 < (ls.set n v).length
    · rw [List.getElem?_set_self hlt] at hu
      cases hu
      exact hn rfl
    · rw [List.getElem?_eq_none (by simpa using hlt)] at hu; cases hu
  · rw [List.getElem?_set_ne (fun q => hi1 q.symm)] at hu
    by_cases hi : i = n
    · subst hi
      have hlt : i < ls.length := by
        rcases Nat.lt_or_ge i ls.length with q | q
        · exact q
        · rw [List.getElem?_eq_none (by simpa using q)] at hu; cases hu
      rw [List.getElem?_set_self hlt] at hu
      cases hu
      exact ⟨w, hv hn, List.mem_cons_self⟩
    · rw [List.getElem?_set_ne (fun q => hi q.symm)] at hu
      obtain ⟨w2, h4, h5⟩ := h3 i u hu hn
      refine ⟨w2, h4, List.mem_cons_of_mem _ (List.mem_filter.mpr ⟨h5, ?_⟩)⟩
      have e1 : (i == n) = false := by simpa using hi
      have e3 : (i == n + 1) = false := by simpa using hi1
      have e2 : (i + 1 == n && w2.category == 2) = false := by
        by_cases hj : i + 1 = n
        · subst hj
          have : w2.category ≠ 2 := by
            rw [e_VR_cat h4]
            intro h6
            cases u with
            | long x => simp [e_cl, hu] at hcl
            | _ => first | exact h4.elim | (simp [Value.category] at h6)
          simp [this]
        · simp [hj]
      simp only [e1, e2, e3]
      rfl
theorem e_ii_inv {st st' : List Value} {f : Int32 → Int32 → Int32} (h : e_ii st f = some st') : ∃ x y r, st = .int y :: .int x :: r ∧ st' = .int (f x y) :: r := by
  unfold e_ii at h
  split at h
  · exact ⟨_, _, _, rfl, (Option.some.inj h).symm⟩
  · cases h
section Steps1
variable {p : Program} {l : Launch} {e : Env} {R : Room} {s : State} {m : MethodId} {args : Array Value} {below : List Frame} {meth : Method} {c : Code} {H : Heap} {locs : List Loc} {cells slots : Nat} {Q : State → Prop}
variable {cc : ByteArray} {pc len : Nat} {ls st : List Value} {LS : Array Slot} {N : Nat} {ad : Nat → Nat} {ST : List Value}
theorem e_s_ii (hx : p.tables.exec = Jvm.exec) (hb : c.code = cc) {st' : List Value} {f : Int32 → Int32 → Int32} (hp : e_ii st f = some st') (hS : e_SR N ad st ST)
    (row : ∀ (x y : Int32) (rest : List Value), W p l e R s m args below meth c H locs cells slots Q (F0 m (pc + 1) LS (.int (f x y) :: rest)) → W p l e R s m args below meth c H locs cells slots Q (F0 m pc LS (.int y :: .int x :: rest)))
    (k : ∀ ST', e_SR N ad st' ST' → W p l e R s m args below meth c H locs cells slots Q (F0 m (pc + 1) LS ST')) : W p l e R s m args below meth c H locs cells slots Q (F0 m pc LS ST) := by
  obtain ⟨x, y, r, rfl, rfl⟩ := e_ii_inv hp
  obtain ⟨w1, rfl, h1⟩ := e_SR_int hS
  obtain ⟨w2, rfl, h2⟩ := e_SR_int h1
  exact row x y w2 (k _ ⟨rfl, h2⟩)
set_option maxHeartbeats 4000000 in
/-- what only moves the stack -/
theorem e_s_pure (hx : p.tables.exec = Jvm.exec) (hb : c.code = cc) {i : Instr} {st' : List Value} (hp : e_pure i st = some st') (hd : decode cc pc = .ok (i, len)) (hl : len = e_ln i) (hc : e_cst i = true) (hS : e_SR N ad st ST)
    (k : ∀ ST', e_SR N ad st' ST' → W p l e R s m args below meth c H locs cells slots Q (F0 m (pc + len) LS ST')) : W p l e R s m args below meth c H locs cells slots Q (F0 m pc LS ST) := by
  subst hl
  cases i <;> first | (simp only [e_pure] at hp; cases hp; done) | skip
  case iconst n => cases hp; exact lv_iconst hx hb hd rfl (k _ ⟨rfl, hS⟩)
  case bipush n => cases hp; exact lv_bipush hx hb hd (of_decide_eq_true hc) (k _ ⟨rfl, hS⟩)
  case sipush n => cases hp; exact lv_sipush hx hb hd (of_decide_eq_true hc) (k _ ⟨rfl, hS⟩)
  case lconst n => cases hp; exact lv_lconst hx hb hd rfl (k _ ⟨rfl, hS⟩)
  case aconst_null => cases hp; exact lv_null hx hb hd (k _ ⟨Or.inl ⟨rfl, rfl⟩, hS⟩)
  case iadd => exact e_s_ii hx hb hp hS (fun x y rest => lv_iadd hx hb hd) k
  case isub => exact e_s_ii hx hb hp hS (fun x y rest => lv_isub hx hb hd) k
  case imul => exact e_s_ii hx hb hp hS (fun x y rest => lv_imul hx hb hd) k
  case iand => exact e_s_ii hx hb hp hS (fun x y rest => lv_iand hx hb hd) k
  case ior => exact e_s_ii hx hb hp hS (fun x y rest => lv_ior hx hb hd) k
  case ixor => exact e_s_ii hx hb hp hS (fun x y rest => lv_ixor hx hb hd) k
  case ishl => exact e_s_ii hx hb hp hS (fun x y rest => lv_ishl hx hb hd) k
  case ishr => exact e_s_ii hx hb hp hS (fun x y rest => lv_ishr hx hb hd) k
  case iushr => exact e_s_ii hx hb hp hS (fun x y rest => lv_iushr hx hb hd rfl) k
  case i2l =>
    simp only [e_pure] at hp
    split at hp
    · cases hp; obtain ⟨w, rfl, h⟩ := e_SR_int hS; exact lv_i2l hx hb hd rfl (k _ ⟨rfl, h⟩)
    · cases hp
  case i2c =>
    simp only [e_pure] at hp
    split at hp
    · cases hp; obtain ⟨w, rfl, h⟩ := e_SR_int hS; exact lv_i2c hx hb hd rfl (k _ ⟨rfl, h⟩)
    · cases hp
  case lsub =>
    simp only [e_pure] at hp
    split at hp
    · cases hp; obtain ⟨w, rfl, h0⟩ := e_SR_long hS; obtain ⟨w, rfl, h⟩ := e_SR_long h0; exact lv_lsub hx hb hd (k _ ⟨rfl, h⟩)
    · cases hp
  case lor =>
    simp only [e_pure] at hp
    split at hp
    · cases hp; obtain ⟨w, rfl, h0⟩ := e_SR_long hS; obtain ⟨w, rfl, h⟩ := e_SR_long h0; exact lv_lor hx hb hd (k _ ⟨rfl, h⟩)
    · cases hp
  case lshl =>
    simp only [e_pure] at hp
    split at hp
    · cases hp; obtain ⟨w, rfl, h0⟩ := e_SR_int hS; obtain ⟨w, rfl, h⟩ := e_SR_long h0; exact lv_lshl hx hb hd rfl (k _ ⟨rfl, h⟩)
    · cases hp
  case lcmp =>
    simp only [e_pure] at hp
    split at hp
    · cases hp; obtain ⟨w, rfl, h0⟩ := e_SR_long hS; obtain ⟨w, rfl, h⟩ := e_SR_long h0; exact W.lcmp hx hb hd (k _ ⟨rfl, h⟩)
    · cases hp
  case pop =>
    simp only [e_pure] at hp
    split at hp
    · cases hp; obtain ⟨w, rfl, h⟩ := e_SR_int hS; exact lv_pop hx hb hd rfl (k _ h)
    · cases hp; obtain ⟨w, ws, rfl, h1, h⟩ := e_SR_cons hS; exact lv_pop hx hb hd (e_VR_cat h1) (k _ h)
    · cases hp
  case dup =>
    simp only [e_pure] at hp
    split at hp
    · cases hp; obtain ⟨w, rfl, h⟩ := e_SR_int hS; exact lv_dup hx hb hd rfl (k _ ⟨rfl, rfl, h⟩)
    · cases hp; obtain ⟨w, ws, rfl, h1, h⟩ := e_SR_cons hS; exact lv_dup hx hb hd (e_VR_cat h1) (k _ ⟨h1, h1, h⟩)
    · cases hp
  case dup_x1 =>
    simp only [e_pure] at hp
    split at hp
    · cases hp; obtain ⟨w, rfl, h0⟩ := e_SR_int hS; obtain ⟨w, ws, rfl, h1, h⟩ := e_SR_cons h0; exact lv_dup_x1 hx hb hd rfl (e_VR_cat h1) (k _ ⟨rfl, h1, rfl, h⟩)
    · cases hp
  case dup2 =>
    simp only [e_pure] at hp
    split at hp
    · cases hp; obtain ⟨w, rfl, h0⟩ := e_SR_int hS; obtain ⟨w, ws, rfl, h1, h⟩ := e_SR_cons h0; exact lv_dup2_11 hx hb hd rfl (e_VR_cat h1) (k _ ⟨rfl, h1, rfl, h1, h⟩)
    · cases hp
end Steps1
end ER
