section EX4
section Sim4
variable {p : Program} {l : Launch} {e : Env} {R : Room} {s : State} {m : MethodId} {args : Array Value} {below : List Frame} {meth : Method} {c : Code} {H : Heap} {locs : List Loc} {cells slots : Nat} {Q : State → Prop}
variable {mi d pc len tgt : Nat} {LS : Array Slot} {ad ad0 : Nat → Nat} {σ σ0 : e_S} {G : e_G} {A : Nat → Prop} {ls st ST : List Value} {r : e_O × e_S}
/-- the ends of a method -/
def e_Rt (p : Program) (l : Launch) (e : Env) (R : Room) (s : State) (m : MethodId) (args : Array Value) (below : List Frame) (meth : Method) (c : Code) (Q : State → Prop) (mi : Nat) (G : e_G) (ad0 : Nat → Nat) (σ0 : e_S) (A : Nat → Prop) (r : e_O × e_S) : Prop :=
  ∀ (pc : Nat) (i : Instr) (st : List Value) (σ : e_S) (ad : Nat → Nat) (LS : Array Slot) (ST : List Value) (H : Heap) (locs : List Loc) (cells slots : Nat), decode (e_cb mi) pc = .ok (i, 1) → e_end (e_rk mi) i st σ = some r → e_SR σ.1 ad st ST → e_Iv G ad0 σ0 A s ad σ H locs cells slots → W p l e R s m args below meth c H locs cells slots Q (F0 m pc LS ST)
/-- a throw of a new exception -/
def e_Nt (p : Program) (l : Launch) (e : Env) (R : Room) (s : State) (m : MethodId) (args : Array Value) (below : List Frame) (meth : Method) (c : Code) (Q : State → Prop) (mi : Nat) (G : e_G) (ad0 : Nat → Nat) (σ0 : e_S) (A : Nat → Prop) (r : e_O × e_S) : Prop :=
  ∀ (pc idx len tgt x : Nat) (st : List Value) (σ : e_S) (ad : Nat → Nat) (LS : Array Slot) (ST : List Value) (H : Heap) (locs : List Loc) (cells slots : Nat), e_fetch mi pc = some (.new idx, len, tgt) → e_look (e_tht (e_own mi)) idx = some x → r = (.inr x, e_exc σ) → (st.map fun v => v.category).sum ≤ 9 → e_SR σ.1 ad st ST → LS.size = e_mL mi → e_Iv G ad0 σ0 A s ad σ H locs cells slots → W p l e R s m args below meth c H locs cells slots Q (F0 m pc LS ST)
theorem e_sel_in {ps : List (Int32 × Nat)} {d : Nat} {x : Int32} : ∀ {j t : Nat}, (∀ i : Nat, i < j → ∀ q, ps[i]? = some q → q.1 ≠ x) → ps[j]? = some (x, t) → e_sel ps d x = t := by
  induction ps with
  | nil => intro j t _ h; simp at h
  | cons a ps ih =>
    obtain ⟨v, t0⟩ := a
    intro j t h0 h
    cases j with
    | zero =>
      cases h
      unfold e_sel
      rw [if_pos rfl]
    | succ j =>
      unfold e_sel
      rw [if_neg (fun q => h0 0 (by omega) (v, t0) rfl q.symm)]
      exact ih (fun i hi q hq => h0 (i + 1) (by omega) q hq) h
theorem e_sel_out {ps : List (Int32 × Nat)} {d : Nat} {x : Int32} (h : ∀ q ∈ ps, q.1 ≠ x) : e_sel ps d x = d := by
  induction ps with
  | nil => rfl
  | cons a ps ih =>
    obtain ⟨v, t0⟩ := a
    unfold e_sel
    rw [if_neg (fun q => h (v, t0) List.mem_cons_self q.symm)]
    exact ih (fun q hq => h q (List.mem_cons_of_mem _ hq))
theorem e_s_tsw {n : Nat} {dd lo hi : Int} {offs : Array Int} {ps : List (Int32 × Nat)} {dt : Nat} {x : Int32} {r' : List Value} (C : e_Cx p l R s m args meth c mi d G ad0 σ0 A r) (ih : e_Gl p l e R s m args below meth c Q mi d G ad0 σ0 A r n) (I : e_Iv G ad0 σ0 A s ad σ H locs cells slots) (hL : e_LR σ.1 ad ls LS (e_mL mi)) (hS : e_SR σ.1 ad (.int x :: r') ST)
    (hd : decode (e_cb mi) pc = .ok (.tableswitch dd lo hi offs, len)) (htb : e_look ((e_look e_sws mi).getD []) pc = some (ps, dt)) (hsp : e_spc mi (pc, .tableswitch dd lo hi offs, len, tgt) = true)
    (h : e_run (e_E d) mi n (e_sel ps dt x) ls r' σ = some r) : W p l e R s m args below meth c H locs cells slots Q (F0 m pc LS ST) := by
  obtain ⟨F, -⟩ := id C
  obtain ⟨hx, hb, -⟩ := F
  obtain ⟨ws, rfl, hr⟩ := e_SR_int hS
  unfold e_spc at hsp
  dsimp only at hsp
  rw [htb] at hsp
  simp only [Bool.and_eq_true, decide_eq_true_eq, List.all_eq_true, List.mem_range] at hsp
  obtain ⟨⟨⟨g1, g2⟩, g3⟩, g4⟩ := hsp
  have g3 := Nat.eq_of_beq_eq_true g3
  have key : ∀ j : Nat, j < offs.size → ∃ (v : Int32) (t : Nat) (o : Int), ps[j]? = some (v, t) ∧ offs[j]? = some o ∧ v.toInt = lo + (j : Int) ∧ (pc : Int) + o = (t : Int) := by
    intro j hj
    have h4 := g4 j hj
    split at h4
    · rename_i v t o e1 e2
      simp only [Bool.and_eq_true, decide_eq_true_eq] at h4
      exact ⟨v, t, o, e1, e2, h4.1, h4.2⟩
    · cases h4
  by_cases hin : x.toInt < lo ∨ hi < x.toInt
  · have hsel : e_sel ps dt x = dt := e_sel_out (fun q hq hxq => by
      obtain ⟨j, hj⟩ := List.getElem?_of_mem hq
      have hlt := (List.getElem?_eq_some_iff.mp hj).1
      obtain ⟨v, t, o, e1, e2, e3, e4⟩ := key j (by omega)
      rw [e1] at hj
      cases hj
      dsimp only at hxq
      subst hxq
      omega)
    rw [hsel] at h
    exact lv_tableOut hx hb hd hin g1 (ih dt ls r' σ ad LS ws H locs cells slots h hL hr I)
  · have hlo : ¬ x.toInt < lo := fun q => hin (Or.inl q)
    have hhi : ¬ hi < x.toInt := fun q => hin (Or.inr q)
    obtain ⟨v, t, o, e1, e2, e3, e4⟩ := key (x.toInt - lo).toNat (by omega)
    have hv : v = x := Int32.toInt_inj.mp (by rw [e3]; omega)
    subst hv
    have hsel : e_sel ps dt v = t := e_sel_in (j := (v.toInt - lo).toNat) (fun i hi q hq hqx => by
      obtain ⟨v2, t2, o2, f1, f2, f3, f4⟩ := key i (by omega)
      rw [f1] at hq
      cases hq
      dsimp only at hqx
      subst hqx
      omega) e1
    rw [hsel] at h
    exact lv_tableIn hx hb hd hlo hhi e2 e4 (ih t ls r' σ ad LS ws H locs cells slots h hL hr I)
theorem e_lsw {x : Int32} {pc : Nat} {d : Int} {dt : Nat} (hd : (pc : Int) + d = (dt : Int)) : ∀ {tb : List (Int32 × Nat)} {l : List (Int × Int)}, tb.length = l.length → (∀ z ∈ tb.zip l, z.1.1.toInt = z.2.1 ∧ (pc : Int) + z.2.2 = (z.1.2 : Int)) → (pc : Int) + Op.lookupswitch.offset l d x.toInt = (e_sel tb dt x : Int)
  | [], [], _, _ => hd
  | [], _ :: _, h, _ => by cases h
  | _ :: _, [], h, _ => by cases h
  | (v, t) :: tb, (k, o) :: l, h, hz => by
    obtain ⟨h1, h2⟩ := hz ((v, t), (k, o)) List.mem_cons_self
    dsimp only at h1 h2
    rw [Op.lookupswitch.offset_cons]
    unfold e_sel
    by_cases hx : x = v
    · subst hx
      rw [if_pos rfl, if_pos h1.symm]
      exact h2
    · rw [if_neg hx, if_neg (fun q => hx (Int32.toInt_inj.mp (by rw [h1]; exact q.symm)))]
      exact e_lsw hd (by simpa using h) (fun z hzz => hz z (List.mem_cons_of_mem _ hzz))
theorem e_s_lsw {n : Nat} {dd : Int} {prs : Array (Int × Int)} {ps : List (Int32 × Nat)} {dt : Nat} {x : Int32} {r' : List Value} (C : e_Cx p l R s m args meth c mi d G ad0 σ0 A r) (ih : e_Gl p l e R s m args below meth c Q mi d G ad0 σ0 A r n) (I : e_Iv G ad0 σ0 A s ad σ H locs cells slots) (hL : e_LR σ.1 ad ls LS (e_mL mi)) (hS : e_SR σ.1 ad (.int x :: r') ST)
    (hd : decode (e_cb mi) pc = .ok (.lookupswitch dd prs, len)) (htb : e_look ((e_look e_sws mi).getD []) pc = some (ps, dt)) (hsp : e_spc mi (pc, .lookupswitch dd prs, len, tgt) = true)
    (h : e_run (e_E d) mi n (e_sel ps dt x) ls r' σ = some r) : W p l e R s m args below meth c H locs cells slots Q (F0 m pc LS ST) := by
  obtain ⟨F, -⟩ := id C
  obtain ⟨hx, hb, -⟩ := F
  obtain ⟨ws, rfl, hr⟩ := e_SR_int hS
  unfold e_spc at hsp
  dsimp only at hsp
  rw [htb] at hsp
  simp only [Bool.and_eq_true, decide_eq_true_eq] at hsp
  obtain ⟨⟨⟨g1, g2⟩, g3⟩, g4⟩ := hsp
  refine lv_lookup hx hb hd g2 rfl (e_lsw g1 (Nat.eq_of_beq_eq_true g3) (fun z hz => ?_)) (ih _ ls r' σ ad LS ws H locs cells slots h hL hr I)
  have := List.all_eq_true.mp g4 z hz
  simpa using this
end Sim4
end EX4
