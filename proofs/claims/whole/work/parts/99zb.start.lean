/-! the law's start -/
section S99zb
theorem one_go (E : Nat → List Value → e_S → e_X) (m : Nat) : ∀ (n pc : Nat) (ls st : List Value) (σ : e_S), e_One (fun K => e_go E m K n pc ls st σ)
  | 0, pc, ls, st, σ => e_one_k pc ls st σ
  | n + 1, pc, ls, st, σ => by
    rcases e_one_stp E m pc ls st σ with ⟨x, hx⟩ | ⟨pc', ls', st', σ', hx⟩
    · exact Or.inl ⟨x, fun K => hx (e_go E m K n)⟩
    · rcases one_go E m n pc' ls' st' σ' with ⟨x, h2⟩ | ⟨pc2, ls2, st2, σ2, h2⟩
      · exact Or.inl ⟨x, fun K => (hx (e_go E m K n)).trans (h2 K)⟩
      · exact Or.inr ⟨pc2, ls2, st2, σ2, fun K => (hx (e_go E m K n)).trans (h2 K)⟩
theorem Se_up {X : Nat × (Nat → Int32)} {E : Nat → List Value → e_C → e_Y} {d : Nat} (h : Se X E (e_E d)) : Se X E (e_E (d + 1)) := by
  intro y as c σ hr r h2
  obtain ⟨σ', h3, h4⟩ := h y as c σ hr r h2
  exact ⟨σ', e_E_up h3, h4⟩
theorem Se_20 (X : Nat × (Nat → Int32)) : ∀ j, Se X (c_E 700 20) (e_E (20 + j))
  | 0 => sm_E 700 20
  | j + 1 => Se_up (Se_20 X j)
theorem rs_0 (L : Nat) (xs : Nat → Int32) : Rs (L, xs) c0 (e_s0 L xs) := by
  refine ⟨rfl, fun a => ?_, fun _ _ => rfl, fun _ _ => rfl, fun _ _ => rfl, rfl, rfl, fun _ _ _ => ⟨rfl, rfl⟩⟩
  show (0, 0) = cS c0 a
  unfold cS
  cases Nat.ble a c0.1 with
  | true => cases (c0.1 - a) <;> rfl
  | false => rfl
theorem sk0 (X : Nat × (Nat → Int32)) (v : Option Value) : Sk X (cK0 v) (eK0 v) := by
  intro pc ls st c σ h r hr
  unfold cK0 at hr
  unfold eK0
  cases hb : (Nat.beq pc 23 && cOk ls st) with
  | false => rw [hb] at hr; cases hr
  | true =>
    rw [hb] at hr
    cases hr
    exact ⟨σ, rfl, h⟩
theorem cOk_e {ls st : List Value} (h : cOk ls st = true) : ls = [.ref 1000000, .ref 1, .ref 489, .ref 538, .int 0, .null, .null] ∧ st = [] := by
  unfold cOk at h
  split at h
  · rename_i a b c d i
    simp only [Bool.and_eq_true, Nat.beq_eq, decide_eq_true_eq] at h
    obtain ⟨⟨⟨⟨h1, h2⟩, h3⟩, h4⟩, h5⟩ := h
    refine ⟨?_, rfl⟩
    have h1' : a = 1000000 := h1
    have h2' : b = 1 := h2
    have h3' : c = 489 := h3
    have h4' : d = 538 := h4
    rw [h1', h2', h3', h4', h5]
  · cases h
theorem of_run1 (y : e_Y) (h : chk1 y = true) : y = some (.inl none, getc y) ∧ (getc y).1 = 538 ∧ (getc y).2.2.2.2 = (538, 22320) := by
  cases y with
  | none => cases h
  | some q =>
    obtain ⟨o, c⟩ := q
    cases o with
    | inr e => cases h
    | inl o =>
      cases o with
      | some v => cases h
      | none =>
        have h' : (Nat.beq c.1 538 && Nat.beq c.2.2.2.2.1 538 && Nat.beq c.2.2.2.2.2 22320) = true := h
        rw [Bool.and_eq_true, Bool.and_eq_true, Nat.beq_eq, Nat.beq_eq, Nat.beq_eq] at h'
        exact ⟨rfl, h'.1.1, Prod.ext h'.1.2 h'.2⟩
theorem of_run2 (y : e_Y) (h : chk2 y = true) : ∃ i c, y = some (.inl (some (.int i)), c) := by
  cases y with
  | none => cases h
  | some q =>
    obtain ⟨o, c⟩ := q
    cases o with
    | inr e => cases h
    | inl o =>
      cases o with
      | none => cases h
      | some v => cases v <;> first | exact ⟨_, _, rfl⟩ | cases h
theorem start_ab {X : Nat × (Nat → Int32)} {d : Nat} {σ0 : e_S} {y1 y2 : e_Y} {c c2 : e_C} {i : Int32}
    (h1 : Sm X y1 (e_go (e_E d) 325 (eK0 none) 13 0 (e_ent [.ref 1000000] (e_mL 325)) [] σ0)) (h2 : Sm X y2 (e_go (e_E d) 325 (eK0 (some (.int 7))) 13 0 (e_ent [.ref 1000000] (e_mL 325)) [] σ0))
    (q1 : y1 = some (.inl none, c)) (q2 : y2 = some (.inl (some (.int i)), c2)) : ∃ σ, e_L d 325 0 (e_ent [.ref 1000000] (e_mL 325)) [] σ0 = e_L d 325 23 [.ref 1000000, .ref 1, .ref 489, .ref 538, .int 0, .null, .null] [] σ ∧ Rs X c σ := by
  obtain ⟨σf, e1, hR⟩ := h1 _ q1
  obtain ⟨σ2, e2, -⟩ := h2 _ q2
  rcases one_go (e_E d) 325 13 0 (e_ent [.ref 1000000] (e_mL 325)) [] σ0 with ⟨x, hx⟩ | ⟨pc', ls', st', σ', hx⟩
  · exfalso
    have q1 : x = some (.inl none, σf) := (hx (eK0 none)).symm.trans e1
    have q2 : x = some (.inl (some (.int i)), σ2) := (hx (eK0 (some (.int 7)))).symm.trans e2
    rw [q1] at q2
    cases q2
  · have hK : eK0 none pc' ls' st' σ' = some (.inl none, σf) := (hx (eK0 none)).symm.trans e1
    unfold eK0 at hK
    cases hb : (Nat.beq pc' 23 && cOk ls' st') with
    | false => rw [hb] at hK; cases hK
    | true =>
      rw [hb] at hK
      rw [Bool.and_eq_true, Nat.beq_eq] at hb
      obtain ⟨hl, hs⟩ := cOk_e hb.2
      refine ⟨σ', ?_, ?_⟩
      · refine e_L_n 13 ?_
        have := hx (e_L d 325)
        rw [hb.1, hl, hs] at this
        exact this
      · cases hK
        exact hR
theorem start_L (L : Nat) (xs : Nat → Int32) (j : Nat) : ∃ σ, e_L (20 + j) 325 0 (e_ent [.ref 1000000] (e_mL 325)) [] (e_s0 L xs) = e_L (20 + j) 325 23 [.ref 1000000, .ref 1, .ref 489, .ref 538, .int 0, .null, .null] [] σ ∧ Rs (L, xs) (getc (cgo none)) σ := by
  obtain ⟨i, c2, hq2⟩ := of_run2 _ run2
  exact start_ab (sm_go (Se_20 (L, xs) j) 325 (sk0 (L, xs) none) 13 0 _ [] c0 (e_s0 L xs) (rs_0 L xs)) (sm_go (Se_20 (L, xs) j) 325 (sk0 (L, xs) (some (.int 7))) 13 0 _ [] c0 (e_s0 L xs) (rs_0 L xs)) (of_run1 (cgo none) run1).1 hq2
theorem cfin_n : ∀ c, c = getc (cgo none) → c.1 = 538 ∧ c.2.2.2.2 = (538, 22320) := fun c h => by
  rw [h]; exact (of_run1 (cgo none) run1).2
end S99zb
