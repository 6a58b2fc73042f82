/-! what ends at a depth ends so at every greater depth -/
section S99r
def e_Le (E E' : Nat → List Value → e_S → e_X) : Prop := ∀ y as σ r, E y as σ = some r → E' y as σ = some r
theorem le_res {o o' : e_X} (ho : ∀ r, o = some r → o' = some r) (rk : Nat) (K : List Value → e_S → e_X) (rest : List Value) (H : Nat → e_S → e_X) (r : e_O × e_S) (h : e_res rk o K rest H = some r) : e_res rk o' K rest H = some r := by
  cases o with
  | some v => rw [ho v rfl]; exact h
  | none =>
    exfalso
    unfold e_res at h
    split at h <;> cases h
theorem le_inv {E E' : Nat → List Value → e_S → e_X} (hE : e_Le E E') (y rc np rk : Nat) (st : List Value) (σ : e_S) (K : List Value → e_S → e_X) (H : Nat → e_S → e_X) (r : e_O × e_S) (h : e_inv E y rc np rk st σ K H = some r) : e_inv E' y rc np rk st σ K H = some r := by
  unfold e_inv at h ⊢
  split at h
  · cases h
  · split at h
    · exact le_res (fun v hv => hE _ _ _ _ hv) _ _ _ _ _ h
    · split at h
      · unfold e_ck at h ⊢
        split at h
        · rename_i hok
          rw [if_pos hok]
          exact le_res (fun v hv => hE _ _ _ _ hv) _ _ _ _ _ h
        · cases h
      · cases h
theorem le_call {E E' : Nat → List Value → e_S → e_X} (hE : e_Le E E') (m : Nat) (K : e_K) (pc len : Nat) (ls st : List Value) (σ : e_S) (idx : Nat) (H : Nat → e_S → e_X) (r : e_O × e_S) (h : e_call E m K pc len ls st σ idx H = some r) : e_call E' m K pc len ls st σ idx H = some r := by
  unfold e_call at h ⊢
  split at h
  · cases h
  · rename_i y rc np rk _
    cases h0 : Nat.beq y 9000 <;> cases h2 : Nat.beq y 9002 <;> cases h3 : Nat.beq y 9003 <;> cases h4 : Nat.beq y 9004 <;> cases h1 : Nat.beq y 9001 <;> simp only [h0, h1, h2, h3, h4, cond_true, cond_false] at h ⊢ <;> first | exact h | exact le_inv hE _ _ _ _ _ _ _ _ _ h
theorem le_mem {E E' : Nat → List Value → e_S → e_X} (hE : e_Le E E') (m : Nat) (K : e_K) (pc len tgt : Nat) (ls st : List Value) (σ : e_S) (i : Instr) (r : e_O × e_S) (h : e_mem E m K pc len tgt ls st σ i = some r) : e_mem E' m K pc len tgt ls st σ i = some r := by
  cases i <;> first | exact h | exact le_call hE _ _ _ _ _ _ _ _ _ _ h
theorem le_stp {E E' : Nat → List Value → e_S → e_X} (hE : e_Le E E') (m : Nat) (K : e_K) (pc : Nat) (ls st : List Value) (σ : e_S) (r : e_O × e_S) (h : e_stp E m K pc ls st σ = some r) : e_stp E' m K pc ls st σ = some r := by
  unfold e_stp at h ⊢
  split at h
  · cases h
  · split at h
    · exact h
    · split at h
      · exact h
      · split at h
        · exact h
        · exact le_mem hE _ _ _ _ _ _ _ _ _ _ h
theorem le_run {E E' : Nat → List Value → e_S → e_X} (hE : e_Le E E') (m : Nat) : ∀ (n pc : Nat) (ls st : List Value) (σ : e_S) (r : e_O × e_S), e_run E m n pc ls st σ = some r → e_run E' m n pc ls st σ = some r := by
  intro n
  induction n with
  | zero => intro pc ls st σ r h; cases h
  | succ n ih =>
    intro pc ls st σ r h
    have h1 : e_stp E m (e_run E m n) pc ls st σ = some r := h
    show e_stp E' m (e_run E' m n) pc ls st σ = some r
    refine le_stp hE m _ pc ls st σ r ?_
    rcases e_one_stp E m pc ls st σ with ⟨x, hx⟩ | ⟨pc', ls', st', σ', hx⟩
    · replace hx : ∀ K, e_stp E m K pc ls st σ = x := hx
      rw [hx] at h1 ⊢
      exact h1
    · replace hx : ∀ K : e_K, e_stp E m K pc ls st σ = K pc' ls' st' σ' := hx
      rw [hx] at h1 ⊢
      exact ih _ _ _ _ _ h1
theorem e_gd_of {y : Nat} {o : e_X} {r : e_O × e_S} (h : o = some r) (hx : ∀ x, r.1 = .inr x → e_own y = 11) : e_gd y o = some r := by
  subst h
  obtain ⟨a, σ⟩ := r
  cases a with
  | inl v => rfl
  | inr x =>
    show (bif Nat.beq (e_own y) 11 then (some (Sum.inr x, σ) : e_X) else none) = _
    rw [hx x rfl]; rfl
theorem e_L_le {d d' : Nat} (hE : e_Le (e_E d) (e_E d')) {m pc : Nat} {ls st : List Value} {σ : e_S} {r : e_O × e_S} (h : e_L d m pc ls st σ = some r) : e_L d' m pc ls st σ = some r := by
  obtain ⟨n, hn⟩ := e_L_iff.mp h
  exact e_L_iff.mpr ⟨n, le_run hE _ _ _ _ _ _ _ hn⟩
theorem e_Le_E : ∀ d, e_Le (e_E d) (e_E (d + 1))
  | 0 => fun _ _ _ _ h => by cases h
  | d + 1 => fun y as σ r h => by
    rw [e_E_L] at h ⊢
    obtain ⟨h1, h2⟩ := e_gd_some h
    exact e_gd_of (e_L_le (e_Le_E d) h1) h2
theorem e_E_up {d y : Nat} {as : List Value} {σ : e_S} {r : e_O × e_S} (h : e_E d y as σ = some r) : e_E (d + 1) y as σ = some r := e_Le_E d _ _ _ _ h
end S99r
