/-! what can be come to by steps: sets that grow round by round -/
section S75
def clo (n : Nat) (E : Nat → Nat → Prop) (s : Nat → Prop) : Nat → Nat → Prop
  | 0, i => s i
  | k + 1, i => clo n E s k i ∨ ∃ p, p < n ∧ clo n E s k p ∧ E p i
theorem cnt_mono {n : Nat} {f g : Nat → Bool} (h : ∀ i, i < n → f i = true → g i = true) : cnt n f ≤ cnt n g := by
  induction n with
  | zero => exact Nat.le_refl _
  | succ n ih =>
    have := ih (fun i hi => h i (by omega))
    rw [cnt_succ, cnt_succ]
    cases hf : f n
    · cases hg : g n
      · simpa using this
      · simp; omega
    · rw [h n (by omega) hf]; simp; exact this
theorem cnt_lt {n p : Nat} {f g : Nat → Bool} (h : ∀ i, i < n → f i = true → g i = true) (hp : p < n) (h0 : f p = false) (h1 : g p = true) : cnt n f + 1 ≤ cnt n g := by
  induction n with
  | zero => omega
  | succ n ih =>
    rw [cnt_succ, cnt_succ]
    by_cases hpn : p = n
    · subst hpn
      rw [h0, h1]
      have := cnt_mono (n := p) (f := f) (g := g) (fun i hi => h i (by omega))
      simp; exact this
    · have := ih (fun i hi => h i (by omega)) (by omega)
      cases hf : f n
      · cases hg : g n
        · simpa using this
        · simp; omega
      · rw [h n (by omega) hf]; simp; omega
theorem clo_up {n : Nat} {E : Nat → Nat → Prop} {s : Nat → Prop} {k : Nat} : ∀ m i, clo n E s k i → clo n E s (k + m) i
  | 0, _, h => h
  | m + 1, i, h => Or.inl (clo_up m i h)
theorem clo_le {n : Nat} {E : Nat → Nat → Prop} {s : Nat → Prop} {k m i : Nat} (hkm : k ≤ m) (h : clo n E s k i) : clo n E s m i := by
  have := clo_up (m - k) i h
  rwa [show k + (m - k) = m by omega] at this
theorem clo_fix {n : Nat} {E : Nat → Nat → Prop} {s : Nat → Prop} {k : Nat} (h : ∀ i, clo n E s (k + 1) i → clo n E s k i) : ∀ m i, clo n E s (k + m) i → clo n E s k i
  | 0, _, g => g
  | m + 1, i, g => by
    rcases g with g | ⟨p, hp, g, e⟩
    · exact clo_fix h m i g
    · exact h i (Or.inr ⟨p, hp, clo_fix h m p g, e⟩)
theorem clo_lt {n : Nat} {E : Nat → Nat → Prop} {s : Nat → Prop} (hs : ∀ i, s i → i < n) (hE : ∀ p i, E p i → i < n) : ∀ k i, clo n E s k i → i < n
  | 0, i, h => hs i h
  | k + 1, i, h => by
    rcases h with h | ⟨p, -, -, e⟩
    · exact clo_lt hs hE k i h
    · exact hE p i e
theorem clo_some {n : Nat} {E : Nat → Nat → Prop} {s : Nat → Prop} : ∀ k i, clo n E s k i → ∃ a, s a
  | 0, i, h => ⟨i, h⟩
  | k + 1, i, h => by
    rcases h with h | ⟨p, -, g, -⟩
    · exact clo_some k i h
    · exact clo_some k p g
/-- n - 1 rounds do -/
theorem clo_end {n : Nat} {E : Nat → Nat → Prop} {s : Nat → Prop} (hs : ∀ i, s i → i < n) (hE : ∀ p i, E p i → i < n) (k i : Nat) (h : clo n E s k i) : clo n E s (n - 1) i := by
  obtain ⟨a, ha⟩ := clo_some k i h
  have hn := hs a ha
  by_cases hall : ∃ k, k ≤ n - 1 ∧ ∀ i, clo n E s (k + 1) i → clo n E s k i
  · obtain ⟨k0, hk0, hf⟩ := hall
    by_cases hkk : k ≤ n - 1
    · exact clo_le hkk h
    · have := clo_fix hf (k - k0) i (by rw [show k0 + (k - k0) = k by omega]; exact h)
      exact clo_le hk0 this
  · have grow : ∀ k, k ≤ n → k + 1 ≤ cnt n (fun i => @decide (clo n E s k i) (Classical.propDecidable _)) := by
      intro k
      induction k with
      | zero =>
        intro _
        have := cnt_lt (n := n) (p := a) (f := fun _ => false) (g := fun i => @decide (clo n E s 0 i) (Classical.propDecidable _)) (fun _ _ q => by cases q) hn rfl (@decide_eq_true _ (Classical.propDecidable _) ha)
        omega
      | succ k ih =>
        intro hk
        have ih := ih (by omega)
        have hx : ∃ i, clo n E s (k + 1) i ∧ ¬ clo n E s k i := by
          apply Classical.byContradiction
          intro hno
          exact hall ⟨k, by omega, fun i hi => Classical.byContradiction (fun q => hno ⟨i, hi, q⟩)⟩
        obtain ⟨q, h1, h2⟩ := hx
        have := cnt_lt (n := n) (p := q) (f := fun i => @decide (clo n E s k i) (Classical.propDecidable _)) (g := fun i => @decide (clo n E s (k + 1) i) (Classical.propDecidable _)) (fun i _ hi => @decide_eq_true _ (Classical.propDecidable _) (Or.inl (@of_decide_eq_true _ (Classical.propDecidable _) hi))) (clo_lt hs hE _ _ h1) (@decide_eq_false _ (Classical.propDecidable _) h2) (@decide_eq_true _ (Classical.propDecidable _) h1)
        omega
    have h1 := grow n (Nat.le_refl _)
    have h2 := cnt_le n (fun i => @decide (clo n E s n i) (Classical.propDecidable _))
    omega
theorem clo_n {n : Nat} {E : Nat → Nat → Prop} {s : Nat → Prop} (hs : ∀ i, s i → i < n) (hE : ∀ p i, E p i → i < n) (k i : Nat) (h : clo n E s k i) {m : Nat} (hm : n - 1 ≤ m) : clo n E s m i := clo_le hm (clo_end hs hE k i h)
end S75
