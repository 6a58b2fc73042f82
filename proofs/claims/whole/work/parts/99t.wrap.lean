/-! a call that can throw only the one thing -/
section S99t
theorem fr_inj {p p' : e_P} (h : fr p = fr p') : p = p' := by
  have h1 : fr p 1 4 = fr p' 1 4 := by rw [h]
  have h2 : fr p 44 1 = fr p' 44 1 := by rw [h]
  have h3 : fr p 470 1 = fr p' 470 1 := by rw [h]
  have h4 : fr p 45 0 = fr p' 45 0 := by rw [h]
  obtain ⟨a, b, c, d⟩ := p
  obtain ⟨a', b', c', d'⟩ := p'
  revert h1 h2 h3 h4
  clear h
  revert a b c d a' b' c' d'
  decide
theorem mk_inj {I I' : Nat → Nat → Int32} {z z' : e_Z} (h : mk I z = mk I' z') : I = I' ∧ z = z' := by
  obtain ⟨J, p, c, x⟩ := z
  obtain ⟨J', p', c', x'⟩ := z'
  unfold mk ms at h
  simp only [Prod.mk.injEq, true_and] at h
  obtain ⟨h1, h2, h3, h4, h5⟩ := h
  exact ⟨h1, by rw [h2, fr_inj h3, h4, h5]⟩
theorem zx_inj {z z' : e_Z} (h : zx z = zx z') : z = z' := by
  obtain ⟨J, p, ⟨c, s⟩, x⟩ := z
  obtain ⟨J', p', ⟨c', s'⟩, x'⟩ := z'
  unfold zx at h
  simp only [Prod.mk.injEq] at h
  obtain ⟨h1, h2, ⟨h3, h4⟩, h5⟩ := h
  rw [h1, h2, h5, show c = c' by omega, show s = s' by omega]
theorem OutC_inj {r r' : Int32 ⊕ Nat} {I I' : Nat → Nat → Int32} {z z' : e_Z} (h : OutC r I z = OutC r' I' z') : r = r' ∧ I = I' ∧ z = z' := by
  cases r with
  | inl v =>
    cases r' with
    | inl v' =>
      have h' : (some (.inl (some (.int v)), mk I z) : e_X) = some (.inl (some (.int v')), mk I' z') := h
      simp only [Option.some.injEq, Prod.mk.injEq, Sum.inl.injEq, Value.int.injEq] at h'
      obtain ⟨h1, h2⟩ := h'
      obtain ⟨h3, h4⟩ := mk_inj h2
      exact ⟨by rw [h1], h3, h4⟩
    | inr e' =>
      have h' : (some (.inl (some (.int v)), mk I z) : e_X) = some (.inr e', mk I' (zx z')) := h
      simp at h'
  | inr e =>
    cases r' with
    | inl v' =>
      have h' : (some (.inr e, mk I (zx z)) : e_X) = some (.inl (some (.int v')), mk I' z') := h
      simp at h'
    | inr e' =>
      have h' : (some (.inr e, mk I (zx z)) : e_X) = some (.inr e', mk I' (zx z')) := h
      simp only [Option.some.injEq, Prod.mk.injEq, Sum.inr.injEq] at h'
      obtain ⟨h1, h2⟩ := h'
      obtain ⟨h3, h4⟩ := mk_inj h2
      exact ⟨by rw [h1], h3, zx_inj h4⟩
theorem face_0 {d y y' : Nat} {I : Nat → Nat → Int32} {z : e_Z} {as : List Value} (h : ∀ c1, Face d c1 I z y y' as) : FaceX (fun e => e = 0) d (e_n 2) I z y y' as := by
  obtain ⟨r, I1, z1, hz, hc, hr⟩ := h (e_n 2)
  refine ⟨r, I1, z1, hz, hc, ?_, hr⟩
  intro e he
  subst he
  apply Decidable.byContradiction
  intro hne
  obtain ⟨r7, I7, z7, -, hc7, hr7⟩ := h (e_n 7)
  obtain ⟨q1, q2, q3⟩ := OutC_inj (hc.symm.trans hc7)
  subst q1
  subst q2
  subst q3
  obtain ⟨I2, B2, b2, g1, -, g2⟩ := hr z1 rfl
  obtain ⟨I3, B3, b3, k1, -, k2⟩ := hr7 z1 rfl
  rw [g1] at k1
  simp only [Option.some.injEq, Prod.mk.injEq] at k1
  obtain ⟨e1, -⟩ := mk_inj k1.2
  have g2' : I2 489 0 = if e = 0 then e_n 1 else e_n 2 := g2
  have k2' : I3 489 0 = if e = 0 then e_n 1 else e_n 7 := k2
  rw [if_neg hne] at g2' k2'
  rw [← e1, g2'] at k2'
  exact absurd k2' (by decide)
end S99t
