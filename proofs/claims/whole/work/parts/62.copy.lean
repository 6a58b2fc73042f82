section S62
def isMo (a : Nat) : Prop := kd a = 6 ∧ (∀ p : e_P, fr p a 5 = a + 1 ∧ fr p a 6 = a + 2 ∧ fr p a 7 = a + 3 ∧ fr p a 8 = a + 4) ∧ (kd (a + 1) = 20 ∧ kd (a + 2) = 20 ∧ kd (a + 3) = 20 ∧ kd (a + 4) = 20) ∧ (ln (a + 1) = 9 ∧ ln (a + 2) = 9 ∧ ln (a + 3) = 9 ∧ ln (a + 4) = 3)
theorem isMo_51 : isMo 51 := ⟨rfl, fun _ => ⟨rfl, rfl, rfl, rfl⟩, ⟨rfl, rfl, rfl, rfl⟩, ⟨rfl, rfl, rfl, rfl⟩⟩
theorem isMo_261 : isMo 261 := ⟨rfl, fun _ => ⟨rfl, rfl, rfl, rfl⟩, ⟨rfl, rfl, rfl, rfl⟩, ⟨rfl, rfl, rfl, rfl⟩⟩
theorem isMo_471 : isMo 471 := ⟨rfl, fun _ => ⟨rfl, rfl, rfl, rfl⟩, ⟨rfl, rfl, rfl, rfl⟩, ⟨rfl, rfl, rfl, rfl⟩⟩
theorem isMo_484 : isMo 484 := ⟨rfl, fun _ => ⟨rfl, rfl, rfl, rfl⟩, ⟨rfl, rfl, rfl, rfl⟩, ⟨rfl, rfl, rfl, rfl⟩⟩
theorem isMo_k (t : Nat) (ht : t = 60 ∨ t = 270) (j : Nat) (hj : j < 40) : isMo (t + 5 * j) := by
  have h1 : ∀ j : Fin 40, ∀ s rb fb tt : Bool, (fr (s, rb, fb, tt) (60 + 5 * j.val) 5 = 60 + 5 * j.val + 1 ∧ fr (s, rb, fb, tt) (60 + 5 * j.val) 6 = 60 + 5 * j.val + 2 ∧ fr (s, rb, fb, tt) (60 + 5 * j.val) 7 = 60 + 5 * j.val + 3 ∧ fr (s, rb, fb, tt) (60 + 5 * j.val) 8 = 60 + 5 * j.val + 4) := by decide +kernel
  have h2 : ∀ j : Fin 40, ∀ s rb fb tt : Bool, (fr (s, rb, fb, tt) (270 + 5 * j.val) 5 = 270 + 5 * j.val + 1 ∧ fr (s, rb, fb, tt) (270 + 5 * j.val) 6 = 270 + 5 * j.val + 2 ∧ fr (s, rb, fb, tt) (270 + 5 * j.val) 7 = 270 + 5 * j.val + 3 ∧ fr (s, rb, fb, tt) (270 + 5 * j.val) 8 = 270 + 5 * j.val + 4) := by decide +kernel
  have h3 : ∀ j : Fin 40, kd (60 + 5 * j.val) = 6 ∧ (kd (60 + 5 * j.val + 1) = 20 ∧ kd (60 + 5 * j.val + 2) = 20 ∧ kd (60 + 5 * j.val + 3) = 20 ∧ kd (60 + 5 * j.val + 4) = 20) ∧ (ln (60 + 5 * j.val + 1) = 9 ∧ ln (60 + 5 * j.val + 2) = 9 ∧ ln (60 + 5 * j.val + 3) = 9 ∧ ln (60 + 5 * j.val + 4) = 3) := by decide +kernel
  have h4 : ∀ j : Fin 40, kd (270 + 5 * j.val) = 6 ∧ (kd (270 + 5 * j.val + 1) = 20 ∧ kd (270 + 5 * j.val + 2) = 20 ∧ kd (270 + 5 * j.val + 3) = 20 ∧ kd (270 + 5 * j.val + 4) = 20) ∧ (ln (270 + 5 * j.val + 1) = 9 ∧ ln (270 + 5 * j.val + 2) = 9 ∧ ln (270 + 5 * j.val + 3) = 9 ∧ ln (270 + 5 * j.val + 4) = 3) := by decide +kernel
  rcases ht with rfl | rfl
  · exact ⟨(h3 ⟨j, hj⟩).1, fun p => h1 ⟨j, hj⟩ p.1 p.2.1 p.2.2.1 p.2.2.2, (h3 ⟨j, hj⟩).2.1, (h3 ⟨j, hj⟩).2.2⟩
  · exact ⟨(h4 ⟨j, hj⟩).1, fun p => h2 ⟨j, hj⟩ p.1 p.2.1 p.2.2.1 p.2.2.2, (h4 ⟨j, hj⟩).2.1, (h4 ⟨j, hj⟩).2.2⟩
/-- a moment's cells, copied -/
def Cpd (I I' : Nat → Nat → Int32) (a2 a : Nat) : Prop := (∀ j, j < 5 → I' a j = I a2 j) ∧ (∀ j, j < 9 → I' (a + 1) j = I (a2 + 1) j ∧ I' (a + 2) j = I (a2 + 2) j ∧ I' (a + 3) j = I (a2 + 3) j) ∧ (∀ j, j < 3 → I' (a + 4) j = I (a2 + 4) j) ∧ ∀ r, (r < a ∨ a + 4 < r) → I' r = I r
theorem c47h {d : Nat} {I : Nat → Nat → Int32} {z : e_Z} {a a2 : Nat} (h : isMo a) (h2 : isMo a2) (hs : a + 5 ≤ a2 ∨ a2 + 5 ≤ a) (ho : I a2 4 = 0 ∨ I a2 4 = 1) : ∃ I', e_E (d + 2) 47 [.ref a, .ref a2] (mk I z) = some (.inl none, mk I' z) ∧ Cpd I I' a2 a := by
  obtain ⟨k0, kf, ⟨k1, k2, k3, k4⟩, l1, l2, l3, l4⟩ := h
  obtain ⟨q0, qf, ⟨q1, q2, q3, q4⟩, n1, n2, n3, n4⟩ := h2
  have ek : ∀ J : Nat → Nat → Int32, e_k (mk J z) a = 6 := fun J => e_k_kd k0 (by decide)
  have ek2 : ∀ J : Nat → Nat → Int32, e_k (mk J z) a2 = 6 := fun J => e_k_kd q0 (by decide)
  have ne : a2 ≠ a := by omega
  suffices hx : ∃ I', e_L (d + 1) 47 0 [.ref a, .ref a2] [] (mk I z) = some (.inl none, mk I' z) ∧ Cpd I I' a2 a by
    obtain ⟨I', h1, h2⟩ := hx
    exact ⟨I', e_E_ret (d := d + 1) h1, h2⟩
  rw [B47_0]
  simp only [e_u_na ne, ek, ek2, if_true, true_and, ho, (kf z.2.1).1, (qf z.2.1).1, c171 q1 k1, e_rV_n, B47_51, (kf z.2.1).2.1, (qf z.2.1).2.1, c171 q2 k2, B47_62, (kf z.2.1).2.2.1, (qf z.2.1).2.2.1, c171 q3 k3, B47_73, (kf z.2.1).2.2.2, (qf z.2.1).2.2.2, c171 q4 k4, B47_84, l1, l2, l3, l4, n1, n2, n3, n4, Nat.min_self]
  refine ⟨_, rfl, ?_, ?_, ?_, ?_⟩
  · intro j hj
    rw [upR_ne (by omega), upR_ne (by omega), upR_ne (by omega), upR_ne (by omega)]
    match j, hj with
    | 0, _ => simp [e_u_at]
    | 1, _ => simp [e_u_at]
    | 2, _ => simp [e_u_at]
    | 3, _ => simp [e_u_at]
    | 4, _ => simp [e_u_at]
  · intro j hj
    refine ⟨?_, ?_, ?_⟩
    · rw [upR_ne (by omega), upR_ne (by omega), upR_ne (by omega), upR_same, if_pos hj]
      simp (disch := omega) only [e_u_na]
    · rw [upR_ne (by omega), upR_ne (by omega), upR_same, if_pos hj, upR_ne (by omega)]
      simp (disch := omega) only [e_u_na]
    · rw [upR_ne (by omega), upR_same, if_pos hj, upR_ne (by omega), upR_ne (by omega)]
      simp (disch := omega) only [e_u_na]
  · intro j hj
    rw [upR_same, if_pos hj, upR_ne (by omega), upR_ne (by omega), upR_ne (by omega)]
    simp (disch := omega) only [e_u_na]
  · intro r hr
    rw [upR_ne (by omega), upR_ne (by omega), upR_ne (by omega), upR_ne (by omega)]
    simp (disch := omega) only [e_u_na]
end S62
