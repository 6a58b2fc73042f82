section S63
theorem condcong {α : Type} {c : Bool} {x x' y y' : α} (h1 : c = true → x = x') (h2 : c = false → y = y') : (bif c then x else y) = (bif c then x' else y') := by
  cases c
  · exact h2 rfl
  · exact h1 rfl
theorem blt_t {a b : Nat} (h : Nat.blt a b = true) : a < b := by simpa [Nat.blt_eq] using h
theorem blt_f {a b : Nat} (h : Nat.blt a b = false) : b ≤ a := by
  apply Nat.le_of_not_lt
  intro hlt
  have : Nat.blt a b = true := by simpa [Nat.blt_eq] using hlt
  rw [h] at this; cases this
theorem e_uf_eq {p p' : e_P} {x k v : Nat} (hv : fr p' x k = v) (h1 : ∀ j, j ≠ k → fr p' x j = fr p x j) (h2 : ∀ a, a ≠ x → ∀ j, fr p' a j = fr p a j) : e_u (fr p) x k v = fr p' := by
  funext a j
  unfold e_u
  by_cases ha : a = x
  · subst ha
    rw [if_pos rfl]
    by_cases hj : j = k
    · subst hj; rw [if_pos rfl, hv]
    · rw [if_neg hj, h1 j hj]
  · rw [if_neg ha, h2 a ha]
def zF (z : e_Z) (s : Bool) : e_Z := (z.1, (z.2.1.1, z.2.1.2.1, s, z.2.1.2.2.2), z.2.2)
def zR (z : e_Z) (s : Bool) : e_Z := (z.1, (z.2.1.1, s, z.2.1.2.2.1, z.2.1.2.2.2), z.2.2)
def zT (z : e_Z) : e_Z := (z.1, (z.2.1.1, z.2.1.2.1, z.2.1.2.2.1, true), z.2.2)
theorem beq_ne {j k : Nat} (h : j ≠ k) : Nat.beq j k = false := by
  cases hb : Nat.beq j k with
  | false => rfl
  | true => exact absurd (Nat.eq_of_beq_eq_true hb) h
theorem fr_F (p : e_P) (s : Bool) : e_u (fr p) 470 1 (bd s) = fr (p.1, p.2.1, s, p.2.2.2) := by
  refine e_uf_eq rfl (fun j hj => ?_) (fun a ha j => ?_)
  · show (bif Nat.beq j 0 then _ else bif Nat.beq j 1 then _ else _) = (bif Nat.beq j 0 then _ else bif Nat.beq j 1 then _ else _)
    rw [beq_ne hj]; rfl
  · unfold fr
    repeat' (first | rfl | (apply condcong <;> (intro h; first | (replace h := blt_t h) | (replace h := blt_f h) | skip)))
    all_goals omega
theorem mk_zF {I : Nat → Nat → Int32} {z : e_Z} {s : Bool} : ms I z.1 (e_u (fr z.2.1) 470 1 (bd s)) z.2.2.1 z.2.2.2 = mk I (zF z s) := by
  rw [fr_F]; rfl
theorem fr_R (p : e_P) (s : Bool) : e_u (fr p) 44 1 (bd s) = fr (p.1, s, p.2.2.1, p.2.2.2) := by
  refine e_uf_eq rfl (fun j hj => ?_) (fun a ha j => ?_)
  · show (bif Nat.beq j 0 then _ else bif Nat.beq j 1 then _ else _) = (bif Nat.beq j 0 then _ else bif Nat.beq j 1 then _ else _)
    rw [beq_ne hj]; rfl
  · unfold fr
    repeat' (first | rfl | (apply condcong <;> (intro h; first | (replace h := blt_t h) | (replace h := blt_f h) | skip)))
    all_goals omega
theorem fr_T (p : e_P) : e_u (fr p) 45 0 2 = fr (p.1, p.2.1, p.2.2.1, true) := by
  refine e_uf_eq rfl (fun j hj => ?_) (fun a ha j => ?_)
  · show (bif Nat.beq j 0 then _ else _) = (bif Nat.beq j 0 then _ else _)
    rw [beq_ne hj]; rfl
  · unfold fr
    repeat' (first | rfl | (apply condcong <;> (intro h; first | (replace h := blt_t h) | (replace h := blt_f h) | skip)))
    all_goals omega
theorem mk_zR {I : Nat → Nat → Int32} {z : e_Z} {s : Bool} : ms I z.1 (e_u (fr z.2.1) 44 1 (bd s)) z.2.2.1 z.2.2.2 = mk I (zR z s) := by
  rw [fr_R]; rfl
theorem mk_zT {I : Nat → Nat → Int32} {z : e_Z} : ms I z.1 (e_u (fr z.2.1) 45 0 2) z.2.2.1 z.2.2.2 = mk I (zT z) := by
  rw [fr_T]; rfl
def begS (M : Nat → Int32) : e_T := fun c => if c = 0 then M else if c = 2 then (fun _ => e_n (-1)) else if c = 4 then (fun k => if k = 2 then e_n (-1) else e_n 0) else (fun _ => e_n 0)
/-- the forecast begins at the moment 51 -/
theorem c12h {d : Nat} {I : Nat → Nat → Int32} {z : e_Z} {s : Bool} {B : e_B} {M : Nat → Int32} (wb : WB B) (wm : WM B M) (hM : MoC I 51 B M) : ∃ I', e_E (d + 3) 12 [.ref 470, .ref (bd s), .ref 51] (mk I z) = some (.inl none, mk I' (zF z s)) ∧ FC I' B (begS M) 0 ∧ WS B (begS M) ∧ (∀ k, 2 ≤ k → k ≤ 5 → I' 470 k = e_n (-1)) ∧ I' 470 6 = e_n 0 ∧ (∀ r, (r < 470 ∨ 480 < r) → I' r = I r) := by
  have hb := B2_bd s
  have wb4 : bPe B ≤ 9 := wb.2.2.2.1
  have wb1 : bMa B ≤ 3 := wb.1
  obtain ⟨m0, m1, m2, m3, m4, m5, m6, m7⟩ := hM
  obtain ⟨I1, h1, h2, h3, h4, h5⟩ := c47h (d := d) (I := I) (z := zF z s) isMo_471 isMo_51 (by omega) (by
    rw [m4]
    rcases wm.2.2.2.1 with h | h
    · rw [h]; exact Or.inl rfl
    · rw [h]; exact Or.inr rfl)
  suffices hx : ∃ I', e_L (d + 2) 12 0 [.ref 470, .ref (bd s), .ref 51] [] (mk I z) = some (.inl none, mk I' (zF z s)) ∧ FC I' B (begS M) 0 ∧ WS B (begS M) ∧ (∀ k, 2 ≤ k → k ≤ 5 → I' 470 k = e_n (-1)) ∧ I' 470 6 = e_n 0 ∧ (∀ r, (r < 470 ∨ 480 < r) → I' r = I r) by
    obtain ⟨I', h1, h2⟩ := hx
    exact ⟨I', e_E_ret (d := d + 2) h1, h2⟩
  rw [C12_0 hb, mk_zF, C12_5 hb, h1, e_rV_n, C12_13 hb]
  have f1 : MoC I1 471 B M := by
    refine ⟨by rw [h2 0 (by decide)]; exact m0, by rw [h2 1 (by decide)]; exact m1, by rw [h2 2 (by decide)]; exact m2, by rw [h2 3 (by decide)]; exact m3, by rw [h2 4 (by decide)]; exact m4, ?_, ?_, ?_⟩
    · intro p hp
      have := h3 p (by omega)
      rw [this.1, this.2.1, this.2.2]; exact m5 p hp
    · intro p hp hp9
      rw [(h3 p hp9).2.1]; exact m6 p hp hp9
    · intro m hm
      rw [h4 m (by omega)]; exact m7 m hm
  refine ⟨_, rfl, ⟨?_, ?_, ?_, ?_, ?_, ?_, ?_, ?_⟩, ⟨wm, 0, rfl, ?_⟩, ?_, ?_, ?_⟩
  · refine MoC_fr (fun k hk => ?_) f1
    rw [upR_ne (by omega), upR_ne (by omega)]
    simp (disch := omega) only [e_u_na]
  · rw [upR_ne (by decide), upR_ne (by decide)]; simp (disch := decide) only [e_u_ne, e_u_same]; rfl
  · rw [upR_ne (by decide), upR_ne (by decide)]; simp (disch := decide) only [e_u_ne, e_u_same]; rfl
  · rw [upR_ne (by decide), upR_ne (by decide)]; simp (disch := decide) only [e_u_ne, e_u_same]; rfl
  · intro j hj
    exact absurd hj (by show ¬ j < (e_n 0).toNatClampNeg; rw [show (e_n 0).toNatClampNeg = 0 from by decide]; omega)
  · intro p hp
    rw [upR_ne (by decide), upR_same, if_pos (Nat.lt_of_lt_of_le hp (Nat.le_trans wb4 (by decide)))]; rfl
  · intro p hp
    rw [upR_same, if_pos (Nat.lt_of_lt_of_le hp (Nat.le_trans wb1 (by decide)))]; rfl
  · intro k hk; omega
  · have := cnt_le (bPe B) (fun p => decide (begS M 0 (4 + p) = e_n (-1)))
    omega
  · intro k k2 k5
    rw [upR_ne (by decide), upR_ne (by decide)]
    match k, k2, k5 with
    | 2, _, _ => simp (disch := decide) only [e_u_ne, e_u_same]
    | 3, _, _ => simp (disch := decide) only [e_u_ne, e_u_same]
    | 4, _, _ => simp (disch := decide) only [e_u_ne, e_u_same]
    | 5, _, _ => simp (disch := decide) only [e_u_ne, e_u_same]
  · rw [upR_ne (by decide), upR_ne (by decide)]; simp (disch := decide) only [e_u_ne, e_u_same]
  · intro r hr
    rw [upR_ne (by omega), upR_ne (by omega)]
    simp (disch := omega) only [e_u_na]
    exact h5 r (by omega)
end S63
